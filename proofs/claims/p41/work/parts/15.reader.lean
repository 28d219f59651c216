theorem dX5_refuse_0 : decode cX5_refuse 0 = .ok (.aload_n 0, 1) := by decide +kernel
theorem dX5_refuse_1 : decode cX5_refuse 1 = .ok (.aload_n 0, 1) := by decide +kernel
theorem dX5_refuse_2 : decode cX5_refuse 2 = .ok (.getfield 9, 3) := by decide +kernel
theorem dX5_refuse_5 : decode cX5_refuse 5 = .ok (.getfield 36, 3) := by decide +kernel
theorem dX5_refuse_8 : decode cX5_refuse 8 = .ok (.sipush 203, 3) := by decide +kernel
theorem dX5_refuse_11 : decode cX5_refuse 11 = .ok (.if_icmp .ne 7, 3) := by decide +kernel
theorem dX5_refuse_14 : decode cX5_refuse 14 = .ok (.iconst 1, 1) := by decide +kernel
theorem dX5_refuse_15 : decode cX5_refuse 15 = .ok (.goto 4, 3) := by decide +kernel
theorem dX5_refuse_18 : decode cX5_refuse 18 = .ok (.iload_n 1, 1) := by decide +kernel
theorem dX5_refuse_19 : decode cX5_refuse 19 = .ok (.putfield 28, 3) := by decide +kernel
theorem dX5_refuse_22 : decode cX5_refuse 22 = .ok (.aload_n 0, 1) := by decide +kernel
theorem dX5_refuse_23 : decode cX5_refuse 23 = .ok (.aload_n 0, 1) := by decide +kernel
theorem dX5_refuse_24 : decode cX5_refuse 24 = .ok (.getfield 9, 3) := by decide +kernel
theorem dX5_refuse_27 : decode cX5_refuse 27 = .ok (.getfield 77, 3) := by decide +kernel
theorem dX5_refuse_30 : decode cX5_refuse 30 = .ok (.putfield 19, 3) := by decide +kernel
theorem dX5_refuse_33 : decode cX5_refuse 33 = .ok (.iconst 0, 1) := by decide +kernel
theorem dX5_refuse_34 : decode cX5_refuse 34 = .ok (.ireturn, 1) := by decide +kernel
theorem wd_694 : (Cond.code ⟨"WebCourt$Reader", "refuse", "(I)Z"⟩ prog_7_method_4_code (2 : Nat) (Option.some FieldType.boolean)) ∈ gtb := gtb_c3 105 (by decide +kernel) rfl
theorem wd_332 : (Cond.fieldLink "WebCourt$Reader" (9 : Nat) "WebCourt$Reader" "tape" "LWebCourt$Tape;") ∈ gtb := gtb_c1 223 (by decide +kernel) rfl
theorem wd_338 : (Cond.laysFinal "WebCourt$Reader" "WebCourt$Reader" "tape" "LWebCourt$Tape;") ∈ gtb := gtb_c1 229 (by decide +kernel) rfl
theorem wd_340 : (Cond.lays "WebCourt$Reader" "WebCourt$Reader" "web" "LWebCourt$Web;") ∈ gtb := gtb_c1 231 (by decide +kernel) rfl
theorem wd_342 : (Cond.lays "WebCourt$Reader" "WebCourt$Reader" "fault" "I") ∈ gtb := gtb_c1 233 (by decide +kernel) rfl
theorem wd_344 : (Cond.lays "WebCourt$Reader" "WebCourt$Reader" "place" "I") ∈ gtb := gtb_c1 235 (by decide +kernel) rfl
theorem inFX5 : ∀ w ∈ u_ws RX5 TX5 4, w ∈ gtb := by
  show ∀ w ∈ [u_lay RX5 TX5 0, u_lay RX5 TX5 1, u_lay RX5 TX5 2, u_lay RX5 TX5 3], w ∈ gtb
  exact List.forall_mem_cons.mpr ⟨wd_338, List.forall_mem_cons.mpr ⟨wd_340, List.forall_mem_cons.mpr ⟨wd_342, List.forall_mem_cons.mpr ⟨wd_344, fun _ h => absurd h List.not_mem_nil⟩⟩⟩⟩
theorem gf_RX5_9 {p : Program} {l : Launch} {e : Env} {R : Room} {s : State} {m : MethodId} {args : Array Value} {below : List Frame} {meth : Method} {c : Code} {H : Heap} {locs : List Loc} {cells slots : Nat} {Q : State → Prop} {cc : ByteArray} {pc nL : Nat} {ls : Array Slot} {rest : List Value} {D : va_G} {cy : Nat → ClassId} {A : Nat → Prop} {ws : va_W} {b : Nat} {fs : List Value} {v : Value} (C : Cx p s m args c cc nL RX5 D cy A) (hO : Wo D A ws s.heap H locs) (q0 : Nat) (he : ws[q0]? = some (b, .inr (5, fs))) (hv : fs[0]? = some v) (hdg : decode cc pc = .ok (.getfield 9, 3)) (kk : W p l e R s m args below meth c H locs cells slots Q (F0 m (pc + 3) ls (v :: rest))) : W p l e R s m args below meth c H locs cells slots Q (F0 m pc ls (.ref b :: rest)) := gF (k := 0) C hO q0 he rfl inFX5 (by decide) wd_332 rfl hv hdg kk
theorem wd_149 : (Cond.fieldLink "WebCourt$Reader" (36 : Nat) "WebCourt$Tape" "kind" "I") ∈ gtb := gtb_c1 40 (by decide +kernel) rfl
theorem gf_RX5_36 {p : Program} {l : Launch} {e : Env} {R : Room} {s : State} {m : MethodId} {args : Array Value} {below : List Frame} {meth : Method} {c : Code} {H : Heap} {locs : List Loc} {cells slots : Nat} {Q : State → Prop} {cc : ByteArray} {pc nL : Nat} {ls : Array Slot} {rest : List Value} {D : va_G} {cy : Nat → ClassId} {A : Nat → Prop} {ws : va_W} {b : Nat} {fs : List Value} {v : Value} (C : Cx p s m args c cc nL RX5 D cy A) (hO : Wo D A ws s.heap H locs) (q0 : Nat) (he : ws[q0]? = some (b, .inr (7, fs))) (hv : fs[4]? = some v) (hdg : decode cc pc = .ok (.getfield 36, 3)) (kk : W p l e R s m args below meth c H locs cells slots Q (F0 m (pc + 3) ls (v :: rest))) : W p l e R s m args below meth c H locs cells slots Q (F0 m pc ls (.ref b :: rest)) := gF (k := 4) C hO q0 he rfl inFX7 (by decide) wd_149 rfl hv hdg kk
theorem wd_334 : (Cond.fieldLink "WebCourt$Reader" (28 : Nat) "WebCourt$Reader" "fault" "I") ∈ gtb := gtb_c1 225 (by decide +kernel) rfl
theorem pf_RX5_28 {p : Program} {l : Launch} {e : Env} {R : Room} {s : State} {m : MethodId} {args : Array Value} {below : List Frame} {meth : Method} {c : Code} {H : Heap} {locs : List Loc} {cells slots : Nat} {Q : State → Prop} {cc : ByteArray} {pc nL : Nat} {ls : Array Slot} {rest : List Value} {D : va_G} {cy : Nat → ClassId} {A : Nat → Prop} {ws : va_W} {b : Nat} {fs : List Value} {v : Int32} {ws' : va_W} (C : Cx p s m args c cc nL RX5 D cy A) (hO : Wo D A ws s.heap H locs) (q0 : Nat) (he : ws[q0]? = some (b, .inr (5, fs))) (hlen : 2 < fs.length) (hw : ws.set q0 (b, .inr (5, fs.set 2 (.int v))) = ws') (hdg : decode cc pc = .ok (.putfield 28, 3)) (kk : ∀ (H : Heap) (locs : List Loc), Wo D A ws' s.heap H locs → W p l e R s m args below meth c H locs cells slots Q (F0 m (pc + 3) ls rest)) : W p l e R s m args below meth c H locs cells slots Q (F0 m pc ls (.int v :: .ref b :: rest)) := pF (k := 2) (ty := .int) C hO q0 he rfl inFX5 (by decide) wd_334 rfl tyX5 tyX5_ok nmX5 rfl (by decide +kernel) rfl rfl hlen hw hdg kk
theorem wd_147 : (Cond.fieldLink "WebCourt$Reader" (77 : Nat) "WebCourt$Tape" "start" "I") ∈ gtb := gtb_c1 38 (by decide +kernel) rfl
theorem gf_RX5_77 {p : Program} {l : Launch} {e : Env} {R : Room} {s : State} {m : MethodId} {args : Array Value} {below : List Frame} {meth : Method} {c : Code} {H : Heap} {locs : List Loc} {cells slots : Nat} {Q : State → Prop} {cc : ByteArray} {pc nL : Nat} {ls : Array Slot} {rest : List Value} {D : va_G} {cy : Nat → ClassId} {A : Nat → Prop} {ws : va_W} {b : Nat} {fs : List Value} {v : Value} (C : Cx p s m args c cc nL RX5 D cy A) (hO : Wo D A ws s.heap H locs) (q0 : Nat) (he : ws[q0]? = some (b, .inr (7, fs))) (hv : fs[3]? = some v) (hdg : decode cc pc = .ok (.getfield 77, 3)) (kk : W p l e R s m args below meth c H locs cells slots Q (F0 m (pc + 3) ls (v :: rest))) : W p l e R s m args below meth c H locs cells slots Q (F0 m pc ls (.ref b :: rest)) := gF (k := 3) C hO q0 he rfl inFX7 (by decide) wd_147 rfl hv hdg kk
theorem wd_336 : (Cond.fieldLink "WebCourt$Reader" (19 : Nat) "WebCourt$Reader" "place" "I") ∈ gtb := gtb_c1 227 (by decide +kernel) rfl
theorem pf_RX5_19 {p : Program} {l : Launch} {e : Env} {R : Room} {s : State} {m : MethodId} {args : Array Value} {below : List Frame} {meth : Method} {c : Code} {H : Heap} {locs : List Loc} {cells slots : Nat} {Q : State → Prop} {cc : ByteArray} {pc nL : Nat} {ls : Array Slot} {rest : List Value} {D : va_G} {cy : Nat → ClassId} {A : Nat → Prop} {ws : va_W} {b : Nat} {fs : List Value} {v : Int32} {ws' : va_W} (C : Cx p s m args c cc nL RX5 D cy A) (hO : Wo D A ws s.heap H locs) (q0 : Nat) (he : ws[q0]? = some (b, .inr (5, fs))) (hlen : 3 < fs.length) (hw : ws.set q0 (b, .inr (5, fs.set 3 (.int v))) = ws') (hdg : decode cc pc = .ok (.putfield 19, 3)) (kk : ∀ (H : Heap) (locs : List Loc), Wo D A ws' s.heap H locs → W p l e R s m args below meth c H locs cells slots Q (F0 m (pc + 3) ls rest)) : W p l e R s m args below meth c H locs cells slots Q (F0 m pc ls (.int v :: .ref b :: rest)) := pF (k := 3) (ty := .int) C hO q0 he rfl inFX5 (by decide) wd_336 rfl tyX5 tyX5_ok nmX5 rfl (by decide +kernel) rfl rfl hlen hw hdg kk
set_option maxHeartbeats 4000000 in
set_option maxRecDepth 100000 in
theorem T_X5_refuse (l : Launch) (D : va_G) (cy : Nat → ClassId) (a : Nat → Nat) (u : St) (hJ : CI a u) (hW : fR u 2 = a 15) (x1 : Int32)  : Mi l D cy (cW cy a) yX5_refuse (.code yX5_refuse cX5_refuse 2 (some .boolean)) (rmo 0 0) [.ref (a 27), .int x1] u (fun (r : Int32) (u' : St) => (r = 0) ∧ (CI a u') ∧ (KR u u') ∧ (fR u' 2 = a 15)) := by
  refine Mi.of (own := RX5) rfl (by decide) (Nat.le_of_ble_eq_true rfl) ?_
  have hT : KR u u := KR.rf
  intro p e s m below meth c A Q ls C hret hO hl
  obtain ⟨hx, hb, hml, hown, ht, hK, hA⟩ := id C
  have hl : lv_has ls 2 [(0, .ref (a 27)), (1, .int x1)] := hl
  refine lv_aload_n hx hb dX5_refuse_0 rfl (lv_at hl 0 rfl) ?_
  refine lv_aload_n hx hb dX5_refuse_1 rfl (lv_at hl 0 rfl) ?_
  refine gf_RX5_9 (v := .ref (a 1)) C hO 27 cW_27 rfl dX5_refuse_2 ?_
  refine gf_RX5_36 (v := .int (fI u 1 4)) C hO 1 cW_1 rfl dX5_refuse_5 ?_
  refine lv_sipush (v := 203) hx hb dX5_refuse_8 (by decide) ?_
  refine cs_ne (tgt := 18) (X := ((fI u 1 4)).toInt) (Y := 203) hx hb dX5_refuse_11 (by decide) rfl rfl (fun c1 => ?_) (fun c1 => ?_)
  · refine lv_iload_n hx hb dX5_refuse_18 rfl (lv_at hl 1 rfl) ?_
    refine pf_RX5_28 C hO 27 cW_27 (Nat.le_of_ble_eq_true rfl) cW_s27_2 dX5_refuse_19 (fun H locs hO => ?_)
    have hJ := CIs_27_2 (v := x1) hJ
    refine lv_aload_n hx hb dX5_refuse_22 rfl (lv_at hl 0 rfl) ?_
    refine lv_aload_n hx hb dX5_refuse_23 rfl (lv_at hl 0 rfl) ?_
    refine gf_RX5_9 (v := .ref (a 1)) C hO 27 cW_27 rfl dX5_refuse_24 ?_
    refine gf_RX5_77 (v := .int (fI u 1 3)) C hO 1 cW_1 rfl dX5_refuse_27 ?_
    refine pf_RX5_19 C hO 27 cW_27 (Nat.le_of_ble_eq_true rfl) cW_s27_3 dX5_refuse_30 (fun H locs hO => ?_)
    have hJ := CIs_27_3 (v := (fI u 1 3)) hJ
    refine lv_iconst (v := 0) hx hb dX5_refuse_33 (by decide) ?_
    refine hret _ _ _ _ _ _ dX5_refuse_34 rfl ?_ hO
    exact ⟨rfl, hJ, hT, hW⟩
  · refine lv_iconst (v := 1) hx hb dX5_refuse_14 (by decide) ?_
    refine lv_goto (tgt := 19) hx hb dX5_refuse_15 (by decide) ?_
    refine pf_RX5_28 C hO 27 cW_27 (Nat.le_of_ble_eq_true rfl) cW_s27_2 dX5_refuse_19 (fun H locs hO => ?_)
    have hJ := CIs_27_2 (v := 1) hJ
    refine lv_aload_n hx hb dX5_refuse_22 rfl (lv_at hl 0 rfl) ?_
    refine lv_aload_n hx hb dX5_refuse_23 rfl (lv_at hl 0 rfl) ?_
    refine gf_RX5_9 (v := .ref (a 1)) C hO 27 cW_27 rfl dX5_refuse_24 ?_
    refine gf_RX5_77 (v := .int (fI u 1 3)) C hO 1 cW_1 rfl dX5_refuse_27 ?_
    refine pf_RX5_19 C hO 27 cW_27 (Nat.le_of_ble_eq_true rfl) cW_s27_3 dX5_refuse_30 (fun H locs hO => ?_)
    have hJ := CIs_27_3 (v := (fI u 1 3)) hJ
    refine lv_iconst (v := 0) hx hb dX5_refuse_33 (by decide) ?_
    refine hret _ _ _ _ _ _ dX5_refuse_34 rfl ?_ hO
    exact ⟨rfl, hJ, hT, hW⟩
theorem dX5_skip_0 : decode cX5_skip 0 = .ok (.aload_n 0, 1) := by decide +kernel
theorem dX5_skip_1 : decode cX5_skip 1 = .ok (.getfield 9, 3) := by decide +kernel
theorem dX5_skip_4 : decode cX5_skip 4 = .ok (.getfield 36, 3) := by decide +kernel
theorem dX5_skip_7 : decode cX5_skip 7 = .ok (.iload_n 1, 1) := by decide +kernel
theorem dX5_skip_8 : decode cX5_skip 8 = .ok (.if_icmp .eq 9, 3) := by decide +kernel
theorem dX5_skip_11 : decode cX5_skip 11 = .ok (.aload_n 0, 1) := by decide +kernel
theorem dX5_skip_12 : decode cX5_skip 12 = .ok (.iconst 2, 1) := by decide +kernel
theorem dX5_skip_13 : decode cX5_skip 13 = .ok (.invokevirtual 74, 3) := by decide +kernel
theorem dX5_skip_16 : decode cX5_skip 16 = .ok (.ireturn, 1) := by decide +kernel
theorem dX5_skip_17 : decode cX5_skip 17 = .ok (.aload_n 0, 1) := by decide +kernel
theorem dX5_skip_18 : decode cX5_skip 18 = .ok (.getfield 9, 3) := by decide +kernel
theorem dX5_skip_21 : decode cX5_skip 21 = .ok (.invokevirtual 80, 3) := by decide +kernel
theorem dX5_skip_24 : decode cX5_skip 24 = .ok (.iconst 1, 1) := by decide +kernel
theorem dX5_skip_25 : decode cX5_skip 25 = .ok (.ireturn, 1) := by decide +kernel
theorem wd_722 : (Cond.code ⟨"WebCourt$Reader", "skip", "(I)Z"⟩ prog_7_method_5_code (2 : Nat) (Option.some FieldType.boolean)) ∈ gtb := gtb_c3 133 (by decide +kernel) rfl
theorem wd_695 : (Cond.methodLink "WebCourt$Reader" (80 : Nat) ⟨"WebCourt$Tape", "advance", "()V"⟩) ∈ gtb := gtb_c3 106 (by decide +kernel) rfl
theorem wd_691 : (Cond.methodLink "WebCourt$Reader" (74 : Nat) ⟨"WebCourt$Reader", "refuse", "(I)Z"⟩) ∈ gtb := gtb_c3 102 (by decide +kernel) rfl
theorem wd_693 : (Cond.instanceMethod ⟨"WebCourt$Reader", "refuse", "(I)Z"⟩) ∈ gtb := gtb_c3 104 (by decide +kernel) rfl
theorem wd_6 : (Cond.selects "WebCourt$Reader" ⟨"WebCourt$Reader", "refuse", "(I)Z"⟩ ⟨"WebCourt$Reader", "refuse", "(I)Z"⟩) ∈ gtb := gtb_p 6 (by decide +kernel) rfl
theorem wd_114 : (Cond.initialized "WebCourt$Reader") ∈ gtb := gtb_c1 5 (by decide +kernel) rfl
theorem hd_yX5_refuse : yX5_refuse.cls = RX5 ∧ yX5_refuse.cls ≠ "java/lang/invoke/MethodHandle" ∧ yX5_refuse.cls ≠ "java/lang/invoke/VarHandle" ∧ (parseMethodDescriptor yX5_refuse.desc).map (fun d => d.parameters.length) = some 1 := by decide +kernel
set_option maxHeartbeats 4000000 in
set_option maxRecDepth 100000 in
theorem T_X5_skip (l : Launch) (D : va_G) (cy : Nat → ClassId) (a : Nat → Nat) (u : St) (hJ : CI a u) (hW : fR u 2 = a 15) (x1 : Int32)  : Mi l D cy (cW cy a) yX5_skip (.code yX5_skip cX5_skip 2 (some .boolean)) (rmo 6 131) [.ref (a 27), .int x1] u (fun (r : Int32) (u' : St) => (r = 0 ∨ r = 1) ∧ (CI a u') ∧ (KR u u') ∧ (fR u' 2 = a 15)) := by
  refine Mi.of (own := RX5) rfl (by decide) (Nat.le_of_ble_eq_true rfl) ?_
  have hT : KR u u := KR.rf
  intro p e s m below meth c A Q ls C hret hO hl
  obtain ⟨hx, hb, hml, hown, ht, hK, hA⟩ := id C
  have hl : lv_has ls 2 [(0, .ref (a 27)), (1, .int x1)] := hl
  refine lv_aload_n hx hb dX5_skip_0 rfl (lv_at hl 0 rfl) ?_
  refine gf_RX5_9 (v := .ref (a 1)) C hO 27 cW_27 rfl dX5_skip_1 ?_
  refine gf_RX5_36 (v := .int (fI u 1 4)) C hO 1 cW_1 rfl dX5_skip_4 ?_
  refine lv_iload_n hx hb dX5_skip_7 rfl (lv_at hl 1 rfl) ?_
  refine cs_eq (tgt := 17) (X := ((fI u 1 4)).toInt) (Y := (x1).toInt) hx hb dX5_skip_8 (by decide) rfl rfl (fun c1 => ?_) (fun c1 => ?_)
  · refine lv_aload_n hx hb dX5_skip_17 rfl (lv_at hl 0 rfl) ?_
    refine gf_RX5_9 (v := .ref (a 1)) C hO 27 cW_27 rfl dX5_skip_18 ?_
    refine cVv (w := cW cy a) (As := []) (rest := []) C hO (T_X7_advance l D cy a _ (by exact hJ) (by exact hW)) (cwV 0 ht (gV wd_695 wd_541 wd_542 wd_111 wd_543) rfl rfl rfl hd_yX7_advance ⟨Nat.le_of_ble_eq_true rfl, Nat.le_of_ble_eq_true rfl⟩) 1 rfl cW_1 rfl rfl hl.1 (Nat.le_of_ble_eq_true rfl) dX5_skip_21 rfl ⟨Nat.zero_le _, Nat.zero_le _⟩ (fun u3 H locs hp4 hO => ?_)
    have g5 : 0 ≤ (fI u 15 9).toInt ∧ (fI u 15 9).toInt ≤ 8 := by have h := CI_15_9 hJ; exact h
    have g6 : 0 ≤ (fI u 15 10).toInt ∧ (fI u 15 10).toInt ≤ 14 := by have h := CI_15_10 hJ; exact h
    have g7 : 0 ≤ (fI u 15 11).toInt ∧ (fI u 15 11).toInt ≤ 8 := by have h := CI_15_11 hJ; exact h
    have g8 : 0 ≤ (fI u 15 12).toInt ∧ (fI u 15 12).toInt ≤ 6 := by have h := CI_15_12 hJ; exact h
    obtain ⟨hJ, hTu3, hW⟩ := hp4
    have hT : KR u u3 := KR.tr (by exact hT) hTu3
    have hI_15_9_u3 : fI u3 15 9 = (fI u 15 9) := hTu3.2.1
    have hI_15_10_u3 : fI u3 15 10 = (fI u 15 10) := hTu3.2.2.1
    have hI_15_11_u3 : fI u3 15 11 = (fI u 15 11) := hTu3.2.2.2.1
    have hI_15_12_u3 : fI u3 15 12 = (fI u 15 12) := hTu3.2.2.2.2
    refine lv_iconst (v := 1) hx hb dX5_skip_24 (by decide) ?_
    refine hret _ _ _ _ _ _ dX5_skip_25 rfl ?_ hO
    exact ⟨Or.inr rfl, hJ, hT, hW⟩
  · refine lv_aload_n hx hb dX5_skip_11 rfl (lv_at hl 0 rfl) ?_
    refine lv_iconst (v := 2) hx hb dX5_skip_12 (by decide) ?_
    refine cVi (w := cW cy a) (As := [.int 2]) (rest := []) C hO (T_X5_refuse l D cy a _ (by exact hJ) (by exact hW) (2)) (cwV 1 ht (gV wd_691 wd_693 wd_6 wd_114 wd_694) rfl rfl rfl hd_yX5_refuse ⟨Nat.le_of_ble_eq_true rfl, Nat.le_of_ble_eq_true rfl⟩) 27 rfl cW_27 rfl rfl hl.1 (Nat.le_of_ble_eq_true rfl) dX5_skip_13 rfl ⟨Nat.zero_le _, Nat.zero_le _⟩ (fun r9 u10 H locs hp11 hO => ?_)
    have g12 : 0 ≤ (fI u 15 9).toInt ∧ (fI u 15 9).toInt ≤ 8 := by have h := CI_15_9 hJ; exact h
    have g13 : 0 ≤ (fI u 15 10).toInt ∧ (fI u 15 10).toInt ≤ 14 := by have h := CI_15_10 hJ; exact h
    have g14 : 0 ≤ (fI u 15 11).toInt ∧ (fI u 15 11).toInt ≤ 8 := by have h := CI_15_11 hJ; exact h
    have g15 : 0 ≤ (fI u 15 12).toInt ∧ (fI u 15 12).toInt ≤ 6 := by have h := CI_15_12 hJ; exact h
    obtain ⟨hr9, hJ, hTu10, hW⟩ := hp11
    subst hr9
    have hT : KR u u10 := KR.tr (by exact hT) hTu10
    have hI_15_9_u10 : fI u10 15 9 = (fI u 15 9) := hTu10.2.1
    have hI_15_10_u10 : fI u10 15 10 = (fI u 15 10) := hTu10.2.2.1
    have hI_15_11_u10 : fI u10 15 11 = (fI u 15 11) := hTu10.2.2.2.1
    have hI_15_12_u10 : fI u10 15 12 = (fI u 15 12) := hTu10.2.2.2.2
    refine hret _ _ _ _ _ _ dX5_skip_16 rfl ?_ hO
    exact ⟨Or.inl rfl, hJ, hT, hW⟩
theorem dX5_openSort_0 : decode cX5_openSort 0 = .ok (.iload_n 1, 1) := by decide +kernel
theorem dX5_openSort_1 : decode cX5_openSort 1 = .ok (.iload_n 2, 1) := by decide +kernel
theorem dX5_openSort_2 : decode cX5_openSort 2 = .ok (.if_icmp .lt 9, 3) := by decide +kernel
theorem dX5_openSort_5 : decode cX5_openSort 5 = .ok (.aload_n 0, 1) := by decide +kernel
theorem dX5_openSort_6 : decode cX5_openSort 6 = .ok (.iconst 2, 1) := by decide +kernel
theorem dX5_openSort_7 : decode cX5_openSort 7 = .ok (.invokevirtual 74, 3) := by decide +kernel
theorem dX5_openSort_10 : decode cX5_openSort 10 = .ok (.ireturn, 1) := by decide +kernel
theorem dX5_openSort_11 : decode cX5_openSort 11 = .ok (.aload_n 0, 1) := by decide +kernel
theorem dX5_openSort_12 : decode cX5_openSort 12 = .ok (.getfield 9, 3) := by decide +kernel
theorem dX5_openSort_15 : decode cX5_openSort 15 = .ok (.invokevirtual 80, 3) := by decide +kernel
theorem dX5_openSort_18 : decode cX5_openSort 18 = .ok (.iconst 1, 1) := by decide +kernel
theorem dX5_openSort_19 : decode cX5_openSort 19 = .ok (.ireturn, 1) := by decide +kernel
theorem wd_690 : (Cond.code ⟨"WebCourt$Reader", "openSort", "(II)Z"⟩ prog_7_method_6_code (3 : Nat) (Option.some FieldType.boolean)) ∈ gtb := gtb_c3 101 (by decide +kernel) rfl
set_option maxHeartbeats 4000000 in
set_option maxRecDepth 100000 in
theorem T_X5_openSort (l : Launch) (D : va_G) (cy : Nat → ClassId) (a : Nat → Nat) (u : St) (hJ : CI a u) (hW : fR u 2 = a 15) (x1 : Int32) (x2 : Int32)  : Mi l D cy (cW cy a) yX5_openSort (.code yX5_openSort cX5_openSort 3 (some .boolean)) (rmo 6 131) [.ref (a 27), .int x1, .int x2] u (fun (r : Int32) (u' : St) => (((x1.toInt < x2.toInt) ∧ r = 1) ∨ (True ∧ r = 0)) ∧ (CI a u') ∧ (KR u u') ∧ (fR u' 2 = a 15)) := by
  refine Mi.of (own := RX5) rfl (by decide) (Nat.le_of_ble_eq_true rfl) ?_
  have hT : KR u u := KR.rf
  intro p e s m below meth c A Q ls C hret hO hl
  obtain ⟨hx, hb, hml, hown, ht, hK, hA⟩ := id C
  have hl : lv_has ls 3 [(0, .ref (a 27)), (1, .int x1), (2, .int x2)] := hl
  refine lv_iload_n hx hb dX5_openSort_0 rfl (lv_at hl 1 rfl) ?_
  refine lv_iload_n hx hb dX5_openSort_1 rfl (lv_at hl 2 rfl) ?_
  refine cs_lt (tgt := 11) (X := (x1).toInt) (Y := (x2).toInt) hx hb dX5_openSort_2 (by decide) rfl rfl (fun c1 => ?_) (fun c1 => ?_)
  · refine lv_aload_n hx hb dX5_openSort_11 rfl (lv_at hl 0 rfl) ?_
    refine gf_RX5_9 (v := .ref (a 1)) C hO 27 cW_27 rfl dX5_openSort_12 ?_
    refine cVv (w := cW cy a) (As := []) (rest := []) C hO (T_X7_advance l D cy a _ (by exact hJ) (by exact hW)) (cwV 0 ht (gV wd_695 wd_541 wd_542 wd_111 wd_543) rfl rfl rfl hd_yX7_advance ⟨Nat.le_of_ble_eq_true rfl, Nat.le_of_ble_eq_true rfl⟩) 1 rfl cW_1 rfl rfl hl.1 (Nat.le_of_ble_eq_true rfl) dX5_openSort_15 rfl ⟨Nat.zero_le _, Nat.zero_le _⟩ (fun u3 H locs hp4 hO => ?_)
    have g5 : 0 ≤ (fI u 15 9).toInt ∧ (fI u 15 9).toInt ≤ 8 := by have h := CI_15_9 hJ; exact h
    have g6 : 0 ≤ (fI u 15 10).toInt ∧ (fI u 15 10).toInt ≤ 14 := by have h := CI_15_10 hJ; exact h
    have g7 : 0 ≤ (fI u 15 11).toInt ∧ (fI u 15 11).toInt ≤ 8 := by have h := CI_15_11 hJ; exact h
    have g8 : 0 ≤ (fI u 15 12).toInt ∧ (fI u 15 12).toInt ≤ 6 := by have h := CI_15_12 hJ; exact h
    obtain ⟨hJ, hTu3, hW⟩ := hp4
    have hT : KR u u3 := KR.tr (by exact hT) hTu3
    have hI_15_9_u3 : fI u3 15 9 = (fI u 15 9) := hTu3.2.1
    have hI_15_10_u3 : fI u3 15 10 = (fI u 15 10) := hTu3.2.2.1
    have hI_15_11_u3 : fI u3 15 11 = (fI u 15 11) := hTu3.2.2.2.1
    have hI_15_12_u3 : fI u3 15 12 = (fI u 15 12) := hTu3.2.2.2.2
    refine lv_iconst (v := 1) hx hb dX5_openSort_18 (by decide) ?_
    refine hret _ _ _ _ _ _ dX5_openSort_19 rfl ?_ hO
    exact ⟨Or.inl ⟨by omega, rfl⟩, hJ, hT, hW⟩
  · refine lv_aload_n hx hb dX5_openSort_5 rfl (lv_at hl 0 rfl) ?_
    refine lv_iconst (v := 2) hx hb dX5_openSort_6 (by decide) ?_
    refine cVi (w := cW cy a) (As := [.int 2]) (rest := []) C hO (T_X5_refuse l D cy a _ (by exact hJ) (by exact hW) (2)) (cwV 1 ht (gV wd_691 wd_693 wd_6 wd_114 wd_694) rfl rfl rfl hd_yX5_refuse ⟨Nat.le_of_ble_eq_true rfl, Nat.le_of_ble_eq_true rfl⟩) 27 rfl cW_27 rfl rfl hl.1 (Nat.le_of_ble_eq_true rfl) dX5_openSort_7 rfl ⟨Nat.zero_le _, Nat.zero_le _⟩ (fun r9 u10 H locs hp11 hO => ?_)
    have g12 : 0 ≤ (fI u 15 9).toInt ∧ (fI u 15 9).toInt ≤ 8 := by have h := CI_15_9 hJ; exact h
    have g13 : 0 ≤ (fI u 15 10).toInt ∧ (fI u 15 10).toInt ≤ 14 := by have h := CI_15_10 hJ; exact h
    have g14 : 0 ≤ (fI u 15 11).toInt ∧ (fI u 15 11).toInt ≤ 8 := by have h := CI_15_11 hJ; exact h
    have g15 : 0 ≤ (fI u 15 12).toInt ∧ (fI u 15 12).toInt ≤ 6 := by have h := CI_15_12 hJ; exact h
    obtain ⟨hr9, hJ, hTu10, hW⟩ := hp11
    subst hr9
    have hT : KR u u10 := KR.tr (by exact hT) hTu10
    have hI_15_9_u10 : fI u10 15 9 = (fI u 15 9) := hTu10.2.1
    have hI_15_10_u10 : fI u10 15 10 = (fI u 15 10) := hTu10.2.2.1
    have hI_15_11_u10 : fI u10 15 11 = (fI u 15 11) := hTu10.2.2.2.1
    have hI_15_12_u10 : fI u10 15 12 = (fI u 15 12) := hTu10.2.2.2.2
    refine hret _ _ _ _ _ _ dX5_openSort_10 rfl ?_ hO
    exact ⟨Or.inr ⟨trivial, rfl⟩, hJ, hT, hW⟩
theorem dX5_openOnce_0 : decode cX5_openOnce 0 = .ok (.iconst 1, 1) := by decide +kernel
theorem dX5_openOnce_1 : decode cX5_openOnce 1 = .ok (.aload_n 0, 1) := by decide +kernel
theorem dX5_openOnce_2 : decode cX5_openOnce 2 = .ok (.getfield 9, 3) := by decide +kernel
theorem dX5_openOnce_5 : decode cX5_openOnce 5 = .ok (.getfield 36, 3) := by decide +kernel
theorem dX5_openOnce_8 : decode cX5_openOnce 8 = .ok (.ishl, 1) := by decide +kernel
theorem dX5_openOnce_9 : decode cX5_openOnce 9 = .ok (.istore_n 1, 1) := by decide +kernel
theorem dX5_openOnce_10 : decode cX5_openOnce 10 = .ok (.aload_n 0, 1) := by decide +kernel
theorem dX5_openOnce_11 : decode cX5_openOnce 11 = .ok (.getfield 15, 3) := by decide +kernel
theorem dX5_openOnce_14 : decode cX5_openOnce 14 = .ok (.getfield 83, 3) := by decide +kernel
theorem dX5_openOnce_17 : decode cX5_openOnce 17 = .ok (.iload_n 1, 1) := by decide +kernel
theorem dX5_openOnce_18 : decode cX5_openOnce 18 = .ok (.iand, 1) := by decide +kernel
theorem dX5_openOnce_19 : decode cX5_openOnce 19 = .ok (.ifCond .eq 9, 3) := by decide +kernel
theorem dX5_openOnce_22 : decode cX5_openOnce 22 = .ok (.aload_n 0, 1) := by decide +kernel
theorem dX5_openOnce_23 : decode cX5_openOnce 23 = .ok (.iconst 2, 1) := by decide +kernel
theorem dX5_openOnce_24 : decode cX5_openOnce 24 = .ok (.invokevirtual 74, 3) := by decide +kernel
theorem dX5_openOnce_27 : decode cX5_openOnce 27 = .ok (.ireturn, 1) := by decide +kernel
theorem dX5_openOnce_28 : decode cX5_openOnce 28 = .ok (.aload_n 0, 1) := by decide +kernel
theorem dX5_openOnce_29 : decode cX5_openOnce 29 = .ok (.getfield 15, 3) := by decide +kernel
theorem dX5_openOnce_32 : decode cX5_openOnce 32 = .ok (.dup, 1) := by decide +kernel
theorem dX5_openOnce_33 : decode cX5_openOnce 33 = .ok (.getfield 83, 3) := by decide +kernel
theorem dX5_openOnce_36 : decode cX5_openOnce 36 = .ok (.iload_n 1, 1) := by decide +kernel
theorem dX5_openOnce_37 : decode cX5_openOnce 37 = .ok (.ior, 1) := by decide +kernel
theorem dX5_openOnce_38 : decode cX5_openOnce 38 = .ok (.putfield 83, 3) := by decide +kernel
theorem dX5_openOnce_41 : decode cX5_openOnce 41 = .ok (.aload_n 0, 1) := by decide +kernel
theorem dX5_openOnce_42 : decode cX5_openOnce 42 = .ok (.getfield 9, 3) := by decide +kernel
theorem dX5_openOnce_45 : decode cX5_openOnce 45 = .ok (.invokevirtual 80, 3) := by decide +kernel
theorem dX5_openOnce_48 : decode cX5_openOnce 48 = .ok (.iconst 1, 1) := by decide +kernel
theorem dX5_openOnce_49 : decode cX5_openOnce 49 = .ok (.ireturn, 1) := by decide +kernel
theorem wd_742 : (Cond.code ⟨"WebCourt$Reader", "openOnce", "()Z"⟩ prog_7_method_7_code (2 : Nat) (Option.some FieldType.boolean)) ∈ gtb := gtb_c3 153 (by decide +kernel) rfl
theorem wd_333 : (Cond.fieldLink "WebCourt$Reader" (15 : Nat) "WebCourt$Reader" "web" "LWebCourt$Web;") ∈ gtb := gtb_c1 224 (by decide +kernel) rfl
theorem gf_RX5_15 {p : Program} {l : Launch} {e : Env} {R : Room} {s : State} {m : MethodId} {args : Array Value} {below : List Frame} {meth : Method} {c : Code} {H : Heap} {locs : List Loc} {cells slots : Nat} {Q : State → Prop} {cc : ByteArray} {pc nL : Nat} {ls : Array Slot} {rest : List Value} {D : va_G} {cy : Nat → ClassId} {A : Nat → Prop} {ws : va_W} {b : Nat} {fs : List Value} {v : Value} (C : Cx p s m args c cc nL RX5 D cy A) (hO : Wo D A ws s.heap H locs) (q0 : Nat) (he : ws[q0]? = some (b, .inr (5, fs))) (hv : fs[1]? = some v) (hdg : decode cc pc = .ok (.getfield 15, 3)) (kk : W p l e R s m args below meth c H locs cells slots Q (F0 m (pc + 3) ls (v :: rest))) : W p l e R s m args below meth c H locs cells slots Q (F0 m pc ls (.ref b :: rest)) := gF (k := 1) C hO q0 he rfl inFX5 (by decide) wd_333 rfl hv hdg kk
theorem wd_288 : (Cond.fieldLink "WebCourt$Reader" (83 : Nat) "WebCourt$Web" "toldOnce" "I") ∈ gtb := gtb_c1 179 (by decide +kernel) rfl
theorem gf_RX5_83 {p : Program} {l : Launch} {e : Env} {R : Room} {s : State} {m : MethodId} {args : Array Value} {below : List Frame} {meth : Method} {c : Code} {H : Heap} {locs : List Loc} {cells slots : Nat} {Q : State → Prop} {cc : ByteArray} {pc nL : Nat} {ls : Array Slot} {rest : List Value} {D : va_G} {cy : Nat → ClassId} {A : Nat → Prop} {ws : va_W} {b : Nat} {fs : List Value} {v : Value} (C : Cx p s m args c cc nL RX5 D cy A) (hO : Wo D A ws s.heap H locs) (q0 : Nat) (he : ws[q0]? = some (b, .inr (9, fs))) (hv : fs[17]? = some v) (hdg : decode cc pc = .ok (.getfield 83, 3)) (kk : W p l e R s m args below meth c H locs cells slots Q (F0 m (pc + 3) ls (v :: rest))) : W p l e R s m args below meth c H locs cells slots Q (F0 m pc ls (.ref b :: rest)) := gF (k := 17) C hO q0 he rfl inFX9 (by decide) wd_288 rfl hv hdg kk
theorem pf_RX5_83 {p : Program} {l : Launch} {e : Env} {R : Room} {s : State} {m : MethodId} {args : Array Value} {below : List Frame} {meth : Method} {c : Code} {H : Heap} {locs : List Loc} {cells slots : Nat} {Q : State → Prop} {cc : ByteArray} {pc nL : Nat} {ls : Array Slot} {rest : List Value} {D : va_G} {cy : Nat → ClassId} {A : Nat → Prop} {ws : va_W} {b : Nat} {fs : List Value} {v : Int32} {ws' : va_W} (C : Cx p s m args c cc nL RX5 D cy A) (hO : Wo D A ws s.heap H locs) (q0 : Nat) (he : ws[q0]? = some (b, .inr (9, fs))) (hlen : 17 < fs.length) (hw : ws.set q0 (b, .inr (9, fs.set 17 (.int v))) = ws') (hdg : decode cc pc = .ok (.putfield 83, 3)) (kk : ∀ (H : Heap) (locs : List Loc), Wo D A ws' s.heap H locs → W p l e R s m args below meth c H locs cells slots Q (F0 m (pc + 3) ls rest)) : W p l e R s m args below meth c H locs cells slots Q (F0 m pc ls (.int v :: .ref b :: rest)) := pF (k := 17) (ty := .int) C hO q0 he rfl inFX9 (by decide) wd_288 rfl tyX9 tyX9_ok nmX9 rfl (by decide +kernel) rfl rfl hlen hw hdg kk
set_option maxHeartbeats 4000000 in
set_option maxRecDepth 100000 in
theorem T_X5_openOnce (l : Launch) (D : va_G) (cy : Nat → ClassId) (a : Nat → Nat) (u : St) (hJ : CI a u) (hW : fR u 2 = a 15)   : Mi l D cy (cW cy a) yX5_openOnce (.code yX5_openOnce cX5_openOnce 2 (some .boolean)) (rmo 6 131) [.ref (a 27)] u (fun (r : Int32) (u' : St) => (r = 0 ∨ r = 1) ∧ (CI a u') ∧ (KR u u') ∧ (fR u' 2 = a 15)) := by
  refine Mi.of (own := RX5) rfl (by decide) (Nat.le_of_ble_eq_true rfl) ?_
  have hT : KR u u := KR.rf
  intro p e s m below meth c A Q ls C hret hO hl
  obtain ⟨hx, hb, hml, hown, ht, hK, hA⟩ := id C
  have hl : lv_has ls 2 [(0, .ref (a 27))] := hl
  refine lv_iconst (v := 1) hx hb dX5_openOnce_0 (by decide) ?_
  refine lv_aload_n hx hb dX5_openOnce_1 rfl (lv_at hl 0 rfl) ?_
  refine gf_RX5_9 (v := .ref (a 1)) C hO 27 cW_27 rfl dX5_openOnce_2 ?_
  refine gf_RX5_36 (v := .int (fI u 1 4)) C hO 1 cW_1 rfl dX5_openOnce_5 ?_
  refine lv_ishl hx hb dX5_openOnce_8 ?_
  refine lv_topi (fun z1 ez1 => ?_)
  refine lv_istore_n (lv' := [(1, .int z1), (0, .ref (a 27))]) hx hb dX5_openOnce_9 rfl hl (by decide) rfl (fun ls hl => ?_)
  refine lv_aload_n hx hb dX5_openOnce_10 rfl (lv_at hl 1 rfl) ?_
  refine gf_RX5_15 (v := .ref (a 15)) C hO 27 cW_27 (congrArg (fun z : Nat => some (Value.ref z)) hW) dX5_openOnce_11 ?_
  refine gf_RX5_83 (v := .int (fI u 15 17)) C hO 15 cW_15 rfl dX5_openOnce_14 ?_
  refine lv_iload_n hx hb dX5_openOnce_17 rfl (lv_at hl 0 rfl) ?_
  refine lv_iand hx hb dX5_openOnce_18 ?_
  refine lv_topi (fun z2 ez2 => ?_)
  refine bs_eq (tgt := 28) (X := (z2).toInt) hx hb dX5_openOnce_19 (by decide) rfl (fun c3 => ?_) (fun c3 => ?_)
  · refine lv_aload_n hx hb dX5_openOnce_28 rfl (lv_at hl 1 rfl) ?_
    refine gf_RX5_15 (v := .ref (a 15)) C hO 27 cW_27 (congrArg (fun z : Nat => some (Value.ref z)) hW) dX5_openOnce_29 ?_
    refine lv_dup hx hb dX5_openOnce_32 rfl ?_
    refine gf_RX5_83 (v := .int (fI u 15 17)) C hO 15 cW_15 rfl dX5_openOnce_33 ?_
    refine lv_iload_n hx hb dX5_openOnce_36 rfl (lv_at hl 0 rfl) ?_
    refine lv_ior hx hb dX5_openOnce_37 ?_
    refine lv_topi (fun z4 ez4 => ?_)
    refine pf_RX5_83 C hO 15 cW_15 (Nat.le_of_ble_eq_true rfl) cW_s15_17 dX5_openOnce_38 (fun H locs hO => ?_)
    have hJ := CIs_15_17 (v := z4) hJ
    refine lv_aload_n hx hb dX5_openOnce_41 rfl (lv_at hl 1 rfl) ?_
    refine gf_RX5_9 (v := .ref (a 1)) C hO 27 cW_27 rfl dX5_openOnce_42 ?_
    refine cVv (w := cW cy a) (As := []) (rest := []) C hO (T_X7_advance l D cy a _ (by exact hJ) (by exact hW)) (cwV 0 ht (gV wd_695 wd_541 wd_542 wd_111 wd_543) rfl rfl rfl hd_yX7_advance ⟨Nat.le_of_ble_eq_true rfl, Nat.le_of_ble_eq_true rfl⟩) 1 rfl cW_1 rfl rfl hl.1 (Nat.le_of_ble_eq_true rfl) dX5_openOnce_45 rfl ⟨Nat.zero_le _, Nat.zero_le _⟩ (fun u6 H locs hp7 hO => ?_)
    have g8 : 0 ≤ (fI u 15 9).toInt ∧ (fI u 15 9).toInt ≤ 8 := by have h := CI_15_9 hJ; exact h
    have g9 : 0 ≤ (fI u 15 10).toInt ∧ (fI u 15 10).toInt ≤ 14 := by have h := CI_15_10 hJ; exact h
    have g10 : 0 ≤ (fI u 15 11).toInt ∧ (fI u 15 11).toInt ≤ 8 := by have h := CI_15_11 hJ; exact h
    have g11 : 0 ≤ (fI u 15 12).toInt ∧ (fI u 15 12).toInt ≤ 6 := by have h := CI_15_12 hJ; exact h
    obtain ⟨hJ, hTu6, hW⟩ := hp7
    have hT : KR u u6 := KR.tr (by exact hT) hTu6
    have hI_15_9_u6 : fI u6 15 9 = (fI u 15 9) := hTu6.2.1
    have hI_15_10_u6 : fI u6 15 10 = (fI u 15 10) := hTu6.2.2.1
    have hI_15_11_u6 : fI u6 15 11 = (fI u 15 11) := hTu6.2.2.2.1
    have hI_15_12_u6 : fI u6 15 12 = (fI u 15 12) := hTu6.2.2.2.2
    refine lv_iconst (v := 1) hx hb dX5_openOnce_48 (by decide) ?_
    refine hret _ _ _ _ _ _ dX5_openOnce_49 rfl ?_ hO
    exact ⟨Or.inr rfl, hJ, hT, hW⟩
  · refine lv_aload_n hx hb dX5_openOnce_22 rfl (lv_at hl 1 rfl) ?_
    refine lv_iconst (v := 2) hx hb dX5_openOnce_23 (by decide) ?_
    refine cVi (w := cW cy a) (As := [.int 2]) (rest := []) C hO (T_X5_refuse l D cy a _ (by exact hJ) (by exact hW) (2)) (cwV 1 ht (gV wd_691 wd_693 wd_6 wd_114 wd_694) rfl rfl rfl hd_yX5_refuse ⟨Nat.le_of_ble_eq_true rfl, Nat.le_of_ble_eq_true rfl⟩) 27 rfl cW_27 rfl rfl hl.1 (Nat.le_of_ble_eq_true rfl) dX5_openOnce_24 rfl ⟨Nat.zero_le _, Nat.zero_le _⟩ (fun r12 u13 H locs hp14 hO => ?_)
    have g15 : 0 ≤ (fI u 15 9).toInt ∧ (fI u 15 9).toInt ≤ 8 := by have h := CI_15_9 hJ; exact h
    have g16 : 0 ≤ (fI u 15 10).toInt ∧ (fI u 15 10).toInt ≤ 14 := by have h := CI_15_10 hJ; exact h
    have g17 : 0 ≤ (fI u 15 11).toInt ∧ (fI u 15 11).toInt ≤ 8 := by have h := CI_15_11 hJ; exact h
    have g18 : 0 ≤ (fI u 15 12).toInt ∧ (fI u 15 12).toInt ≤ 6 := by have h := CI_15_12 hJ; exact h
    obtain ⟨hr12, hJ, hTu13, hW⟩ := hp14
    subst hr12
    have hT : KR u u13 := KR.tr (by exact hT) hTu13
    have hI_15_9_u13 : fI u13 15 9 = (fI u 15 9) := hTu13.2.1
    have hI_15_10_u13 : fI u13 15 10 = (fI u 15 10) := hTu13.2.2.1
    have hI_15_11_u13 : fI u13 15 11 = (fI u 15 11) := hTu13.2.2.2.1
    have hI_15_12_u13 : fI u13 15 12 = (fI u 15 12) := hTu13.2.2.2.2
    refine hret _ _ _ _ _ _ dX5_openOnce_27 rfl ?_ hO
    exact ⟨Or.inl rfl, hJ, hT, hW⟩
theorem dX5_indexOf_0 : decode cX5_indexOf 0 = .ok (.iconst 0, 1) := by decide +kernel
theorem dX5_indexOf_1 : decode cX5_indexOf 1 = .ok (.istore 4, 2) := by decide +kernel
theorem dX5_indexOf_3 : decode cX5_indexOf 3 = .ok (.iload 4, 2) := by decide +kernel
theorem dX5_indexOf_5 : decode cX5_indexOf 5 = .ok (.iload_n 1, 1) := by decide +kernel
theorem dX5_indexOf_6 : decode cX5_indexOf 6 = .ok (.if_icmp .ge 28, 3) := by decide +kernel
theorem dX5_indexOf_9 : decode cX5_indexOf 9 = .ok (.iload 4, 2) := by decide +kernel
theorem dX5_indexOf_11 : decode cX5_indexOf 11 = .ok (.aload_n 0, 1) := by decide +kernel
theorem dX5_indexOf_12 : decode cX5_indexOf 12 = .ok (.arraylength, 1) := by decide +kernel
theorem dX5_indexOf_13 : decode cX5_indexOf 13 = .ok (.if_icmp .ge 21, 3) := by decide +kernel
theorem dX5_indexOf_16 : decode cX5_indexOf 16 = .ok (.aload_n 0, 1) := by decide +kernel
theorem dX5_indexOf_17 : decode cX5_indexOf 17 = .ok (.iload 4, 2) := by decide +kernel
theorem dX5_indexOf_19 : decode cX5_indexOf 19 = .ok (.laload, 1) := by decide +kernel
theorem dX5_indexOf_20 : decode cX5_indexOf 20 = .ok (.lload_n 2, 1) := by decide +kernel
theorem dX5_indexOf_21 : decode cX5_indexOf 21 = .ok (.lcmp, 1) := by decide +kernel
theorem dX5_indexOf_22 : decode cX5_indexOf 22 = .ok (.ifCond .ne 6, 3) := by decide +kernel
theorem dX5_indexOf_25 : decode cX5_indexOf 25 = .ok (.iload 4, 2) := by decide +kernel
theorem dX5_indexOf_27 : decode cX5_indexOf 27 = .ok (.ireturn, 1) := by decide +kernel
theorem dX5_indexOf_28 : decode cX5_indexOf 28 = .ok (.iinc 4 1, 3) := by decide +kernel
theorem dX5_indexOf_31 : decode cX5_indexOf 31 = .ok (.goto (-28), 3) := by decide +kernel
theorem dX5_indexOf_34 : decode cX5_indexOf 34 = .ok (.iconst (-1), 1) := by decide +kernel
theorem dX5_indexOf_35 : decode cX5_indexOf 35 = .ok (.ireturn, 1) := by decide +kernel
theorem wd_702 : (Cond.code ⟨"WebCourt$Reader", "indexOf", "([JIJ)I"⟩ prog_7_method_10_code (5 : Nat) (Option.some FieldType.int)) ∈ gtb := gtb_c3 113 (by decide +kernel) rfl
set_option maxHeartbeats 4000000 in
set_option maxRecDepth 100000 in
theorem T_X5_indexOf_16 (l : Launch) (D : va_G) (cy : Nat → ClassId) (a : Nat → Nat) (u : St) (hJ : CI a u) (x2 : Int32) (x3 : Int64)  : Mi l D cy (cW cy a) yX5_indexOf (.code yX5_indexOf cX5_indexOf 5 (some .int)) (rmo 0 0) [.ref (a 16), .int x2, .long x3] u (fun (r : Int32) (u' : St) => ((-1) ≤ r.toInt ∧ r.toInt ≤ 7) ∧ (u' = u)) := by
  refine Mi.of (own := RX5) rfl (by decide) (Nat.le_of_ble_eq_true rfl) ?_
  have hT : KT u u := KT.rf
  intro p e s m below meth c A Q ls C hret hO hl
  obtain ⟨hx, hb, hml, hown, ht, hK, hA⟩ := id C
  have hl : lv_has ls 5 [(0, .ref (a 16)), (1, .int x2), (2, .long x3)] := hl
  refine lv_iconst (v := 0) hx hb dX5_indexOf_0 (by decide) ?_
  refine lv_istore (lv' := [(4, .int 0), (0, .ref (a 16)), (1, .int x2), (2, .long x3)]) hx hb dX5_indexOf_1 hl (by decide) rfl (fun ls hl => ?_)
  have LP_3_k1 : ∀ (n : Nat) (H : Heap) (locs : List Loc) (ls : Array Slot) (i_k1 : Int32), Wo D A (cW cy a u) s.heap H locs → lv_has ls 5 [(4, .int i_k1), (0, .ref (a 16)), (1, .int x2), (2, .long x3)] → 0 ≤ i_k1.toInt ∧ i_k1.toInt ≤ 8 → 8 - i_k1.toInt < (n : Int) → W p l e (rmo 0 0) s m [.ref (a 16), .int x2, .long x3].toArray below meth c H locs 0 0 Q (F0 m 3 ls []) := by
    intro n
    induction n with
    | zero =>
      intro H locs ls i_k1 hO hl iv0_k1 hm_k1
      exact absurd hm_k1 (by omega)
    | succ n ih_k1 =>
      intro H locs ls i_k1 hO hl iv0_k1 hm_k1
      refine lv_iload hx hb dX5_indexOf_3 (lv_at hl 0 rfl) ?_
      refine lv_iload_n hx hb dX5_indexOf_5 rfl (lv_at hl 2 rfl) ?_
      refine cs_ge (tgt := 34) (X := (i_k1).toInt) (Y := (x2).toInt) hx hb dX5_indexOf_6 (by decide) rfl rfl (fun c2 => ?_) (fun c2 => ?_)
      · refine lv_iconst (v := (-1)) hx hb dX5_indexOf_34 (by decide) ?_
        refine hret _ _ _ _ _ _ dX5_indexOf_35 rfl ?_ hO
        exact ⟨(by first | decide | omega), rfl⟩
      · refine lv_iload hx hb dX5_indexOf_9 (lv_at hl 0 rfl) ?_
        refine lv_aload_n hx hb dX5_indexOf_11 rfl (lv_at hl 1 rfl) ?_
        refine aLen (v := 8) C hO 16 2 cW_16 rfl rfl dX5_indexOf_12 ?_
        refine cs_ge (tgt := 34) (X := (i_k1).toInt) (Y := 8) hx hb dX5_indexOf_13 (by decide) rfl rfl (fun c3 => ?_) (fun c3 => ?_)
        · refine lv_iconst (v := (-1)) hx hb dX5_indexOf_34 (by decide) ?_
          refine hret _ _ _ _ _ _ dX5_indexOf_35 rfl ?_ hO
          exact ⟨(by first | decide | omega), rfl⟩
        · refine lv_aload_n hx hb dX5_indexOf_16 rfl (lv_at hl 1 rfl) ?_
          refine lv_iload hx hb dX5_indexOf_17 (lv_at hl 0 rfl) ?_
          refine aJ C hO 16 cW_16 (i_in (X := (i_k1).toInt) rfl (by omega) (by omega)) dX5_indexOf_19 ?_
          refine lv_topl (fun w4 ew4 => ?_)
          refine lv_lload_n hx hb dX5_indexOf_20 rfl (lv_at hl 3 rfl) ?_
          refine W.lcmp hx hb dX5_indexOf_21 ?_
          refine lv_topi (fun z5 ez5 => ?_)
          refine bs_ne (tgt := 28) (X := (z5).toInt) hx hb dX5_indexOf_22 (by decide) rfl (fun c6 => ?_) (fun c6 => ?_)
          · have e7 : ((i_k1 + 1)).toInt = (i_k1).toInt + 1 := i_add rfl rfl (by omega)
            refine lv_iinc (v := (i_k1 + 1)) (lv' := [(4, .int (i_k1 + 1)), (0, .ref (a 16)), (1, .int x2), (2, .long x3)]) hx hb dX5_indexOf_28 hl (k := 0) rfl rfl (by decide) rfl (fun ls hl => ?_)
            refine lv_goto (tgt := 3) hx hb dX5_indexOf_31 (by decide) ?_
            exact ih_k1 _ _ _ ((i_k1 + 1)) hO (lv_sub hl [0, 1, 2, 3] rfl) (by first | decide | omega) (by first | decide | omega)
          · refine lv_iload hx hb dX5_indexOf_25 (lv_at hl 0 rfl) ?_
            refine hret _ _ _ _ _ _ dX5_indexOf_27 rfl ?_ hO
            exact ⟨(by first | decide | omega), rfl⟩
  exact LP_3_k1 4000 _ _ _ (0) hO (lv_sub hl [0, 1, 2, 3] rfl) (by first | decide | omega) (by first | decide | omega)
theorem dX5_newName_0 : decode cX5_newName 0 = .ok (.aload_n 0, 1) := by decide +kernel
theorem dX5_newName_1 : decode cX5_newName 1 = .ok (.getfield 9, 3) := by decide +kernel
theorem dX5_newName_4 : decode cX5_newName 4 = .ok (.getfield 36, 3) := by decide +kernel
theorem dX5_newName_7 : decode cX5_newName 7 = .ok (.sipush 200, 3) := by decide +kernel
theorem dX5_newName_10 : decode cX5_newName 10 = .ok (.if_icmp .eq 9, 3) := by decide +kernel
theorem dX5_newName_13 : decode cX5_newName 13 = .ok (.aload_n 0, 1) := by decide +kernel
theorem dX5_newName_14 : decode cX5_newName 14 = .ok (.iconst 2, 1) := by decide +kernel
theorem dX5_newName_15 : decode cX5_newName 15 = .ok (.invokevirtual 74, 3) := by decide +kernel
theorem dX5_newName_18 : decode cX5_newName 18 = .ok (.ireturn, 1) := by decide +kernel
theorem dX5_newName_19 : decode cX5_newName 19 = .ok (.aload_n 1, 1) := by decide +kernel
theorem dX5_newName_20 : decode cX5_newName 20 = .ok (.iload_n 2, 1) := by decide +kernel
theorem dX5_newName_21 : decode cX5_newName 21 = .ok (.aload_n 0, 1) := by decide +kernel
theorem dX5_newName_22 : decode cX5_newName 22 = .ok (.getfield 9, 3) := by decide +kernel
theorem dX5_newName_25 : decode cX5_newName 25 = .ok (.getfield 86, 3) := by decide +kernel
theorem dX5_newName_28 : decode cX5_newName 28 = .ok (.invokestatic 90, 3) := by decide +kernel
theorem dX5_newName_31 : decode cX5_newName 31 = .ok (.iconst (-1), 1) := by decide +kernel
theorem dX5_newName_32 : decode cX5_newName 32 = .ok (.if_icmp .eq 9, 3) := by decide +kernel
theorem dX5_newName_35 : decode cX5_newName 35 = .ok (.aload_n 0, 1) := by decide +kernel
theorem dX5_newName_36 : decode cX5_newName 36 = .ok (.iconst 3, 1) := by decide +kernel
theorem dX5_newName_37 : decode cX5_newName 37 = .ok (.invokevirtual 74, 3) := by decide +kernel
theorem dX5_newName_40 : decode cX5_newName 40 = .ok (.ireturn, 1) := by decide +kernel
theorem dX5_newName_41 : decode cX5_newName 41 = .ok (.iload_n 2, 1) := by decide +kernel
theorem dX5_newName_42 : decode cX5_newName 42 = .ok (.aload_n 1, 1) := by decide +kernel
theorem dX5_newName_43 : decode cX5_newName 43 = .ok (.arraylength, 1) := by decide +kernel
theorem dX5_newName_44 : decode cX5_newName 44 = .ok (.if_icmp .ge 13, 3) := by decide +kernel
theorem dX5_newName_47 : decode cX5_newName 47 = .ok (.aload_n 1, 1) := by decide +kernel
theorem dX5_newName_48 : decode cX5_newName 48 = .ok (.iload_n 2, 1) := by decide +kernel
theorem dX5_newName_49 : decode cX5_newName 49 = .ok (.aload_n 0, 1) := by decide +kernel
theorem dX5_newName_50 : decode cX5_newName 50 = .ok (.getfield 9, 3) := by decide +kernel
theorem dX5_newName_53 : decode cX5_newName 53 = .ok (.getfield 86, 3) := by decide +kernel
theorem dX5_newName_56 : decode cX5_newName 56 = .ok (.lastore, 1) := by decide +kernel
theorem dX5_newName_57 : decode cX5_newName 57 = .ok (.aload_n 0, 1) := by decide +kernel
theorem dX5_newName_58 : decode cX5_newName 58 = .ok (.getfield 9, 3) := by decide +kernel
theorem dX5_newName_61 : decode cX5_newName 61 = .ok (.invokevirtual 80, 3) := by decide +kernel
theorem dX5_newName_64 : decode cX5_newName 64 = .ok (.iconst 1, 1) := by decide +kernel
theorem dX5_newName_65 : decode cX5_newName 65 = .ok (.ireturn, 1) := by decide +kernel
theorem wd_699 : (Cond.code ⟨"WebCourt$Reader", "newName", "([JI)Z"⟩ prog_7_method_8_code (3 : Nat) (Option.some FieldType.boolean)) ∈ gtb := gtb_c3 110 (by decide +kernel) rfl
theorem wd_152 : (Cond.fieldLink "WebCourt$Reader" (86 : Nat) "WebCourt$Tape" "word" "J") ∈ gtb := gtb_c1 43 (by decide +kernel) rfl
theorem gf_RX5_86 {p : Program} {l : Launch} {e : Env} {R : Room} {s : State} {m : MethodId} {args : Array Value} {below : List Frame} {meth : Method} {c : Code} {H : Heap} {locs : List Loc} {cells slots : Nat} {Q : State → Prop} {cc : ByteArray} {pc nL : Nat} {ls : Array Slot} {rest : List Value} {D : va_G} {cy : Nat → ClassId} {A : Nat → Prop} {ws : va_W} {b : Nat} {fs : List Value} {v : Value} (C : Cx p s m args c cc nL RX5 D cy A) (hO : Wo D A ws s.heap H locs) (q0 : Nat) (he : ws[q0]? = some (b, .inr (7, fs))) (hv : fs[5]? = some v) (hdg : decode cc pc = .ok (.getfield 86, 3)) (kk : W p l e R s m args below meth c H locs cells slots Q (F0 m (pc + 3) ls (v :: rest))) : W p l e R s m args below meth c H locs cells slots Q (F0 m pc ls (.ref b :: rest)) := gF (k := 5) C hO q0 he rfl inFX7 (by decide) wd_152 rfl hv hdg kk
theorem wd_700 : (Cond.methodLink "WebCourt$Reader" (90 : Nat) ⟨"WebCourt$Reader", "indexOf", "([JIJ)I"⟩) ∈ gtb := gtb_c3 111 (by decide +kernel) rfl
theorem wd_701 : (Cond.static ⟨"WebCourt$Reader", "indexOf", "([JIJ)I"⟩) ∈ gtb := gtb_c3 112 (by decide +kernel) rfl
theorem hd_yX5_indexOf : yX5_indexOf.cls ≠ "java/lang/invoke/MethodHandle" ∧ yX5_indexOf.cls ≠ "java/lang/invoke/VarHandle" ∧ (parseMethodDescriptor yX5_indexOf.desc).map (fun d => d.parameters.length) = some 3 := by decide +kernel
set_option maxHeartbeats 4000000 in
set_option maxRecDepth 100000 in
theorem T_X5_newName_16 (l : Launch) (D : va_G) (cy : Nat → ClassId) (a : Nat → Nat) (u : St) (hJ : CI a u) (hW : fR u 2 = a 15) (x2 : Int32) (hx_x2 : 0 ≤ x2.toInt ∧ x2.toInt ≤ 14) : Mi l D cy (cW cy a) yX5_newName (.code yX5_newName cX5_newName 3 (some .boolean)) (rmo 6 131) [.ref (a 27), .ref (a 16), .int x2] u (fun (r : Int32) (u' : St) => (r = 0 ∨ r = 1) ∧ (CI a u') ∧ (KR u u') ∧ (fR u' 2 = a 15)) := by
  refine Mi.of (own := RX5) rfl (by decide) (Nat.le_of_ble_eq_true rfl) ?_
  have hT : KR u u := KR.rf
  intro p e s m below meth c A Q ls C hret hO hl
  obtain ⟨hx, hb, hml, hown, ht, hK, hA⟩ := id C
  have hl : lv_has ls 3 [(0, .ref (a 27)), (1, .ref (a 16)), (2, .int x2)] := hl
  refine lv_aload_n hx hb dX5_newName_0 rfl (lv_at hl 0 rfl) ?_
  refine gf_RX5_9 (v := .ref (a 1)) C hO 27 cW_27 rfl dX5_newName_1 ?_
  refine gf_RX5_36 (v := .int (fI u 1 4)) C hO 1 cW_1 rfl dX5_newName_4 ?_
  refine lv_sipush (v := 200) hx hb dX5_newName_7 (by decide) ?_
  refine cs_eq (tgt := 19) (X := ((fI u 1 4)).toInt) (Y := 200) hx hb dX5_newName_10 (by decide) rfl rfl (fun c1 => ?_) (fun c1 => ?_)
  · refine lv_aload_n hx hb dX5_newName_19 rfl (lv_at hl 1 rfl) ?_
    refine lv_iload_n hx hb dX5_newName_20 rfl (lv_at hl 2 rfl) ?_
    refine lv_aload_n hx hb dX5_newName_21 rfl (lv_at hl 0 rfl) ?_
    refine gf_RX5_9 (v := .ref (a 1)) C hO 27 cW_27 rfl dX5_newName_22 ?_
    refine gf_RX5_86 (v := .long ((fL u 1 5))) C hO 1 cW_1 rfl dX5_newName_25 ?_
    refine cSi (w := cW cy a) (As := [.ref (a 16), .int x2, .long ((fL u 1 5))]) (rest := []) C hO (T_X5_indexOf_16 l D cy a _ (by exact hJ) (x2) ((fL u 1 5))) (va_cwS 3 ht (gSS wd_700 wd_701 wd_114 wd_702) rfl rfl rfl hd_yX5_indexOf ⟨Nat.le_of_ble_eq_true rfl, Nat.le_of_ble_eq_true rfl⟩)  rfl hl.1 (Nat.le_of_ble_eq_true rfl) dX5_newName_28 rfl ⟨Nat.zero_le _, Nat.zero_le _⟩ (fun r2 u3 H locs hp4 hO => ?_)
    obtain ⟨hr2, hu3⟩ := hp4
    rw [hu3] at hO
    refine lv_iconst (v := (-1)) hx hb dX5_newName_31 (by decide) ?_
    refine cs_eq (tgt := 41) (X := (r2).toInt) (Y := (-1)) hx hb dX5_newName_32 (by decide) rfl rfl (fun c5 => ?_) (fun c5 => ?_)
    · refine lv_iload_n hx hb dX5_newName_41 rfl (lv_at hl 2 rfl) ?_
      refine lv_aload_n hx hb dX5_newName_42 rfl (lv_at hl 1 rfl) ?_
      refine aLen (v := 8) C hO 16 2 cW_16 rfl rfl dX5_newName_43 ?_
      refine cs_ge (tgt := 57) (X := (x2).toInt) (Y := 8) hx hb dX5_newName_44 (by decide) rfl rfl (fun c6 => ?_) (fun c6 => ?_)
      · refine lv_aload_n hx hb dX5_newName_57 rfl (lv_at hl 0 rfl) ?_
        refine gf_RX5_9 (v := .ref (a 1)) C hO 27 cW_27 rfl dX5_newName_58 ?_
        refine cVv (w := cW cy a) (As := []) (rest := []) C hO (T_X7_advance l D cy a _ (by exact hJ) (by exact hW)) (cwV 0 ht (gV wd_695 wd_541 wd_542 wd_111 wd_543) rfl rfl rfl hd_yX7_advance ⟨Nat.le_of_ble_eq_true rfl, Nat.le_of_ble_eq_true rfl⟩) 1 rfl cW_1 rfl rfl hl.1 (Nat.le_of_ble_eq_true rfl) dX5_newName_61 rfl ⟨Nat.zero_le _, Nat.zero_le _⟩ (fun u8 H locs hp9 hO => ?_)
        have g10 : 0 ≤ (fI u 15 9).toInt ∧ (fI u 15 9).toInt ≤ 8 := by have h := CI_15_9 hJ; exact h
        have g11 : 0 ≤ (fI u 15 10).toInt ∧ (fI u 15 10).toInt ≤ 14 := by have h := CI_15_10 hJ; exact h
        have g12 : 0 ≤ (fI u 15 11).toInt ∧ (fI u 15 11).toInt ≤ 8 := by have h := CI_15_11 hJ; exact h
        have g13 : 0 ≤ (fI u 15 12).toInt ∧ (fI u 15 12).toInt ≤ 6 := by have h := CI_15_12 hJ; exact h
        obtain ⟨hJ, hTu8, hW⟩ := hp9
        have hT : KR u u8 := KR.tr (by exact hT) hTu8
        have hI_15_9_u8 : fI u8 15 9 = (fI u 15 9) := hTu8.2.1
        have hI_15_10_u8 : fI u8 15 10 = (fI u 15 10) := hTu8.2.2.1
        have hI_15_11_u8 : fI u8 15 11 = (fI u 15 11) := hTu8.2.2.2.1
        have hI_15_12_u8 : fI u8 15 12 = (fI u 15 12) := hTu8.2.2.2.2
        refine lv_iconst (v := 1) hx hb dX5_newName_64 (by decide) ?_
        refine hret _ _ _ _ _ _ dX5_newName_65 rfl ?_ hO
        exact ⟨Or.inr rfl, hJ, hT, hW⟩
      · refine lv_aload_n hx hb dX5_newName_47 rfl (lv_at hl 1 rfl) ?_
        refine lv_iload_n hx hb dX5_newName_48 rfl (lv_at hl 2 rfl) ?_
        refine lv_aload_n hx hb dX5_newName_49 rfl (lv_at hl 0 rfl) ?_
        refine gf_RX5_9 (v := .ref (a 1)) C hO 27 cW_27 rfl dX5_newName_50 ?_
        refine gf_RX5_86 (v := .long ((fL u 1 5))) C hO 1 cW_1 rfl dX5_newName_53 ?_
        refine aJs C hO 16 cW_16 (i_in (X := (x2).toInt) rfl (by omega) (by omega)) cW_s16 dX5_newName_56 (fun H locs hO => ?_)
        have hJ := CIsJ hO hJ
        refine lv_aload_n hx hb dX5_newName_57 rfl (lv_at hl 0 rfl) ?_
        refine gf_RX5_9 (v := .ref (a 1)) C hO 27 cW_27 rfl dX5_newName_58 ?_
        refine cVv (w := cW cy a) (As := []) (rest := []) C hO (T_X7_advance l D cy a _ (by exact hJ) (by exact hW)) (cwV 0 ht (gV wd_695 wd_541 wd_542 wd_111 wd_543) rfl rfl rfl hd_yX7_advance ⟨Nat.le_of_ble_eq_true rfl, Nat.le_of_ble_eq_true rfl⟩) 1 rfl cW_1 rfl rfl hl.1 (Nat.le_of_ble_eq_true rfl) dX5_newName_61 rfl ⟨Nat.zero_le _, Nat.zero_le _⟩ (fun u15 H locs hp16 hO => ?_)
        have g17 : 0 ≤ (fI u 15 9).toInt ∧ (fI u 15 9).toInt ≤ 8 := by have h := CI_15_9 hJ; exact h
        have g18 : 0 ≤ (fI u 15 10).toInt ∧ (fI u 15 10).toInt ≤ 14 := by have h := CI_15_10 hJ; exact h
        have g19 : 0 ≤ (fI u 15 11).toInt ∧ (fI u 15 11).toInt ≤ 8 := by have h := CI_15_11 hJ; exact h
        have g20 : 0 ≤ (fI u 15 12).toInt ∧ (fI u 15 12).toInt ≤ 6 := by have h := CI_15_12 hJ; exact h
        obtain ⟨hJ, hTu15, hW⟩ := hp16
        have hT : KR u u15 := KR.tr (by exact hT) hTu15
        have hI_15_9_u15 : fI u15 15 9 = (fI u 15 9) := hTu15.2.1
        have hI_15_10_u15 : fI u15 15 10 = (fI u 15 10) := hTu15.2.2.1
        have hI_15_11_u15 : fI u15 15 11 = (fI u 15 11) := hTu15.2.2.2.1
        have hI_15_12_u15 : fI u15 15 12 = (fI u 15 12) := hTu15.2.2.2.2
        refine lv_iconst (v := 1) hx hb dX5_newName_64 (by decide) ?_
        refine hret _ _ _ _ _ _ dX5_newName_65 rfl ?_ hO
        exact ⟨Or.inr rfl, hJ, hT, hW⟩
    · refine lv_aload_n hx hb dX5_newName_35 rfl (lv_at hl 0 rfl) ?_
      refine lv_iconst (v := 3) hx hb dX5_newName_36 (by decide) ?_
      refine cVi (w := cW cy a) (As := [.int 3]) (rest := []) C hO (T_X5_refuse l D cy a _ (by exact hJ) (by exact hW) (3)) (cwV 1 ht (gV wd_691 wd_693 wd_6 wd_114 wd_694) rfl rfl rfl hd_yX5_refuse ⟨Nat.le_of_ble_eq_true rfl, Nat.le_of_ble_eq_true rfl⟩) 27 rfl cW_27 rfl rfl hl.1 (Nat.le_of_ble_eq_true rfl) dX5_newName_37 rfl ⟨Nat.zero_le _, Nat.zero_le _⟩ (fun r21 u22 H locs hp23 hO => ?_)
      have g24 : 0 ≤ (fI u 15 9).toInt ∧ (fI u 15 9).toInt ≤ 8 := by have h := CI_15_9 hJ; exact h
      have g25 : 0 ≤ (fI u 15 10).toInt ∧ (fI u 15 10).toInt ≤ 14 := by have h := CI_15_10 hJ; exact h
      have g26 : 0 ≤ (fI u 15 11).toInt ∧ (fI u 15 11).toInt ≤ 8 := by have h := CI_15_11 hJ; exact h
      have g27 : 0 ≤ (fI u 15 12).toInt ∧ (fI u 15 12).toInt ≤ 6 := by have h := CI_15_12 hJ; exact h
      obtain ⟨hr21, hJ, hTu22, hW⟩ := hp23
      subst hr21
      have hT : KR u u22 := KR.tr (by exact hT) hTu22
      have hI_15_9_u22 : fI u22 15 9 = (fI u 15 9) := hTu22.2.1
      have hI_15_10_u22 : fI u22 15 10 = (fI u 15 10) := hTu22.2.2.1
      have hI_15_11_u22 : fI u22 15 11 = (fI u 15 11) := hTu22.2.2.2.1
      have hI_15_12_u22 : fI u22 15 12 = (fI u 15 12) := hTu22.2.2.2.2
      refine hret _ _ _ _ _ _ dX5_newName_40 rfl ?_ hO
      exact ⟨Or.inl rfl, hJ, hT, hW⟩
  · refine lv_aload_n hx hb dX5_newName_13 rfl (lv_at hl 0 rfl) ?_
    refine lv_iconst (v := 2) hx hb dX5_newName_14 (by decide) ?_
    refine cVi (w := cW cy a) (As := [.int 2]) (rest := []) C hO (T_X5_refuse l D cy a _ (by exact hJ) (by exact hW) (2)) (cwV 1 ht (gV wd_691 wd_693 wd_6 wd_114 wd_694) rfl rfl rfl hd_yX5_refuse ⟨Nat.le_of_ble_eq_true rfl, Nat.le_of_ble_eq_true rfl⟩) 27 rfl cW_27 rfl rfl hl.1 (Nat.le_of_ble_eq_true rfl) dX5_newName_15 rfl ⟨Nat.zero_le _, Nat.zero_le _⟩ (fun r28 u29 H locs hp30 hO => ?_)
    have g31 : 0 ≤ (fI u 15 9).toInt ∧ (fI u 15 9).toInt ≤ 8 := by have h := CI_15_9 hJ; exact h
    have g32 : 0 ≤ (fI u 15 10).toInt ∧ (fI u 15 10).toInt ≤ 14 := by have h := CI_15_10 hJ; exact h
    have g33 : 0 ≤ (fI u 15 11).toInt ∧ (fI u 15 11).toInt ≤ 8 := by have h := CI_15_11 hJ; exact h
    have g34 : 0 ≤ (fI u 15 12).toInt ∧ (fI u 15 12).toInt ≤ 6 := by have h := CI_15_12 hJ; exact h
    obtain ⟨hr28, hJ, hTu29, hW⟩ := hp30
    subst hr28
    have hT : KR u u29 := KR.tr (by exact hT) hTu29
    have hI_15_9_u29 : fI u29 15 9 = (fI u 15 9) := hTu29.2.1
    have hI_15_10_u29 : fI u29 15 10 = (fI u 15 10) := hTu29.2.2.1
    have hI_15_11_u29 : fI u29 15 11 = (fI u 15 11) := hTu29.2.2.2.1
    have hI_15_12_u29 : fI u29 15 12 = (fI u 15 12) := hTu29.2.2.2.2
    refine hret _ _ _ _ _ _ dX5_newName_18 rfl ?_ hO
    exact ⟨Or.inl rfl, hJ, hT, hW⟩
set_option maxHeartbeats 4000000 in
set_option maxRecDepth 100000 in
theorem T_X5_indexOf_17 (l : Launch) (D : va_G) (cy : Nat → ClassId) (a : Nat → Nat) (u : St) (hJ : CI a u) (x2 : Int32) (x3 : Int64)  : Mi l D cy (cW cy a) yX5_indexOf (.code yX5_indexOf cX5_indexOf 5 (some .int)) (rmo 0 0) [.ref (a 17), .int x2, .long x3] u (fun (r : Int32) (u' : St) => ((-1) ≤ r.toInt ∧ r.toInt ≤ 7) ∧ (u' = u)) := by
  refine Mi.of (own := RX5) rfl (by decide) (Nat.le_of_ble_eq_true rfl) ?_
  have hT : KT u u := KT.rf
  intro p e s m below meth c A Q ls C hret hO hl
  obtain ⟨hx, hb, hml, hown, ht, hK, hA⟩ := id C
  have hl : lv_has ls 5 [(0, .ref (a 17)), (1, .int x2), (2, .long x3)] := hl
  refine lv_iconst (v := 0) hx hb dX5_indexOf_0 (by decide) ?_
  refine lv_istore (lv' := [(4, .int 0), (0, .ref (a 17)), (1, .int x2), (2, .long x3)]) hx hb dX5_indexOf_1 hl (by decide) rfl (fun ls hl => ?_)
  have LP_3_k1 : ∀ (n : Nat) (H : Heap) (locs : List Loc) (ls : Array Slot) (i_k1 : Int32), Wo D A (cW cy a u) s.heap H locs → lv_has ls 5 [(4, .int i_k1), (0, .ref (a 17)), (1, .int x2), (2, .long x3)] → 0 ≤ i_k1.toInt ∧ i_k1.toInt ≤ 8 → 8 - i_k1.toInt < (n : Int) → W p l e (rmo 0 0) s m [.ref (a 17), .int x2, .long x3].toArray below meth c H locs 0 0 Q (F0 m 3 ls []) := by
    intro n
    induction n with
    | zero =>
      intro H locs ls i_k1 hO hl iv0_k1 hm_k1
      exact absurd hm_k1 (by omega)
    | succ n ih_k1 =>
      intro H locs ls i_k1 hO hl iv0_k1 hm_k1
      refine lv_iload hx hb dX5_indexOf_3 (lv_at hl 0 rfl) ?_
      refine lv_iload_n hx hb dX5_indexOf_5 rfl (lv_at hl 2 rfl) ?_
      refine cs_ge (tgt := 34) (X := (i_k1).toInt) (Y := (x2).toInt) hx hb dX5_indexOf_6 (by decide) rfl rfl (fun c2 => ?_) (fun c2 => ?_)
      · refine lv_iconst (v := (-1)) hx hb dX5_indexOf_34 (by decide) ?_
        refine hret _ _ _ _ _ _ dX5_indexOf_35 rfl ?_ hO
        exact ⟨(by first | decide | omega), rfl⟩
      · refine lv_iload hx hb dX5_indexOf_9 (lv_at hl 0 rfl) ?_
        refine lv_aload_n hx hb dX5_indexOf_11 rfl (lv_at hl 1 rfl) ?_
        refine aLen (v := 8) C hO 17 2 cW_17 rfl rfl dX5_indexOf_12 ?_
        refine cs_ge (tgt := 34) (X := (i_k1).toInt) (Y := 8) hx hb dX5_indexOf_13 (by decide) rfl rfl (fun c3 => ?_) (fun c3 => ?_)
        · refine lv_iconst (v := (-1)) hx hb dX5_indexOf_34 (by decide) ?_
          refine hret _ _ _ _ _ _ dX5_indexOf_35 rfl ?_ hO
          exact ⟨(by first | decide | omega), rfl⟩
        · refine lv_aload_n hx hb dX5_indexOf_16 rfl (lv_at hl 1 rfl) ?_
          refine lv_iload hx hb dX5_indexOf_17 (lv_at hl 0 rfl) ?_
          refine aJ C hO 17 cW_17 (i_in (X := (i_k1).toInt) rfl (by omega) (by omega)) dX5_indexOf_19 ?_
          refine lv_topl (fun w4 ew4 => ?_)
          refine lv_lload_n hx hb dX5_indexOf_20 rfl (lv_at hl 3 rfl) ?_
          refine W.lcmp hx hb dX5_indexOf_21 ?_
          refine lv_topi (fun z5 ez5 => ?_)
          refine bs_ne (tgt := 28) (X := (z5).toInt) hx hb dX5_indexOf_22 (by decide) rfl (fun c6 => ?_) (fun c6 => ?_)
          · have e7 : ((i_k1 + 1)).toInt = (i_k1).toInt + 1 := i_add rfl rfl (by omega)
            refine lv_iinc (v := (i_k1 + 1)) (lv' := [(4, .int (i_k1 + 1)), (0, .ref (a 17)), (1, .int x2), (2, .long x3)]) hx hb dX5_indexOf_28 hl (k := 0) rfl rfl (by decide) rfl (fun ls hl => ?_)
            refine lv_goto (tgt := 3) hx hb dX5_indexOf_31 (by decide) ?_
            exact ih_k1 _ _ _ ((i_k1 + 1)) hO (lv_sub hl [0, 1, 2, 3] rfl) (by first | decide | omega) (by first | decide | omega)
          · refine lv_iload hx hb dX5_indexOf_25 (lv_at hl 0 rfl) ?_
            refine hret _ _ _ _ _ _ dX5_indexOf_27 rfl ?_ hO
            exact ⟨(by first | decide | omega), rfl⟩
  exact LP_3_k1 4000 _ _ _ (0) hO (lv_sub hl [0, 1, 2, 3] rfl) (by first | decide | omega) (by first | decide | omega)
set_option maxHeartbeats 4000000 in
set_option maxRecDepth 100000 in
theorem T_X5_newName_17 (l : Launch) (D : va_G) (cy : Nat → ClassId) (a : Nat → Nat) (u : St) (hJ : CI a u) (hW : fR u 2 = a 15) (x2 : Int32) (hx_x2 : 0 ≤ x2.toInt ∧ x2.toInt ≤ 14) : Mi l D cy (cW cy a) yX5_newName (.code yX5_newName cX5_newName 3 (some .boolean)) (rmo 6 131) [.ref (a 27), .ref (a 17), .int x2] u (fun (r : Int32) (u' : St) => (r = 0 ∨ r = 1) ∧ (CI a u') ∧ (KR u u') ∧ (fR u' 2 = a 15)) := by
  refine Mi.of (own := RX5) rfl (by decide) (Nat.le_of_ble_eq_true rfl) ?_
  have hT : KR u u := KR.rf
  intro p e s m below meth c A Q ls C hret hO hl
  obtain ⟨hx, hb, hml, hown, ht, hK, hA⟩ := id C
  have hl : lv_has ls 3 [(0, .ref (a 27)), (1, .ref (a 17)), (2, .int x2)] := hl
  refine lv_aload_n hx hb dX5_newName_0 rfl (lv_at hl 0 rfl) ?_
  refine gf_RX5_9 (v := .ref (a 1)) C hO 27 cW_27 rfl dX5_newName_1 ?_
  refine gf_RX5_36 (v := .int (fI u 1 4)) C hO 1 cW_1 rfl dX5_newName_4 ?_
  refine lv_sipush (v := 200) hx hb dX5_newName_7 (by decide) ?_
  refine cs_eq (tgt := 19) (X := ((fI u 1 4)).toInt) (Y := 200) hx hb dX5_newName_10 (by decide) rfl rfl (fun c1 => ?_) (fun c1 => ?_)
  · refine lv_aload_n hx hb dX5_newName_19 rfl (lv_at hl 1 rfl) ?_
    refine lv_iload_n hx hb dX5_newName_20 rfl (lv_at hl 2 rfl) ?_
    refine lv_aload_n hx hb dX5_newName_21 rfl (lv_at hl 0 rfl) ?_
    refine gf_RX5_9 (v := .ref (a 1)) C hO 27 cW_27 rfl dX5_newName_22 ?_
    refine gf_RX5_86 (v := .long ((fL u 1 5))) C hO 1 cW_1 rfl dX5_newName_25 ?_
    refine cSi (w := cW cy a) (As := [.ref (a 17), .int x2, .long ((fL u 1 5))]) (rest := []) C hO (T_X5_indexOf_17 l D cy a _ (by exact hJ) (x2) ((fL u 1 5))) (va_cwS 3 ht (gSS wd_700 wd_701 wd_114 wd_702) rfl rfl rfl hd_yX5_indexOf ⟨Nat.le_of_ble_eq_true rfl, Nat.le_of_ble_eq_true rfl⟩)  rfl hl.1 (Nat.le_of_ble_eq_true rfl) dX5_newName_28 rfl ⟨Nat.zero_le _, Nat.zero_le _⟩ (fun r2 u3 H locs hp4 hO => ?_)
    obtain ⟨hr2, hu3⟩ := hp4
    rw [hu3] at hO
    refine lv_iconst (v := (-1)) hx hb dX5_newName_31 (by decide) ?_
    refine cs_eq (tgt := 41) (X := (r2).toInt) (Y := (-1)) hx hb dX5_newName_32 (by decide) rfl rfl (fun c5 => ?_) (fun c5 => ?_)
    · refine lv_iload_n hx hb dX5_newName_41 rfl (lv_at hl 2 rfl) ?_
      refine lv_aload_n hx hb dX5_newName_42 rfl (lv_at hl 1 rfl) ?_
      refine aLen (v := 8) C hO 17 2 cW_17 rfl rfl dX5_newName_43 ?_
      refine cs_ge (tgt := 57) (X := (x2).toInt) (Y := 8) hx hb dX5_newName_44 (by decide) rfl rfl (fun c6 => ?_) (fun c6 => ?_)
      · refine lv_aload_n hx hb dX5_newName_57 rfl (lv_at hl 0 rfl) ?_
        refine gf_RX5_9 (v := .ref (a 1)) C hO 27 cW_27 rfl dX5_newName_58 ?_
        refine cVv (w := cW cy a) (As := []) (rest := []) C hO (T_X7_advance l D cy a _ (by exact hJ) (by exact hW)) (cwV 0 ht (gV wd_695 wd_541 wd_542 wd_111 wd_543) rfl rfl rfl hd_yX7_advance ⟨Nat.le_of_ble_eq_true rfl, Nat.le_of_ble_eq_true rfl⟩) 1 rfl cW_1 rfl rfl hl.1 (Nat.le_of_ble_eq_true rfl) dX5_newName_61 rfl ⟨Nat.zero_le _, Nat.zero_le _⟩ (fun u8 H locs hp9 hO => ?_)
        have g10 : 0 ≤ (fI u 15 9).toInt ∧ (fI u 15 9).toInt ≤ 8 := by have h := CI_15_9 hJ; exact h
        have g11 : 0 ≤ (fI u 15 10).toInt ∧ (fI u 15 10).toInt ≤ 14 := by have h := CI_15_10 hJ; exact h
        have g12 : 0 ≤ (fI u 15 11).toInt ∧ (fI u 15 11).toInt ≤ 8 := by have h := CI_15_11 hJ; exact h
        have g13 : 0 ≤ (fI u 15 12).toInt ∧ (fI u 15 12).toInt ≤ 6 := by have h := CI_15_12 hJ; exact h
        obtain ⟨hJ, hTu8, hW⟩ := hp9
        have hT : KR u u8 := KR.tr (by exact hT) hTu8
        have hI_15_9_u8 : fI u8 15 9 = (fI u 15 9) := hTu8.2.1
        have hI_15_10_u8 : fI u8 15 10 = (fI u 15 10) := hTu8.2.2.1
        have hI_15_11_u8 : fI u8 15 11 = (fI u 15 11) := hTu8.2.2.2.1
        have hI_15_12_u8 : fI u8 15 12 = (fI u 15 12) := hTu8.2.2.2.2
        refine lv_iconst (v := 1) hx hb dX5_newName_64 (by decide) ?_
        refine hret _ _ _ _ _ _ dX5_newName_65 rfl ?_ hO
        exact ⟨Or.inr rfl, hJ, hT, hW⟩
      · refine lv_aload_n hx hb dX5_newName_47 rfl (lv_at hl 1 rfl) ?_
        refine lv_iload_n hx hb dX5_newName_48 rfl (lv_at hl 2 rfl) ?_
        refine lv_aload_n hx hb dX5_newName_49 rfl (lv_at hl 0 rfl) ?_
        refine gf_RX5_9 (v := .ref (a 1)) C hO 27 cW_27 rfl dX5_newName_50 ?_
        refine gf_RX5_86 (v := .long ((fL u 1 5))) C hO 1 cW_1 rfl dX5_newName_53 ?_
        refine aJs C hO 17 cW_17 (i_in (X := (x2).toInt) rfl (by omega) (by omega)) cW_s17 dX5_newName_56 (fun H locs hO => ?_)
        have hJ := CIsJ hO hJ
        refine lv_aload_n hx hb dX5_newName_57 rfl (lv_at hl 0 rfl) ?_
        refine gf_RX5_9 (v := .ref (a 1)) C hO 27 cW_27 rfl dX5_newName_58 ?_
        refine cVv (w := cW cy a) (As := []) (rest := []) C hO (T_X7_advance l D cy a _ (by exact hJ) (by exact hW)) (cwV 0 ht (gV wd_695 wd_541 wd_542 wd_111 wd_543) rfl rfl rfl hd_yX7_advance ⟨Nat.le_of_ble_eq_true rfl, Nat.le_of_ble_eq_true rfl⟩) 1 rfl cW_1 rfl rfl hl.1 (Nat.le_of_ble_eq_true rfl) dX5_newName_61 rfl ⟨Nat.zero_le _, Nat.zero_le _⟩ (fun u15 H locs hp16 hO => ?_)
        have g17 : 0 ≤ (fI u 15 9).toInt ∧ (fI u 15 9).toInt ≤ 8 := by have h := CI_15_9 hJ; exact h
        have g18 : 0 ≤ (fI u 15 10).toInt ∧ (fI u 15 10).toInt ≤ 14 := by have h := CI_15_10 hJ; exact h
        have g19 : 0 ≤ (fI u 15 11).toInt ∧ (fI u 15 11).toInt ≤ 8 := by have h := CI_15_11 hJ; exact h
        have g20 : 0 ≤ (fI u 15 12).toInt ∧ (fI u 15 12).toInt ≤ 6 := by have h := CI_15_12 hJ; exact h
        obtain ⟨hJ, hTu15, hW⟩ := hp16
        have hT : KR u u15 := KR.tr (by exact hT) hTu15
        have hI_15_9_u15 : fI u15 15 9 = (fI u 15 9) := hTu15.2.1
        have hI_15_10_u15 : fI u15 15 10 = (fI u 15 10) := hTu15.2.2.1
        have hI_15_11_u15 : fI u15 15 11 = (fI u 15 11) := hTu15.2.2.2.1
        have hI_15_12_u15 : fI u15 15 12 = (fI u 15 12) := hTu15.2.2.2.2
        refine lv_iconst (v := 1) hx hb dX5_newName_64 (by decide) ?_
        refine hret _ _ _ _ _ _ dX5_newName_65 rfl ?_ hO
        exact ⟨Or.inr rfl, hJ, hT, hW⟩
    · refine lv_aload_n hx hb dX5_newName_35 rfl (lv_at hl 0 rfl) ?_
      refine lv_iconst (v := 3) hx hb dX5_newName_36 (by decide) ?_
      refine cVi (w := cW cy a) (As := [.int 3]) (rest := []) C hO (T_X5_refuse l D cy a _ (by exact hJ) (by exact hW) (3)) (cwV 1 ht (gV wd_691 wd_693 wd_6 wd_114 wd_694) rfl rfl rfl hd_yX5_refuse ⟨Nat.le_of_ble_eq_true rfl, Nat.le_of_ble_eq_true rfl⟩) 27 rfl cW_27 rfl rfl hl.1 (Nat.le_of_ble_eq_true rfl) dX5_newName_37 rfl ⟨Nat.zero_le _, Nat.zero_le _⟩ (fun r21 u22 H locs hp23 hO => ?_)
      have g24 : 0 ≤ (fI u 15 9).toInt ∧ (fI u 15 9).toInt ≤ 8 := by have h := CI_15_9 hJ; exact h
      have g25 : 0 ≤ (fI u 15 10).toInt ∧ (fI u 15 10).toInt ≤ 14 := by have h := CI_15_10 hJ; exact h
      have g26 : 0 ≤ (fI u 15 11).toInt ∧ (fI u 15 11).toInt ≤ 8 := by have h := CI_15_11 hJ; exact h
      have g27 : 0 ≤ (fI u 15 12).toInt ∧ (fI u 15 12).toInt ≤ 6 := by have h := CI_15_12 hJ; exact h
      obtain ⟨hr21, hJ, hTu22, hW⟩ := hp23
      subst hr21
      have hT : KR u u22 := KR.tr (by exact hT) hTu22
      have hI_15_9_u22 : fI u22 15 9 = (fI u 15 9) := hTu22.2.1
      have hI_15_10_u22 : fI u22 15 10 = (fI u 15 10) := hTu22.2.2.1
      have hI_15_11_u22 : fI u22 15 11 = (fI u 15 11) := hTu22.2.2.2.1
      have hI_15_12_u22 : fI u22 15 12 = (fI u 15 12) := hTu22.2.2.2.2
      refine hret _ _ _ _ _ _ dX5_newName_40 rfl ?_ hO
      exact ⟨Or.inl rfl, hJ, hT, hW⟩
  · refine lv_aload_n hx hb dX5_newName_13 rfl (lv_at hl 0 rfl) ?_
    refine lv_iconst (v := 2) hx hb dX5_newName_14 (by decide) ?_
    refine cVi (w := cW cy a) (As := [.int 2]) (rest := []) C hO (T_X5_refuse l D cy a _ (by exact hJ) (by exact hW) (2)) (cwV 1 ht (gV wd_691 wd_693 wd_6 wd_114 wd_694) rfl rfl rfl hd_yX5_refuse ⟨Nat.le_of_ble_eq_true rfl, Nat.le_of_ble_eq_true rfl⟩) 27 rfl cW_27 rfl rfl hl.1 (Nat.le_of_ble_eq_true rfl) dX5_newName_15 rfl ⟨Nat.zero_le _, Nat.zero_le _⟩ (fun r28 u29 H locs hp30 hO => ?_)
    have g31 : 0 ≤ (fI u 15 9).toInt ∧ (fI u 15 9).toInt ≤ 8 := by have h := CI_15_9 hJ; exact h
    have g32 : 0 ≤ (fI u 15 10).toInt ∧ (fI u 15 10).toInt ≤ 14 := by have h := CI_15_10 hJ; exact h
    have g33 : 0 ≤ (fI u 15 11).toInt ∧ (fI u 15 11).toInt ≤ 8 := by have h := CI_15_11 hJ; exact h
    have g34 : 0 ≤ (fI u 15 12).toInt ∧ (fI u 15 12).toInt ≤ 6 := by have h := CI_15_12 hJ; exact h
    obtain ⟨hr28, hJ, hTu29, hW⟩ := hp30
    subst hr28
    have hT : KR u u29 := KR.tr (by exact hT) hTu29
    have hI_15_9_u29 : fI u29 15 9 = (fI u 15 9) := hTu29.2.1
    have hI_15_10_u29 : fI u29 15 10 = (fI u 15 10) := hTu29.2.2.1
    have hI_15_11_u29 : fI u29 15 11 = (fI u 15 11) := hTu29.2.2.2.1
    have hI_15_12_u29 : fI u29 15 12 = (fI u 15 12) := hTu29.2.2.2.2
    refine hret _ _ _ _ _ _ dX5_newName_18 rfl ?_ hO
    exact ⟨Or.inl rfl, hJ, hT, hW⟩
set_option maxHeartbeats 4000000 in
set_option maxRecDepth 100000 in
theorem T_X5_indexOf_18 (l : Launch) (D : va_G) (cy : Nat → ClassId) (a : Nat → Nat) (u : St) (hJ : CI a u) (x2 : Int32) (x3 : Int64)  : Mi l D cy (cW cy a) yX5_indexOf (.code yX5_indexOf cX5_indexOf 5 (some .int)) (rmo 0 0) [.ref (a 18), .int x2, .long x3] u (fun (r : Int32) (u' : St) => ((-1) ≤ r.toInt ∧ r.toInt ≤ 7) ∧ (u' = u)) := by
  refine Mi.of (own := RX5) rfl (by decide) (Nat.le_of_ble_eq_true rfl) ?_
  have hT : KT u u := KT.rf
  intro p e s m below meth c A Q ls C hret hO hl
  obtain ⟨hx, hb, hml, hown, ht, hK, hA⟩ := id C
  have hl : lv_has ls 5 [(0, .ref (a 18)), (1, .int x2), (2, .long x3)] := hl
  refine lv_iconst (v := 0) hx hb dX5_indexOf_0 (by decide) ?_
  refine lv_istore (lv' := [(4, .int 0), (0, .ref (a 18)), (1, .int x2), (2, .long x3)]) hx hb dX5_indexOf_1 hl (by decide) rfl (fun ls hl => ?_)
  have LP_3_k1 : ∀ (n : Nat) (H : Heap) (locs : List Loc) (ls : Array Slot) (i_k1 : Int32), Wo D A (cW cy a u) s.heap H locs → lv_has ls 5 [(4, .int i_k1), (0, .ref (a 18)), (1, .int x2), (2, .long x3)] → 0 ≤ i_k1.toInt ∧ i_k1.toInt ≤ 8 → 8 - i_k1.toInt < (n : Int) → W p l e (rmo 0 0) s m [.ref (a 18), .int x2, .long x3].toArray below meth c H locs 0 0 Q (F0 m 3 ls []) := by
    intro n
    induction n with
    | zero =>
      intro H locs ls i_k1 hO hl iv0_k1 hm_k1
      exact absurd hm_k1 (by omega)
    | succ n ih_k1 =>
      intro H locs ls i_k1 hO hl iv0_k1 hm_k1
      refine lv_iload hx hb dX5_indexOf_3 (lv_at hl 0 rfl) ?_
      refine lv_iload_n hx hb dX5_indexOf_5 rfl (lv_at hl 2 rfl) ?_
      refine cs_ge (tgt := 34) (X := (i_k1).toInt) (Y := (x2).toInt) hx hb dX5_indexOf_6 (by decide) rfl rfl (fun c2 => ?_) (fun c2 => ?_)
      · refine lv_iconst (v := (-1)) hx hb dX5_indexOf_34 (by decide) ?_
        refine hret _ _ _ _ _ _ dX5_indexOf_35 rfl ?_ hO
        exact ⟨(by first | decide | omega), rfl⟩
      · refine lv_iload hx hb dX5_indexOf_9 (lv_at hl 0 rfl) ?_
        refine lv_aload_n hx hb dX5_indexOf_11 rfl (lv_at hl 1 rfl) ?_
        refine aLen (v := 6) C hO 18 2 cW_18 rfl rfl dX5_indexOf_12 ?_
        refine cs_ge (tgt := 34) (X := (i_k1).toInt) (Y := 6) hx hb dX5_indexOf_13 (by decide) rfl rfl (fun c3 => ?_) (fun c3 => ?_)
        · refine lv_iconst (v := (-1)) hx hb dX5_indexOf_34 (by decide) ?_
          refine hret _ _ _ _ _ _ dX5_indexOf_35 rfl ?_ hO
          exact ⟨(by first | decide | omega), rfl⟩
        · refine lv_aload_n hx hb dX5_indexOf_16 rfl (lv_at hl 1 rfl) ?_
          refine lv_iload hx hb dX5_indexOf_17 (lv_at hl 0 rfl) ?_
          refine aJ C hO 18 cW_18 (i_in (X := (i_k1).toInt) rfl (by omega) (by omega)) dX5_indexOf_19 ?_
          refine lv_topl (fun w4 ew4 => ?_)
          refine lv_lload_n hx hb dX5_indexOf_20 rfl (lv_at hl 3 rfl) ?_
          refine W.lcmp hx hb dX5_indexOf_21 ?_
          refine lv_topi (fun z5 ez5 => ?_)
          refine bs_ne (tgt := 28) (X := (z5).toInt) hx hb dX5_indexOf_22 (by decide) rfl (fun c6 => ?_) (fun c6 => ?_)
          · have e7 : ((i_k1 + 1)).toInt = (i_k1).toInt + 1 := i_add rfl rfl (by omega)
            refine lv_iinc (v := (i_k1 + 1)) (lv' := [(4, .int (i_k1 + 1)), (0, .ref (a 18)), (1, .int x2), (2, .long x3)]) hx hb dX5_indexOf_28 hl (k := 0) rfl rfl (by decide) rfl (fun ls hl => ?_)
            refine lv_goto (tgt := 3) hx hb dX5_indexOf_31 (by decide) ?_
            exact ih_k1 _ _ _ ((i_k1 + 1)) hO (lv_sub hl [0, 1, 2, 3] rfl) (by first | decide | omega) (by first | decide | omega)
          · refine lv_iload hx hb dX5_indexOf_25 (lv_at hl 0 rfl) ?_
            refine hret _ _ _ _ _ _ dX5_indexOf_27 rfl ?_ hO
            exact ⟨(by first | decide | omega), rfl⟩
  exact LP_3_k1 4000 _ _ _ (0) hO (lv_sub hl [0, 1, 2, 3] rfl) (by first | decide | omega) (by first | decide | omega)
set_option maxHeartbeats 4000000 in
set_option maxRecDepth 100000 in
theorem T_X5_newName_18 (l : Launch) (D : va_G) (cy : Nat → ClassId) (a : Nat → Nat) (u : St) (hJ : CI a u) (hW : fR u 2 = a 15) (x2 : Int32) (hx_x2 : 0 ≤ x2.toInt ∧ x2.toInt ≤ 14) : Mi l D cy (cW cy a) yX5_newName (.code yX5_newName cX5_newName 3 (some .boolean)) (rmo 6 131) [.ref (a 27), .ref (a 18), .int x2] u (fun (r : Int32) (u' : St) => (r = 0 ∨ r = 1) ∧ (CI a u') ∧ (KR u u') ∧ (fR u' 2 = a 15)) := by
  refine Mi.of (own := RX5) rfl (by decide) (Nat.le_of_ble_eq_true rfl) ?_
  have hT : KR u u := KR.rf
  intro p e s m below meth c A Q ls C hret hO hl
  obtain ⟨hx, hb, hml, hown, ht, hK, hA⟩ := id C
  have hl : lv_has ls 3 [(0, .ref (a 27)), (1, .ref (a 18)), (2, .int x2)] := hl
  refine lv_aload_n hx hb dX5_newName_0 rfl (lv_at hl 0 rfl) ?_
  refine gf_RX5_9 (v := .ref (a 1)) C hO 27 cW_27 rfl dX5_newName_1 ?_
  refine gf_RX5_36 (v := .int (fI u 1 4)) C hO 1 cW_1 rfl dX5_newName_4 ?_
  refine lv_sipush (v := 200) hx hb dX5_newName_7 (by decide) ?_
  refine cs_eq (tgt := 19) (X := ((fI u 1 4)).toInt) (Y := 200) hx hb dX5_newName_10 (by decide) rfl rfl (fun c1 => ?_) (fun c1 => ?_)
  · refine lv_aload_n hx hb dX5_newName_19 rfl (lv_at hl 1 rfl) ?_
    refine lv_iload_n hx hb dX5_newName_20 rfl (lv_at hl 2 rfl) ?_
    refine lv_aload_n hx hb dX5_newName_21 rfl (lv_at hl 0 rfl) ?_
    refine gf_RX5_9 (v := .ref (a 1)) C hO 27 cW_27 rfl dX5_newName_22 ?_
    refine gf_RX5_86 (v := .long ((fL u 1 5))) C hO 1 cW_1 rfl dX5_newName_25 ?_
    refine cSi (w := cW cy a) (As := [.ref (a 18), .int x2, .long ((fL u 1 5))]) (rest := []) C hO (T_X5_indexOf_18 l D cy a _ (by exact hJ) (x2) ((fL u 1 5))) (va_cwS 3 ht (gSS wd_700 wd_701 wd_114 wd_702) rfl rfl rfl hd_yX5_indexOf ⟨Nat.le_of_ble_eq_true rfl, Nat.le_of_ble_eq_true rfl⟩)  rfl hl.1 (Nat.le_of_ble_eq_true rfl) dX5_newName_28 rfl ⟨Nat.zero_le _, Nat.zero_le _⟩ (fun r2 u3 H locs hp4 hO => ?_)
    obtain ⟨hr2, hu3⟩ := hp4
    rw [hu3] at hO
    refine lv_iconst (v := (-1)) hx hb dX5_newName_31 (by decide) ?_
    refine cs_eq (tgt := 41) (X := (r2).toInt) (Y := (-1)) hx hb dX5_newName_32 (by decide) rfl rfl (fun c5 => ?_) (fun c5 => ?_)
    · refine lv_iload_n hx hb dX5_newName_41 rfl (lv_at hl 2 rfl) ?_
      refine lv_aload_n hx hb dX5_newName_42 rfl (lv_at hl 1 rfl) ?_
      refine aLen (v := 6) C hO 18 2 cW_18 rfl rfl dX5_newName_43 ?_
      refine cs_ge (tgt := 57) (X := (x2).toInt) (Y := 6) hx hb dX5_newName_44 (by decide) rfl rfl (fun c6 => ?_) (fun c6 => ?_)
      · refine lv_aload_n hx hb dX5_newName_57 rfl (lv_at hl 0 rfl) ?_
        refine gf_RX5_9 (v := .ref (a 1)) C hO 27 cW_27 rfl dX5_newName_58 ?_
        refine cVv (w := cW cy a) (As := []) (rest := []) C hO (T_X7_advance l D cy a _ (by exact hJ) (by exact hW)) (cwV 0 ht (gV wd_695 wd_541 wd_542 wd_111 wd_543) rfl rfl rfl hd_yX7_advance ⟨Nat.le_of_ble_eq_true rfl, Nat.le_of_ble_eq_true rfl⟩) 1 rfl cW_1 rfl rfl hl.1 (Nat.le_of_ble_eq_true rfl) dX5_newName_61 rfl ⟨Nat.zero_le _, Nat.zero_le _⟩ (fun u8 H locs hp9 hO => ?_)
        have g10 : 0 ≤ (fI u 15 9).toInt ∧ (fI u 15 9).toInt ≤ 8 := by have h := CI_15_9 hJ; exact h
        have g11 : 0 ≤ (fI u 15 10).toInt ∧ (fI u 15 10).toInt ≤ 14 := by have h := CI_15_10 hJ; exact h
        have g12 : 0 ≤ (fI u 15 11).toInt ∧ (fI u 15 11).toInt ≤ 8 := by have h := CI_15_11 hJ; exact h
        have g13 : 0 ≤ (fI u 15 12).toInt ∧ (fI u 15 12).toInt ≤ 6 := by have h := CI_15_12 hJ; exact h
        obtain ⟨hJ, hTu8, hW⟩ := hp9
        have hT : KR u u8 := KR.tr (by exact hT) hTu8
        have hI_15_9_u8 : fI u8 15 9 = (fI u 15 9) := hTu8.2.1
        have hI_15_10_u8 : fI u8 15 10 = (fI u 15 10) := hTu8.2.2.1
        have hI_15_11_u8 : fI u8 15 11 = (fI u 15 11) := hTu8.2.2.2.1
        have hI_15_12_u8 : fI u8 15 12 = (fI u 15 12) := hTu8.2.2.2.2
        refine lv_iconst (v := 1) hx hb dX5_newName_64 (by decide) ?_
        refine hret _ _ _ _ _ _ dX5_newName_65 rfl ?_ hO
        exact ⟨Or.inr rfl, hJ, hT, hW⟩
      · refine lv_aload_n hx hb dX5_newName_47 rfl (lv_at hl 1 rfl) ?_
        refine lv_iload_n hx hb dX5_newName_48 rfl (lv_at hl 2 rfl) ?_
        refine lv_aload_n hx hb dX5_newName_49 rfl (lv_at hl 0 rfl) ?_
        refine gf_RX5_9 (v := .ref (a 1)) C hO 27 cW_27 rfl dX5_newName_50 ?_
        refine gf_RX5_86 (v := .long ((fL u 1 5))) C hO 1 cW_1 rfl dX5_newName_53 ?_
        refine aJs C hO 18 cW_18 (i_in (X := (x2).toInt) rfl (by omega) (by omega)) cW_s18 dX5_newName_56 (fun H locs hO => ?_)
        have hJ := CIsJ hO hJ
        refine lv_aload_n hx hb dX5_newName_57 rfl (lv_at hl 0 rfl) ?_
        refine gf_RX5_9 (v := .ref (a 1)) C hO 27 cW_27 rfl dX5_newName_58 ?_
        refine cVv (w := cW cy a) (As := []) (rest := []) C hO (T_X7_advance l D cy a _ (by exact hJ) (by exact hW)) (cwV 0 ht (gV wd_695 wd_541 wd_542 wd_111 wd_543) rfl rfl rfl hd_yX7_advance ⟨Nat.le_of_ble_eq_true rfl, Nat.le_of_ble_eq_true rfl⟩) 1 rfl cW_1 rfl rfl hl.1 (Nat.le_of_ble_eq_true rfl) dX5_newName_61 rfl ⟨Nat.zero_le _, Nat.zero_le _⟩ (fun u15 H locs hp16 hO => ?_)
        have g17 : 0 ≤ (fI u 15 9).toInt ∧ (fI u 15 9).toInt ≤ 8 := by have h := CI_15_9 hJ; exact h
        have g18 : 0 ≤ (fI u 15 10).toInt ∧ (fI u 15 10).toInt ≤ 14 := by have h := CI_15_10 hJ; exact h
        have g19 : 0 ≤ (fI u 15 11).toInt ∧ (fI u 15 11).toInt ≤ 8 := by have h := CI_15_11 hJ; exact h
        have g20 : 0 ≤ (fI u 15 12).toInt ∧ (fI u 15 12).toInt ≤ 6 := by have h := CI_15_12 hJ; exact h
        obtain ⟨hJ, hTu15, hW⟩ := hp16
        have hT : KR u u15 := KR.tr (by exact hT) hTu15
        have hI_15_9_u15 : fI u15 15 9 = (fI u 15 9) := hTu15.2.1
        have hI_15_10_u15 : fI u15 15 10 = (fI u 15 10) := hTu15.2.2.1
        have hI_15_11_u15 : fI u15 15 11 = (fI u 15 11) := hTu15.2.2.2.1
        have hI_15_12_u15 : fI u15 15 12 = (fI u 15 12) := hTu15.2.2.2.2
        refine lv_iconst (v := 1) hx hb dX5_newName_64 (by decide) ?_
        refine hret _ _ _ _ _ _ dX5_newName_65 rfl ?_ hO
        exact ⟨Or.inr rfl, hJ, hT, hW⟩
    · refine lv_aload_n hx hb dX5_newName_35 rfl (lv_at hl 0 rfl) ?_
      refine lv_iconst (v := 3) hx hb dX5_newName_36 (by decide) ?_
      refine cVi (w := cW cy a) (As := [.int 3]) (rest := []) C hO (T_X5_refuse l D cy a _ (by exact hJ) (by exact hW) (3)) (cwV 1 ht (gV wd_691 wd_693 wd_6 wd_114 wd_694) rfl rfl rfl hd_yX5_refuse ⟨Nat.le_of_ble_eq_true rfl, Nat.le_of_ble_eq_true rfl⟩) 27 rfl cW_27 rfl rfl hl.1 (Nat.le_of_ble_eq_true rfl) dX5_newName_37 rfl ⟨Nat.zero_le _, Nat.zero_le _⟩ (fun r21 u22 H locs hp23 hO => ?_)
      have g24 : 0 ≤ (fI u 15 9).toInt ∧ (fI u 15 9).toInt ≤ 8 := by have h := CI_15_9 hJ; exact h
      have g25 : 0 ≤ (fI u 15 10).toInt ∧ (fI u 15 10).toInt ≤ 14 := by have h := CI_15_10 hJ; exact h
      have g26 : 0 ≤ (fI u 15 11).toInt ∧ (fI u 15 11).toInt ≤ 8 := by have h := CI_15_11 hJ; exact h
      have g27 : 0 ≤ (fI u 15 12).toInt ∧ (fI u 15 12).toInt ≤ 6 := by have h := CI_15_12 hJ; exact h
      obtain ⟨hr21, hJ, hTu22, hW⟩ := hp23
      subst hr21
      have hT : KR u u22 := KR.tr (by exact hT) hTu22
      have hI_15_9_u22 : fI u22 15 9 = (fI u 15 9) := hTu22.2.1
      have hI_15_10_u22 : fI u22 15 10 = (fI u 15 10) := hTu22.2.2.1
      have hI_15_11_u22 : fI u22 15 11 = (fI u 15 11) := hTu22.2.2.2.1
      have hI_15_12_u22 : fI u22 15 12 = (fI u 15 12) := hTu22.2.2.2.2
      refine hret _ _ _ _ _ _ dX5_newName_40 rfl ?_ hO
      exact ⟨Or.inl rfl, hJ, hT, hW⟩
  · refine lv_aload_n hx hb dX5_newName_13 rfl (lv_at hl 0 rfl) ?_
    refine lv_iconst (v := 2) hx hb dX5_newName_14 (by decide) ?_
    refine cVi (w := cW cy a) (As := [.int 2]) (rest := []) C hO (T_X5_refuse l D cy a _ (by exact hJ) (by exact hW) (2)) (cwV 1 ht (gV wd_691 wd_693 wd_6 wd_114 wd_694) rfl rfl rfl hd_yX5_refuse ⟨Nat.le_of_ble_eq_true rfl, Nat.le_of_ble_eq_true rfl⟩) 27 rfl cW_27 rfl rfl hl.1 (Nat.le_of_ble_eq_true rfl) dX5_newName_15 rfl ⟨Nat.zero_le _, Nat.zero_le _⟩ (fun r28 u29 H locs hp30 hO => ?_)
    have g31 : 0 ≤ (fI u 15 9).toInt ∧ (fI u 15 9).toInt ≤ 8 := by have h := CI_15_9 hJ; exact h
    have g32 : 0 ≤ (fI u 15 10).toInt ∧ (fI u 15 10).toInt ≤ 14 := by have h := CI_15_10 hJ; exact h
    have g33 : 0 ≤ (fI u 15 11).toInt ∧ (fI u 15 11).toInt ≤ 8 := by have h := CI_15_11 hJ; exact h
    have g34 : 0 ≤ (fI u 15 12).toInt ∧ (fI u 15 12).toInt ≤ 6 := by have h := CI_15_12 hJ; exact h
    obtain ⟨hr28, hJ, hTu29, hW⟩ := hp30
    subst hr28
    have hT : KR u u29 := KR.tr (by exact hT) hTu29
    have hI_15_9_u29 : fI u29 15 9 = (fI u 15 9) := hTu29.2.1
    have hI_15_10_u29 : fI u29 15 10 = (fI u 15 10) := hTu29.2.2.1
    have hI_15_11_u29 : fI u29 15 11 = (fI u 15 11) := hTu29.2.2.2.1
    have hI_15_12_u29 : fI u29 15 12 = (fI u 15 12) := hTu29.2.2.2.2
    refine hret _ _ _ _ _ _ dX5_newName_18 rfl ?_ hO
    exact ⟨Or.inl rfl, hJ, hT, hW⟩
theorem dX5_knownName_0 : decode cX5_knownName 0 = .ok (.iconst (-1), 1) := by decide +kernel
theorem dX5_knownName_1 : decode cX5_knownName 1 = .ok (.istore_n 3, 1) := by decide +kernel
theorem dX5_knownName_2 : decode cX5_knownName 2 = .ok (.aload_n 0, 1) := by decide +kernel
theorem dX5_knownName_3 : decode cX5_knownName 3 = .ok (.getfield 9, 3) := by decide +kernel
theorem dX5_knownName_6 : decode cX5_knownName 6 = .ok (.getfield 36, 3) := by decide +kernel
theorem dX5_knownName_9 : decode cX5_knownName 9 = .ok (.sipush 200, 3) := by decide +kernel
theorem dX5_knownName_12 : decode cX5_knownName 12 = .ok (.if_icmp .eq 12, 3) := by decide +kernel
theorem dX5_knownName_15 : decode cX5_knownName 15 = .ok (.aload_n 0, 1) := by decide +kernel
theorem dX5_knownName_16 : decode cX5_knownName 16 = .ok (.iconst 2, 1) := by decide +kernel
theorem dX5_knownName_17 : decode cX5_knownName 17 = .ok (.invokevirtual 74, 3) := by decide +kernel
theorem dX5_knownName_20 : decode cX5_knownName 20 = .ok (.pop, 1) := by decide +kernel
theorem dX5_knownName_21 : decode cX5_knownName 21 = .ok (.goto 27, 3) := by decide +kernel
theorem dX5_knownName_24 : decode cX5_knownName 24 = .ok (.aload_n 1, 1) := by decide +kernel
theorem dX5_knownName_25 : decode cX5_knownName 25 = .ok (.iload_n 2, 1) := by decide +kernel
theorem dX5_knownName_26 : decode cX5_knownName 26 = .ok (.aload_n 0, 1) := by decide +kernel
theorem dX5_knownName_27 : decode cX5_knownName 27 = .ok (.getfield 9, 3) := by decide +kernel
theorem dX5_knownName_30 : decode cX5_knownName 30 = .ok (.getfield 86, 3) := by decide +kernel
theorem dX5_knownName_33 : decode cX5_knownName 33 = .ok (.invokestatic 90, 3) := by decide +kernel
theorem dX5_knownName_36 : decode cX5_knownName 36 = .ok (.istore_n 3, 1) := by decide +kernel
theorem dX5_knownName_37 : decode cX5_knownName 37 = .ok (.iload_n 3, 1) := by decide +kernel
theorem dX5_knownName_38 : decode cX5_knownName 38 = .ok (.iconst (-1), 1) := by decide +kernel
theorem dX5_knownName_39 : decode cX5_knownName 39 = .ok (.if_icmp .ne 9, 3) := by decide +kernel
theorem dX5_knownName_42 : decode cX5_knownName 42 = .ok (.aload_n 0, 1) := by decide +kernel
theorem dX5_knownName_43 : decode cX5_knownName 43 = .ok (.iconst 5, 1) := by decide +kernel
theorem dX5_knownName_44 : decode cX5_knownName 44 = .ok (.invokevirtual 74, 3) := by decide +kernel
theorem dX5_knownName_47 : decode cX5_knownName 47 = .ok (.pop, 1) := by decide +kernel
theorem dX5_knownName_48 : decode cX5_knownName 48 = .ok (.iload_n 3, 1) := by decide +kernel
theorem dX5_knownName_49 : decode cX5_knownName 49 = .ok (.ireturn, 1) := by decide +kernel
theorem wd_710 : (Cond.code ⟨"WebCourt$Reader", "knownName", "([JI)I"⟩ prog_7_method_9_code (4 : Nat) (Option.some FieldType.int)) ∈ gtb := gtb_c3 121 (by decide +kernel) rfl
set_option maxHeartbeats 4000000 in
set_option maxRecDepth 100000 in
theorem T_X5_knownName_16 (l : Launch) (D : va_G) (cy : Nat → ClassId) (a : Nat → Nat) (u : St) (hJ : CI a u) (hW : fR u 2 = a 15) (x2 : Int32)  : Mi l D cy (cW cy a) yX5_knownName (.code yX5_knownName cX5_knownName 4 (some .int)) (rmo 1 24) [.ref (a 27), .ref (a 16), .int x2] u (fun (r : Int32) (u' : St) => ((-1) ≤ r.toInt ∧ r.toInt ≤ 7) ∧ (CI a u') ∧ (KR u u') ∧ (fR u' 2 = a 15)) := by
  refine Mi.of (own := RX5) rfl (by decide) (Nat.le_of_ble_eq_true rfl) ?_
  have hT : KR u u := KR.rf
  intro p e s m below meth c A Q ls C hret hO hl
  obtain ⟨hx, hb, hml, hown, ht, hK, hA⟩ := id C
  have hl : lv_has ls 4 [(0, .ref (a 27)), (1, .ref (a 16)), (2, .int x2)] := hl
  refine lv_iconst (v := (-1)) hx hb dX5_knownName_0 (by decide) ?_
  refine lv_istore_n (lv' := [(3, .int (-1)), (0, .ref (a 27)), (1, .ref (a 16)), (2, .int x2)]) hx hb dX5_knownName_1 rfl hl (by decide) rfl (fun ls hl => ?_)
  refine lv_aload_n hx hb dX5_knownName_2 rfl (lv_at hl 1 rfl) ?_
  refine gf_RX5_9 (v := .ref (a 1)) C hO 27 cW_27 rfl dX5_knownName_3 ?_
  refine gf_RX5_36 (v := .int (fI u 1 4)) C hO 1 cW_1 rfl dX5_knownName_6 ?_
  refine lv_sipush (v := 200) hx hb dX5_knownName_9 (by decide) ?_
  refine cs_eq (tgt := 24) (X := ((fI u 1 4)).toInt) (Y := 200) hx hb dX5_knownName_12 (by decide) rfl rfl (fun c1 => ?_) (fun c1 => ?_)
  · refine lv_aload_n hx hb dX5_knownName_24 rfl (lv_at hl 2 rfl) ?_
    refine lv_iload_n hx hb dX5_knownName_25 rfl (lv_at hl 3 rfl) ?_
    refine lv_aload_n hx hb dX5_knownName_26 rfl (lv_at hl 1 rfl) ?_
    refine gf_RX5_9 (v := .ref (a 1)) C hO 27 cW_27 rfl dX5_knownName_27 ?_
    refine gf_RX5_86 (v := .long ((fL u 1 5))) C hO 1 cW_1 rfl dX5_knownName_30 ?_
    refine cSi (w := cW cy a) (As := [.ref (a 16), .int x2, .long ((fL u 1 5))]) (rest := []) C hO (T_X5_indexOf_16 l D cy a _ (by exact hJ) (x2) ((fL u 1 5))) (va_cwS 3 ht (gSS wd_700 wd_701 wd_114 wd_702) rfl rfl rfl hd_yX5_indexOf ⟨Nat.le_of_ble_eq_true rfl, Nat.le_of_ble_eq_true rfl⟩)  rfl hl.1 (Nat.le_of_ble_eq_true rfl) dX5_knownName_33 rfl ⟨Nat.zero_le _, Nat.zero_le _⟩ (fun r2 u3 H locs hp4 hO => ?_)
    obtain ⟨hr2, hu3⟩ := hp4
    rw [hu3] at hO
    refine lv_istore_n (lv' := [(3, .int r2), (0, .ref (a 27)), (1, .ref (a 16)), (2, .int x2)]) hx hb dX5_knownName_36 rfl hl (by decide) rfl (fun ls hl => ?_)
    refine lv_iload_n hx hb dX5_knownName_37 rfl (lv_at hl 0 rfl) ?_
    refine lv_iconst (v := (-1)) hx hb dX5_knownName_38 (by decide) ?_
    refine cs_ne (tgt := 48) (X := (r2).toInt) (Y := (-1)) hx hb dX5_knownName_39 (by decide) rfl rfl (fun c5 => ?_) (fun c5 => ?_)
    · refine lv_iload_n hx hb dX5_knownName_48 rfl (lv_at hl 0 rfl) ?_
      refine hret _ _ _ _ _ _ dX5_knownName_49 rfl ?_ hO
      exact ⟨(by first | decide | omega), hJ, hT, hW⟩
    · refine lv_aload_n hx hb dX5_knownName_42 rfl (lv_at hl 1 rfl) ?_
      refine lv_iconst (v := 5) hx hb dX5_knownName_43 (by decide) ?_
      refine cVi (w := cW cy a) (As := [.int 5]) (rest := []) C hO (T_X5_refuse l D cy a _ (by exact hJ) (by exact hW) (5)) (cwV 1 ht (gV wd_691 wd_693 wd_6 wd_114 wd_694) rfl rfl rfl hd_yX5_refuse ⟨Nat.le_of_ble_eq_true rfl, Nat.le_of_ble_eq_true rfl⟩) 27 rfl cW_27 rfl rfl hl.1 (Nat.le_of_ble_eq_true rfl) dX5_knownName_44 rfl ⟨Nat.zero_le _, Nat.zero_le _⟩ (fun r6 u7 H locs hp8 hO => ?_)
      have g9 : 0 ≤ (fI u 15 9).toInt ∧ (fI u 15 9).toInt ≤ 8 := by have h := CI_15_9 hJ; exact h
      have g10 : 0 ≤ (fI u 15 10).toInt ∧ (fI u 15 10).toInt ≤ 14 := by have h := CI_15_10 hJ; exact h
      have g11 : 0 ≤ (fI u 15 11).toInt ∧ (fI u 15 11).toInt ≤ 8 := by have h := CI_15_11 hJ; exact h
      have g12 : 0 ≤ (fI u 15 12).toInt ∧ (fI u 15 12).toInt ≤ 6 := by have h := CI_15_12 hJ; exact h
      obtain ⟨hr6, hJ, hTu7, hW⟩ := hp8
      subst hr6
      have hT : KR u u7 := KR.tr (by exact hT) hTu7
      have hI_15_9_u7 : fI u7 15 9 = (fI u 15 9) := hTu7.2.1
      have hI_15_10_u7 : fI u7 15 10 = (fI u 15 10) := hTu7.2.2.1
      have hI_15_11_u7 : fI u7 15 11 = (fI u 15 11) := hTu7.2.2.2.1
      have hI_15_12_u7 : fI u7 15 12 = (fI u 15 12) := hTu7.2.2.2.2
      refine lv_pop hx hb dX5_knownName_47 rfl ?_
      refine lv_iload_n hx hb dX5_knownName_48 rfl (lv_at hl 0 rfl) ?_
      refine hret _ _ _ _ _ _ dX5_knownName_49 rfl ?_ hO
      exact ⟨(by first | decide | omega), hJ, hT, hW⟩
  · refine lv_aload_n hx hb dX5_knownName_15 rfl (lv_at hl 1 rfl) ?_
    refine lv_iconst (v := 2) hx hb dX5_knownName_16 (by decide) ?_
    refine cVi (w := cW cy a) (As := [.int 2]) (rest := []) C hO (T_X5_refuse l D cy a _ (by exact hJ) (by exact hW) (2)) (cwV 1 ht (gV wd_691 wd_693 wd_6 wd_114 wd_694) rfl rfl rfl hd_yX5_refuse ⟨Nat.le_of_ble_eq_true rfl, Nat.le_of_ble_eq_true rfl⟩) 27 rfl cW_27 rfl rfl hl.1 (Nat.le_of_ble_eq_true rfl) dX5_knownName_17 rfl ⟨Nat.zero_le _, Nat.zero_le _⟩ (fun r13 u14 H locs hp15 hO => ?_)
    have g16 : 0 ≤ (fI u 15 9).toInt ∧ (fI u 15 9).toInt ≤ 8 := by have h := CI_15_9 hJ; exact h
    have g17 : 0 ≤ (fI u 15 10).toInt ∧ (fI u 15 10).toInt ≤ 14 := by have h := CI_15_10 hJ; exact h
    have g18 : 0 ≤ (fI u 15 11).toInt ∧ (fI u 15 11).toInt ≤ 8 := by have h := CI_15_11 hJ; exact h
    have g19 : 0 ≤ (fI u 15 12).toInt ∧ (fI u 15 12).toInt ≤ 6 := by have h := CI_15_12 hJ; exact h
    obtain ⟨hr13, hJ, hTu14, hW⟩ := hp15
    subst hr13
    have hT : KR u u14 := KR.tr (by exact hT) hTu14
    have hI_15_9_u14 : fI u14 15 9 = (fI u 15 9) := hTu14.2.1
    have hI_15_10_u14 : fI u14 15 10 = (fI u 15 10) := hTu14.2.2.1
    have hI_15_11_u14 : fI u14 15 11 = (fI u 15 11) := hTu14.2.2.2.1
    have hI_15_12_u14 : fI u14 15 12 = (fI u 15 12) := hTu14.2.2.2.2
    refine lv_pop hx hb dX5_knownName_20 rfl ?_
    refine lv_goto (tgt := 48) hx hb dX5_knownName_21 (by decide) ?_
    refine lv_iload_n hx hb dX5_knownName_48 rfl (lv_at hl 0 rfl) ?_
    refine hret _ _ _ _ _ _ dX5_knownName_49 rfl ?_ hO
    exact ⟨(by first | decide | omega), hJ, hT, hW⟩
set_option maxHeartbeats 4000000 in
set_option maxRecDepth 100000 in
theorem T_X5_knownName_17 (l : Launch) (D : va_G) (cy : Nat → ClassId) (a : Nat → Nat) (u : St) (hJ : CI a u) (hW : fR u 2 = a 15) (x2 : Int32)  : Mi l D cy (cW cy a) yX5_knownName (.code yX5_knownName cX5_knownName 4 (some .int)) (rmo 1 24) [.ref (a 27), .ref (a 17), .int x2] u (fun (r : Int32) (u' : St) => ((-1) ≤ r.toInt ∧ r.toInt ≤ 7) ∧ (CI a u') ∧ (KR u u') ∧ (fR u' 2 = a 15)) := by
  refine Mi.of (own := RX5) rfl (by decide) (Nat.le_of_ble_eq_true rfl) ?_
  have hT : KR u u := KR.rf
  intro p e s m below meth c A Q ls C hret hO hl
  obtain ⟨hx, hb, hml, hown, ht, hK, hA⟩ := id C
  have hl : lv_has ls 4 [(0, .ref (a 27)), (1, .ref (a 17)), (2, .int x2)] := hl
  refine lv_iconst (v := (-1)) hx hb dX5_knownName_0 (by decide) ?_
  refine lv_istore_n (lv' := [(3, .int (-1)), (0, .ref (a 27)), (1, .ref (a 17)), (2, .int x2)]) hx hb dX5_knownName_1 rfl hl (by decide) rfl (fun ls hl => ?_)
  refine lv_aload_n hx hb dX5_knownName_2 rfl (lv_at hl 1 rfl) ?_
  refine gf_RX5_9 (v := .ref (a 1)) C hO 27 cW_27 rfl dX5_knownName_3 ?_
  refine gf_RX5_36 (v := .int (fI u 1 4)) C hO 1 cW_1 rfl dX5_knownName_6 ?_
  refine lv_sipush (v := 200) hx hb dX5_knownName_9 (by decide) ?_
  refine cs_eq (tgt := 24) (X := ((fI u 1 4)).toInt) (Y := 200) hx hb dX5_knownName_12 (by decide) rfl rfl (fun c1 => ?_) (fun c1 => ?_)
  · refine lv_aload_n hx hb dX5_knownName_24 rfl (lv_at hl 2 rfl) ?_
    refine lv_iload_n hx hb dX5_knownName_25 rfl (lv_at hl 3 rfl) ?_
    refine lv_aload_n hx hb dX5_knownName_26 rfl (lv_at hl 1 rfl) ?_
    refine gf_RX5_9 (v := .ref (a 1)) C hO 27 cW_27 rfl dX5_knownName_27 ?_
    refine gf_RX5_86 (v := .long ((fL u 1 5))) C hO 1 cW_1 rfl dX5_knownName_30 ?_
    refine cSi (w := cW cy a) (As := [.ref (a 17), .int x2, .long ((fL u 1 5))]) (rest := []) C hO (T_X5_indexOf_17 l D cy a _ (by exact hJ) (x2) ((fL u 1 5))) (va_cwS 3 ht (gSS wd_700 wd_701 wd_114 wd_702) rfl rfl rfl hd_yX5_indexOf ⟨Nat.le_of_ble_eq_true rfl, Nat.le_of_ble_eq_true rfl⟩)  rfl hl.1 (Nat.le_of_ble_eq_true rfl) dX5_knownName_33 rfl ⟨Nat.zero_le _, Nat.zero_le _⟩ (fun r2 u3 H locs hp4 hO => ?_)
    obtain ⟨hr2, hu3⟩ := hp4
    rw [hu3] at hO
    refine lv_istore_n (lv' := [(3, .int r2), (0, .ref (a 27)), (1, .ref (a 17)), (2, .int x2)]) hx hb dX5_knownName_36 rfl hl (by decide) rfl (fun ls hl => ?_)
    refine lv_iload_n hx hb dX5_knownName_37 rfl (lv_at hl 0 rfl) ?_
    refine lv_iconst (v := (-1)) hx hb dX5_knownName_38 (by decide) ?_
    refine cs_ne (tgt := 48) (X := (r2).toInt) (Y := (-1)) hx hb dX5_knownName_39 (by decide) rfl rfl (fun c5 => ?_) (fun c5 => ?_)
    · refine lv_iload_n hx hb dX5_knownName_48 rfl (lv_at hl 0 rfl) ?_
      refine hret _ _ _ _ _ _ dX5_knownName_49 rfl ?_ hO
      exact ⟨(by first | decide | omega), hJ, hT, hW⟩
    · refine lv_aload_n hx hb dX5_knownName_42 rfl (lv_at hl 1 rfl) ?_
      refine lv_iconst (v := 5) hx hb dX5_knownName_43 (by decide) ?_
      refine cVi (w := cW cy a) (As := [.int 5]) (rest := []) C hO (T_X5_refuse l D cy a _ (by exact hJ) (by exact hW) (5)) (cwV 1 ht (gV wd_691 wd_693 wd_6 wd_114 wd_694) rfl rfl rfl hd_yX5_refuse ⟨Nat.le_of_ble_eq_true rfl, Nat.le_of_ble_eq_true rfl⟩) 27 rfl cW_27 rfl rfl hl.1 (Nat.le_of_ble_eq_true rfl) dX5_knownName_44 rfl ⟨Nat.zero_le _, Nat.zero_le _⟩ (fun r6 u7 H locs hp8 hO => ?_)
      have g9 : 0 ≤ (fI u 15 9).toInt ∧ (fI u 15 9).toInt ≤ 8 := by have h := CI_15_9 hJ; exact h
      have g10 : 0 ≤ (fI u 15 10).toInt ∧ (fI u 15 10).toInt ≤ 14 := by have h := CI_15_10 hJ; exact h
      have g11 : 0 ≤ (fI u 15 11).toInt ∧ (fI u 15 11).toInt ≤ 8 := by have h := CI_15_11 hJ; exact h
      have g12 : 0 ≤ (fI u 15 12).toInt ∧ (fI u 15 12).toInt ≤ 6 := by have h := CI_15_12 hJ; exact h
      obtain ⟨hr6, hJ, hTu7, hW⟩ := hp8
      subst hr6
      have hT : KR u u7 := KR.tr (by exact hT) hTu7
      have hI_15_9_u7 : fI u7 15 9 = (fI u 15 9) := hTu7.2.1
      have hI_15_10_u7 : fI u7 15 10 = (fI u 15 10) := hTu7.2.2.1
      have hI_15_11_u7 : fI u7 15 11 = (fI u 15 11) := hTu7.2.2.2.1
      have hI_15_12_u7 : fI u7 15 12 = (fI u 15 12) := hTu7.2.2.2.2
      refine lv_pop hx hb dX5_knownName_47 rfl ?_
      refine lv_iload_n hx hb dX5_knownName_48 rfl (lv_at hl 0 rfl) ?_
      refine hret _ _ _ _ _ _ dX5_knownName_49 rfl ?_ hO
      exact ⟨(by first | decide | omega), hJ, hT, hW⟩
  · refine lv_aload_n hx hb dX5_knownName_15 rfl (lv_at hl 1 rfl) ?_
    refine lv_iconst (v := 2) hx hb dX5_knownName_16 (by decide) ?_
    refine cVi (w := cW cy a) (As := [.int 2]) (rest := []) C hO (T_X5_refuse l D cy a _ (by exact hJ) (by exact hW) (2)) (cwV 1 ht (gV wd_691 wd_693 wd_6 wd_114 wd_694) rfl rfl rfl hd_yX5_refuse ⟨Nat.le_of_ble_eq_true rfl, Nat.le_of_ble_eq_true rfl⟩) 27 rfl cW_27 rfl rfl hl.1 (Nat.le_of_ble_eq_true rfl) dX5_knownName_17 rfl ⟨Nat.zero_le _, Nat.zero_le _⟩ (fun r13 u14 H locs hp15 hO => ?_)
    have g16 : 0 ≤ (fI u 15 9).toInt ∧ (fI u 15 9).toInt ≤ 8 := by have h := CI_15_9 hJ; exact h
    have g17 : 0 ≤ (fI u 15 10).toInt ∧ (fI u 15 10).toInt ≤ 14 := by have h := CI_15_10 hJ; exact h
    have g18 : 0 ≤ (fI u 15 11).toInt ∧ (fI u 15 11).toInt ≤ 8 := by have h := CI_15_11 hJ; exact h
    have g19 : 0 ≤ (fI u 15 12).toInt ∧ (fI u 15 12).toInt ≤ 6 := by have h := CI_15_12 hJ; exact h
    obtain ⟨hr13, hJ, hTu14, hW⟩ := hp15
    subst hr13
    have hT : KR u u14 := KR.tr (by exact hT) hTu14
    have hI_15_9_u14 : fI u14 15 9 = (fI u 15 9) := hTu14.2.1
    have hI_15_10_u14 : fI u14 15 10 = (fI u 15 10) := hTu14.2.2.1
    have hI_15_11_u14 : fI u14 15 11 = (fI u 15 11) := hTu14.2.2.2.1
    have hI_15_12_u14 : fI u14 15 12 = (fI u 15 12) := hTu14.2.2.2.2
    refine lv_pop hx hb dX5_knownName_20 rfl ?_
    refine lv_goto (tgt := 48) hx hb dX5_knownName_21 (by decide) ?_
    refine lv_iload_n hx hb dX5_knownName_48 rfl (lv_at hl 0 rfl) ?_
    refine hret _ _ _ _ _ _ dX5_knownName_49 rfl ?_ hO
    exact ⟨(by first | decide | omega), hJ, hT, hW⟩
theorem dX5_numberTo_0 : decode cX5_numberTo 0 = .ok (.iconst (-1), 1) := by decide +kernel
theorem dX5_numberTo_1 : decode cX5_numberTo 1 = .ok (.istore_n 2, 1) := by decide +kernel
theorem dX5_numberTo_2 : decode cX5_numberTo 2 = .ok (.aload_n 0, 1) := by decide +kernel
theorem dX5_numberTo_3 : decode cX5_numberTo 3 = .ok (.getfield 9, 3) := by decide +kernel
theorem dX5_numberTo_6 : decode cX5_numberTo 6 = .ok (.getfield 36, 3) := by decide +kernel
theorem dX5_numberTo_9 : decode cX5_numberTo 9 = .ok (.sipush 201, 3) := by decide +kernel
theorem dX5_numberTo_12 : decode cX5_numberTo 12 = .ok (.if_icmp .eq 12, 3) := by decide +kernel
theorem dX5_numberTo_15 : decode cX5_numberTo 15 = .ok (.aload_n 0, 1) := by decide +kernel
theorem dX5_numberTo_16 : decode cX5_numberTo 16 = .ok (.iconst 2, 1) := by decide +kernel
theorem dX5_numberTo_17 : decode cX5_numberTo 17 = .ok (.invokevirtual 74, 3) := by decide +kernel
theorem dX5_numberTo_20 : decode cX5_numberTo 20 = .ok (.pop, 1) := by decide +kernel
theorem dX5_numberTo_21 : decode cX5_numberTo 21 = .ok (.goto 38, 3) := by decide +kernel
theorem dX5_numberTo_24 : decode cX5_numberTo 24 = .ok (.aload_n 0, 1) := by decide +kernel
theorem dX5_numberTo_25 : decode cX5_numberTo 25 = .ok (.getfield 9, 3) := by decide +kernel
theorem dX5_numberTo_28 : decode cX5_numberTo 28 = .ok (.getfield 94, 3) := by decide +kernel
theorem dX5_numberTo_31 : decode cX5_numberTo 31 = .ok (.iload_n 1, 1) := by decide +kernel
theorem dX5_numberTo_32 : decode cX5_numberTo 32 = .ok (.if_icmp .le 12, 3) := by decide +kernel
theorem dX5_numberTo_35 : decode cX5_numberTo 35 = .ok (.aload_n 0, 1) := by decide +kernel
theorem dX5_numberTo_36 : decode cX5_numberTo 36 = .ok (.iconst 4, 1) := by decide +kernel
theorem dX5_numberTo_37 : decode cX5_numberTo 37 = .ok (.invokevirtual 74, 3) := by decide +kernel
theorem dX5_numberTo_40 : decode cX5_numberTo 40 = .ok (.pop, 1) := by decide +kernel
theorem dX5_numberTo_41 : decode cX5_numberTo 41 = .ok (.goto 18, 3) := by decide +kernel
theorem dX5_numberTo_44 : decode cX5_numberTo 44 = .ok (.aload_n 0, 1) := by decide +kernel
theorem dX5_numberTo_45 : decode cX5_numberTo 45 = .ok (.getfield 9, 3) := by decide +kernel
theorem dX5_numberTo_48 : decode cX5_numberTo 48 = .ok (.getfield 94, 3) := by decide +kernel
theorem dX5_numberTo_51 : decode cX5_numberTo 51 = .ok (.istore_n 2, 1) := by decide +kernel
theorem dX5_numberTo_52 : decode cX5_numberTo 52 = .ok (.aload_n 0, 1) := by decide +kernel
theorem dX5_numberTo_53 : decode cX5_numberTo 53 = .ok (.getfield 9, 3) := by decide +kernel
theorem dX5_numberTo_56 : decode cX5_numberTo 56 = .ok (.invokevirtual 80, 3) := by decide +kernel
theorem dX5_numberTo_59 : decode cX5_numberTo 59 = .ok (.iload_n 2, 1) := by decide +kernel
theorem dX5_numberTo_60 : decode cX5_numberTo 60 = .ok (.ireturn, 1) := by decide +kernel
theorem wd_726 : (Cond.code ⟨"WebCourt$Reader", "numberTo", "(I)I"⟩ prog_7_method_11_code (3 : Nat) (Option.some FieldType.int)) ∈ gtb := gtb_c3 137 (by decide +kernel) rfl
theorem wd_154 : (Cond.fieldLink "WebCourt$Reader" (94 : Nat) "WebCourt$Tape" "number" "I") ∈ gtb := gtb_c1 45 (by decide +kernel) rfl
theorem gf_RX5_94 {p : Program} {l : Launch} {e : Env} {R : Room} {s : State} {m : MethodId} {args : Array Value} {below : List Frame} {meth : Method} {c : Code} {H : Heap} {locs : List Loc} {cells slots : Nat} {Q : State → Prop} {cc : ByteArray} {pc nL : Nat} {ls : Array Slot} {rest : List Value} {D : va_G} {cy : Nat → ClassId} {A : Nat → Prop} {ws : va_W} {b : Nat} {fs : List Value} {v : Value} (C : Cx p s m args c cc nL RX5 D cy A) (hO : Wo D A ws s.heap H locs) (q0 : Nat) (he : ws[q0]? = some (b, .inr (7, fs))) (hv : fs[6]? = some v) (hdg : decode cc pc = .ok (.getfield 94, 3)) (kk : W p l e R s m args below meth c H locs cells slots Q (F0 m (pc + 3) ls (v :: rest))) : W p l e R s m args below meth c H locs cells slots Q (F0 m pc ls (.ref b :: rest)) := gF (k := 6) C hO q0 he rfl inFX7 (by decide) wd_154 rfl hv hdg kk
set_option maxHeartbeats 4000000 in
set_option maxRecDepth 100000 in
theorem T_X5_numberTo (l : Launch) (D : va_G) (cy : Nat → ClassId) (a : Nat → Nat) (u : St) (hJ : CI a u) (hW : fR u 2 = a 15) (x1 : Int32)  : Mi l D cy (cW cy a) yX5_numberTo (.code yX5_numberTo cX5_numberTo 3 (some .int)) (rmo 6 131) [.ref (a 27), .int x1] u (fun (r : Int32) (u' : St) => (CI a u') ∧ (KR u u') ∧ (fR u' 2 = a 15)) := by
  refine Mi.of (own := RX5) rfl (by decide) (Nat.le_of_ble_eq_true rfl) ?_
  have hT : KR u u := KR.rf
  intro p e s m below meth c A Q ls C hret hO hl
  obtain ⟨hx, hb, hml, hown, ht, hK, hA⟩ := id C
  have hl : lv_has ls 3 [(0, .ref (a 27)), (1, .int x1)] := hl
  refine lv_iconst (v := (-1)) hx hb dX5_numberTo_0 (by decide) ?_
  refine lv_istore_n (lv' := [(2, .int (-1)), (0, .ref (a 27)), (1, .int x1)]) hx hb dX5_numberTo_1 rfl hl (by decide) rfl (fun ls hl => ?_)
  refine lv_aload_n hx hb dX5_numberTo_2 rfl (lv_at hl 1 rfl) ?_
  refine gf_RX5_9 (v := .ref (a 1)) C hO 27 cW_27 rfl dX5_numberTo_3 ?_
  refine gf_RX5_36 (v := .int (fI u 1 4)) C hO 1 cW_1 rfl dX5_numberTo_6 ?_
  refine lv_sipush (v := 201) hx hb dX5_numberTo_9 (by decide) ?_
  refine cs_eq (tgt := 24) (X := ((fI u 1 4)).toInt) (Y := 201) hx hb dX5_numberTo_12 (by decide) rfl rfl (fun c1 => ?_) (fun c1 => ?_)
  · refine lv_aload_n hx hb dX5_numberTo_24 rfl (lv_at hl 1 rfl) ?_
    refine gf_RX5_9 (v := .ref (a 1)) C hO 27 cW_27 rfl dX5_numberTo_25 ?_
    refine gf_RX5_94 (v := .int (fI u 1 6)) C hO 1 cW_1 rfl dX5_numberTo_28 ?_
    refine lv_iload_n hx hb dX5_numberTo_31 rfl (lv_at hl 2 rfl) ?_
    refine cs_le (tgt := 44) (X := ((fI u 1 6)).toInt) (Y := (x1).toInt) hx hb dX5_numberTo_32 (by decide) rfl rfl (fun c2 => ?_) (fun c2 => ?_)
    · refine lv_aload_n hx hb dX5_numberTo_44 rfl (lv_at hl 1 rfl) ?_
      refine gf_RX5_9 (v := .ref (a 1)) C hO 27 cW_27 rfl dX5_numberTo_45 ?_
      refine gf_RX5_94 (v := .int (fI u 1 6)) C hO 1 cW_1 rfl dX5_numberTo_48 ?_
      refine lv_istore_n (lv' := [(2, .int (fI u 1 6)), (0, .ref (a 27)), (1, .int x1)]) hx hb dX5_numberTo_51 rfl hl (by decide) rfl (fun ls hl => ?_)
      refine lv_aload_n hx hb dX5_numberTo_52 rfl (lv_at hl 1 rfl) ?_
      refine gf_RX5_9 (v := .ref (a 1)) C hO 27 cW_27 rfl dX5_numberTo_53 ?_
      refine cVv (w := cW cy a) (As := []) (rest := []) C hO (T_X7_advance l D cy a _ (by exact hJ) (by exact hW)) (cwV 0 ht (gV wd_695 wd_541 wd_542 wd_111 wd_543) rfl rfl rfl hd_yX7_advance ⟨Nat.le_of_ble_eq_true rfl, Nat.le_of_ble_eq_true rfl⟩) 1 rfl cW_1 rfl rfl hl.1 (Nat.le_of_ble_eq_true rfl) dX5_numberTo_56 rfl ⟨Nat.zero_le _, Nat.zero_le _⟩ (fun u4 H locs hp5 hO => ?_)
      have g6 : 0 ≤ (fI u 15 9).toInt ∧ (fI u 15 9).toInt ≤ 8 := by have h := CI_15_9 hJ; exact h
      have g7 : 0 ≤ (fI u 15 10).toInt ∧ (fI u 15 10).toInt ≤ 14 := by have h := CI_15_10 hJ; exact h
      have g8 : 0 ≤ (fI u 15 11).toInt ∧ (fI u 15 11).toInt ≤ 8 := by have h := CI_15_11 hJ; exact h
      have g9 : 0 ≤ (fI u 15 12).toInt ∧ (fI u 15 12).toInt ≤ 6 := by have h := CI_15_12 hJ; exact h
      obtain ⟨hJ, hTu4, hW⟩ := hp5
      have hT : KR u u4 := KR.tr (by exact hT) hTu4
      have hI_15_9_u4 : fI u4 15 9 = (fI u 15 9) := hTu4.2.1
      have hI_15_10_u4 : fI u4 15 10 = (fI u 15 10) := hTu4.2.2.1
      have hI_15_11_u4 : fI u4 15 11 = (fI u 15 11) := hTu4.2.2.2.1
      have hI_15_12_u4 : fI u4 15 12 = (fI u 15 12) := hTu4.2.2.2.2
      refine lv_iload_n hx hb dX5_numberTo_59 rfl (lv_at hl 0 rfl) ?_
      refine hret _ _ _ _ _ _ dX5_numberTo_60 rfl ?_ hO
      exact ⟨hJ, hT, hW⟩
    · refine lv_aload_n hx hb dX5_numberTo_35 rfl (lv_at hl 1 rfl) ?_
      refine lv_iconst (v := 4) hx hb dX5_numberTo_36 (by decide) ?_
      refine cVi (w := cW cy a) (As := [.int 4]) (rest := []) C hO (T_X5_refuse l D cy a _ (by exact hJ) (by exact hW) (4)) (cwV 1 ht (gV wd_691 wd_693 wd_6 wd_114 wd_694) rfl rfl rfl hd_yX5_refuse ⟨Nat.le_of_ble_eq_true rfl, Nat.le_of_ble_eq_true rfl⟩) 27 rfl cW_27 rfl rfl hl.1 (Nat.le_of_ble_eq_true rfl) dX5_numberTo_37 rfl ⟨Nat.zero_le _, Nat.zero_le _⟩ (fun r10 u11 H locs hp12 hO => ?_)
      have g13 : 0 ≤ (fI u 15 9).toInt ∧ (fI u 15 9).toInt ≤ 8 := by have h := CI_15_9 hJ; exact h
      have g14 : 0 ≤ (fI u 15 10).toInt ∧ (fI u 15 10).toInt ≤ 14 := by have h := CI_15_10 hJ; exact h
      have g15 : 0 ≤ (fI u 15 11).toInt ∧ (fI u 15 11).toInt ≤ 8 := by have h := CI_15_11 hJ; exact h
      have g16 : 0 ≤ (fI u 15 12).toInt ∧ (fI u 15 12).toInt ≤ 6 := by have h := CI_15_12 hJ; exact h
      obtain ⟨hr10, hJ, hTu11, hW⟩ := hp12
      subst hr10
      have hT : KR u u11 := KR.tr (by exact hT) hTu11
      have hI_15_9_u11 : fI u11 15 9 = (fI u 15 9) := hTu11.2.1
      have hI_15_10_u11 : fI u11 15 10 = (fI u 15 10) := hTu11.2.2.1
      have hI_15_11_u11 : fI u11 15 11 = (fI u 15 11) := hTu11.2.2.2.1
      have hI_15_12_u11 : fI u11 15 12 = (fI u 15 12) := hTu11.2.2.2.2
      refine lv_pop hx hb dX5_numberTo_40 rfl ?_
      refine lv_goto (tgt := 59) hx hb dX5_numberTo_41 (by decide) ?_
      refine lv_iload_n hx hb dX5_numberTo_59 rfl (lv_at hl 0 rfl) ?_
      refine hret _ _ _ _ _ _ dX5_numberTo_60 rfl ?_ hO
      exact ⟨hJ, hT, hW⟩
  · refine lv_aload_n hx hb dX5_numberTo_15 rfl (lv_at hl 1 rfl) ?_
    refine lv_iconst (v := 2) hx hb dX5_numberTo_16 (by decide) ?_
    refine cVi (w := cW cy a) (As := [.int 2]) (rest := []) C hO (T_X5_refuse l D cy a _ (by exact hJ) (by exact hW) (2)) (cwV 1 ht (gV wd_691 wd_693 wd_6 wd_114 wd_694) rfl rfl rfl hd_yX5_refuse ⟨Nat.le_of_ble_eq_true rfl, Nat.le_of_ble_eq_true rfl⟩) 27 rfl cW_27 rfl rfl hl.1 (Nat.le_of_ble_eq_true rfl) dX5_numberTo_17 rfl ⟨Nat.zero_le _, Nat.zero_le _⟩ (fun r17 u18 H locs hp19 hO => ?_)
    have g20 : 0 ≤ (fI u 15 9).toInt ∧ (fI u 15 9).toInt ≤ 8 := by have h := CI_15_9 hJ; exact h
    have g21 : 0 ≤ (fI u 15 10).toInt ∧ (fI u 15 10).toInt ≤ 14 := by have h := CI_15_10 hJ; exact h
    have g22 : 0 ≤ (fI u 15 11).toInt ∧ (fI u 15 11).toInt ≤ 8 := by have h := CI_15_11 hJ; exact h
    have g23 : 0 ≤ (fI u 15 12).toInt ∧ (fI u 15 12).toInt ≤ 6 := by have h := CI_15_12 hJ; exact h
    obtain ⟨hr17, hJ, hTu18, hW⟩ := hp19
    subst hr17
    have hT : KR u u18 := KR.tr (by exact hT) hTu18
    have hI_15_9_u18 : fI u18 15 9 = (fI u 15 9) := hTu18.2.1
    have hI_15_10_u18 : fI u18 15 10 = (fI u 15 10) := hTu18.2.2.1
    have hI_15_11_u18 : fI u18 15 11 = (fI u 15 11) := hTu18.2.2.2.1
    have hI_15_12_u18 : fI u18 15 12 = (fI u 15 12) := hTu18.2.2.2.2
    refine lv_pop hx hb dX5_numberTo_20 rfl ?_
    refine lv_goto (tgt := 59) hx hb dX5_numberTo_21 (by decide) ?_
    refine lv_iload_n hx hb dX5_numberTo_59 rfl (lv_at hl 0 rfl) ?_
    refine hret _ _ _ _ _ _ dX5_numberTo_60 rfl ?_ hO
    exact ⟨hJ, hT, hW⟩
theorem dX5_readKnot_0 : decode cX5_readKnot 0 = .ok (.aload_n 0, 1) := by decide +kernel
theorem dX5_readKnot_1 : decode cX5_readKnot 1 = .ok (.aload_n 0, 1) := by decide +kernel
theorem dX5_readKnot_2 : decode cX5_readKnot 2 = .ok (.getfield 15, 3) := by decide +kernel
theorem dX5_readKnot_5 : decode cX5_readKnot 5 = .ok (.getfield 97, 3) := by decide +kernel
theorem dX5_readKnot_8 : decode cX5_readKnot 8 = .ok (.bipush 8, 2) := by decide +kernel
theorem dX5_readKnot_10 : decode cX5_readKnot 10 = .ok (.invokevirtual 100, 3) := by decide +kernel
theorem dX5_readKnot_13 : decode cX5_readKnot 13 = .ok (.ifCond .eq 24, 3) := by decide +kernel
theorem dX5_readKnot_16 : decode cX5_readKnot 16 = .ok (.aload_n 0, 1) := by decide +kernel
theorem dX5_readKnot_17 : decode cX5_readKnot 17 = .ok (.aload_n 0, 1) := by decide +kernel
theorem dX5_readKnot_18 : decode cX5_readKnot 18 = .ok (.getfield 15, 3) := by decide +kernel
theorem dX5_readKnot_21 : decode cX5_readKnot 21 = .ok (.getfield 104, 3) := by decide +kernel
theorem dX5_readKnot_24 : decode cX5_readKnot 24 = .ok (.aload_n 0, 1) := by decide +kernel
theorem dX5_readKnot_25 : decode cX5_readKnot 25 = .ok (.getfield 15, 3) := by decide +kernel
theorem dX5_readKnot_28 : decode cX5_readKnot 28 = .ok (.getfield 97, 3) := by decide +kernel
theorem dX5_readKnot_31 : decode cX5_readKnot 31 = .ok (.invokevirtual 108, 3) := by decide +kernel
theorem dX5_readKnot_34 : decode cX5_readKnot 34 = .ok (.ifCond .ne 5, 3) := by decide +kernel
theorem dX5_readKnot_37 : decode cX5_readKnot 37 = .ok (.iconst 0, 1) := by decide +kernel
theorem dX5_readKnot_38 : decode cX5_readKnot 38 = .ok (.ireturn, 1) := by decide +kernel
theorem dX5_readKnot_39 : decode cX5_readKnot 39 = .ok (.aload_n 0, 1) := by decide +kernel
theorem dX5_readKnot_40 : decode cX5_readKnot 40 = .ok (.getfield 15, 3) := by decide +kernel
theorem dX5_readKnot_43 : decode cX5_readKnot 43 = .ok (.dup, 1) := by decide +kernel
theorem dX5_readKnot_44 : decode cX5_readKnot 44 = .ok (.getfield 97, 3) := by decide +kernel
theorem dX5_readKnot_47 : decode cX5_readKnot 47 = .ok (.iconst 1, 1) := by decide +kernel
theorem dX5_readKnot_48 : decode cX5_readKnot 48 = .ok (.iadd, 1) := by decide +kernel
theorem dX5_readKnot_49 : decode cX5_readKnot 49 = .ok (.putfield 97, 3) := by decide +kernel
theorem dX5_readKnot_52 : decode cX5_readKnot 52 = .ok (.iconst 1, 1) := by decide +kernel
theorem dX5_readKnot_53 : decode cX5_readKnot 53 = .ok (.ireturn, 1) := by decide +kernel
theorem wd_686 : (Cond.code ⟨"WebCourt$Reader", "readKnot", "()Z"⟩ prog_7_method_12_code (1 : Nat) (Option.some FieldType.boolean)) ∈ gtb := gtb_c3 97 (by decide +kernel) rfl
theorem wd_254 : (Cond.fieldLink "WebCourt$Reader" (97 : Nat) "WebCourt$Web" "knots" "I") ∈ gtb := gtb_c1 145 (by decide +kernel) rfl
theorem gf_RX5_97 {p : Program} {l : Launch} {e : Env} {R : Room} {s : State} {m : MethodId} {args : Array Value} {below : List Frame} {meth : Method} {c : Code} {H : Heap} {locs : List Loc} {cells slots : Nat} {Q : State → Prop} {cc : ByteArray} {pc nL : Nat} {ls : Array Slot} {rest : List Value} {D : va_G} {cy : Nat → ClassId} {A : Nat → Prop} {ws : va_W} {b : Nat} {fs : List Value} {v : Value} (C : Cx p s m args c cc nL RX5 D cy A) (hO : Wo D A ws s.heap H locs) (q0 : Nat) (he : ws[q0]? = some (b, .inr (9, fs))) (hv : fs[9]? = some v) (hdg : decode cc pc = .ok (.getfield 97, 3)) (kk : W p l e R s m args below meth c H locs cells slots Q (F0 m (pc + 3) ls (v :: rest))) : W p l e R s m args below meth c H locs cells slots Q (F0 m pc ls (.ref b :: rest)) := gF (k := 9) C hO q0 he rfl inFX9 (by decide) wd_254 rfl hv hdg kk
theorem wd_687 : (Cond.methodLink "WebCourt$Reader" (100 : Nat) ⟨"WebCourt$Reader", "openSort", "(II)Z"⟩) ∈ gtb := gtb_c3 98 (by decide +kernel) rfl
theorem wd_689 : (Cond.instanceMethod ⟨"WebCourt$Reader", "openSort", "(II)Z"⟩) ∈ gtb := gtb_c3 100 (by decide +kernel) rfl
theorem wd_5 : (Cond.selects "WebCourt$Reader" ⟨"WebCourt$Reader", "openSort", "(II)Z"⟩ ⟨"WebCourt$Reader", "openSort", "(II)Z"⟩) ∈ gtb := gtb_p 5 (by decide +kernel) rfl
theorem hd_yX5_openSort : yX5_openSort.cls = RX5 ∧ yX5_openSort.cls ≠ "java/lang/invoke/MethodHandle" ∧ yX5_openSort.cls ≠ "java/lang/invoke/VarHandle" ∧ (parseMethodDescriptor yX5_openSort.desc).map (fun d => d.parameters.length) = some 2 := by decide +kernel
theorem wd_222 : (Cond.fieldLink "WebCourt$Reader" (104 : Nat) "WebCourt$Web" "knotNames" "[J") ∈ gtb := gtb_c1 113 (by decide +kernel) rfl
theorem gf_RX5_104 {p : Program} {l : Launch} {e : Env} {R : Room} {s : State} {m : MethodId} {args : Array Value} {below : List Frame} {meth : Method} {c : Code} {H : Heap} {locs : List Loc} {cells slots : Nat} {Q : State → Prop} {cc : ByteArray} {pc nL : Nat} {ls : Array Slot} {rest : List Value} {D : va_G} {cy : Nat → ClassId} {A : Nat → Prop} {ws : va_W} {b : Nat} {fs : List Value} {v : Value} (C : Cx p s m args c cc nL RX5 D cy A) (hO : Wo D A ws s.heap H locs) (q0 : Nat) (he : ws[q0]? = some (b, .inr (9, fs))) (hv : fs[0]? = some v) (hdg : decode cc pc = .ok (.getfield 104, 3)) (kk : W p l e R s m args below meth c H locs cells slots Q (F0 m (pc + 3) ls (v :: rest))) : W p l e R s m args below meth c H locs cells slots Q (F0 m pc ls (.ref b :: rest)) := gF (k := 0) C hO q0 he rfl inFX9 (by decide) wd_222 rfl hv hdg kk
theorem wd_696 : (Cond.methodLink "WebCourt$Reader" (108 : Nat) ⟨"WebCourt$Reader", "newName", "([JI)Z"⟩) ∈ gtb := gtb_c3 107 (by decide +kernel) rfl
theorem wd_698 : (Cond.instanceMethod ⟨"WebCourt$Reader", "newName", "([JI)Z"⟩) ∈ gtb := gtb_c3 109 (by decide +kernel) rfl
theorem wd_7 : (Cond.selects "WebCourt$Reader" ⟨"WebCourt$Reader", "newName", "([JI)Z"⟩ ⟨"WebCourt$Reader", "newName", "([JI)Z"⟩) ∈ gtb := gtb_p 7 (by decide +kernel) rfl
theorem hd_yX5_newName : yX5_newName.cls = RX5 ∧ yX5_newName.cls ≠ "java/lang/invoke/MethodHandle" ∧ yX5_newName.cls ≠ "java/lang/invoke/VarHandle" ∧ (parseMethodDescriptor yX5_newName.desc).map (fun d => d.parameters.length) = some 2 := by decide +kernel
theorem pf_RX5_97 {p : Program} {l : Launch} {e : Env} {R : Room} {s : State} {m : MethodId} {args : Array Value} {below : List Frame} {meth : Method} {c : Code} {H : Heap} {locs : List Loc} {cells slots : Nat} {Q : State → Prop} {cc : ByteArray} {pc nL : Nat} {ls : Array Slot} {rest : List Value} {D : va_G} {cy : Nat → ClassId} {A : Nat → Prop} {ws : va_W} {b : Nat} {fs : List Value} {v : Int32} {ws' : va_W} (C : Cx p s m args c cc nL RX5 D cy A) (hO : Wo D A ws s.heap H locs) (q0 : Nat) (he : ws[q0]? = some (b, .inr (9, fs))) (hlen : 9 < fs.length) (hw : ws.set q0 (b, .inr (9, fs.set 9 (.int v))) = ws') (hdg : decode cc pc = .ok (.putfield 97, 3)) (kk : ∀ (H : Heap) (locs : List Loc), Wo D A ws' s.heap H locs → W p l e R s m args below meth c H locs cells slots Q (F0 m (pc + 3) ls rest)) : W p l e R s m args below meth c H locs cells slots Q (F0 m pc ls (.int v :: .ref b :: rest)) := pF (k := 9) (ty := .int) C hO q0 he rfl inFX9 (by decide) wd_254 rfl tyX9 tyX9_ok nmX9 rfl (by decide +kernel) rfl rfl hlen hw hdg kk
set_option maxHeartbeats 4000000 in
set_option maxRecDepth 100000 in
theorem T_X5_readKnot (l : Launch) (D : va_G) (cy : Nat → ClassId) (a : Nat → Nat) (u : St) (hJ : CI a u) (hW : fR u 2 = a 15)   : Mi l D cy (cW cy a) yX5_readKnot (.code yX5_readKnot cX5_readKnot 1 (some .boolean)) (rmo 7 153) [.ref (a 27)] u (fun (r : Int32) (u' : St) => (r = 0 ∨ r = 1) ∧ (CI a u') ∧ (KT u u') ∧ (fR u' 2 = a 15)) := by
  refine Mi.of (own := RX5) rfl (by decide) (Nat.le_of_ble_eq_true rfl) ?_
  have hT : KT u u := KT.rf
  intro p e s m below meth c A Q ls C hret hO hl
  obtain ⟨hx, hb, hml, hown, ht, hK, hA⟩ := id C
  have hl : lv_has ls 1 [(0, .ref (a 27))] := hl
  refine lv_aload_n hx hb dX5_readKnot_0 rfl (lv_at hl 0 rfl) ?_
  refine lv_aload_n hx hb dX5_readKnot_1 rfl (lv_at hl 0 rfl) ?_
  refine gf_RX5_15 (v := .ref (a 15)) C hO 27 cW_27 (congrArg (fun z : Nat => some (Value.ref z)) hW) dX5_readKnot_2 ?_
  have g1 : 0 ≤ (fI u 15 9).toInt ∧ (fI u 15 9).toInt ≤ 8 := by have h := CI_15_9 hJ; exact h
  refine gf_RX5_97 (v := .int (fI u 15 9)) C hO 15 cW_15 rfl dX5_readKnot_5 ?_
  refine lv_bipush (v := 8) hx hb dX5_readKnot_8 (by decide) ?_
  refine cVi (w := cW cy a) (As := [.int (fI u 15 9), .int 8]) (rest := []) C hO (T_X5_openSort l D cy a _ (by exact hJ) (by exact hW) ((fI u 15 9)) (8)) (cwV 2 ht (gV wd_687 wd_689 wd_5 wd_114 wd_690) rfl rfl rfl hd_yX5_openSort ⟨Nat.le_of_ble_eq_true rfl, Nat.le_of_ble_eq_true rfl⟩) 27 rfl cW_27 rfl rfl hl.1 (Nat.le_of_ble_eq_true rfl) dX5_readKnot_10 rfl ⟨Nat.zero_le _, Nat.zero_le _⟩ (fun r2 u3 H locs hp4 hO => ?_)
  have g5 : 0 ≤ (fI u 15 10).toInt ∧ (fI u 15 10).toInt ≤ 14 := by have h := CI_15_10 hJ; exact h
  have g6 : 0 ≤ (fI u 15 11).toInt ∧ (fI u 15 11).toInt ≤ 8 := by have h := CI_15_11 hJ; exact h
  have g7 : 0 ≤ (fI u 15 12).toInt ∧ (fI u 15 12).toInt ≤ 6 := by have h := CI_15_12 hJ; exact h
  obtain ⟨hr2, hJ, hTu3, hW⟩ := hp4
  have hT : KT u u3 := KT.tr (by exact hT) hTu3.1
  have hI_15_9_u3 : fI u3 15 9 = (fI u 15 9) := hTu3.2.1
  have hI_15_10_u3 : fI u3 15 10 = (fI u 15 10) := hTu3.2.2.1
  have hI_15_11_u3 : fI u3 15 11 = (fI u 15 11) := hTu3.2.2.2.1
  have hI_15_12_u3 : fI u3 15 12 = (fI u 15 12) := hTu3.2.2.2.2
  have zz8 : (8 : Int32).toInt = 8 := rfl
  rcases hr2 with ⟨hcr2, hvr2⟩ | ⟨hcr2, hvr2⟩
  · subst hvr2
    refine bn_eq (X := 1) hx hb dX5_readKnot_13 rfl (by omega) ?_ (tgt := 37) (by decide)
    refine lv_aload_n hx hb dX5_readKnot_16 rfl (lv_at hl 0 rfl) ?_
    refine lv_aload_n hx hb dX5_readKnot_17 rfl (lv_at hl 0 rfl) ?_
    refine gf_RX5_15 (v := .ref (a 15)) C hO 27 cW_27 (congrArg (fun z : Nat => some (Value.ref z)) hW) dX5_readKnot_18 ?_
    refine gf_RX5_104 (v := .ref (a 16)) C hO 15 cW_15 rfl dX5_readKnot_21 ?_
    refine lv_aload_n hx hb dX5_readKnot_24 rfl (lv_at hl 0 rfl) ?_
    refine gf_RX5_15 (v := .ref (a 15)) C hO 27 cW_27 (congrArg (fun z : Nat => some (Value.ref z)) hW) dX5_readKnot_25 ?_
    refine gf_RX5_97 (v := .int (fI u 15 9)) C hO 15 cW_15 (congrArg (fun z : Int32 => some (Value.int z)) hI_15_9_u3) dX5_readKnot_28 ?_
    refine cVi (w := cW cy a) (As := [.ref (a 16), .int (fI u 15 9)]) (rest := []) C hO (T_X5_newName_16 l D cy a _ (by exact hJ) (by exact hW) ((fI u 15 9)) (by first | omega | decide)) (cwV 2 ht (gV wd_696 wd_698 wd_7 wd_114 wd_699) rfl rfl rfl hd_yX5_newName ⟨Nat.le_of_ble_eq_true rfl, Nat.le_of_ble_eq_true rfl⟩) 27 rfl cW_27 rfl rfl hl.1 (Nat.le_of_ble_eq_true rfl) dX5_readKnot_31 rfl ⟨Nat.zero_le _, Nat.zero_le _⟩ (fun r9 u10 H locs hp11 hO => ?_)
    obtain ⟨hr9, hJ, hTu10, hW⟩ := hp11
    have gr9 : 0 ≤ r9.toInt ∧ r9.toInt ≤ 1 := by rcases hr9 with h | h <;> rw [h] <;> decide
    have hT : KT u u10 := KT.tr (by exact hT) hTu10.1
    have hI_15_9_u10 : fI u10 15 9 = (fI u 15 9) := Eq.trans (hTu10.2.1) (hI_15_9_u3)
    have hI_15_10_u10 : fI u10 15 10 = (fI u 15 10) := Eq.trans (hTu10.2.2.1) (hI_15_10_u3)
    have hI_15_11_u10 : fI u10 15 11 = (fI u 15 11) := Eq.trans (hTu10.2.2.2.1) (hI_15_11_u3)
    have hI_15_12_u10 : fI u10 15 12 = (fI u 15 12) := Eq.trans (hTu10.2.2.2.2) (hI_15_12_u3)
    refine bs_ne (tgt := 39) (X := (r9).toInt) hx hb dX5_readKnot_34 (by decide) rfl (fun c12 => ?_) (fun c12 => ?_)
    · refine lv_aload_n hx hb dX5_readKnot_39 rfl (lv_at hl 0 rfl) ?_
      refine gf_RX5_15 (v := .ref (a 15)) C hO 27 cW_27 (congrArg (fun z : Nat => some (Value.ref z)) hW) dX5_readKnot_40 ?_
      refine lv_dup hx hb dX5_readKnot_43 rfl ?_
      refine gf_RX5_97 (v := .int (fI u 15 9)) C hO 15 cW_15 (congrArg (fun z : Int32 => some (Value.int z)) hI_15_9_u10) dX5_readKnot_44 ?_
      refine lv_iconst (v := 1) hx hb dX5_readKnot_47 (by decide) ?_
      have e13 : (((fI u 15 9) + 1)).toInt = ((fI u 15 9)).toInt + 1 := i_add rfl rfl (by omega)
      refine lv_iadd hx hb dX5_readKnot_48 ?_
      refine pf_RX5_97 C hO 15 cW_15 (Nat.le_of_ble_eq_true rfl) cW_s15_9 dX5_readKnot_49 (fun H locs hO => ?_)
      have hJ := CIs_15_9 (v := ((fI u 15 9) + 1)) hJ (by first | decide | omega)
      refine lv_iconst (v := 1) hx hb dX5_readKnot_52 (by decide) ?_
      refine hret _ _ _ _ _ _ dX5_readKnot_53 rfl ?_ hO
      exact ⟨Or.inr rfl, hJ, hT, hW⟩
    · refine lv_iconst (v := 0) hx hb dX5_readKnot_37 (by decide) ?_
      refine hret _ _ _ _ _ _ dX5_readKnot_38 rfl ?_ hO
      exact ⟨Or.inl rfl, hJ, hT, hW⟩
  · subst hvr2
    refine bt_eq (tgt := 37) (X := 0) hx hb dX5_readKnot_13 (by decide) rfl (by omega) ?_
    refine lv_iconst (v := 0) hx hb dX5_readKnot_37 (by decide) ?_
    refine hret _ _ _ _ _ _ dX5_readKnot_38 rfl ?_ hO
    exact ⟨Or.inl rfl, hJ, hT, hW⟩
theorem dX5_readThread_0 : decode cX5_readThread 0 = .ok (.aload_n 0, 1) := by decide +kernel
theorem dX5_readThread_1 : decode cX5_readThread 1 = .ok (.aload_n 0, 1) := by decide +kernel
theorem dX5_readThread_2 : decode cX5_readThread 2 = .ok (.getfield 15, 3) := by decide +kernel
theorem dX5_readThread_5 : decode cX5_readThread 5 = .ok (.getfield 112, 3) := by decide +kernel
theorem dX5_readThread_8 : decode cX5_readThread 8 = .ok (.bipush 14, 2) := by decide +kernel
theorem dX5_readThread_10 : decode cX5_readThread 10 = .ok (.invokevirtual 100, 3) := by decide +kernel
theorem dX5_readThread_13 : decode cX5_readThread 13 = .ok (.ifCond .ne 5, 3) := by decide +kernel
theorem dX5_readThread_16 : decode cX5_readThread 16 = .ok (.iconst 0, 1) := by decide +kernel
theorem dX5_readThread_17 : decode cX5_readThread 17 = .ok (.ireturn, 1) := by decide +kernel
theorem dX5_readThread_18 : decode cX5_readThread 18 = .ok (.aload_n 0, 1) := by decide +kernel
theorem dX5_readThread_19 : decode cX5_readThread 19 = .ok (.aload_n 0, 1) := by decide +kernel
theorem dX5_readThread_20 : decode cX5_readThread 20 = .ok (.getfield 15, 3) := by decide +kernel
theorem dX5_readThread_23 : decode cX5_readThread 23 = .ok (.getfield 104, 3) := by decide +kernel
theorem dX5_readThread_26 : decode cX5_readThread 26 = .ok (.aload_n 0, 1) := by decide +kernel
theorem dX5_readThread_27 : decode cX5_readThread 27 = .ok (.getfield 15, 3) := by decide +kernel
theorem dX5_readThread_30 : decode cX5_readThread 30 = .ok (.getfield 97, 3) := by decide +kernel
theorem dX5_readThread_33 : decode cX5_readThread 33 = .ok (.invokevirtual 115, 3) := by decide +kernel
theorem dX5_readThread_36 : decode cX5_readThread 36 = .ok (.istore_n 1, 1) := by decide +kernel
theorem dX5_readThread_37 : decode cX5_readThread 37 = .ok (.iload_n 1, 1) := by decide +kernel
theorem dX5_readThread_38 : decode cX5_readThread 38 = .ok (.iconst (-1), 1) := by decide +kernel
theorem dX5_readThread_39 : decode cX5_readThread 39 = .ok (.if_icmp .ne 5, 3) := by decide +kernel
theorem dX5_readThread_42 : decode cX5_readThread 42 = .ok (.iconst 0, 1) := by decide +kernel
theorem dX5_readThread_43 : decode cX5_readThread 43 = .ok (.ireturn, 1) := by decide +kernel
theorem dX5_readThread_44 : decode cX5_readThread 44 = .ok (.aload_n 0, 1) := by decide +kernel
theorem dX5_readThread_45 : decode cX5_readThread 45 = .ok (.getfield 9, 3) := by decide +kernel
theorem dX5_readThread_48 : decode cX5_readThread 48 = .ok (.invokevirtual 80, 3) := by decide +kernel
theorem dX5_readThread_51 : decode cX5_readThread 51 = .ok (.aload_n 0, 1) := by decide +kernel
theorem dX5_readThread_52 : decode cX5_readThread 52 = .ok (.aload_n 0, 1) := by decide +kernel
theorem dX5_readThread_53 : decode cX5_readThread 53 = .ok (.getfield 15, 3) := by decide +kernel
theorem dX5_readThread_56 : decode cX5_readThread 56 = .ok (.getfield 104, 3) := by decide +kernel
theorem dX5_readThread_59 : decode cX5_readThread 59 = .ok (.aload_n 0, 1) := by decide +kernel
theorem dX5_readThread_60 : decode cX5_readThread 60 = .ok (.getfield 15, 3) := by decide +kernel
theorem dX5_readThread_63 : decode cX5_readThread 63 = .ok (.getfield 97, 3) := by decide +kernel
theorem dX5_readThread_66 : decode cX5_readThread 66 = .ok (.invokevirtual 115, 3) := by decide +kernel
theorem dX5_readThread_69 : decode cX5_readThread 69 = .ok (.istore_n 2, 1) := by decide +kernel
theorem dX5_readThread_70 : decode cX5_readThread 70 = .ok (.iload_n 2, 1) := by decide +kernel
theorem dX5_readThread_71 : decode cX5_readThread 71 = .ok (.iconst (-1), 1) := by decide +kernel
theorem dX5_readThread_72 : decode cX5_readThread 72 = .ok (.if_icmp .ne 5, 3) := by decide +kernel
theorem dX5_readThread_75 : decode cX5_readThread 75 = .ok (.iconst 0, 1) := by decide +kernel
theorem dX5_readThread_76 : decode cX5_readThread 76 = .ok (.ireturn, 1) := by decide +kernel
theorem dX5_readThread_77 : decode cX5_readThread 77 = .ok (.iload_n 2, 1) := by decide +kernel
theorem dX5_readThread_78 : decode cX5_readThread 78 = .ok (.iload_n 1, 1) := by decide +kernel
theorem dX5_readThread_79 : decode cX5_readThread 79 = .ok (.if_icmp .eq 15, 3) := by decide +kernel
theorem dX5_readThread_82 : decode cX5_readThread 82 = .ok (.aload_n 0, 1) := by decide +kernel
theorem dX5_readThread_83 : decode cX5_readThread 83 = .ok (.getfield 15, 3) := by decide +kernel
theorem dX5_readThread_86 : decode cX5_readThread 86 = .ok (.iload_n 1, 1) := by decide +kernel
theorem dX5_readThread_87 : decode cX5_readThread 87 = .ok (.iload_n 2, 1) := by decide +kernel
theorem dX5_readThread_88 : decode cX5_readThread 88 = .ok (.invokevirtual 119, 3) := by decide +kernel
theorem dX5_readThread_91 : decode cX5_readThread 91 = .ok (.ifCond .eq 9, 3) := by decide +kernel
theorem dX5_readThread_94 : decode cX5_readThread 94 = .ok (.aload_n 0, 1) := by decide +kernel
theorem dX5_readThread_95 : decode cX5_readThread 95 = .ok (.iconst 3, 1) := by decide +kernel
theorem dX5_readThread_96 : decode cX5_readThread 96 = .ok (.invokevirtual 74, 3) := by decide +kernel
theorem dX5_readThread_99 : decode cX5_readThread 99 = .ok (.ireturn, 1) := by decide +kernel
theorem dX5_readThread_100 : decode cX5_readThread 100 = .ok (.aload_n 0, 1) := by decide +kernel
theorem dX5_readThread_101 : decode cX5_readThread 101 = .ok (.getfield 9, 3) := by decide +kernel
theorem dX5_readThread_104 : decode cX5_readThread 104 = .ok (.invokevirtual 80, 3) := by decide +kernel
theorem dX5_readThread_107 : decode cX5_readThread 107 = .ok (.aload_n 0, 1) := by decide +kernel
theorem dX5_readThread_108 : decode cX5_readThread 108 = .ok (.getfield 15, 3) := by decide +kernel
theorem dX5_readThread_111 : decode cX5_readThread 111 = .ok (.getfield 122, 3) := by decide +kernel
theorem dX5_readThread_114 : decode cX5_readThread 114 = .ok (.aload_n 0, 1) := by decide +kernel
theorem dX5_readThread_115 : decode cX5_readThread 115 = .ok (.getfield 15, 3) := by decide +kernel
theorem dX5_readThread_118 : decode cX5_readThread 118 = .ok (.getfield 112, 3) := by decide +kernel
theorem dX5_readThread_121 : decode cX5_readThread 121 = .ok (.iload_n 1, 1) := by decide +kernel
theorem dX5_readThread_122 : decode cX5_readThread 122 = .ok (.iastore, 1) := by decide +kernel
theorem dX5_readThread_123 : decode cX5_readThread 123 = .ok (.aload_n 0, 1) := by decide +kernel
theorem dX5_readThread_124 : decode cX5_readThread 124 = .ok (.getfield 15, 3) := by decide +kernel
theorem dX5_readThread_127 : decode cX5_readThread 127 = .ok (.getfield 126, 3) := by decide +kernel
theorem dX5_readThread_130 : decode cX5_readThread 130 = .ok (.aload_n 0, 1) := by decide +kernel
theorem dX5_readThread_131 : decode cX5_readThread 131 = .ok (.getfield 15, 3) := by decide +kernel
theorem dX5_readThread_134 : decode cX5_readThread 134 = .ok (.getfield 112, 3) := by decide +kernel
theorem dX5_readThread_137 : decode cX5_readThread 137 = .ok (.iload_n 2, 1) := by decide +kernel
theorem dX5_readThread_138 : decode cX5_readThread 138 = .ok (.iastore, 1) := by decide +kernel
theorem dX5_readThread_139 : decode cX5_readThread 139 = .ok (.aload_n 0, 1) := by decide +kernel
theorem dX5_readThread_140 : decode cX5_readThread 140 = .ok (.getfield 9, 3) := by decide +kernel
theorem dX5_readThread_143 : decode cX5_readThread 143 = .ok (.getfield 36, 3) := by decide +kernel
theorem dX5_readThread_146 : decode cX5_readThread 146 = .ok (.iconst 3, 1) := by decide +kernel
theorem dX5_readThread_147 : decode cX5_readThread 147 = .ok (.if_icmp .ne 31, 3) := by decide +kernel
theorem dX5_readThread_150 : decode cX5_readThread 150 = .ok (.aload_n 0, 1) := by decide +kernel
theorem dX5_readThread_151 : decode cX5_readThread 151 = .ok (.getfield 15, 3) := by decide +kernel
theorem dX5_readThread_154 : decode cX5_readThread 154 = .ok (.dup, 1) := by decide +kernel
theorem dX5_readThread_155 : decode cX5_readThread 155 = .ok (.getfield 129, 3) := by decide +kernel
theorem dX5_readThread_158 : decode cX5_readThread 158 = .ok (.iconst 1, 1) := by decide +kernel
theorem dX5_readThread_159 : decode cX5_readThread 159 = .ok (.aload_n 0, 1) := by decide +kernel
theorem dX5_readThread_160 : decode cX5_readThread 160 = .ok (.getfield 15, 3) := by decide +kernel
theorem dX5_readThread_163 : decode cX5_readThread 163 = .ok (.getfield 112, 3) := by decide +kernel
theorem dX5_readThread_166 : decode cX5_readThread 166 = .ok (.ishl, 1) := by decide +kernel
theorem dX5_readThread_167 : decode cX5_readThread 167 = .ok (.ior, 1) := by decide +kernel
theorem dX5_readThread_168 : decode cX5_readThread 168 = .ok (.putfield 129, 3) := by decide +kernel
theorem dX5_readThread_171 : decode cX5_readThread 171 = .ok (.aload_n 0, 1) := by decide +kernel
theorem dX5_readThread_172 : decode cX5_readThread 172 = .ok (.getfield 9, 3) := by decide +kernel
theorem dX5_readThread_175 : decode cX5_readThread 175 = .ok (.invokevirtual 80, 3) := by decide +kernel
theorem dX5_readThread_178 : decode cX5_readThread 178 = .ok (.aload_n 0, 1) := by decide +kernel
theorem dX5_readThread_179 : decode cX5_readThread 179 = .ok (.getfield 15, 3) := by decide +kernel
theorem dX5_readThread_182 : decode cX5_readThread 182 = .ok (.dup, 1) := by decide +kernel
theorem dX5_readThread_183 : decode cX5_readThread 183 = .ok (.getfield 112, 3) := by decide +kernel
theorem dX5_readThread_186 : decode cX5_readThread 186 = .ok (.iconst 1, 1) := by decide +kernel
theorem dX5_readThread_187 : decode cX5_readThread 187 = .ok (.iadd, 1) := by decide +kernel
theorem dX5_readThread_188 : decode cX5_readThread 188 = .ok (.putfield 112, 3) := by decide +kernel
theorem dX5_readThread_191 : decode cX5_readThread 191 = .ok (.iconst 1, 1) := by decide +kernel
theorem dX5_readThread_192 : decode cX5_readThread 192 = .ok (.ireturn, 1) := by decide +kernel
theorem wd_706 : (Cond.code ⟨"WebCourt$Reader", "readThread", "()Z"⟩ prog_7_method_13_code (3 : Nat) (Option.some FieldType.boolean)) ∈ gtb := gtb_c3 117 (by decide +kernel) rfl
theorem wd_259 : (Cond.fieldLink "WebCourt$Reader" (112 : Nat) "WebCourt$Web" "lines" "I") ∈ gtb := gtb_c1 150 (by decide +kernel) rfl
theorem gf_RX5_112 {p : Program} {l : Launch} {e : Env} {R : Room} {s : State} {m : MethodId} {args : Array Value} {below : List Frame} {meth : Method} {c : Code} {H : Heap} {locs : List Loc} {cells slots : Nat} {Q : State → Prop} {cc : ByteArray} {pc nL : Nat} {ls : Array Slot} {rest : List Value} {D : va_G} {cy : Nat → ClassId} {A : Nat → Prop} {ws : va_W} {b : Nat} {fs : List Value} {v : Value} (C : Cx p s m args c cc nL RX5 D cy A) (hO : Wo D A ws s.heap H locs) (q0 : Nat) (he : ws[q0]? = some (b, .inr (9, fs))) (hv : fs[10]? = some v) (hdg : decode cc pc = .ok (.getfield 112, 3)) (kk : W p l e R s m args below meth c H locs cells slots Q (F0 m (pc + 3) ls (v :: rest))) : W p l e R s m args below meth c H locs cells slots Q (F0 m pc ls (.ref b :: rest)) := gF (k := 10) C hO q0 he rfl inFX9 (by decide) wd_259 rfl hv hdg kk
theorem wd_707 : (Cond.methodLink "WebCourt$Reader" (115 : Nat) ⟨"WebCourt$Reader", "knownName", "([JI)I"⟩) ∈ gtb := gtb_c3 118 (by decide +kernel) rfl
theorem wd_709 : (Cond.instanceMethod ⟨"WebCourt$Reader", "knownName", "([JI)I"⟩) ∈ gtb := gtb_c3 120 (by decide +kernel) rfl
theorem wd_9 : (Cond.selects "WebCourt$Reader" ⟨"WebCourt$Reader", "knownName", "([JI)I"⟩ ⟨"WebCourt$Reader", "knownName", "([JI)I"⟩) ∈ gtb := gtb_p 9 (by decide +kernel) rfl
theorem hd_yX5_knownName : yX5_knownName.cls = RX5 ∧ yX5_knownName.cls ≠ "java/lang/invoke/MethodHandle" ∧ yX5_knownName.cls ≠ "java/lang/invoke/VarHandle" ∧ (parseMethodDescriptor yX5_knownName.desc).map (fun d => d.parameters.length) = some 2 := by decide +kernel
theorem wd_711 : (Cond.methodLink "WebCourt$Reader" (119 : Nat) ⟨"WebCourt$Web", "hasLine", "(II)Z"⟩) ∈ gtb := gtb_c3 122 (by decide +kernel) rfl
theorem wd_712 : (Cond.instanceMethod ⟨"WebCourt$Web", "hasLine", "(II)Z"⟩) ∈ gtb := gtb_c3 123 (by decide +kernel) rfl
theorem wd_713 : (Cond.selects "WebCourt$Web" ⟨"WebCourt$Web", "hasLine", "(II)Z"⟩ ⟨"WebCourt$Web", "hasLine", "(II)Z"⟩) ∈ gtb := gtb_c3 124 (by decide +kernel) rfl
theorem hd_yX9_hasLine : yX9_hasLine.cls = RX9 ∧ yX9_hasLine.cls ≠ "java/lang/invoke/MethodHandle" ∧ yX9_hasLine.cls ≠ "java/lang/invoke/VarHandle" ∧ (parseMethodDescriptor yX9_hasLine.desc).map (fun d => d.parameters.length) = some 2 := by decide +kernel
theorem wd_230 : (Cond.fieldLink "WebCourt$Reader" (122 : Nat) "WebCourt$Web" "lineFrom" "[I") ∈ gtb := gtb_c1 121 (by decide +kernel) rfl
theorem gf_RX5_122 {p : Program} {l : Launch} {e : Env} {R : Room} {s : State} {m : MethodId} {args : Array Value} {below : List Frame} {meth : Method} {c : Code} {H : Heap} {locs : List Loc} {cells slots : Nat} {Q : State → Prop} {cc : ByteArray} {pc nL : Nat} {ls : Array Slot} {rest : List Value} {D : va_G} {cy : Nat → ClassId} {A : Nat → Prop} {ws : va_W} {b : Nat} {fs : List Value} {v : Value} (C : Cx p s m args c cc nL RX5 D cy A) (hO : Wo D A ws s.heap H locs) (q0 : Nat) (he : ws[q0]? = some (b, .inr (9, fs))) (hv : fs[3]? = some v) (hdg : decode cc pc = .ok (.getfield 122, 3)) (kk : W p l e R s m args below meth c H locs cells slots Q (F0 m (pc + 3) ls (v :: rest))) : W p l e R s m args below meth c H locs cells slots Q (F0 m pc ls (.ref b :: rest)) := gF (k := 3) C hO q0 he rfl inFX9 (by decide) wd_230 rfl hv hdg kk
theorem wd_234 : (Cond.fieldLink "WebCourt$Reader" (126 : Nat) "WebCourt$Web" "lineTo" "[I") ∈ gtb := gtb_c1 125 (by decide +kernel) rfl
theorem gf_RX5_126 {p : Program} {l : Launch} {e : Env} {R : Room} {s : State} {m : MethodId} {args : Array Value} {below : List Frame} {meth : Method} {c : Code} {H : Heap} {locs : List Loc} {cells slots : Nat} {Q : State → Prop} {cc : ByteArray} {pc nL : Nat} {ls : Array Slot} {rest : List Value} {D : va_G} {cy : Nat → ClassId} {A : Nat → Prop} {ws : va_W} {b : Nat} {fs : List Value} {v : Value} (C : Cx p s m args c cc nL RX5 D cy A) (hO : Wo D A ws s.heap H locs) (q0 : Nat) (he : ws[q0]? = some (b, .inr (9, fs))) (hv : fs[4]? = some v) (hdg : decode cc pc = .ok (.getfield 126, 3)) (kk : W p l e R s m args below meth c H locs cells slots Q (F0 m (pc + 3) ls (v :: rest))) : W p l e R s m args below meth c H locs cells slots Q (F0 m pc ls (.ref b :: rest)) := gF (k := 4) C hO q0 he rfl inFX9 (by decide) wd_234 rfl hv hdg kk
theorem pf_RX5_112 {p : Program} {l : Launch} {e : Env} {R : Room} {s : State} {m : MethodId} {args : Array Value} {below : List Frame} {meth : Method} {c : Code} {H : Heap} {locs : List Loc} {cells slots : Nat} {Q : State → Prop} {cc : ByteArray} {pc nL : Nat} {ls : Array Slot} {rest : List Value} {D : va_G} {cy : Nat → ClassId} {A : Nat → Prop} {ws : va_W} {b : Nat} {fs : List Value} {v : Int32} {ws' : va_W} (C : Cx p s m args c cc nL RX5 D cy A) (hO : Wo D A ws s.heap H locs) (q0 : Nat) (he : ws[q0]? = some (b, .inr (9, fs))) (hlen : 10 < fs.length) (hw : ws.set q0 (b, .inr (9, fs.set 10 (.int v))) = ws') (hdg : decode cc pc = .ok (.putfield 112, 3)) (kk : ∀ (H : Heap) (locs : List Loc), Wo D A ws' s.heap H locs → W p l e R s m args below meth c H locs cells slots Q (F0 m (pc + 3) ls rest)) : W p l e R s m args below meth c H locs cells slots Q (F0 m pc ls (.int v :: .ref b :: rest)) := pF (k := 10) (ty := .int) C hO q0 he rfl inFX9 (by decide) wd_259 rfl tyX9 tyX9_ok nmX9 rfl (by decide +kernel) rfl rfl hlen hw hdg kk
theorem wd_276 : (Cond.fieldLink "WebCourt$Reader" (129 : Nat) "WebCourt$Web" "sticky" "I") ∈ gtb := gtb_c1 167 (by decide +kernel) rfl
theorem gf_RX5_129 {p : Program} {l : Launch} {e : Env} {R : Room} {s : State} {m : MethodId} {args : Array Value} {below : List Frame} {meth : Method} {c : Code} {H : Heap} {locs : List Loc} {cells slots : Nat} {Q : State → Prop} {cc : ByteArray} {pc nL : Nat} {ls : Array Slot} {rest : List Value} {D : va_G} {cy : Nat → ClassId} {A : Nat → Prop} {ws : va_W} {b : Nat} {fs : List Value} {v : Value} (C : Cx p s m args c cc nL RX5 D cy A) (hO : Wo D A ws s.heap H locs) (q0 : Nat) (he : ws[q0]? = some (b, .inr (9, fs))) (hv : fs[13]? = some v) (hdg : decode cc pc = .ok (.getfield 129, 3)) (kk : W p l e R s m args below meth c H locs cells slots Q (F0 m (pc + 3) ls (v :: rest))) : W p l e R s m args below meth c H locs cells slots Q (F0 m pc ls (.ref b :: rest)) := gF (k := 13) C hO q0 he rfl inFX9 (by decide) wd_276 rfl hv hdg kk
theorem pf_RX5_129 {p : Program} {l : Launch} {e : Env} {R : Room} {s : State} {m : MethodId} {args : Array Value} {below : List Frame} {meth : Method} {c : Code} {H : Heap} {locs : List Loc} {cells slots : Nat} {Q : State → Prop} {cc : ByteArray} {pc nL : Nat} {ls : Array Slot} {rest : List Value} {D : va_G} {cy : Nat → ClassId} {A : Nat → Prop} {ws : va_W} {b : Nat} {fs : List Value} {v : Int32} {ws' : va_W} (C : Cx p s m args c cc nL RX5 D cy A) (hO : Wo D A ws s.heap H locs) (q0 : Nat) (he : ws[q0]? = some (b, .inr (9, fs))) (hlen : 13 < fs.length) (hw : ws.set q0 (b, .inr (9, fs.set 13 (.int v))) = ws') (hdg : decode cc pc = .ok (.putfield 129, 3)) (kk : ∀ (H : Heap) (locs : List Loc), Wo D A ws' s.heap H locs → W p l e R s m args below meth c H locs cells slots Q (F0 m (pc + 3) ls rest)) : W p l e R s m args below meth c H locs cells slots Q (F0 m pc ls (.int v :: .ref b :: rest)) := pF (k := 13) (ty := .int) C hO q0 he rfl inFX9 (by decide) wd_276 rfl tyX9 tyX9_ok nmX9 rfl (by decide +kernel) rfl rfl hlen hw hdg kk
set_option maxHeartbeats 4000000 in
set_option maxRecDepth 100000 in
theorem T_X5_readThread (l : Launch) (D : va_G) (cy : Nat → ClassId) (a : Nat → Nat) (u : St) (hJ : CI a u) (hW : fR u 2 = a 15)   : Mi l D cy (cW cy a) yX5_readThread (.code yX5_readThread cX5_readThread 3 (some .boolean)) (rmo 7 153) [.ref (a 27)] u (fun (r : Int32) (u' : St) => (r = 0 ∨ r = 1) ∧ (CI a u') ∧ (KT u u') ∧ (fR u' 2 = a 15)) := by
  refine Mi.of (own := RX5) rfl (by decide) (Nat.le_of_ble_eq_true rfl) ?_
  have hT : KT u u := KT.rf
  intro p e s m below meth c A Q ls C hret hO hl
  obtain ⟨hx, hb, hml, hown, ht, hK, hA⟩ := id C
  have hl : lv_has ls 3 [(0, .ref (a 27))] := hl
  refine lv_aload_n hx hb dX5_readThread_0 rfl (lv_at hl 0 rfl) ?_
  refine lv_aload_n hx hb dX5_readThread_1 rfl (lv_at hl 0 rfl) ?_
  refine gf_RX5_15 (v := .ref (a 15)) C hO 27 cW_27 (congrArg (fun z : Nat => some (Value.ref z)) hW) dX5_readThread_2 ?_
  have g1 : 0 ≤ (fI u 15 10).toInt ∧ (fI u 15 10).toInt ≤ 14 := by have h := CI_15_10 hJ; exact h
  refine gf_RX5_112 (v := .int (fI u 15 10)) C hO 15 cW_15 rfl dX5_readThread_5 ?_
  refine lv_bipush (v := 14) hx hb dX5_readThread_8 (by decide) ?_
  refine cVi (w := cW cy a) (As := [.int (fI u 15 10), .int 14]) (rest := []) C hO (T_X5_openSort l D cy a _ (by exact hJ) (by exact hW) ((fI u 15 10)) (14)) (cwV 2 ht (gV wd_687 wd_689 wd_5 wd_114 wd_690) rfl rfl rfl hd_yX5_openSort ⟨Nat.le_of_ble_eq_true rfl, Nat.le_of_ble_eq_true rfl⟩) 27 rfl cW_27 rfl rfl hl.1 (Nat.le_of_ble_eq_true rfl) dX5_readThread_10 rfl ⟨Nat.zero_le _, Nat.zero_le _⟩ (fun r2 u3 H locs hp4 hO => ?_)
  have g5 : 0 ≤ (fI u 15 9).toInt ∧ (fI u 15 9).toInt ≤ 8 := by have h := CI_15_9 hJ; exact h
  have g6 : 0 ≤ (fI u 15 11).toInt ∧ (fI u 15 11).toInt ≤ 8 := by have h := CI_15_11 hJ; exact h
  have g7 : 0 ≤ (fI u 15 12).toInt ∧ (fI u 15 12).toInt ≤ 6 := by have h := CI_15_12 hJ; exact h
  obtain ⟨hr2, hJ, hTu3, hW⟩ := hp4
  have hT : KT u u3 := KT.tr (by exact hT) hTu3.1
  have hI_15_9_u3 : fI u3 15 9 = (fI u 15 9) := hTu3.2.1
  have hI_15_10_u3 : fI u3 15 10 = (fI u 15 10) := hTu3.2.2.1
  have hI_15_11_u3 : fI u3 15 11 = (fI u 15 11) := hTu3.2.2.2.1
  have hI_15_12_u3 : fI u3 15 12 = (fI u 15 12) := hTu3.2.2.2.2
  have zz8 : (14 : Int32).toInt = 14 := rfl
  rcases hr2 with ⟨hcr2, hvr2⟩ | ⟨hcr2, hvr2⟩
  · subst hvr2
    refine bt_ne (tgt := 18) (X := 1) hx hb dX5_readThread_13 (by decide) rfl (by omega) ?_
    refine lv_aload_n hx hb dX5_readThread_18 rfl (lv_at hl 0 rfl) ?_
    refine lv_aload_n hx hb dX5_readThread_19 rfl (lv_at hl 0 rfl) ?_
    refine gf_RX5_15 (v := .ref (a 15)) C hO 27 cW_27 (congrArg (fun z : Nat => some (Value.ref z)) hW) dX5_readThread_20 ?_
    refine gf_RX5_104 (v := .ref (a 16)) C hO 15 cW_15 rfl dX5_readThread_23 ?_
    refine lv_aload_n hx hb dX5_readThread_26 rfl (lv_at hl 0 rfl) ?_
    refine gf_RX5_15 (v := .ref (a 15)) C hO 27 cW_27 (congrArg (fun z : Nat => some (Value.ref z)) hW) dX5_readThread_27 ?_
    refine gf_RX5_97 (v := .int (fI u 15 9)) C hO 15 cW_15 (congrArg (fun z : Int32 => some (Value.int z)) hI_15_9_u3) dX5_readThread_30 ?_
    refine cVi (w := cW cy a) (As := [.ref (a 16), .int (fI u 15 9)]) (rest := []) C hO (T_X5_knownName_16 l D cy a _ (by exact hJ) (by exact hW) ((fI u 15 9))) (cwV 2 ht (gV wd_707 wd_709 wd_9 wd_114 wd_710) rfl rfl rfl hd_yX5_knownName ⟨Nat.le_of_ble_eq_true rfl, Nat.le_of_ble_eq_true rfl⟩) 27 rfl cW_27 rfl rfl hl.1 (Nat.le_of_ble_eq_true rfl) dX5_readThread_33 rfl ⟨Nat.zero_le _, Nat.zero_le _⟩ (fun r9 u10 H locs hp11 hO => ?_)
    obtain ⟨hr9, hJ, hTu10, hW⟩ := hp11
    have hT : KT u u10 := KT.tr (by exact hT) hTu10.1
    have hI_15_9_u10 : fI u10 15 9 = (fI u 15 9) := Eq.trans (hTu10.2.1) (hI_15_9_u3)
    have hI_15_10_u10 : fI u10 15 10 = (fI u 15 10) := Eq.trans (hTu10.2.2.1) (hI_15_10_u3)
    have hI_15_11_u10 : fI u10 15 11 = (fI u 15 11) := Eq.trans (hTu10.2.2.2.1) (hI_15_11_u3)
    have hI_15_12_u10 : fI u10 15 12 = (fI u 15 12) := Eq.trans (hTu10.2.2.2.2) (hI_15_12_u3)
    refine lv_istore_n (lv' := [(1, .int r9), (0, .ref (a 27))]) hx hb dX5_readThread_36 rfl hl (by decide) rfl (fun ls hl => ?_)
    refine lv_iload_n hx hb dX5_readThread_37 rfl (lv_at hl 0 rfl) ?_
    refine lv_iconst (v := (-1)) hx hb dX5_readThread_38 (by decide) ?_
    refine cs_ne (tgt := 44) (X := (r9).toInt) (Y := (-1)) hx hb dX5_readThread_39 (by decide) rfl rfl (fun c12 => ?_) (fun c12 => ?_)
    · refine lv_aload_n hx hb dX5_readThread_44 rfl (lv_at hl 1 rfl) ?_
      refine gf_RX5_9 (v := .ref (a 1)) C hO 27 cW_27 rfl dX5_readThread_45 ?_
      refine cVv (w := cW cy a) (As := []) (rest := []) C hO (T_X7_advance l D cy a _ (by exact hJ) (by exact hW)) (cwV 0 ht (gV wd_695 wd_541 wd_542 wd_111 wd_543) rfl rfl rfl hd_yX7_advance ⟨Nat.le_of_ble_eq_true rfl, Nat.le_of_ble_eq_true rfl⟩) 1 rfl cW_1 rfl rfl hl.1 (Nat.le_of_ble_eq_true rfl) dX5_readThread_48 rfl ⟨Nat.zero_le _, Nat.zero_le _⟩ (fun u14 H locs hp15 hO => ?_)
      obtain ⟨hJ, hTu14, hW⟩ := hp15
      have hT : KT u u14 := KT.tr (by exact hT) hTu14.1
      have hI_15_9_u14 : fI u14 15 9 = (fI u 15 9) := Eq.trans (hTu14.2.1) (hI_15_9_u10)
      have hI_15_10_u14 : fI u14 15 10 = (fI u 15 10) := Eq.trans (hTu14.2.2.1) (hI_15_10_u10)
      have hI_15_11_u14 : fI u14 15 11 = (fI u 15 11) := Eq.trans (hTu14.2.2.2.1) (hI_15_11_u10)
      have hI_15_12_u14 : fI u14 15 12 = (fI u 15 12) := Eq.trans (hTu14.2.2.2.2) (hI_15_12_u10)
      refine lv_aload_n hx hb dX5_readThread_51 rfl (lv_at hl 1 rfl) ?_
      refine lv_aload_n hx hb dX5_readThread_52 rfl (lv_at hl 1 rfl) ?_
      refine gf_RX5_15 (v := .ref (a 15)) C hO 27 cW_27 (congrArg (fun z : Nat => some (Value.ref z)) hW) dX5_readThread_53 ?_
      refine gf_RX5_104 (v := .ref (a 16)) C hO 15 cW_15 rfl dX5_readThread_56 ?_
      refine lv_aload_n hx hb dX5_readThread_59 rfl (lv_at hl 1 rfl) ?_
      refine gf_RX5_15 (v := .ref (a 15)) C hO 27 cW_27 (congrArg (fun z : Nat => some (Value.ref z)) hW) dX5_readThread_60 ?_
      refine gf_RX5_97 (v := .int (fI u 15 9)) C hO 15 cW_15 (congrArg (fun z : Int32 => some (Value.int z)) hI_15_9_u14) dX5_readThread_63 ?_
      refine cVi (w := cW cy a) (As := [.ref (a 16), .int (fI u 15 9)]) (rest := []) C hO (T_X5_knownName_16 l D cy a _ (by exact hJ) (by exact hW) ((fI u 15 9))) (cwV 2 ht (gV wd_707 wd_709 wd_9 wd_114 wd_710) rfl rfl rfl hd_yX5_knownName ⟨Nat.le_of_ble_eq_true rfl, Nat.le_of_ble_eq_true rfl⟩) 27 rfl cW_27 rfl rfl hl.1 (Nat.le_of_ble_eq_true rfl) dX5_readThread_66 rfl ⟨Nat.zero_le _, Nat.zero_le _⟩ (fun r16 u17 H locs hp18 hO => ?_)
      obtain ⟨hr16, hJ, hTu17, hW⟩ := hp18
      have hT : KT u u17 := KT.tr (by exact hT) hTu17.1
      have hI_15_9_u17 : fI u17 15 9 = (fI u 15 9) := Eq.trans (hTu17.2.1) (hI_15_9_u14)
      have hI_15_10_u17 : fI u17 15 10 = (fI u 15 10) := Eq.trans (hTu17.2.2.1) (hI_15_10_u14)
      have hI_15_11_u17 : fI u17 15 11 = (fI u 15 11) := Eq.trans (hTu17.2.2.2.1) (hI_15_11_u14)
      have hI_15_12_u17 : fI u17 15 12 = (fI u 15 12) := Eq.trans (hTu17.2.2.2.2) (hI_15_12_u14)
      refine lv_istore_n (lv' := [(2, .int r16), (1, .int r9), (0, .ref (a 27))]) hx hb dX5_readThread_69 rfl hl (by decide) rfl (fun ls hl => ?_)
      refine lv_iload_n hx hb dX5_readThread_70 rfl (lv_at hl 0 rfl) ?_
      refine lv_iconst (v := (-1)) hx hb dX5_readThread_71 (by decide) ?_
      refine cs_ne (tgt := 77) (X := (r16).toInt) (Y := (-1)) hx hb dX5_readThread_72 (by decide) rfl rfl (fun c19 => ?_) (fun c19 => ?_)
      · refine lv_iload_n hx hb dX5_readThread_77 rfl (lv_at hl 0 rfl) ?_
        refine lv_iload_n hx hb dX5_readThread_78 rfl (lv_at hl 1 rfl) ?_
        refine cs_eq (tgt := 94) (X := (r16).toInt) (Y := (r9).toInt) hx hb dX5_readThread_79 (by decide) rfl rfl (fun c20 => ?_) (fun c20 => ?_)
        · refine lv_aload_n hx hb dX5_readThread_94 rfl (lv_at hl 2 rfl) ?_
          refine lv_iconst (v := 3) hx hb dX5_readThread_95 (by decide) ?_
          refine cVi (w := cW cy a) (As := [.int 3]) (rest := []) C hO (T_X5_refuse l D cy a _ (by exact hJ) (by exact hW) (3)) (cwV 1 ht (gV wd_691 wd_693 wd_6 wd_114 wd_694) rfl rfl rfl hd_yX5_refuse ⟨Nat.le_of_ble_eq_true rfl, Nat.le_of_ble_eq_true rfl⟩) 27 rfl cW_27 rfl rfl hl.1 (Nat.le_of_ble_eq_true rfl) dX5_readThread_96 rfl ⟨Nat.zero_le _, Nat.zero_le _⟩ (fun r21 u22 H locs hp23 hO => ?_)
          obtain ⟨hr21, hJ, hTu22, hW⟩ := hp23
          subst hr21
          have hT : KT u u22 := KT.tr (by exact hT) hTu22.1
          have hI_15_9_u22 : fI u22 15 9 = (fI u 15 9) := Eq.trans (hTu22.2.1) (hI_15_9_u17)
          have hI_15_10_u22 : fI u22 15 10 = (fI u 15 10) := Eq.trans (hTu22.2.2.1) (hI_15_10_u17)
          have hI_15_11_u22 : fI u22 15 11 = (fI u 15 11) := Eq.trans (hTu22.2.2.2.1) (hI_15_11_u17)
          have hI_15_12_u22 : fI u22 15 12 = (fI u 15 12) := Eq.trans (hTu22.2.2.2.2) (hI_15_12_u17)
          refine hret _ _ _ _ _ _ dX5_readThread_99 rfl ?_ hO
          exact ⟨Or.inl rfl, hJ, hT, hW⟩
        · refine lv_aload_n hx hb dX5_readThread_82 rfl (lv_at hl 2 rfl) ?_
          refine gf_RX5_15 (v := .ref (a 15)) C hO 27 cW_27 (congrArg (fun z : Nat => some (Value.ref z)) hW) dX5_readThread_83 ?_
          refine lv_iload_n hx hb dX5_readThread_86 rfl (lv_at hl 1 rfl) ?_
          refine lv_iload_n hx hb dX5_readThread_87 rfl (lv_at hl 0 rfl) ?_
          refine cVi (w := cW cy a) (As := [.int r9, .int r16]) (rest := []) C hO (T_X9_hasLine l D cy a _ (by exact hJ) (r9) (r16)) (cwV 2 ht (gV wd_711 wd_712 wd_713 wd_112 wd_714) rfl rfl rfl hd_yX9_hasLine ⟨Nat.le_of_ble_eq_true rfl, Nat.le_of_ble_eq_true rfl⟩) 15 rfl cW_15 rfl rfl hl.1 (Nat.le_of_ble_eq_true rfl) dX5_readThread_88 rfl ⟨Nat.zero_le _, Nat.zero_le _⟩ (fun r24 u25 H locs hp26 hO => ?_)
          obtain ⟨hr24, hu25⟩ := hp26
          have gr24 : 0 ≤ r24.toInt ∧ r24.toInt ≤ 1 := by rcases hr24 with h | h <;> rw [h] <;> decide
          rw [hu25] at hO
          refine bs_eq (tgt := 100) (X := (r24).toInt) hx hb dX5_readThread_91 (by decide) rfl (fun c27 => ?_) (fun c27 => ?_)
          · refine lv_aload_n hx hb dX5_readThread_100 rfl (lv_at hl 2 rfl) ?_
            refine gf_RX5_9 (v := .ref (a 1)) C hO 27 cW_27 rfl dX5_readThread_101 ?_
            refine cVv (w := cW cy a) (As := []) (rest := []) C hO (T_X7_advance l D cy a _ (by exact hJ) (by exact hW)) (cwV 0 ht (gV wd_695 wd_541 wd_542 wd_111 wd_543) rfl rfl rfl hd_yX7_advance ⟨Nat.le_of_ble_eq_true rfl, Nat.le_of_ble_eq_true rfl⟩) 1 rfl cW_1 rfl rfl hl.1 (Nat.le_of_ble_eq_true rfl) dX5_readThread_104 rfl ⟨Nat.zero_le _, Nat.zero_le _⟩ (fun u29 H locs hp30 hO => ?_)
            obtain ⟨hJ, hTu29, hW⟩ := hp30
            have hT : KT u u29 := KT.tr (by exact hT) hTu29.1
            have hI_15_9_u29 : fI u29 15 9 = (fI u 15 9) := Eq.trans (hTu29.2.1) (hI_15_9_u17)
            have hI_15_10_u29 : fI u29 15 10 = (fI u 15 10) := Eq.trans (hTu29.2.2.1) (hI_15_10_u17)
            have hI_15_11_u29 : fI u29 15 11 = (fI u 15 11) := Eq.trans (hTu29.2.2.2.1) (hI_15_11_u17)
            have hI_15_12_u29 : fI u29 15 12 = (fI u 15 12) := Eq.trans (hTu29.2.2.2.2) (hI_15_12_u17)
            refine lv_aload_n hx hb dX5_readThread_107 rfl (lv_at hl 2 rfl) ?_
            refine gf_RX5_15 (v := .ref (a 15)) C hO 27 cW_27 (congrArg (fun z : Nat => some (Value.ref z)) hW) dX5_readThread_108 ?_
            refine gf_RX5_122 (v := .ref (a 19)) C hO 15 cW_15 rfl dX5_readThread_111 ?_
            refine lv_aload_n hx hb dX5_readThread_114 rfl (lv_at hl 2 rfl) ?_
            refine gf_RX5_15 (v := .ref (a 15)) C hO 27 cW_27 (congrArg (fun z : Nat => some (Value.ref z)) hW) dX5_readThread_115 ?_
            refine gf_RX5_112 (v := .int (fI u 15 10)) C hO 15 cW_15 (congrArg (fun z : Int32 => some (Value.int z)) hI_15_10_u29) dX5_readThread_118 ?_
            refine lv_iload_n hx hb dX5_readThread_121 rfl (lv_at hl 1 rfl) ?_
            refine aIs C hO 19 cW_19 (i_in (X := ((fI u 15 10)).toInt) rfl (by omega) (by omega)) cW_s19 dX5_readThread_122 (fun H locs hO => ?_)
            have hJ := CIsA hO hJ
            refine lv_aload_n hx hb dX5_readThread_123 rfl (lv_at hl 2 rfl) ?_
            refine gf_RX5_15 (v := .ref (a 15)) C hO 27 cW_27 (congrArg (fun z : Nat => some (Value.ref z)) hW) dX5_readThread_124 ?_
            refine gf_RX5_126 (v := .ref (a 20)) C hO 15 cW_15 rfl dX5_readThread_127 ?_
            refine lv_aload_n hx hb dX5_readThread_130 rfl (lv_at hl 2 rfl) ?_
            refine gf_RX5_15 (v := .ref (a 15)) C hO 27 cW_27 (congrArg (fun z : Nat => some (Value.ref z)) hW) dX5_readThread_131 ?_
            refine gf_RX5_112 (v := .int (fI u 15 10)) C hO 15 cW_15 (congrArg (fun z : Int32 => some (Value.int z)) hI_15_10_u29) dX5_readThread_134 ?_
            refine lv_iload_n hx hb dX5_readThread_137 rfl (lv_at hl 0 rfl) ?_
            refine aIs C hO 20 cW_20 (i_in (X := ((fI u 15 10)).toInt) rfl (by omega) (by omega)) cW_s20 dX5_readThread_138 (fun H locs hO => ?_)
            have hJ := CIsA hO hJ
            refine lv_aload_n hx hb dX5_readThread_139 rfl (lv_at hl 2 rfl) ?_
            refine gf_RX5_9 (v := .ref (a 1)) C hO 27 cW_27 rfl dX5_readThread_140 ?_
            refine gf_RX5_36 (v := .int (fI u29 1 4)) C hO 1 cW_1 rfl dX5_readThread_143 ?_
            refine lv_iconst (v := 3) hx hb dX5_readThread_146 (by decide) ?_
            refine cs_ne (tgt := 178) (X := ((fI u29 1 4)).toInt) (Y := 3) hx hb dX5_readThread_147 (by decide) rfl rfl (fun c31 => ?_) (fun c31 => ?_)
            · refine lv_aload_n hx hb dX5_readThread_178 rfl (lv_at hl 2 rfl) ?_
              refine gf_RX5_15 (v := .ref (a 15)) C hO 27 cW_27 (congrArg (fun z : Nat => some (Value.ref z)) hW) dX5_readThread_179 ?_
              refine lv_dup hx hb dX5_readThread_182 rfl ?_
              refine gf_RX5_112 (v := .int (fI u 15 10)) C hO 15 cW_15 (congrArg (fun z : Int32 => some (Value.int z)) hI_15_10_u29) dX5_readThread_183 ?_
              refine lv_iconst (v := 1) hx hb dX5_readThread_186 (by decide) ?_
              have e32 : (((fI u 15 10) + 1)).toInt = ((fI u 15 10)).toInt + 1 := i_add rfl rfl (by omega)
              refine lv_iadd hx hb dX5_readThread_187 ?_
              refine pf_RX5_112 C hO 15 cW_15 (Nat.le_of_ble_eq_true rfl) cW_s15_10 dX5_readThread_188 (fun H locs hO => ?_)
              have hJ := CIs_15_10 (v := ((fI u 15 10) + 1)) hJ (by first | decide | omega)
              refine lv_iconst (v := 1) hx hb dX5_readThread_191 (by decide) ?_
              refine hret _ _ _ _ _ _ dX5_readThread_192 rfl ?_ hO
              exact ⟨Or.inr rfl, hJ, hT, hW⟩
            · refine lv_aload_n hx hb dX5_readThread_150 rfl (lv_at hl 2 rfl) ?_
              refine gf_RX5_15 (v := .ref (a 15)) C hO 27 cW_27 (congrArg (fun z : Nat => some (Value.ref z)) hW) dX5_readThread_151 ?_
              refine lv_dup hx hb dX5_readThread_154 rfl ?_
              refine gf_RX5_129 (v := .int (fI u29 15 13)) C hO 15 cW_15 rfl dX5_readThread_155 ?_
              refine lv_iconst (v := 1) hx hb dX5_readThread_158 (by decide) ?_
              refine lv_aload_n hx hb dX5_readThread_159 rfl (lv_at hl 2 rfl) ?_
              refine gf_RX5_15 (v := .ref (a 15)) C hO 27 cW_27 (congrArg (fun z : Nat => some (Value.ref z)) hW) dX5_readThread_160 ?_
              refine gf_RX5_112 (v := .int (fI u 15 10)) C hO 15 cW_15 (congrArg (fun z : Int32 => some (Value.int z)) hI_15_10_u29) dX5_readThread_163 ?_
              refine lv_ishl hx hb dX5_readThread_166 ?_
              refine lv_topi (fun z33 ez33 => ?_)
              have g34 : 0 ≤ z33.toInt ∧ z33.toInt ≤ 2 ^ 13 := by rw [ez33]; exact i_shl1 rfl (by omega) (by omega) (by decide)
              refine lv_ior hx hb dX5_readThread_167 ?_
              refine lv_topi (fun z35 ez35 => ?_)
              refine pf_RX5_129 C hO 15 cW_15 (Nat.le_of_ble_eq_true rfl) cW_s15_13 dX5_readThread_168 (fun H locs hO => ?_)
              have hJ := CIs_15_13 (v := z35) hJ
              refine lv_aload_n hx hb dX5_readThread_171 rfl (lv_at hl 2 rfl) ?_
              refine gf_RX5_9 (v := .ref (a 1)) C hO 27 cW_27 rfl dX5_readThread_172 ?_
              refine cVv (w := cW cy a) (As := []) (rest := []) C hO (T_X7_advance l D cy a _ (by exact hJ) (by exact hW)) (cwV 0 ht (gV wd_695 wd_541 wd_542 wd_111 wd_543) rfl rfl rfl hd_yX7_advance ⟨Nat.le_of_ble_eq_true rfl, Nat.le_of_ble_eq_true rfl⟩) 1 rfl cW_1 rfl rfl hl.1 (Nat.le_of_ble_eq_true rfl) dX5_readThread_175 rfl ⟨Nat.zero_le _, Nat.zero_le _⟩ (fun u37 H locs hp38 hO => ?_)
              obtain ⟨hJ, hTu37, hW⟩ := hp38
              have hT : KT u u37 := KT.tr (by exact hT) hTu37.1
              have hI_15_9_u37 : fI u37 15 9 = (fI u 15 9) := Eq.trans (hTu37.2.1) (hI_15_9_u29)
              have hI_15_10_u37 : fI u37 15 10 = (fI u 15 10) := Eq.trans (hTu37.2.2.1) (hI_15_10_u29)
              have hI_15_11_u37 : fI u37 15 11 = (fI u 15 11) := Eq.trans (hTu37.2.2.2.1) (hI_15_11_u29)
              have hI_15_12_u37 : fI u37 15 12 = (fI u 15 12) := Eq.trans (hTu37.2.2.2.2) (hI_15_12_u29)
              refine lv_aload_n hx hb dX5_readThread_178 rfl (lv_at hl 2 rfl) ?_
              refine gf_RX5_15 (v := .ref (a 15)) C hO 27 cW_27 (congrArg (fun z : Nat => some (Value.ref z)) hW) dX5_readThread_179 ?_
              refine lv_dup hx hb dX5_readThread_182 rfl ?_
              refine gf_RX5_112 (v := .int (fI u 15 10)) C hO 15 cW_15 (congrArg (fun z : Int32 => some (Value.int z)) hI_15_10_u37) dX5_readThread_183 ?_
              refine lv_iconst (v := 1) hx hb dX5_readThread_186 (by decide) ?_
              have e39 : (((fI u 15 10) + 1)).toInt = ((fI u 15 10)).toInt + 1 := i_add rfl rfl (by omega)
              refine lv_iadd hx hb dX5_readThread_187 ?_
              refine pf_RX5_112 C hO 15 cW_15 (Nat.le_of_ble_eq_true rfl) cW_s15_10 dX5_readThread_188 (fun H locs hO => ?_)
              have hJ := CIs_15_10 (v := ((fI u 15 10) + 1)) hJ (by first | decide | omega)
              refine lv_iconst (v := 1) hx hb dX5_readThread_191 (by decide) ?_
              refine hret _ _ _ _ _ _ dX5_readThread_192 rfl ?_ hO
              exact ⟨Or.inr rfl, hJ, hT, hW⟩
          · refine lv_aload_n hx hb dX5_readThread_94 rfl (lv_at hl 2 rfl) ?_
            refine lv_iconst (v := 3) hx hb dX5_readThread_95 (by decide) ?_
            refine cVi (w := cW cy a) (As := [.int 3]) (rest := []) C hO (T_X5_refuse l D cy a _ (by exact hJ) (by exact hW) (3)) (cwV 1 ht (gV wd_691 wd_693 wd_6 wd_114 wd_694) rfl rfl rfl hd_yX5_refuse ⟨Nat.le_of_ble_eq_true rfl, Nat.le_of_ble_eq_true rfl⟩) 27 rfl cW_27 rfl rfl hl.1 (Nat.le_of_ble_eq_true rfl) dX5_readThread_96 rfl ⟨Nat.zero_le _, Nat.zero_le _⟩ (fun r40 u41 H locs hp42 hO => ?_)
            obtain ⟨hr40, hJ, hTu41, hW⟩ := hp42
            subst hr40
            have hT : KT u u41 := KT.tr (by exact hT) hTu41.1
            have hI_15_9_u41 : fI u41 15 9 = (fI u 15 9) := Eq.trans (hTu41.2.1) (hI_15_9_u17)
            have hI_15_10_u41 : fI u41 15 10 = (fI u 15 10) := Eq.trans (hTu41.2.2.1) (hI_15_10_u17)
            have hI_15_11_u41 : fI u41 15 11 = (fI u 15 11) := Eq.trans (hTu41.2.2.2.1) (hI_15_11_u17)
            have hI_15_12_u41 : fI u41 15 12 = (fI u 15 12) := Eq.trans (hTu41.2.2.2.2) (hI_15_12_u17)
            refine hret _ _ _ _ _ _ dX5_readThread_99 rfl ?_ hO
            exact ⟨Or.inl rfl, hJ, hT, hW⟩
      · refine lv_iconst (v := 0) hx hb dX5_readThread_75 (by decide) ?_
        refine hret _ _ _ _ _ _ dX5_readThread_76 rfl ?_ hO
        exact ⟨Or.inl rfl, hJ, hT, hW⟩
    · refine lv_iconst (v := 0) hx hb dX5_readThread_42 (by decide) ?_
      refine hret _ _ _ _ _ _ dX5_readThread_43 rfl ?_ hO
      exact ⟨Or.inl rfl, hJ, hT, hW⟩
  · subst hvr2
    refine bn_ne (X := 0) hx hb dX5_readThread_13 rfl (by omega) ?_ (tgt := 18) (by decide)
    refine lv_iconst (v := 0) hx hb dX5_readThread_16 (by decide) ?_
    refine hret _ _ _ _ _ _ dX5_readThread_17 rfl ?_ hO
    exact ⟨Or.inl rfl, hJ, hT, hW⟩
theorem dX5_readPlea_0 : decode cX5_readPlea 0 = .ok (.aload_n 0, 1) := by decide +kernel
theorem dX5_readPlea_1 : decode cX5_readPlea 1 = .ok (.aload_n 0, 1) := by decide +kernel
theorem dX5_readPlea_2 : decode cX5_readPlea 2 = .ok (.getfield 15, 3) := by decide +kernel
theorem dX5_readPlea_5 : decode cX5_readPlea 5 = .ok (.getfield 132, 3) := by decide +kernel
theorem dX5_readPlea_8 : decode cX5_readPlea 8 = .ok (.bipush 8, 2) := by decide +kernel
theorem dX5_readPlea_10 : decode cX5_readPlea 10 = .ok (.invokevirtual 100, 3) := by decide +kernel
theorem dX5_readPlea_13 : decode cX5_readPlea 13 = .ok (.ifCond .eq 32, 3) := by decide +kernel
theorem dX5_readPlea_16 : decode cX5_readPlea 16 = .ok (.aload_n 0, 1) := by decide +kernel
theorem dX5_readPlea_17 : decode cX5_readPlea 17 = .ok (.aload_n 0, 1) := by decide +kernel
theorem dX5_readPlea_18 : decode cX5_readPlea 18 = .ok (.getfield 15, 3) := by decide +kernel
theorem dX5_readPlea_21 : decode cX5_readPlea 21 = .ok (.getfield 135, 3) := by decide +kernel
theorem dX5_readPlea_24 : decode cX5_readPlea 24 = .ok (.aload_n 0, 1) := by decide +kernel
theorem dX5_readPlea_25 : decode cX5_readPlea 25 = .ok (.getfield 15, 3) := by decide +kernel
theorem dX5_readPlea_28 : decode cX5_readPlea 28 = .ok (.getfield 132, 3) := by decide +kernel
theorem dX5_readPlea_31 : decode cX5_readPlea 31 = .ok (.invokevirtual 108, 3) := by decide +kernel
theorem dX5_readPlea_34 : decode cX5_readPlea 34 = .ok (.ifCond .eq 11, 3) := by decide +kernel
theorem dX5_readPlea_37 : decode cX5_readPlea 37 = .ok (.aload_n 0, 1) := by decide +kernel
theorem dX5_readPlea_38 : decode cX5_readPlea 38 = .ok (.iconst 5, 1) := by decide +kernel
theorem dX5_readPlea_39 : decode cX5_readPlea 39 = .ok (.invokevirtual 43, 3) := by decide +kernel
theorem dX5_readPlea_42 : decode cX5_readPlea 42 = .ok (.ifCond .ne 5, 3) := by decide +kernel
theorem dX5_readPlea_45 : decode cX5_readPlea 45 = .ok (.iconst 0, 1) := by decide +kernel
theorem dX5_readPlea_46 : decode cX5_readPlea 46 = .ok (.ireturn, 1) := by decide +kernel
theorem dX5_readPlea_47 : decode cX5_readPlea 47 = .ok (.aload_n 0, 1) := by decide +kernel
theorem dX5_readPlea_48 : decode cX5_readPlea 48 = .ok (.bipush 20, 2) := by decide +kernel
theorem dX5_readPlea_50 : decode cX5_readPlea 50 = .ok (.invokevirtual 138, 3) := by decide +kernel
theorem dX5_readPlea_53 : decode cX5_readPlea 53 = .ok (.istore_n 1, 1) := by decide +kernel
theorem dX5_readPlea_54 : decode cX5_readPlea 54 = .ok (.iload_n 1, 1) := by decide +kernel
theorem dX5_readPlea_55 : decode cX5_readPlea 55 = .ok (.iconst (-1), 1) := by decide +kernel
theorem dX5_readPlea_56 : decode cX5_readPlea 56 = .ok (.if_icmp .ne 5, 3) := by decide +kernel
theorem dX5_readPlea_59 : decode cX5_readPlea 59 = .ok (.iconst 0, 1) := by decide +kernel
theorem dX5_readPlea_60 : decode cX5_readPlea 60 = .ok (.ireturn, 1) := by decide +kernel
theorem dX5_readPlea_61 : decode cX5_readPlea 61 = .ok (.aload_n 0, 1) := by decide +kernel
theorem dX5_readPlea_62 : decode cX5_readPlea 62 = .ok (.getfield 15, 3) := by decide +kernel
theorem dX5_readPlea_65 : decode cX5_readPlea 65 = .ok (.getfield 142, 3) := by decide +kernel
theorem dX5_readPlea_68 : decode cX5_readPlea 68 = .ok (.aload_n 0, 1) := by decide +kernel
theorem dX5_readPlea_69 : decode cX5_readPlea 69 = .ok (.getfield 15, 3) := by decide +kernel
theorem dX5_readPlea_72 : decode cX5_readPlea 72 = .ok (.getfield 132, 3) := by decide +kernel
theorem dX5_readPlea_75 : decode cX5_readPlea 75 = .ok (.iload_n 1, 1) := by decide +kernel
theorem dX5_readPlea_76 : decode cX5_readPlea 76 = .ok (.iastore, 1) := by decide +kernel
theorem dX5_readPlea_77 : decode cX5_readPlea 77 = .ok (.aload_n 0, 1) := by decide +kernel
theorem dX5_readPlea_78 : decode cX5_readPlea 78 = .ok (.getfield 15, 3) := by decide +kernel
theorem dX5_readPlea_81 : decode cX5_readPlea 81 = .ok (.dup, 1) := by decide +kernel
theorem dX5_readPlea_82 : decode cX5_readPlea 82 = .ok (.getfield 132, 3) := by decide +kernel
theorem dX5_readPlea_85 : decode cX5_readPlea 85 = .ok (.iconst 1, 1) := by decide +kernel
theorem dX5_readPlea_86 : decode cX5_readPlea 86 = .ok (.iadd, 1) := by decide +kernel
theorem dX5_readPlea_87 : decode cX5_readPlea 87 = .ok (.putfield 132, 3) := by decide +kernel
theorem dX5_readPlea_90 : decode cX5_readPlea 90 = .ok (.iconst 1, 1) := by decide +kernel
theorem dX5_readPlea_91 : decode cX5_readPlea 91 = .ok (.ireturn, 1) := by decide +kernel
theorem wd_718 : (Cond.code ⟨"WebCourt$Reader", "readPlea", "()Z"⟩ prog_7_method_14_code (2 : Nat) (Option.some FieldType.boolean)) ∈ gtb := gtb_c3 129 (by decide +kernel) rfl
theorem wd_265 : (Cond.fieldLink "WebCourt$Reader" (132 : Nat) "WebCourt$Web" "pleas" "I") ∈ gtb := gtb_c1 156 (by decide +kernel) rfl
theorem gf_RX5_132 {p : Program} {l : Launch} {e : Env} {R : Room} {s : State} {m : MethodId} {args : Array Value} {below : List Frame} {meth : Method} {c : Code} {H : Heap} {locs : List Loc} {cells slots : Nat} {Q : State → Prop} {cc : ByteArray} {pc nL : Nat} {ls : Array Slot} {rest : List Value} {D : va_G} {cy : Nat → ClassId} {A : Nat → Prop} {ws : va_W} {b : Nat} {fs : List Value} {v : Value} (C : Cx p s m args c cc nL RX5 D cy A) (hO : Wo D A ws s.heap H locs) (q0 : Nat) (he : ws[q0]? = some (b, .inr (9, fs))) (hv : fs[11]? = some v) (hdg : decode cc pc = .ok (.getfield 132, 3)) (kk : W p l e R s m args below meth c H locs cells slots Q (F0 m (pc + 3) ls (v :: rest))) : W p l e R s m args below meth c H locs cells slots Q (F0 m pc ls (.ref b :: rest)) := gF (k := 11) C hO q0 he rfl inFX9 (by decide) wd_265 rfl hv hdg kk
theorem wd_224 : (Cond.fieldLink "WebCourt$Reader" (135 : Nat) "WebCourt$Web" "pleaNames" "[J") ∈ gtb := gtb_c1 115 (by decide +kernel) rfl
theorem gf_RX5_135 {p : Program} {l : Launch} {e : Env} {R : Room} {s : State} {m : MethodId} {args : Array Value} {below : List Frame} {meth : Method} {c : Code} {H : Heap} {locs : List Loc} {cells slots : Nat} {Q : State → Prop} {cc : ByteArray} {pc nL : Nat} {ls : Array Slot} {rest : List Value} {D : va_G} {cy : Nat → ClassId} {A : Nat → Prop} {ws : va_W} {b : Nat} {fs : List Value} {v : Value} (C : Cx p s m args c cc nL RX5 D cy A) (hO : Wo D A ws s.heap H locs) (q0 : Nat) (he : ws[q0]? = some (b, .inr (9, fs))) (hv : fs[1]? = some v) (hdg : decode cc pc = .ok (.getfield 135, 3)) (kk : W p l e R s m args below meth c H locs cells slots Q (F0 m (pc + 3) ls (v :: rest))) : W p l e R s m args below meth c H locs cells slots Q (F0 m pc ls (.ref b :: rest)) := gF (k := 1) C hO q0 he rfl inFX9 (by decide) wd_224 rfl hv hdg kk
theorem wd_719 : (Cond.methodLink "WebCourt$Reader" (43 : Nat) ⟨"WebCourt$Reader", "skip", "(I)Z"⟩) ∈ gtb := gtb_c3 130 (by decide +kernel) rfl
theorem wd_721 : (Cond.instanceMethod ⟨"WebCourt$Reader", "skip", "(I)Z"⟩) ∈ gtb := gtb_c3 132 (by decide +kernel) rfl
theorem wd_11 : (Cond.selects "WebCourt$Reader" ⟨"WebCourt$Reader", "skip", "(I)Z"⟩ ⟨"WebCourt$Reader", "skip", "(I)Z"⟩) ∈ gtb := gtb_p 11 (by decide +kernel) rfl
theorem hd_yX5_skip : yX5_skip.cls = RX5 ∧ yX5_skip.cls ≠ "java/lang/invoke/MethodHandle" ∧ yX5_skip.cls ≠ "java/lang/invoke/VarHandle" ∧ (parseMethodDescriptor yX5_skip.desc).map (fun d => d.parameters.length) = some 1 := by decide +kernel
theorem wd_723 : (Cond.methodLink "WebCourt$Reader" (138 : Nat) ⟨"WebCourt$Reader", "numberTo", "(I)I"⟩) ∈ gtb := gtb_c3 134 (by decide +kernel) rfl
theorem wd_725 : (Cond.instanceMethod ⟨"WebCourt$Reader", "numberTo", "(I)I"⟩) ∈ gtb := gtb_c3 136 (by decide +kernel) rfl
theorem wd_12 : (Cond.selects "WebCourt$Reader" ⟨"WebCourt$Reader", "numberTo", "(I)I"⟩ ⟨"WebCourt$Reader", "numberTo", "(I)I"⟩) ∈ gtb := gtb_p 12 (by decide +kernel) rfl
theorem hd_yX5_numberTo : yX5_numberTo.cls = RX5 ∧ yX5_numberTo.cls ≠ "java/lang/invoke/MethodHandle" ∧ yX5_numberTo.cls ≠ "java/lang/invoke/VarHandle" ∧ (parseMethodDescriptor yX5_numberTo.desc).map (fun d => d.parameters.length) = some 1 := by decide +kernel
theorem wd_237 : (Cond.fieldLink "WebCourt$Reader" (142 : Nat) "WebCourt$Web" "strong" "[I") ∈ gtb := gtb_c1 128 (by decide +kernel) rfl
theorem gf_RX5_142 {p : Program} {l : Launch} {e : Env} {R : Room} {s : State} {m : MethodId} {args : Array Value} {below : List Frame} {meth : Method} {c : Code} {H : Heap} {locs : List Loc} {cells slots : Nat} {Q : State → Prop} {cc : ByteArray} {pc nL : Nat} {ls : Array Slot} {rest : List Value} {D : va_G} {cy : Nat → ClassId} {A : Nat → Prop} {ws : va_W} {b : Nat} {fs : List Value} {v : Value} (C : Cx p s m args c cc nL RX5 D cy A) (hO : Wo D A ws s.heap H locs) (q0 : Nat) (he : ws[q0]? = some (b, .inr (9, fs))) (hv : fs[5]? = some v) (hdg : decode cc pc = .ok (.getfield 142, 3)) (kk : W p l e R s m args below meth c H locs cells slots Q (F0 m (pc + 3) ls (v :: rest))) : W p l e R s m args below meth c H locs cells slots Q (F0 m pc ls (.ref b :: rest)) := gF (k := 5) C hO q0 he rfl inFX9 (by decide) wd_237 rfl hv hdg kk
theorem pf_RX5_132 {p : Program} {l : Launch} {e : Env} {R : Room} {s : State} {m : MethodId} {args : Array Value} {below : List Frame} {meth : Method} {c : Code} {H : Heap} {locs : List Loc} {cells slots : Nat} {Q : State → Prop} {cc : ByteArray} {pc nL : Nat} {ls : Array Slot} {rest : List Value} {D : va_G} {cy : Nat → ClassId} {A : Nat → Prop} {ws : va_W} {b : Nat} {fs : List Value} {v : Int32} {ws' : va_W} (C : Cx p s m args c cc nL RX5 D cy A) (hO : Wo D A ws s.heap H locs) (q0 : Nat) (he : ws[q0]? = some (b, .inr (9, fs))) (hlen : 11 < fs.length) (hw : ws.set q0 (b, .inr (9, fs.set 11 (.int v))) = ws') (hdg : decode cc pc = .ok (.putfield 132, 3)) (kk : ∀ (H : Heap) (locs : List Loc), Wo D A ws' s.heap H locs → W p l e R s m args below meth c H locs cells slots Q (F0 m (pc + 3) ls rest)) : W p l e R s m args below meth c H locs cells slots Q (F0 m pc ls (.int v :: .ref b :: rest)) := pF (k := 11) (ty := .int) C hO q0 he rfl inFX9 (by decide) wd_265 rfl tyX9 tyX9_ok nmX9 rfl (by decide +kernel) rfl rfl hlen hw hdg kk
set_option maxHeartbeats 4000000 in
set_option maxRecDepth 100000 in
theorem T_X5_readPlea (l : Launch) (D : va_G) (cy : Nat → ClassId) (a : Nat → Nat) (u : St) (hJ : CI a u) (hW : fR u 2 = a 15)   : Mi l D cy (cW cy a) yX5_readPlea (.code yX5_readPlea cX5_readPlea 2 (some .boolean)) (rmo 7 153) [.ref (a 27)] u (fun (r : Int32) (u' : St) => (r = 0 ∨ r = 1) ∧ (CI a u') ∧ (KT u u') ∧ (fR u' 2 = a 15)) := by
  refine Mi.of (own := RX5) rfl (by decide) (Nat.le_of_ble_eq_true rfl) ?_
  have hT : KT u u := KT.rf
  intro p e s m below meth c A Q ls C hret hO hl
  obtain ⟨hx, hb, hml, hown, ht, hK, hA⟩ := id C
  have hl : lv_has ls 2 [(0, .ref (a 27))] := hl
  refine lv_aload_n hx hb dX5_readPlea_0 rfl (lv_at hl 0 rfl) ?_
  refine lv_aload_n hx hb dX5_readPlea_1 rfl (lv_at hl 0 rfl) ?_
  refine gf_RX5_15 (v := .ref (a 15)) C hO 27 cW_27 (congrArg (fun z : Nat => some (Value.ref z)) hW) dX5_readPlea_2 ?_
  have g1 : 0 ≤ (fI u 15 11).toInt ∧ (fI u 15 11).toInt ≤ 8 := by have h := CI_15_11 hJ; exact h
  refine gf_RX5_132 (v := .int (fI u 15 11)) C hO 15 cW_15 rfl dX5_readPlea_5 ?_
  refine lv_bipush (v := 8) hx hb dX5_readPlea_8 (by decide) ?_
  refine cVi (w := cW cy a) (As := [.int (fI u 15 11), .int 8]) (rest := []) C hO (T_X5_openSort l D cy a _ (by exact hJ) (by exact hW) ((fI u 15 11)) (8)) (cwV 2 ht (gV wd_687 wd_689 wd_5 wd_114 wd_690) rfl rfl rfl hd_yX5_openSort ⟨Nat.le_of_ble_eq_true rfl, Nat.le_of_ble_eq_true rfl⟩) 27 rfl cW_27 rfl rfl hl.1 (Nat.le_of_ble_eq_true rfl) dX5_readPlea_10 rfl ⟨Nat.zero_le _, Nat.zero_le _⟩ (fun r2 u3 H locs hp4 hO => ?_)
  have g5 : 0 ≤ (fI u 15 9).toInt ∧ (fI u 15 9).toInt ≤ 8 := by have h := CI_15_9 hJ; exact h
  have g6 : 0 ≤ (fI u 15 10).toInt ∧ (fI u 15 10).toInt ≤ 14 := by have h := CI_15_10 hJ; exact h
  have g7 : 0 ≤ (fI u 15 12).toInt ∧ (fI u 15 12).toInt ≤ 6 := by have h := CI_15_12 hJ; exact h
  obtain ⟨hr2, hJ, hTu3, hW⟩ := hp4
  have hT : KT u u3 := KT.tr (by exact hT) hTu3.1
  have hI_15_9_u3 : fI u3 15 9 = (fI u 15 9) := hTu3.2.1
  have hI_15_10_u3 : fI u3 15 10 = (fI u 15 10) := hTu3.2.2.1
  have hI_15_11_u3 : fI u3 15 11 = (fI u 15 11) := hTu3.2.2.2.1
  have hI_15_12_u3 : fI u3 15 12 = (fI u 15 12) := hTu3.2.2.2.2
  have zz8 : (8 : Int32).toInt = 8 := rfl
  rcases hr2 with ⟨hcr2, hvr2⟩ | ⟨hcr2, hvr2⟩
  · subst hvr2
    refine bn_eq (X := 1) hx hb dX5_readPlea_13 rfl (by omega) ?_ (tgt := 45) (by decide)
    refine lv_aload_n hx hb dX5_readPlea_16 rfl (lv_at hl 0 rfl) ?_
    refine lv_aload_n hx hb dX5_readPlea_17 rfl (lv_at hl 0 rfl) ?_
    refine gf_RX5_15 (v := .ref (a 15)) C hO 27 cW_27 (congrArg (fun z : Nat => some (Value.ref z)) hW) dX5_readPlea_18 ?_
    refine gf_RX5_135 (v := .ref (a 17)) C hO 15 cW_15 rfl dX5_readPlea_21 ?_
    refine lv_aload_n hx hb dX5_readPlea_24 rfl (lv_at hl 0 rfl) ?_
    refine gf_RX5_15 (v := .ref (a 15)) C hO 27 cW_27 (congrArg (fun z : Nat => some (Value.ref z)) hW) dX5_readPlea_25 ?_
    refine gf_RX5_132 (v := .int (fI u 15 11)) C hO 15 cW_15 (congrArg (fun z : Int32 => some (Value.int z)) hI_15_11_u3) dX5_readPlea_28 ?_
    refine cVi (w := cW cy a) (As := [.ref (a 17), .int (fI u 15 11)]) (rest := []) C hO (T_X5_newName_17 l D cy a _ (by exact hJ) (by exact hW) ((fI u 15 11)) (by first | omega | decide)) (cwV 2 ht (gV wd_696 wd_698 wd_7 wd_114 wd_699) rfl rfl rfl hd_yX5_newName ⟨Nat.le_of_ble_eq_true rfl, Nat.le_of_ble_eq_true rfl⟩) 27 rfl cW_27 rfl rfl hl.1 (Nat.le_of_ble_eq_true rfl) dX5_readPlea_31 rfl ⟨Nat.zero_le _, Nat.zero_le _⟩ (fun r9 u10 H locs hp11 hO => ?_)
    obtain ⟨hr9, hJ, hTu10, hW⟩ := hp11
    have gr9 : 0 ≤ r9.toInt ∧ r9.toInt ≤ 1 := by rcases hr9 with h | h <;> rw [h] <;> decide
    have hT : KT u u10 := KT.tr (by exact hT) hTu10.1
    have hI_15_9_u10 : fI u10 15 9 = (fI u 15 9) := Eq.trans (hTu10.2.1) (hI_15_9_u3)
    have hI_15_10_u10 : fI u10 15 10 = (fI u 15 10) := Eq.trans (hTu10.2.2.1) (hI_15_10_u3)
    have hI_15_11_u10 : fI u10 15 11 = (fI u 15 11) := Eq.trans (hTu10.2.2.2.1) (hI_15_11_u3)
    have hI_15_12_u10 : fI u10 15 12 = (fI u 15 12) := Eq.trans (hTu10.2.2.2.2) (hI_15_12_u3)
    refine bs_eq (tgt := 45) (X := (r9).toInt) hx hb dX5_readPlea_34 (by decide) rfl (fun c12 => ?_) (fun c12 => ?_)
    · refine lv_iconst (v := 0) hx hb dX5_readPlea_45 (by decide) ?_
      refine hret _ _ _ _ _ _ dX5_readPlea_46 rfl ?_ hO
      exact ⟨Or.inl rfl, hJ, hT, hW⟩
    · refine lv_aload_n hx hb dX5_readPlea_37 rfl (lv_at hl 0 rfl) ?_
      refine lv_iconst (v := 5) hx hb dX5_readPlea_38 (by decide) ?_
      refine cVi (w := cW cy a) (As := [.int 5]) (rest := []) C hO (T_X5_skip l D cy a _ (by exact hJ) (by exact hW) (5)) (cwV 1 ht (gV wd_719 wd_721 wd_11 wd_114 wd_722) rfl rfl rfl hd_yX5_skip ⟨Nat.le_of_ble_eq_true rfl, Nat.le_of_ble_eq_true rfl⟩) 27 rfl cW_27 rfl rfl hl.1 (Nat.le_of_ble_eq_true rfl) dX5_readPlea_39 rfl ⟨Nat.zero_le _, Nat.zero_le _⟩ (fun r13 u14 H locs hp15 hO => ?_)
      obtain ⟨hr13, hJ, hTu14, hW⟩ := hp15
      have gr13 : 0 ≤ r13.toInt ∧ r13.toInt ≤ 1 := by rcases hr13 with h | h <;> rw [h] <;> decide
      have hT : KT u u14 := KT.tr (by exact hT) hTu14.1
      have hI_15_9_u14 : fI u14 15 9 = (fI u 15 9) := Eq.trans (hTu14.2.1) (hI_15_9_u10)
      have hI_15_10_u14 : fI u14 15 10 = (fI u 15 10) := Eq.trans (hTu14.2.2.1) (hI_15_10_u10)
      have hI_15_11_u14 : fI u14 15 11 = (fI u 15 11) := Eq.trans (hTu14.2.2.2.1) (hI_15_11_u10)
      have hI_15_12_u14 : fI u14 15 12 = (fI u 15 12) := Eq.trans (hTu14.2.2.2.2) (hI_15_12_u10)
      refine bs_ne (tgt := 47) (X := (r13).toInt) hx hb dX5_readPlea_42 (by decide) rfl (fun c16 => ?_) (fun c16 => ?_)
      · refine lv_aload_n hx hb dX5_readPlea_47 rfl (lv_at hl 0 rfl) ?_
        refine lv_bipush (v := 20) hx hb dX5_readPlea_48 (by decide) ?_
        refine cVi (w := cW cy a) (As := [.int 20]) (rest := []) C hO (T_X5_numberTo l D cy a _ (by exact hJ) (by exact hW) (20)) (cwV 1 ht (gV wd_723 wd_725 wd_12 wd_114 wd_726) rfl rfl rfl hd_yX5_numberTo ⟨Nat.le_of_ble_eq_true rfl, Nat.le_of_ble_eq_true rfl⟩) 27 rfl cW_27 rfl rfl hl.1 (Nat.le_of_ble_eq_true rfl) dX5_readPlea_50 rfl ⟨Nat.zero_le _, Nat.zero_le _⟩ (fun r17 u18 H locs hp19 hO => ?_)
        obtain ⟨hJ, hTu18, hW⟩ := hp19
        have hT : KT u u18 := KT.tr (by exact hT) hTu18.1
        have hI_15_9_u18 : fI u18 15 9 = (fI u 15 9) := Eq.trans (hTu18.2.1) (hI_15_9_u14)
        have hI_15_10_u18 : fI u18 15 10 = (fI u 15 10) := Eq.trans (hTu18.2.2.1) (hI_15_10_u14)
        have hI_15_11_u18 : fI u18 15 11 = (fI u 15 11) := Eq.trans (hTu18.2.2.2.1) (hI_15_11_u14)
        have hI_15_12_u18 : fI u18 15 12 = (fI u 15 12) := Eq.trans (hTu18.2.2.2.2) (hI_15_12_u14)
        refine lv_istore_n (lv' := [(1, .int r17), (0, .ref (a 27))]) hx hb dX5_readPlea_53 rfl hl (by decide) rfl (fun ls hl => ?_)
        refine lv_iload_n hx hb dX5_readPlea_54 rfl (lv_at hl 0 rfl) ?_
        refine lv_iconst (v := (-1)) hx hb dX5_readPlea_55 (by decide) ?_
        refine cs_ne (tgt := 61) (X := (r17).toInt) (Y := (-1)) hx hb dX5_readPlea_56 (by decide) rfl rfl (fun c20 => ?_) (fun c20 => ?_)
        · refine lv_aload_n hx hb dX5_readPlea_61 rfl (lv_at hl 1 rfl) ?_
          refine gf_RX5_15 (v := .ref (a 15)) C hO 27 cW_27 (congrArg (fun z : Nat => some (Value.ref z)) hW) dX5_readPlea_62 ?_
          refine gf_RX5_142 (v := .ref (a 21)) C hO 15 cW_15 rfl dX5_readPlea_65 ?_
          refine lv_aload_n hx hb dX5_readPlea_68 rfl (lv_at hl 1 rfl) ?_
          refine gf_RX5_15 (v := .ref (a 15)) C hO 27 cW_27 (congrArg (fun z : Nat => some (Value.ref z)) hW) dX5_readPlea_69 ?_
          refine gf_RX5_132 (v := .int (fI u 15 11)) C hO 15 cW_15 (congrArg (fun z : Int32 => some (Value.int z)) hI_15_11_u18) dX5_readPlea_72 ?_
          refine lv_iload_n hx hb dX5_readPlea_75 rfl (lv_at hl 0 rfl) ?_
          refine aIs C hO 21 cW_21 (i_in (X := ((fI u 15 11)).toInt) rfl (by omega) (by omega)) cW_s21 dX5_readPlea_76 (fun H locs hO => ?_)
          have hJ := CIsA hO hJ
          refine lv_aload_n hx hb dX5_readPlea_77 rfl (lv_at hl 1 rfl) ?_
          refine gf_RX5_15 (v := .ref (a 15)) C hO 27 cW_27 (congrArg (fun z : Nat => some (Value.ref z)) hW) dX5_readPlea_78 ?_
          refine lv_dup hx hb dX5_readPlea_81 rfl ?_
          refine gf_RX5_132 (v := .int (fI u 15 11)) C hO 15 cW_15 (congrArg (fun z : Int32 => some (Value.int z)) hI_15_11_u18) dX5_readPlea_82 ?_
          refine lv_iconst (v := 1) hx hb dX5_readPlea_85 (by decide) ?_
          have e21 : (((fI u 15 11) + 1)).toInt = ((fI u 15 11)).toInt + 1 := i_add rfl rfl (by omega)
          refine lv_iadd hx hb dX5_readPlea_86 ?_
          refine pf_RX5_132 C hO 15 cW_15 (Nat.le_of_ble_eq_true rfl) cW_s15_11 dX5_readPlea_87 (fun H locs hO => ?_)
          have hJ := CIs_15_11 (v := ((fI u 15 11) + 1)) hJ (by first | decide | omega)
          refine lv_iconst (v := 1) hx hb dX5_readPlea_90 (by decide) ?_
          refine hret _ _ _ _ _ _ dX5_readPlea_91 rfl ?_ hO
          exact ⟨Or.inr rfl, hJ, hT, hW⟩
        · refine lv_iconst (v := 0) hx hb dX5_readPlea_59 (by decide) ?_
          refine hret _ _ _ _ _ _ dX5_readPlea_60 rfl ?_ hO
          exact ⟨Or.inl rfl, hJ, hT, hW⟩
      · refine lv_iconst (v := 0) hx hb dX5_readPlea_45 (by decide) ?_
        refine hret _ _ _ _ _ _ dX5_readPlea_46 rfl ?_ hO
        exact ⟨Or.inl rfl, hJ, hT, hW⟩
  · subst hvr2
    refine bt_eq (tgt := 45) (X := 0) hx hb dX5_readPlea_13 (by decide) rfl (by omega) ?_
    refine lv_iconst (v := 0) hx hb dX5_readPlea_45 (by decide) ?_
    refine hret _ _ _ _ _ _ dX5_readPlea_46 rfl ?_ hO
    exact ⟨Or.inl rfl, hJ, hT, hW⟩
theorem dX5_readPleas_0 : decode cX5_readPleas 0 = .ok (.iconst 0, 1) := by decide +kernel
theorem dX5_readPleas_1 : decode cX5_readPleas 1 = .ok (.istore_n 1, 1) := by decide +kernel
theorem dX5_readPleas_2 : decode cX5_readPleas 2 = .ok (.iconst 0, 1) := by decide +kernel
theorem dX5_readPleas_3 : decode cX5_readPleas 3 = .ok (.istore_n 2, 1) := by decide +kernel
theorem dX5_readPleas_4 : decode cX5_readPleas 4 = .ok (.iload_n 2, 1) := by decide +kernel
theorem dX5_readPleas_5 : decode cX5_readPleas 5 = .ok (.iconst 4, 1) := by decide +kernel
theorem dX5_readPleas_6 : decode cX5_readPleas 6 = .ok (.if_icmp .gt 94, 3) := by decide +kernel
theorem dX5_readPleas_9 : decode cX5_readPleas 9 = .ok (.iload_n 2, 1) := by decide +kernel
theorem dX5_readPleas_10 : decode cX5_readPleas 10 = .ok (.ifCond .eq 16, 3) := by decide +kernel
theorem dX5_readPleas_13 : decode cX5_readPleas 13 = .ok (.aload_n 0, 1) := by decide +kernel
theorem dX5_readPleas_14 : decode cX5_readPleas 14 = .ok (.getfield 9, 3) := by decide +kernel
theorem dX5_readPleas_17 : decode cX5_readPleas 17 = .ok (.getfield 36, 3) := by decide +kernel
theorem dX5_readPleas_20 : decode cX5_readPleas 20 = .ok (.sipush 200, 3) := by decide +kernel
theorem dX5_readPleas_23 : decode cX5_readPleas 23 = .ok (.if_icmp .ne 77, 3) := by decide +kernel
theorem dX5_readPleas_26 : decode cX5_readPleas 26 = .ok (.iload_n 2, 1) := by decide +kernel
theorem dX5_readPleas_27 : decode cX5_readPleas 27 = .ok (.iconst 4, 1) := by decide +kernel
theorem dX5_readPleas_28 : decode cX5_readPleas 28 = .ok (.if_icmp .ne 11, 3) := by decide +kernel
theorem dX5_readPleas_31 : decode cX5_readPleas 31 = .ok (.aload_n 0, 1) := by decide +kernel
theorem dX5_readPleas_32 : decode cX5_readPleas 32 = .ok (.iconst 2, 1) := by decide +kernel
theorem dX5_readPleas_33 : decode cX5_readPleas 33 = .ok (.invokevirtual 74, 3) := by decide +kernel
theorem dX5_readPleas_36 : decode cX5_readPleas 36 = .ok (.pop, 1) := by decide +kernel
theorem dX5_readPleas_37 : decode cX5_readPleas 37 = .ok (.iconst 0, 1) := by decide +kernel
theorem dX5_readPleas_38 : decode cX5_readPleas 38 = .ok (.ireturn, 1) := by decide +kernel
theorem dX5_readPleas_39 : decode cX5_readPleas 39 = .ok (.aload_n 0, 1) := by decide +kernel
theorem dX5_readPleas_40 : decode cX5_readPleas 40 = .ok (.aload_n 0, 1) := by decide +kernel
theorem dX5_readPleas_41 : decode cX5_readPleas 41 = .ok (.getfield 15, 3) := by decide +kernel
theorem dX5_readPleas_44 : decode cX5_readPleas 44 = .ok (.getfield 135, 3) := by decide +kernel
theorem dX5_readPleas_47 : decode cX5_readPleas 47 = .ok (.aload_n 0, 1) := by decide +kernel
theorem dX5_readPleas_48 : decode cX5_readPleas 48 = .ok (.getfield 15, 3) := by decide +kernel
theorem dX5_readPleas_51 : decode cX5_readPleas 51 = .ok (.getfield 132, 3) := by decide +kernel
theorem dX5_readPleas_54 : decode cX5_readPleas 54 = .ok (.invokevirtual 115, 3) := by decide +kernel
theorem dX5_readPleas_57 : decode cX5_readPleas 57 = .ok (.istore_n 3, 1) := by decide +kernel
theorem dX5_readPleas_58 : decode cX5_readPleas 58 = .ok (.iload_n 3, 1) := by decide +kernel
theorem dX5_readPleas_59 : decode cX5_readPleas 59 = .ok (.iconst (-1), 1) := by decide +kernel
theorem dX5_readPleas_60 : decode cX5_readPleas 60 = .ok (.if_icmp .ne 5, 3) := by decide +kernel
theorem dX5_readPleas_63 : decode cX5_readPleas 63 = .ok (.iconst 0, 1) := by decide +kernel
theorem dX5_readPleas_64 : decode cX5_readPleas 64 = .ok (.ireturn, 1) := by decide +kernel
theorem dX5_readPleas_65 : decode cX5_readPleas 65 = .ok (.iload_n 1, 1) := by decide +kernel
theorem dX5_readPleas_66 : decode cX5_readPleas 66 = .ok (.iload_n 3, 1) := by decide +kernel
theorem dX5_readPleas_67 : decode cX5_readPleas 67 = .ok (.ishr, 1) := by decide +kernel
theorem dX5_readPleas_68 : decode cX5_readPleas 68 = .ok (.iconst 1, 1) := by decide +kernel
theorem dX5_readPleas_69 : decode cX5_readPleas 69 = .ok (.iand, 1) := by decide +kernel
theorem dX5_readPleas_70 : decode cX5_readPleas 70 = .ok (.ifCond .eq 11, 3) := by decide +kernel
theorem dX5_readPleas_73 : decode cX5_readPleas 73 = .ok (.aload_n 0, 1) := by decide +kernel
theorem dX5_readPleas_74 : decode cX5_readPleas 74 = .ok (.iconst 3, 1) := by decide +kernel
theorem dX5_readPleas_75 : decode cX5_readPleas 75 = .ok (.invokevirtual 74, 3) := by decide +kernel
theorem dX5_readPleas_78 : decode cX5_readPleas 78 = .ok (.pop, 1) := by decide +kernel
theorem dX5_readPleas_79 : decode cX5_readPleas 79 = .ok (.iconst 0, 1) := by decide +kernel
theorem dX5_readPleas_80 : decode cX5_readPleas 80 = .ok (.ireturn, 1) := by decide +kernel
theorem dX5_readPleas_81 : decode cX5_readPleas 81 = .ok (.iload_n 1, 1) := by decide +kernel
theorem dX5_readPleas_82 : decode cX5_readPleas 82 = .ok (.iconst 1, 1) := by decide +kernel
theorem dX5_readPleas_83 : decode cX5_readPleas 83 = .ok (.iload_n 3, 1) := by decide +kernel
theorem dX5_readPleas_84 : decode cX5_readPleas 84 = .ok (.ishl, 1) := by decide +kernel
theorem dX5_readPleas_85 : decode cX5_readPleas 85 = .ok (.ior, 1) := by decide +kernel
theorem dX5_readPleas_86 : decode cX5_readPleas 86 = .ok (.istore_n 1, 1) := by decide +kernel
theorem dX5_readPleas_87 : decode cX5_readPleas 87 = .ok (.aload_n 0, 1) := by decide +kernel
theorem dX5_readPleas_88 : decode cX5_readPleas 88 = .ok (.getfield 9, 3) := by decide +kernel
theorem dX5_readPleas_91 : decode cX5_readPleas 91 = .ok (.invokevirtual 80, 3) := by decide +kernel
theorem dX5_readPleas_94 : decode cX5_readPleas 94 = .ok (.iinc 2 1, 3) := by decide +kernel
theorem dX5_readPleas_97 : decode cX5_readPleas 97 = .ok (.goto (-93), 3) := by decide +kernel
theorem dX5_readPleas_100 : decode cX5_readPleas 100 = .ok (.iload_n 1, 1) := by decide +kernel
theorem dX5_readPleas_101 : decode cX5_readPleas 101 = .ok (.ireturn, 1) := by decide +kernel
theorem wd_734 : (Cond.code ⟨"WebCourt$Reader", "readPleas", "()I"⟩ prog_7_method_16_code (4 : Nat) (Option.some FieldType.int)) ∈ gtb := gtb_c3 145 (by decide +kernel) rfl
set_option maxHeartbeats 4000000 in
set_option maxRecDepth 100000 in
theorem T_X5_readPleas (l : Launch) (D : va_G) (cy : Nat → ClassId) (a : Nat → Nat) (u : St) (hJ : CI a u) (hW : fR u 2 = a 15)   : Mi l D cy (cW cy a) yX5_readPleas (.code yX5_readPleas cX5_readPleas 4 (some .int)) (rmo 6 131) [.ref (a 27)] u (fun (r : Int32) (u' : St) => (CI a u') ∧ (KR u u') ∧ (fR u' 2 = a 15)) := by
  refine Mi.of (own := RX5) rfl (by decide) (Nat.le_of_ble_eq_true rfl) ?_
  have hT : KR u u := KR.rf
  intro p e s m below meth c A Q ls C hret hO hl
  obtain ⟨hx, hb, hml, hown, ht, hK, hA⟩ := id C
  have hl : lv_has ls 4 [(0, .ref (a 27))] := hl
  refine lv_iconst (v := 0) hx hb dX5_readPleas_0 (by decide) ?_
  refine lv_istore_n (lv' := [(1, .int 0), (0, .ref (a 27))]) hx hb dX5_readPleas_1 rfl hl (by decide) rfl (fun ls hl => ?_)
  refine lv_iconst (v := 0) hx hb dX5_readPleas_2 (by decide) ?_
  refine lv_istore_n (lv' := [(2, .int 0), (1, .int 0), (0, .ref (a 27))]) hx hb dX5_readPleas_3 rfl hl (by decide) rfl (fun ls hl => ?_)
  have LP_4_k2 : ∀ (n : Nat) (u1 : St) (H : Heap) (locs : List Loc) (ls : Array Slot) (i_k2 : Int32) (s_k2 : Int32), Wo D A (cW cy a u1) s.heap H locs → lv_has ls 4 [(2, .int i_k2), (1, .int s_k2), (0, .ref (a 27))] → CI a u1 → KR u u1 → fR u1 2 = a 15 → 0 ≤ i_k2.toInt ∧ i_k2.toInt ≤ 5 → 5 - i_k2.toInt < (n : Int) → W p l e (rmo 6 131) s m [.ref (a 27)].toArray below meth c H locs 0 0 Q (F0 m 4 ls []) := by
    intro n
    induction n with
    | zero =>
      intro u1 H locs ls i_k2 s_k2 hO hl hJ hT hW iv0_k2 hm_k2
      exact absurd hm_k2 (by omega)
    | succ n ih_k2 =>
      intro u1 H locs ls i_k2 s_k2 hO hl hJ hT hW iv0_k2 hm_k2
      refine lv_iload_n hx hb dX5_readPleas_4 rfl (lv_at hl 0 rfl) ?_
      refine lv_iconst (v := 4) hx hb dX5_readPleas_5 (by decide) ?_
      refine cs_gt (tgt := 100) (X := (i_k2).toInt) (Y := 4) hx hb dX5_readPleas_6 (by decide) rfl rfl (fun c3 => ?_) (fun c3 => ?_)
      · refine lv_iload_n hx hb dX5_readPleas_100 rfl (lv_at hl 1 rfl) ?_
        refine hret _ _ _ _ _ _ dX5_readPleas_101 rfl ?_ hO
        exact ⟨hJ, hT, hW⟩
      · refine lv_iload_n hx hb dX5_readPleas_9 rfl (lv_at hl 0 rfl) ?_
        refine bs_eq (tgt := 26) (X := (i_k2).toInt) hx hb dX5_readPleas_10 (by decide) rfl (fun c4 => ?_) (fun c4 => ?_)
        · refine lv_iload_n hx hb dX5_readPleas_26 rfl (lv_at hl 0 rfl) ?_
          refine lv_iconst (v := 4) hx hb dX5_readPleas_27 (by decide) ?_
          refine ct_ne (tgt := 39) (X := (i_k2).toInt) (Y := 4) hx hb dX5_readPleas_28 (by decide) rfl rfl (by omega) ?_
          refine lv_aload_n hx hb dX5_readPleas_39 rfl (lv_at hl 2 rfl) ?_
          refine lv_aload_n hx hb dX5_readPleas_40 rfl (lv_at hl 2 rfl) ?_
          refine gf_RX5_15 (v := .ref (a 15)) C hO 27 cW_27 (congrArg (fun z : Nat => some (Value.ref z)) hW) dX5_readPleas_41 ?_
          refine gf_RX5_135 (v := .ref (a 17)) C hO 15 cW_15 rfl dX5_readPleas_44 ?_
          refine lv_aload_n hx hb dX5_readPleas_47 rfl (lv_at hl 2 rfl) ?_
          refine gf_RX5_15 (v := .ref (a 15)) C hO 27 cW_27 (congrArg (fun z : Nat => some (Value.ref z)) hW) dX5_readPleas_48 ?_
          have g5 : 0 ≤ (fI u1 15 11).toInt ∧ (fI u1 15 11).toInt ≤ 8 := by have h := CI_15_11 hJ; exact h
          refine gf_RX5_132 (v := .int (fI u1 15 11)) C hO 15 cW_15 rfl dX5_readPleas_51 ?_
          refine cVi (w := cW cy a) (As := [.ref (a 17), .int (fI u1 15 11)]) (rest := []) C hO (T_X5_knownName_17 l D cy a _ (by exact hJ) (by exact hW) ((fI u1 15 11))) (cwV 2 ht (gV wd_707 wd_709 wd_9 wd_114 wd_710) rfl rfl rfl hd_yX5_knownName ⟨Nat.le_of_ble_eq_true rfl, Nat.le_of_ble_eq_true rfl⟩) 27 rfl cW_27 rfl rfl hl.1 (Nat.le_of_ble_eq_true rfl) dX5_readPleas_54 rfl ⟨Nat.zero_le _, Nat.zero_le _⟩ (fun r6 u7 H locs hp8 hO => ?_)
          have g9 : 0 ≤ (fI u1 15 9).toInt ∧ (fI u1 15 9).toInt ≤ 8 := by have h := CI_15_9 hJ; exact h
          have g10 : 0 ≤ (fI u1 15 10).toInt ∧ (fI u1 15 10).toInt ≤ 14 := by have h := CI_15_10 hJ; exact h
          have g11 : 0 ≤ (fI u1 15 12).toInt ∧ (fI u1 15 12).toInt ≤ 6 := by have h := CI_15_12 hJ; exact h
          obtain ⟨hr6, hJ, hTu7, hW⟩ := hp8
          have hT : KR u u7 := KR.tr (by exact hT) hTu7
          have hI_15_9_u7 : fI u7 15 9 = (fI u1 15 9) := hTu7.2.1
          have hI_15_10_u7 : fI u7 15 10 = (fI u1 15 10) := hTu7.2.2.1
          have hI_15_11_u7 : fI u7 15 11 = (fI u1 15 11) := hTu7.2.2.2.1
          have hI_15_12_u7 : fI u7 15 12 = (fI u1 15 12) := hTu7.2.2.2.2
          refine lv_istore_n (lv' := [(3, .int r6), (2, .int i_k2), (1, .int s_k2), (0, .ref (a 27))]) hx hb dX5_readPleas_57 rfl hl (by decide) rfl (fun ls hl => ?_)
          refine lv_iload_n hx hb dX5_readPleas_58 rfl (lv_at hl 0 rfl) ?_
          refine lv_iconst (v := (-1)) hx hb dX5_readPleas_59 (by decide) ?_
          refine cs_ne (tgt := 65) (X := (r6).toInt) (Y := (-1)) hx hb dX5_readPleas_60 (by decide) rfl rfl (fun c12 => ?_) (fun c12 => ?_)
          · refine lv_iload_n hx hb dX5_readPleas_65 rfl (lv_at hl 2 rfl) ?_
            refine lv_iload_n hx hb dX5_readPleas_66 rfl (lv_at hl 0 rfl) ?_
            refine lv_ishr hx hb dX5_readPleas_67 ?_
            refine lv_topi (fun z13 ez13 => ?_)
            refine lv_iconst (v := 1) hx hb dX5_readPleas_68 (by decide) ?_
            refine lv_iand hx hb dX5_readPleas_69 ?_
            refine lv_topi (fun z14 ez14 => ?_)
            have g15 : 0 ≤ z14.toInt ∧ z14.toInt ≤ 1 := by rw [ez14]; exact i_andr rfl (by omega)
            refine bs_eq (tgt := 81) (X := (z14).toInt) hx hb dX5_readPleas_70 (by decide) rfl (fun c16 => ?_) (fun c16 => ?_)
            · refine lv_iload_n hx hb dX5_readPleas_81 rfl (lv_at hl 2 rfl) ?_
              refine lv_iconst (v := 1) hx hb dX5_readPleas_82 (by decide) ?_
              refine lv_iload_n hx hb dX5_readPleas_83 rfl (lv_at hl 0 rfl) ?_
              refine lv_ishl hx hb dX5_readPleas_84 ?_
              refine lv_topi (fun z17 ez17 => ?_)
              have g18 : 0 ≤ z17.toInt ∧ z17.toInt ≤ 2 ^ 7 := by rw [ez17]; exact i_shl1 rfl (by omega) (by omega) (by decide)
              refine lv_ior hx hb dX5_readPleas_85 ?_
              refine lv_topi (fun z19 ez19 => ?_)
              refine lv_istore_n (lv' := [(1, .int z19), (3, .int r6), (2, .int i_k2), (0, .ref (a 27))]) hx hb dX5_readPleas_86 rfl hl (by decide) rfl (fun ls hl => ?_)
              refine lv_aload_n hx hb dX5_readPleas_87 rfl (lv_at hl 3 rfl) ?_
              refine gf_RX5_9 (v := .ref (a 1)) C hO 27 cW_27 rfl dX5_readPleas_88 ?_
              refine cVv (w := cW cy a) (As := []) (rest := []) C hO (T_X7_advance l D cy a _ (by exact hJ) (by exact hW)) (cwV 0 ht (gV wd_695 wd_541 wd_542 wd_111 wd_543) rfl rfl rfl hd_yX7_advance ⟨Nat.le_of_ble_eq_true rfl, Nat.le_of_ble_eq_true rfl⟩) 1 rfl cW_1 rfl rfl hl.1 (Nat.le_of_ble_eq_true rfl) dX5_readPleas_91 rfl ⟨Nat.zero_le _, Nat.zero_le _⟩ (fun u21 H locs hp22 hO => ?_)
              obtain ⟨hJ, hTu21, hW⟩ := hp22
              have hT : KR u u21 := KR.tr (by exact hT) hTu21
              have hI_15_9_u21 : fI u21 15 9 = (fI u1 15 9) := Eq.trans (hTu21.2.1) (hI_15_9_u7)
              have hI_15_10_u21 : fI u21 15 10 = (fI u1 15 10) := Eq.trans (hTu21.2.2.1) (hI_15_10_u7)
              have hI_15_11_u21 : fI u21 15 11 = (fI u1 15 11) := Eq.trans (hTu21.2.2.2.1) (hI_15_11_u7)
              have hI_15_12_u21 : fI u21 15 12 = (fI u1 15 12) := Eq.trans (hTu21.2.2.2.2) (hI_15_12_u7)
              have e23 : ((i_k2 + 1)).toInt = (i_k2).toInt + 1 := i_add rfl rfl (by omega)
              refine lv_iinc (v := (i_k2 + 1)) (lv' := [(2, .int (i_k2 + 1)), (1, .int z19), (3, .int r6), (0, .ref (a 27))]) hx hb dX5_readPleas_94 hl (k := 2) rfl rfl (by decide) rfl (fun ls hl => ?_)
              refine lv_goto (tgt := 4) hx hb dX5_readPleas_97 (by decide) ?_
              exact ih_k2 _ _ _ _ ((i_k2 + 1)) (z19) hO (lv_sub hl [0, 1, 3] rfl) (by exact hJ) (by exact hT) (by exact hW) (by first | decide | omega) (by first | decide | omega)
            · refine lv_aload_n hx hb dX5_readPleas_73 rfl (lv_at hl 3 rfl) ?_
              refine lv_iconst (v := 3) hx hb dX5_readPleas_74 (by decide) ?_
              refine cVi (w := cW cy a) (As := [.int 3]) (rest := []) C hO (T_X5_refuse l D cy a _ (by exact hJ) (by exact hW) (3)) (cwV 1 ht (gV wd_691 wd_693 wd_6 wd_114 wd_694) rfl rfl rfl hd_yX5_refuse ⟨Nat.le_of_ble_eq_true rfl, Nat.le_of_ble_eq_true rfl⟩) 27 rfl cW_27 rfl rfl hl.1 (Nat.le_of_ble_eq_true rfl) dX5_readPleas_75 rfl ⟨Nat.zero_le _, Nat.zero_le _⟩ (fun r24 u25 H locs hp26 hO => ?_)
              obtain ⟨hr24, hJ, hTu25, hW⟩ := hp26
              subst hr24
              have hT : KR u u25 := KR.tr (by exact hT) hTu25
              have hI_15_9_u25 : fI u25 15 9 = (fI u1 15 9) := Eq.trans (hTu25.2.1) (hI_15_9_u7)
              have hI_15_10_u25 : fI u25 15 10 = (fI u1 15 10) := Eq.trans (hTu25.2.2.1) (hI_15_10_u7)
              have hI_15_11_u25 : fI u25 15 11 = (fI u1 15 11) := Eq.trans (hTu25.2.2.2.1) (hI_15_11_u7)
              have hI_15_12_u25 : fI u25 15 12 = (fI u1 15 12) := Eq.trans (hTu25.2.2.2.2) (hI_15_12_u7)
              refine lv_pop hx hb dX5_readPleas_78 rfl ?_
              refine lv_iconst (v := 0) hx hb dX5_readPleas_79 (by decide) ?_
              refine hret _ _ _ _ _ _ dX5_readPleas_80 rfl ?_ hO
              exact ⟨hJ, hT, hW⟩
          · refine lv_iconst (v := 0) hx hb dX5_readPleas_63 (by decide) ?_
            refine hret _ _ _ _ _ _ dX5_readPleas_64 rfl ?_ hO
            exact ⟨hJ, hT, hW⟩
        · refine lv_aload_n hx hb dX5_readPleas_13 rfl (lv_at hl 2 rfl) ?_
          refine gf_RX5_9 (v := .ref (a 1)) C hO 27 cW_27 rfl dX5_readPleas_14 ?_
          refine gf_RX5_36 (v := .int (fI u1 1 4)) C hO 1 cW_1 rfl dX5_readPleas_17 ?_
          refine lv_sipush (v := 200) hx hb dX5_readPleas_20 (by decide) ?_
          refine cs_ne (tgt := 100) (X := ((fI u1 1 4)).toInt) (Y := 200) hx hb dX5_readPleas_23 (by decide) rfl rfl (fun c27 => ?_) (fun c27 => ?_)
          · refine lv_iload_n hx hb dX5_readPleas_100 rfl (lv_at hl 1 rfl) ?_
            refine hret _ _ _ _ _ _ dX5_readPleas_101 rfl ?_ hO
            exact ⟨hJ, hT, hW⟩
          · refine lv_iload_n hx hb dX5_readPleas_26 rfl (lv_at hl 0 rfl) ?_
            refine lv_iconst (v := 4) hx hb dX5_readPleas_27 (by decide) ?_
            refine cs_ne (tgt := 39) (X := (i_k2).toInt) (Y := 4) hx hb dX5_readPleas_28 (by decide) rfl rfl (fun c28 => ?_) (fun c28 => ?_)
            · refine lv_aload_n hx hb dX5_readPleas_39 rfl (lv_at hl 2 rfl) ?_
              refine lv_aload_n hx hb dX5_readPleas_40 rfl (lv_at hl 2 rfl) ?_
              refine gf_RX5_15 (v := .ref (a 15)) C hO 27 cW_27 (congrArg (fun z : Nat => some (Value.ref z)) hW) dX5_readPleas_41 ?_
              refine gf_RX5_135 (v := .ref (a 17)) C hO 15 cW_15 rfl dX5_readPleas_44 ?_
              refine lv_aload_n hx hb dX5_readPleas_47 rfl (lv_at hl 2 rfl) ?_
              refine gf_RX5_15 (v := .ref (a 15)) C hO 27 cW_27 (congrArg (fun z : Nat => some (Value.ref z)) hW) dX5_readPleas_48 ?_
              have g29 : 0 ≤ (fI u1 15 11).toInt ∧ (fI u1 15 11).toInt ≤ 8 := by have h := CI_15_11 hJ; exact h
              refine gf_RX5_132 (v := .int (fI u1 15 11)) C hO 15 cW_15 rfl dX5_readPleas_51 ?_
              refine cVi (w := cW cy a) (As := [.ref (a 17), .int (fI u1 15 11)]) (rest := []) C hO (T_X5_knownName_17 l D cy a _ (by exact hJ) (by exact hW) ((fI u1 15 11))) (cwV 2 ht (gV wd_707 wd_709 wd_9 wd_114 wd_710) rfl rfl rfl hd_yX5_knownName ⟨Nat.le_of_ble_eq_true rfl, Nat.le_of_ble_eq_true rfl⟩) 27 rfl cW_27 rfl rfl hl.1 (Nat.le_of_ble_eq_true rfl) dX5_readPleas_54 rfl ⟨Nat.zero_le _, Nat.zero_le _⟩ (fun r30 u31 H locs hp32 hO => ?_)
              have g33 : 0 ≤ (fI u1 15 9).toInt ∧ (fI u1 15 9).toInt ≤ 8 := by have h := CI_15_9 hJ; exact h
              have g34 : 0 ≤ (fI u1 15 10).toInt ∧ (fI u1 15 10).toInt ≤ 14 := by have h := CI_15_10 hJ; exact h
              have g35 : 0 ≤ (fI u1 15 12).toInt ∧ (fI u1 15 12).toInt ≤ 6 := by have h := CI_15_12 hJ; exact h
              obtain ⟨hr30, hJ, hTu31, hW⟩ := hp32
              have hT : KR u u31 := KR.tr (by exact hT) hTu31
              have hI_15_9_u31 : fI u31 15 9 = (fI u1 15 9) := hTu31.2.1
              have hI_15_10_u31 : fI u31 15 10 = (fI u1 15 10) := hTu31.2.2.1
              have hI_15_11_u31 : fI u31 15 11 = (fI u1 15 11) := hTu31.2.2.2.1
              have hI_15_12_u31 : fI u31 15 12 = (fI u1 15 12) := hTu31.2.2.2.2
              refine lv_istore_n (lv' := [(3, .int r30), (2, .int i_k2), (1, .int s_k2), (0, .ref (a 27))]) hx hb dX5_readPleas_57 rfl hl (by decide) rfl (fun ls hl => ?_)
              refine lv_iload_n hx hb dX5_readPleas_58 rfl (lv_at hl 0 rfl) ?_
              refine lv_iconst (v := (-1)) hx hb dX5_readPleas_59 (by decide) ?_
              refine cs_ne (tgt := 65) (X := (r30).toInt) (Y := (-1)) hx hb dX5_readPleas_60 (by decide) rfl rfl (fun c36 => ?_) (fun c36 => ?_)
              · refine lv_iload_n hx hb dX5_readPleas_65 rfl (lv_at hl 2 rfl) ?_
                refine lv_iload_n hx hb dX5_readPleas_66 rfl (lv_at hl 0 rfl) ?_
                refine lv_ishr hx hb dX5_readPleas_67 ?_
                refine lv_topi (fun z37 ez37 => ?_)
                refine lv_iconst (v := 1) hx hb dX5_readPleas_68 (by decide) ?_
                refine lv_iand hx hb dX5_readPleas_69 ?_
                refine lv_topi (fun z38 ez38 => ?_)
                have g39 : 0 ≤ z38.toInt ∧ z38.toInt ≤ 1 := by rw [ez38]; exact i_andr rfl (by omega)
                refine bs_eq (tgt := 81) (X := (z38).toInt) hx hb dX5_readPleas_70 (by decide) rfl (fun c40 => ?_) (fun c40 => ?_)
                · refine lv_iload_n hx hb dX5_readPleas_81 rfl (lv_at hl 2 rfl) ?_
                  refine lv_iconst (v := 1) hx hb dX5_readPleas_82 (by decide) ?_
                  refine lv_iload_n hx hb dX5_readPleas_83 rfl (lv_at hl 0 rfl) ?_
                  refine lv_ishl hx hb dX5_readPleas_84 ?_
                  refine lv_topi (fun z41 ez41 => ?_)
                  have g42 : 0 ≤ z41.toInt ∧ z41.toInt ≤ 2 ^ 7 := by rw [ez41]; exact i_shl1 rfl (by omega) (by omega) (by decide)
                  refine lv_ior hx hb dX5_readPleas_85 ?_
                  refine lv_topi (fun z43 ez43 => ?_)
                  refine lv_istore_n (lv' := [(1, .int z43), (3, .int r30), (2, .int i_k2), (0, .ref (a 27))]) hx hb dX5_readPleas_86 rfl hl (by decide) rfl (fun ls hl => ?_)
                  refine lv_aload_n hx hb dX5_readPleas_87 rfl (lv_at hl 3 rfl) ?_
                  refine gf_RX5_9 (v := .ref (a 1)) C hO 27 cW_27 rfl dX5_readPleas_88 ?_
                  refine cVv (w := cW cy a) (As := []) (rest := []) C hO (T_X7_advance l D cy a _ (by exact hJ) (by exact hW)) (cwV 0 ht (gV wd_695 wd_541 wd_542 wd_111 wd_543) rfl rfl rfl hd_yX7_advance ⟨Nat.le_of_ble_eq_true rfl, Nat.le_of_ble_eq_true rfl⟩) 1 rfl cW_1 rfl rfl hl.1 (Nat.le_of_ble_eq_true rfl) dX5_readPleas_91 rfl ⟨Nat.zero_le _, Nat.zero_le _⟩ (fun u45 H locs hp46 hO => ?_)
                  obtain ⟨hJ, hTu45, hW⟩ := hp46
                  have hT : KR u u45 := KR.tr (by exact hT) hTu45
                  have hI_15_9_u45 : fI u45 15 9 = (fI u1 15 9) := Eq.trans (hTu45.2.1) (hI_15_9_u31)
                  have hI_15_10_u45 : fI u45 15 10 = (fI u1 15 10) := Eq.trans (hTu45.2.2.1) (hI_15_10_u31)
                  have hI_15_11_u45 : fI u45 15 11 = (fI u1 15 11) := Eq.trans (hTu45.2.2.2.1) (hI_15_11_u31)
                  have hI_15_12_u45 : fI u45 15 12 = (fI u1 15 12) := Eq.trans (hTu45.2.2.2.2) (hI_15_12_u31)
                  have e47 : ((i_k2 + 1)).toInt = (i_k2).toInt + 1 := i_add rfl rfl (by omega)
                  refine lv_iinc (v := (i_k2 + 1)) (lv' := [(2, .int (i_k2 + 1)), (1, .int z43), (3, .int r30), (0, .ref (a 27))]) hx hb dX5_readPleas_94 hl (k := 2) rfl rfl (by decide) rfl (fun ls hl => ?_)
                  refine lv_goto (tgt := 4) hx hb dX5_readPleas_97 (by decide) ?_
                  exact ih_k2 _ _ _ _ ((i_k2 + 1)) (z43) hO (lv_sub hl [0, 1, 3] rfl) (by exact hJ) (by exact hT) (by exact hW) (by first | decide | omega) (by first | decide | omega)
                · refine lv_aload_n hx hb dX5_readPleas_73 rfl (lv_at hl 3 rfl) ?_
                  refine lv_iconst (v := 3) hx hb dX5_readPleas_74 (by decide) ?_
                  refine cVi (w := cW cy a) (As := [.int 3]) (rest := []) C hO (T_X5_refuse l D cy a _ (by exact hJ) (by exact hW) (3)) (cwV 1 ht (gV wd_691 wd_693 wd_6 wd_114 wd_694) rfl rfl rfl hd_yX5_refuse ⟨Nat.le_of_ble_eq_true rfl, Nat.le_of_ble_eq_true rfl⟩) 27 rfl cW_27 rfl rfl hl.1 (Nat.le_of_ble_eq_true rfl) dX5_readPleas_75 rfl ⟨Nat.zero_le _, Nat.zero_le _⟩ (fun r48 u49 H locs hp50 hO => ?_)
                  obtain ⟨hr48, hJ, hTu49, hW⟩ := hp50
                  subst hr48
                  have hT : KR u u49 := KR.tr (by exact hT) hTu49
                  have hI_15_9_u49 : fI u49 15 9 = (fI u1 15 9) := Eq.trans (hTu49.2.1) (hI_15_9_u31)
                  have hI_15_10_u49 : fI u49 15 10 = (fI u1 15 10) := Eq.trans (hTu49.2.2.1) (hI_15_10_u31)
                  have hI_15_11_u49 : fI u49 15 11 = (fI u1 15 11) := Eq.trans (hTu49.2.2.2.1) (hI_15_11_u31)
                  have hI_15_12_u49 : fI u49 15 12 = (fI u1 15 12) := Eq.trans (hTu49.2.2.2.2) (hI_15_12_u31)
                  refine lv_pop hx hb dX5_readPleas_78 rfl ?_
                  refine lv_iconst (v := 0) hx hb dX5_readPleas_79 (by decide) ?_
                  refine hret _ _ _ _ _ _ dX5_readPleas_80 rfl ?_ hO
                  exact ⟨hJ, hT, hW⟩
              · refine lv_iconst (v := 0) hx hb dX5_readPleas_63 (by decide) ?_
                refine hret _ _ _ _ _ _ dX5_readPleas_64 rfl ?_ hO
                exact ⟨hJ, hT, hW⟩
            · refine lv_aload_n hx hb dX5_readPleas_31 rfl (lv_at hl 2 rfl) ?_
              refine lv_iconst (v := 2) hx hb dX5_readPleas_32 (by decide) ?_
              refine cVi (w := cW cy a) (As := [.int 2]) (rest := []) C hO (T_X5_refuse l D cy a _ (by exact hJ) (by exact hW) (2)) (cwV 1 ht (gV wd_691 wd_693 wd_6 wd_114 wd_694) rfl rfl rfl hd_yX5_refuse ⟨Nat.le_of_ble_eq_true rfl, Nat.le_of_ble_eq_true rfl⟩) 27 rfl cW_27 rfl rfl hl.1 (Nat.le_of_ble_eq_true rfl) dX5_readPleas_33 rfl ⟨Nat.zero_le _, Nat.zero_le _⟩ (fun r51 u52 H locs hp53 hO => ?_)
              have g54 : 0 ≤ (fI u1 15 9).toInt ∧ (fI u1 15 9).toInt ≤ 8 := by have h := CI_15_9 hJ; exact h
              have g55 : 0 ≤ (fI u1 15 10).toInt ∧ (fI u1 15 10).toInt ≤ 14 := by have h := CI_15_10 hJ; exact h
              have g56 : 0 ≤ (fI u1 15 11).toInt ∧ (fI u1 15 11).toInt ≤ 8 := by have h := CI_15_11 hJ; exact h
              have g57 : 0 ≤ (fI u1 15 12).toInt ∧ (fI u1 15 12).toInt ≤ 6 := by have h := CI_15_12 hJ; exact h
              obtain ⟨hr51, hJ, hTu52, hW⟩ := hp53
              subst hr51
              have hT : KR u u52 := KR.tr (by exact hT) hTu52
              have hI_15_9_u52 : fI u52 15 9 = (fI u1 15 9) := hTu52.2.1
              have hI_15_10_u52 : fI u52 15 10 = (fI u1 15 10) := hTu52.2.2.1
              have hI_15_11_u52 : fI u52 15 11 = (fI u1 15 11) := hTu52.2.2.2.1
              have hI_15_12_u52 : fI u52 15 12 = (fI u1 15 12) := hTu52.2.2.2.2
              refine lv_pop hx hb dX5_readPleas_36 rfl ?_
              refine lv_iconst (v := 0) hx hb dX5_readPleas_37 (by decide) ?_
              refine hret _ _ _ _ _ _ dX5_readPleas_38 rfl ?_ hO
              exact ⟨hJ, hT, hW⟩
  exact LP_4_k2 4000 _ _ _ _ (0) (0) hO (lv_sub hl [0, 1, 2] rfl) (by exact hJ) (by exact hT) (by exact hW) (by first | decide | omega) (by first | decide | omega)
theorem dX5_readCase_0 : decode cX5_readCase 0 = .ok (.aload_n 0, 1) := by decide +kernel
theorem dX5_readCase_1 : decode cX5_readCase 1 = .ok (.aload_n 0, 1) := by decide +kernel
theorem dX5_readCase_2 : decode cX5_readCase 2 = .ok (.getfield 15, 3) := by decide +kernel
theorem dX5_readCase_5 : decode cX5_readCase 5 = .ok (.getfield 145, 3) := by decide +kernel
theorem dX5_readCase_8 : decode cX5_readCase 8 = .ok (.bipush 6, 2) := by decide +kernel
theorem dX5_readCase_10 : decode cX5_readCase 10 = .ok (.invokevirtual 100, 3) := by decide +kernel
theorem dX5_readCase_13 : decode cX5_readCase 13 = .ok (.ifCond .eq 33, 3) := by decide +kernel
theorem dX5_readCase_16 : decode cX5_readCase 16 = .ok (.aload_n 0, 1) := by decide +kernel
theorem dX5_readCase_17 : decode cX5_readCase 17 = .ok (.aload_n 0, 1) := by decide +kernel
theorem dX5_readCase_18 : decode cX5_readCase 18 = .ok (.getfield 15, 3) := by decide +kernel
theorem dX5_readCase_21 : decode cX5_readCase 21 = .ok (.getfield 148, 3) := by decide +kernel
theorem dX5_readCase_24 : decode cX5_readCase 24 = .ok (.aload_n 0, 1) := by decide +kernel
theorem dX5_readCase_25 : decode cX5_readCase 25 = .ok (.getfield 15, 3) := by decide +kernel
theorem dX5_readCase_28 : decode cX5_readCase 28 = .ok (.getfield 145, 3) := by decide +kernel
theorem dX5_readCase_31 : decode cX5_readCase 31 = .ok (.invokevirtual 108, 3) := by decide +kernel
theorem dX5_readCase_34 : decode cX5_readCase 34 = .ok (.ifCond .eq 12, 3) := by decide +kernel
theorem dX5_readCase_37 : decode cX5_readCase 37 = .ok (.aload_n 0, 1) := by decide +kernel
theorem dX5_readCase_38 : decode cX5_readCase 38 = .ok (.bipush 7, 2) := by decide +kernel
theorem dX5_readCase_40 : decode cX5_readCase 40 = .ok (.invokevirtual 43, 3) := by decide +kernel
theorem dX5_readCase_43 : decode cX5_readCase 43 = .ok (.ifCond .ne 5, 3) := by decide +kernel
theorem dX5_readCase_46 : decode cX5_readCase 46 = .ok (.iconst 0, 1) := by decide +kernel
theorem dX5_readCase_47 : decode cX5_readCase 47 = .ok (.ireturn, 1) := by decide +kernel
theorem dX5_readCase_48 : decode cX5_readCase 48 = .ok (.aload_n 0, 1) := by decide +kernel
theorem dX5_readCase_49 : decode cX5_readCase 49 = .ok (.aload_n 0, 1) := by decide +kernel
theorem dX5_readCase_50 : decode cX5_readCase 50 = .ok (.getfield 15, 3) := by decide +kernel
theorem dX5_readCase_53 : decode cX5_readCase 53 = .ok (.getfield 104, 3) := by decide +kernel
theorem dX5_readCase_56 : decode cX5_readCase 56 = .ok (.aload_n 0, 1) := by decide +kernel
theorem dX5_readCase_57 : decode cX5_readCase 57 = .ok (.getfield 15, 3) := by decide +kernel
theorem dX5_readCase_60 : decode cX5_readCase 60 = .ok (.getfield 97, 3) := by decide +kernel
theorem dX5_readCase_63 : decode cX5_readCase 63 = .ok (.invokevirtual 115, 3) := by decide +kernel
theorem dX5_readCase_66 : decode cX5_readCase 66 = .ok (.istore_n 1, 1) := by decide +kernel
theorem dX5_readCase_67 : decode cX5_readCase 67 = .ok (.iload_n 1, 1) := by decide +kernel
theorem dX5_readCase_68 : decode cX5_readCase 68 = .ok (.iconst (-1), 1) := by decide +kernel
theorem dX5_readCase_69 : decode cX5_readCase 69 = .ok (.if_icmp .ne 5, 3) := by decide +kernel
theorem dX5_readCase_72 : decode cX5_readCase 72 = .ok (.iconst 0, 1) := by decide +kernel
theorem dX5_readCase_73 : decode cX5_readCase 73 = .ok (.ireturn, 1) := by decide +kernel
theorem dX5_readCase_74 : decode cX5_readCase 74 = .ok (.aload_n 0, 1) := by decide +kernel
theorem dX5_readCase_75 : decode cX5_readCase 75 = .ok (.getfield 9, 3) := by decide +kernel
theorem dX5_readCase_78 : decode cX5_readCase 78 = .ok (.invokevirtual 80, 3) := by decide +kernel
theorem dX5_readCase_81 : decode cX5_readCase 81 = .ok (.aload_n 0, 1) := by decide +kernel
theorem dX5_readCase_82 : decode cX5_readCase 82 = .ok (.bipush 8, 2) := by decide +kernel
theorem dX5_readCase_84 : decode cX5_readCase 84 = .ok (.invokevirtual 43, 3) := by decide +kernel
theorem dX5_readCase_87 : decode cX5_readCase 87 = .ok (.ifCond .ne 5, 3) := by decide +kernel
theorem dX5_readCase_90 : decode cX5_readCase 90 = .ok (.iconst 0, 1) := by decide +kernel
theorem dX5_readCase_91 : decode cX5_readCase 91 = .ok (.ireturn, 1) := by decide +kernel
theorem dX5_readCase_92 : decode cX5_readCase 92 = .ok (.aload_n 0, 1) := by decide +kernel
theorem dX5_readCase_93 : decode cX5_readCase 93 = .ok (.invokevirtual 151, 3) := by decide +kernel
theorem dX5_readCase_96 : decode cX5_readCase 96 = .ok (.istore_n 2, 1) := by decide +kernel
theorem dX5_readCase_97 : decode cX5_readCase 97 = .ok (.iload_n 2, 1) := by decide +kernel
theorem dX5_readCase_98 : decode cX5_readCase 98 = .ok (.ifCond .ne 5, 3) := by decide +kernel
theorem dX5_readCase_101 : decode cX5_readCase 101 = .ok (.iconst 0, 1) := by decide +kernel
theorem dX5_readCase_102 : decode cX5_readCase 102 = .ok (.ireturn, 1) := by decide +kernel
theorem dX5_readCase_103 : decode cX5_readCase 103 = .ok (.aload_n 0, 1) := by decide +kernel
theorem dX5_readCase_104 : decode cX5_readCase 104 = .ok (.getfield 15, 3) := by decide +kernel
theorem dX5_readCase_107 : decode cX5_readCase 107 = .ok (.getfield 155, 3) := by decide +kernel
theorem dX5_readCase_110 : decode cX5_readCase 110 = .ok (.aload_n 0, 1) := by decide +kernel
theorem dX5_readCase_111 : decode cX5_readCase 111 = .ok (.getfield 15, 3) := by decide +kernel
theorem dX5_readCase_114 : decode cX5_readCase 114 = .ok (.getfield 145, 3) := by decide +kernel
theorem dX5_readCase_117 : decode cX5_readCase 117 = .ok (.iload_n 1, 1) := by decide +kernel
theorem dX5_readCase_118 : decode cX5_readCase 118 = .ok (.iastore, 1) := by decide +kernel
theorem dX5_readCase_119 : decode cX5_readCase 119 = .ok (.aload_n 0, 1) := by decide +kernel
theorem dX5_readCase_120 : decode cX5_readCase 120 = .ok (.getfield 15, 3) := by decide +kernel
theorem dX5_readCase_123 : decode cX5_readCase 123 = .ok (.getfield 158, 3) := by decide +kernel
theorem dX5_readCase_126 : decode cX5_readCase 126 = .ok (.aload_n 0, 1) := by decide +kernel
theorem dX5_readCase_127 : decode cX5_readCase 127 = .ok (.getfield 15, 3) := by decide +kernel
theorem dX5_readCase_130 : decode cX5_readCase 130 = .ok (.getfield 145, 3) := by decide +kernel
theorem dX5_readCase_133 : decode cX5_readCase 133 = .ok (.iload_n 2, 1) := by decide +kernel
theorem dX5_readCase_134 : decode cX5_readCase 134 = .ok (.iastore, 1) := by decide +kernel
theorem dX5_readCase_135 : decode cX5_readCase 135 = .ok (.aload_n 0, 1) := by decide +kernel
theorem dX5_readCase_136 : decode cX5_readCase 136 = .ok (.getfield 15, 3) := by decide +kernel
theorem dX5_readCase_139 : decode cX5_readCase 139 = .ok (.dup, 1) := by decide +kernel
theorem dX5_readCase_140 : decode cX5_readCase 140 = .ok (.getfield 145, 3) := by decide +kernel
theorem dX5_readCase_143 : decode cX5_readCase 143 = .ok (.iconst 1, 1) := by decide +kernel
theorem dX5_readCase_144 : decode cX5_readCase 144 = .ok (.iadd, 1) := by decide +kernel
theorem dX5_readCase_145 : decode cX5_readCase 145 = .ok (.putfield 145, 3) := by decide +kernel
theorem dX5_readCase_148 : decode cX5_readCase 148 = .ok (.iconst 1, 1) := by decide +kernel
theorem dX5_readCase_149 : decode cX5_readCase 149 = .ok (.ireturn, 1) := by decide +kernel
theorem wd_730 : (Cond.code ⟨"WebCourt$Reader", "readCase", "()Z"⟩ prog_7_method_15_code (3 : Nat) (Option.some FieldType.boolean)) ∈ gtb := gtb_c3 141 (by decide +kernel) rfl
theorem wd_273 : (Cond.fieldLink "WebCourt$Reader" (145 : Nat) "WebCourt$Web" "cases" "I") ∈ gtb := gtb_c1 164 (by decide +kernel) rfl
theorem gf_RX5_145 {p : Program} {l : Launch} {e : Env} {R : Room} {s : State} {m : MethodId} {args : Array Value} {below : List Frame} {meth : Method} {c : Code} {H : Heap} {locs : List Loc} {cells slots : Nat} {Q : State → Prop} {cc : ByteArray} {pc nL : Nat} {ls : Array Slot} {rest : List Value} {D : va_G} {cy : Nat → ClassId} {A : Nat → Prop} {ws : va_W} {b : Nat} {fs : List Value} {v : Value} (C : Cx p s m args c cc nL RX5 D cy A) (hO : Wo D A ws s.heap H locs) (q0 : Nat) (he : ws[q0]? = some (b, .inr (9, fs))) (hv : fs[12]? = some v) (hdg : decode cc pc = .ok (.getfield 145, 3)) (kk : W p l e R s m args below meth c H locs cells slots Q (F0 m (pc + 3) ls (v :: rest))) : W p l e R s m args below meth c H locs cells slots Q (F0 m pc ls (.ref b :: rest)) := gF (k := 12) C hO q0 he rfl inFX9 (by decide) wd_273 rfl hv hdg kk
theorem wd_226 : (Cond.fieldLink "WebCourt$Reader" (148 : Nat) "WebCourt$Web" "caseNames" "[J") ∈ gtb := gtb_c1 117 (by decide +kernel) rfl
theorem gf_RX5_148 {p : Program} {l : Launch} {e : Env} {R : Room} {s : State} {m : MethodId} {args : Array Value} {below : List Frame} {meth : Method} {c : Code} {H : Heap} {locs : List Loc} {cells slots : Nat} {Q : State → Prop} {cc : ByteArray} {pc nL : Nat} {ls : Array Slot} {rest : List Value} {D : va_G} {cy : Nat → ClassId} {A : Nat → Prop} {ws : va_W} {b : Nat} {fs : List Value} {v : Value} (C : Cx p s m args c cc nL RX5 D cy A) (hO : Wo D A ws s.heap H locs) (q0 : Nat) (he : ws[q0]? = some (b, .inr (9, fs))) (hv : fs[2]? = some v) (hdg : decode cc pc = .ok (.getfield 148, 3)) (kk : W p l e R s m args below meth c H locs cells slots Q (F0 m (pc + 3) ls (v :: rest))) : W p l e R s m args below meth c H locs cells slots Q (F0 m pc ls (.ref b :: rest)) := gF (k := 2) C hO q0 he rfl inFX9 (by decide) wd_226 rfl hv hdg kk
theorem wd_731 : (Cond.methodLink "WebCourt$Reader" (151 : Nat) ⟨"WebCourt$Reader", "readPleas", "()I"⟩) ∈ gtb := gtb_c3 142 (by decide +kernel) rfl
theorem wd_733 : (Cond.instanceMethod ⟨"WebCourt$Reader", "readPleas", "()I"⟩) ∈ gtb := gtb_c3 144 (by decide +kernel) rfl
theorem wd_14 : (Cond.selects "WebCourt$Reader" ⟨"WebCourt$Reader", "readPleas", "()I"⟩ ⟨"WebCourt$Reader", "readPleas", "()I"⟩) ∈ gtb := gtb_p 14 (by decide +kernel) rfl
theorem hd_yX5_readPleas : yX5_readPleas.cls = RX5 ∧ yX5_readPleas.cls ≠ "java/lang/invoke/MethodHandle" ∧ yX5_readPleas.cls ≠ "java/lang/invoke/VarHandle" ∧ (parseMethodDescriptor yX5_readPleas.desc).map (fun d => d.parameters.length) = some 0 := by decide +kernel
theorem wd_242 : (Cond.fieldLink "WebCourt$Reader" (155 : Nat) "WebCourt$Web" "caseKnots" "[I") ∈ gtb := gtb_c1 133 (by decide +kernel) rfl
theorem gf_RX5_155 {p : Program} {l : Launch} {e : Env} {R : Room} {s : State} {m : MethodId} {args : Array Value} {below : List Frame} {meth : Method} {c : Code} {H : Heap} {locs : List Loc} {cells slots : Nat} {Q : State → Prop} {cc : ByteArray} {pc nL : Nat} {ls : Array Slot} {rest : List Value} {D : va_G} {cy : Nat → ClassId} {A : Nat → Prop} {ws : va_W} {b : Nat} {fs : List Value} {v : Value} (C : Cx p s m args c cc nL RX5 D cy A) (hO : Wo D A ws s.heap H locs) (q0 : Nat) (he : ws[q0]? = some (b, .inr (9, fs))) (hv : fs[6]? = some v) (hdg : decode cc pc = .ok (.getfield 155, 3)) (kk : W p l e R s m args below meth c H locs cells slots Q (F0 m (pc + 3) ls (v :: rest))) : W p l e R s m args below meth c H locs cells slots Q (F0 m pc ls (.ref b :: rest)) := gF (k := 6) C hO q0 he rfl inFX9 (by decide) wd_242 rfl hv hdg kk
theorem wd_246 : (Cond.fieldLink "WebCourt$Reader" (158 : Nat) "WebCourt$Web" "casePleas" "[I") ∈ gtb := gtb_c1 137 (by decide +kernel) rfl
theorem gf_RX5_158 {p : Program} {l : Launch} {e : Env} {R : Room} {s : State} {m : MethodId} {args : Array Value} {below : List Frame} {meth : Method} {c : Code} {H : Heap} {locs : List Loc} {cells slots : Nat} {Q : State → Prop} {cc : ByteArray} {pc nL : Nat} {ls : Array Slot} {rest : List Value} {D : va_G} {cy : Nat → ClassId} {A : Nat → Prop} {ws : va_W} {b : Nat} {fs : List Value} {v : Value} (C : Cx p s m args c cc nL RX5 D cy A) (hO : Wo D A ws s.heap H locs) (q0 : Nat) (he : ws[q0]? = some (b, .inr (9, fs))) (hv : fs[7]? = some v) (hdg : decode cc pc = .ok (.getfield 158, 3)) (kk : W p l e R s m args below meth c H locs cells slots Q (F0 m (pc + 3) ls (v :: rest))) : W p l e R s m args below meth c H locs cells slots Q (F0 m pc ls (.ref b :: rest)) := gF (k := 7) C hO q0 he rfl inFX9 (by decide) wd_246 rfl hv hdg kk
theorem pf_RX5_145 {p : Program} {l : Launch} {e : Env} {R : Room} {s : State} {m : MethodId} {args : Array Value} {below : List Frame} {meth : Method} {c : Code} {H : Heap} {locs : List Loc} {cells slots : Nat} {Q : State → Prop} {cc : ByteArray} {pc nL : Nat} {ls : Array Slot} {rest : List Value} {D : va_G} {cy : Nat → ClassId} {A : Nat → Prop} {ws : va_W} {b : Nat} {fs : List Value} {v : Int32} {ws' : va_W} (C : Cx p s m args c cc nL RX5 D cy A) (hO : Wo D A ws s.heap H locs) (q0 : Nat) (he : ws[q0]? = some (b, .inr (9, fs))) (hlen : 12 < fs.length) (hw : ws.set q0 (b, .inr (9, fs.set 12 (.int v))) = ws') (hdg : decode cc pc = .ok (.putfield 145, 3)) (kk : ∀ (H : Heap) (locs : List Loc), Wo D A ws' s.heap H locs → W p l e R s m args below meth c H locs cells slots Q (F0 m (pc + 3) ls rest)) : W p l e R s m args below meth c H locs cells slots Q (F0 m pc ls (.int v :: .ref b :: rest)) := pF (k := 12) (ty := .int) C hO q0 he rfl inFX9 (by decide) wd_273 rfl tyX9 tyX9_ok nmX9 rfl (by decide +kernel) rfl rfl hlen hw hdg kk
set_option maxHeartbeats 4000000 in
set_option maxRecDepth 100000 in
theorem T_X5_readCase (l : Launch) (D : va_G) (cy : Nat → ClassId) (a : Nat → Nat) (u : St) (hJ : CI a u) (hW : fR u 2 = a 15)   : Mi l D cy (cW cy a) yX5_readCase (.code yX5_readCase cX5_readCase 3 (some .boolean)) (rmo 7 154) [.ref (a 27)] u (fun (r : Int32) (u' : St) => (r = 0 ∨ r = 1) ∧ (CI a u') ∧ (KT u u') ∧ (fR u' 2 = a 15)) := by
  refine Mi.of (own := RX5) rfl (by decide) (Nat.le_of_ble_eq_true rfl) ?_
  have hT : KT u u := KT.rf
  intro p e s m below meth c A Q ls C hret hO hl
  obtain ⟨hx, hb, hml, hown, ht, hK, hA⟩ := id C
  have hl : lv_has ls 3 [(0, .ref (a 27))] := hl
  refine lv_aload_n hx hb dX5_readCase_0 rfl (lv_at hl 0 rfl) ?_
  refine lv_aload_n hx hb dX5_readCase_1 rfl (lv_at hl 0 rfl) ?_
  refine gf_RX5_15 (v := .ref (a 15)) C hO 27 cW_27 (congrArg (fun z : Nat => some (Value.ref z)) hW) dX5_readCase_2 ?_
  have g1 : 0 ≤ (fI u 15 12).toInt ∧ (fI u 15 12).toInt ≤ 6 := by have h := CI_15_12 hJ; exact h
  refine gf_RX5_145 (v := .int (fI u 15 12)) C hO 15 cW_15 rfl dX5_readCase_5 ?_
  refine lv_bipush (v := 6) hx hb dX5_readCase_8 (by decide) ?_
  refine cVi (w := cW cy a) (As := [.int (fI u 15 12), .int 6]) (rest := []) C hO (T_X5_openSort l D cy a _ (by exact hJ) (by exact hW) ((fI u 15 12)) (6)) (cwV 2 ht (gV wd_687 wd_689 wd_5 wd_114 wd_690) rfl rfl rfl hd_yX5_openSort ⟨Nat.le_of_ble_eq_true rfl, Nat.le_of_ble_eq_true rfl⟩) 27 rfl cW_27 rfl rfl hl.1 (Nat.le_of_ble_eq_true rfl) dX5_readCase_10 rfl ⟨Nat.zero_le _, Nat.zero_le _⟩ (fun r2 u3 H locs hp4 hO => ?_)
  have g5 : 0 ≤ (fI u 15 9).toInt ∧ (fI u 15 9).toInt ≤ 8 := by have h := CI_15_9 hJ; exact h
  have g6 : 0 ≤ (fI u 15 10).toInt ∧ (fI u 15 10).toInt ≤ 14 := by have h := CI_15_10 hJ; exact h
  have g7 : 0 ≤ (fI u 15 11).toInt ∧ (fI u 15 11).toInt ≤ 8 := by have h := CI_15_11 hJ; exact h
  obtain ⟨hr2, hJ, hTu3, hW⟩ := hp4
  have hT : KT u u3 := KT.tr (by exact hT) hTu3.1
  have hI_15_9_u3 : fI u3 15 9 = (fI u 15 9) := hTu3.2.1
  have hI_15_10_u3 : fI u3 15 10 = (fI u 15 10) := hTu3.2.2.1
  have hI_15_11_u3 : fI u3 15 11 = (fI u 15 11) := hTu3.2.2.2.1
  have hI_15_12_u3 : fI u3 15 12 = (fI u 15 12) := hTu3.2.2.2.2
  have zz8 : (6 : Int32).toInt = 6 := rfl
  rcases hr2 with ⟨hcr2, hvr2⟩ | ⟨hcr2, hvr2⟩
  · subst hvr2
    refine bn_eq (X := 1) hx hb dX5_readCase_13 rfl (by omega) ?_ (tgt := 46) (by decide)
    refine lv_aload_n hx hb dX5_readCase_16 rfl (lv_at hl 0 rfl) ?_
    refine lv_aload_n hx hb dX5_readCase_17 rfl (lv_at hl 0 rfl) ?_
    refine gf_RX5_15 (v := .ref (a 15)) C hO 27 cW_27 (congrArg (fun z : Nat => some (Value.ref z)) hW) dX5_readCase_18 ?_
    refine gf_RX5_148 (v := .ref (a 18)) C hO 15 cW_15 rfl dX5_readCase_21 ?_
    refine lv_aload_n hx hb dX5_readCase_24 rfl (lv_at hl 0 rfl) ?_
    refine gf_RX5_15 (v := .ref (a 15)) C hO 27 cW_27 (congrArg (fun z : Nat => some (Value.ref z)) hW) dX5_readCase_25 ?_
    refine gf_RX5_145 (v := .int (fI u 15 12)) C hO 15 cW_15 (congrArg (fun z : Int32 => some (Value.int z)) hI_15_12_u3) dX5_readCase_28 ?_
    refine cVi (w := cW cy a) (As := [.ref (a 18), .int (fI u 15 12)]) (rest := []) C hO (T_X5_newName_18 l D cy a _ (by exact hJ) (by exact hW) ((fI u 15 12)) (by first | omega | decide)) (cwV 2 ht (gV wd_696 wd_698 wd_7 wd_114 wd_699) rfl rfl rfl hd_yX5_newName ⟨Nat.le_of_ble_eq_true rfl, Nat.le_of_ble_eq_true rfl⟩) 27 rfl cW_27 rfl rfl hl.1 (Nat.le_of_ble_eq_true rfl) dX5_readCase_31 rfl ⟨Nat.zero_le _, Nat.zero_le _⟩ (fun r9 u10 H locs hp11 hO => ?_)
    obtain ⟨hr9, hJ, hTu10, hW⟩ := hp11
    have gr9 : 0 ≤ r9.toInt ∧ r9.toInt ≤ 1 := by rcases hr9 with h | h <;> rw [h] <;> decide
    have hT : KT u u10 := KT.tr (by exact hT) hTu10.1
    have hI_15_9_u10 : fI u10 15 9 = (fI u 15 9) := Eq.trans (hTu10.2.1) (hI_15_9_u3)
    have hI_15_10_u10 : fI u10 15 10 = (fI u 15 10) := Eq.trans (hTu10.2.2.1) (hI_15_10_u3)
    have hI_15_11_u10 : fI u10 15 11 = (fI u 15 11) := Eq.trans (hTu10.2.2.2.1) (hI_15_11_u3)
    have hI_15_12_u10 : fI u10 15 12 = (fI u 15 12) := Eq.trans (hTu10.2.2.2.2) (hI_15_12_u3)
    refine bs_eq (tgt := 46) (X := (r9).toInt) hx hb dX5_readCase_34 (by decide) rfl (fun c12 => ?_) (fun c12 => ?_)
    · refine lv_iconst (v := 0) hx hb dX5_readCase_46 (by decide) ?_
      refine hret _ _ _ _ _ _ dX5_readCase_47 rfl ?_ hO
      exact ⟨Or.inl rfl, hJ, hT, hW⟩
    · refine lv_aload_n hx hb dX5_readCase_37 rfl (lv_at hl 0 rfl) ?_
      refine lv_bipush (v := 7) hx hb dX5_readCase_38 (by decide) ?_
      refine cVi (w := cW cy a) (As := [.int 7]) (rest := []) C hO (T_X5_skip l D cy a _ (by exact hJ) (by exact hW) (7)) (cwV 1 ht (gV wd_719 wd_721 wd_11 wd_114 wd_722) rfl rfl rfl hd_yX5_skip ⟨Nat.le_of_ble_eq_true rfl, Nat.le_of_ble_eq_true rfl⟩) 27 rfl cW_27 rfl rfl hl.1 (Nat.le_of_ble_eq_true rfl) dX5_readCase_40 rfl ⟨Nat.zero_le _, Nat.zero_le _⟩ (fun r13 u14 H locs hp15 hO => ?_)
      obtain ⟨hr13, hJ, hTu14, hW⟩ := hp15
      have gr13 : 0 ≤ r13.toInt ∧ r13.toInt ≤ 1 := by rcases hr13 with h | h <;> rw [h] <;> decide
      have hT : KT u u14 := KT.tr (by exact hT) hTu14.1
      have hI_15_9_u14 : fI u14 15 9 = (fI u 15 9) := Eq.trans (hTu14.2.1) (hI_15_9_u10)
      have hI_15_10_u14 : fI u14 15 10 = (fI u 15 10) := Eq.trans (hTu14.2.2.1) (hI_15_10_u10)
      have hI_15_11_u14 : fI u14 15 11 = (fI u 15 11) := Eq.trans (hTu14.2.2.2.1) (hI_15_11_u10)
      have hI_15_12_u14 : fI u14 15 12 = (fI u 15 12) := Eq.trans (hTu14.2.2.2.2) (hI_15_12_u10)
      refine bs_ne (tgt := 48) (X := (r13).toInt) hx hb dX5_readCase_43 (by decide) rfl (fun c16 => ?_) (fun c16 => ?_)
      · refine lv_aload_n hx hb dX5_readCase_48 rfl (lv_at hl 0 rfl) ?_
        refine lv_aload_n hx hb dX5_readCase_49 rfl (lv_at hl 0 rfl) ?_
        refine gf_RX5_15 (v := .ref (a 15)) C hO 27 cW_27 (congrArg (fun z : Nat => some (Value.ref z)) hW) dX5_readCase_50 ?_
        refine gf_RX5_104 (v := .ref (a 16)) C hO 15 cW_15 rfl dX5_readCase_53 ?_
        refine lv_aload_n hx hb dX5_readCase_56 rfl (lv_at hl 0 rfl) ?_
        refine gf_RX5_15 (v := .ref (a 15)) C hO 27 cW_27 (congrArg (fun z : Nat => some (Value.ref z)) hW) dX5_readCase_57 ?_
        refine gf_RX5_97 (v := .int (fI u 15 9)) C hO 15 cW_15 (congrArg (fun z : Int32 => some (Value.int z)) hI_15_9_u14) dX5_readCase_60 ?_
        refine cVi (w := cW cy a) (As := [.ref (a 16), .int (fI u 15 9)]) (rest := []) C hO (T_X5_knownName_16 l D cy a _ (by exact hJ) (by exact hW) ((fI u 15 9))) (cwV 2 ht (gV wd_707 wd_709 wd_9 wd_114 wd_710) rfl rfl rfl hd_yX5_knownName ⟨Nat.le_of_ble_eq_true rfl, Nat.le_of_ble_eq_true rfl⟩) 27 rfl cW_27 rfl rfl hl.1 (Nat.le_of_ble_eq_true rfl) dX5_readCase_63 rfl ⟨Nat.zero_le _, Nat.zero_le _⟩ (fun r17 u18 H locs hp19 hO => ?_)
        obtain ⟨hr17, hJ, hTu18, hW⟩ := hp19
        have hT : KT u u18 := KT.tr (by exact hT) hTu18.1
        have hI_15_9_u18 : fI u18 15 9 = (fI u 15 9) := Eq.trans (hTu18.2.1) (hI_15_9_u14)
        have hI_15_10_u18 : fI u18 15 10 = (fI u 15 10) := Eq.trans (hTu18.2.2.1) (hI_15_10_u14)
        have hI_15_11_u18 : fI u18 15 11 = (fI u 15 11) := Eq.trans (hTu18.2.2.2.1) (hI_15_11_u14)
        have hI_15_12_u18 : fI u18 15 12 = (fI u 15 12) := Eq.trans (hTu18.2.2.2.2) (hI_15_12_u14)
        refine lv_istore_n (lv' := [(1, .int r17), (0, .ref (a 27))]) hx hb dX5_readCase_66 rfl hl (by decide) rfl (fun ls hl => ?_)
        refine lv_iload_n hx hb dX5_readCase_67 rfl (lv_at hl 0 rfl) ?_
        refine lv_iconst (v := (-1)) hx hb dX5_readCase_68 (by decide) ?_
        refine cs_ne (tgt := 74) (X := (r17).toInt) (Y := (-1)) hx hb dX5_readCase_69 (by decide) rfl rfl (fun c20 => ?_) (fun c20 => ?_)
        · refine lv_aload_n hx hb dX5_readCase_74 rfl (lv_at hl 1 rfl) ?_
          refine gf_RX5_9 (v := .ref (a 1)) C hO 27 cW_27 rfl dX5_readCase_75 ?_
          refine cVv (w := cW cy a) (As := []) (rest := []) C hO (T_X7_advance l D cy a _ (by exact hJ) (by exact hW)) (cwV 0 ht (gV wd_695 wd_541 wd_542 wd_111 wd_543) rfl rfl rfl hd_yX7_advance ⟨Nat.le_of_ble_eq_true rfl, Nat.le_of_ble_eq_true rfl⟩) 1 rfl cW_1 rfl rfl hl.1 (Nat.le_of_ble_eq_true rfl) dX5_readCase_78 rfl ⟨Nat.zero_le _, Nat.zero_le _⟩ (fun u22 H locs hp23 hO => ?_)
          obtain ⟨hJ, hTu22, hW⟩ := hp23
          have hT : KT u u22 := KT.tr (by exact hT) hTu22.1
          have hI_15_9_u22 : fI u22 15 9 = (fI u 15 9) := Eq.trans (hTu22.2.1) (hI_15_9_u18)
          have hI_15_10_u22 : fI u22 15 10 = (fI u 15 10) := Eq.trans (hTu22.2.2.1) (hI_15_10_u18)
          have hI_15_11_u22 : fI u22 15 11 = (fI u 15 11) := Eq.trans (hTu22.2.2.2.1) (hI_15_11_u18)
          have hI_15_12_u22 : fI u22 15 12 = (fI u 15 12) := Eq.trans (hTu22.2.2.2.2) (hI_15_12_u18)
          refine lv_aload_n hx hb dX5_readCase_81 rfl (lv_at hl 1 rfl) ?_
          refine lv_bipush (v := 8) hx hb dX5_readCase_82 (by decide) ?_
          refine cVi (w := cW cy a) (As := [.int 8]) (rest := []) C hO (T_X5_skip l D cy a _ (by exact hJ) (by exact hW) (8)) (cwV 1 ht (gV wd_719 wd_721 wd_11 wd_114 wd_722) rfl rfl rfl hd_yX5_skip ⟨Nat.le_of_ble_eq_true rfl, Nat.le_of_ble_eq_true rfl⟩) 27 rfl cW_27 rfl rfl hl.1 (Nat.le_of_ble_eq_true rfl) dX5_readCase_84 rfl ⟨Nat.zero_le _, Nat.zero_le _⟩ (fun r24 u25 H locs hp26 hO => ?_)
          obtain ⟨hr24, hJ, hTu25, hW⟩ := hp26
          have gr24 : 0 ≤ r24.toInt ∧ r24.toInt ≤ 1 := by rcases hr24 with h | h <;> rw [h] <;> decide
          have hT : KT u u25 := KT.tr (by exact hT) hTu25.1
          have hI_15_9_u25 : fI u25 15 9 = (fI u 15 9) := Eq.trans (hTu25.2.1) (hI_15_9_u22)
          have hI_15_10_u25 : fI u25 15 10 = (fI u 15 10) := Eq.trans (hTu25.2.2.1) (hI_15_10_u22)
          have hI_15_11_u25 : fI u25 15 11 = (fI u 15 11) := Eq.trans (hTu25.2.2.2.1) (hI_15_11_u22)
          have hI_15_12_u25 : fI u25 15 12 = (fI u 15 12) := Eq.trans (hTu25.2.2.2.2) (hI_15_12_u22)
          refine bs_ne (tgt := 92) (X := (r24).toInt) hx hb dX5_readCase_87 (by decide) rfl (fun c27 => ?_) (fun c27 => ?_)
          · refine lv_aload_n hx hb dX5_readCase_92 rfl (lv_at hl 1 rfl) ?_
            refine cVi (w := cW cy a) (As := []) (rest := []) C hO (T_X5_readPleas l D cy a _ (by exact hJ) (by exact hW)) (cwV 0 ht (gV wd_731 wd_733 wd_14 wd_114 wd_734) rfl rfl rfl hd_yX5_readPleas ⟨Nat.le_of_ble_eq_true rfl, Nat.le_of_ble_eq_true rfl⟩) 27 rfl cW_27 rfl rfl hl.1 (Nat.le_of_ble_eq_true rfl) dX5_readCase_93 rfl ⟨Nat.zero_le _, Nat.zero_le _⟩ (fun r28 u29 H locs hp30 hO => ?_)
            obtain ⟨hJ, hTu29, hW⟩ := hp30
            have hT : KT u u29 := KT.tr (by exact hT) hTu29.1
            have hI_15_9_u29 : fI u29 15 9 = (fI u 15 9) := Eq.trans (hTu29.2.1) (hI_15_9_u25)
            have hI_15_10_u29 : fI u29 15 10 = (fI u 15 10) := Eq.trans (hTu29.2.2.1) (hI_15_10_u25)
            have hI_15_11_u29 : fI u29 15 11 = (fI u 15 11) := Eq.trans (hTu29.2.2.2.1) (hI_15_11_u25)
            have hI_15_12_u29 : fI u29 15 12 = (fI u 15 12) := Eq.trans (hTu29.2.2.2.2) (hI_15_12_u25)
            refine lv_istore_n (lv' := [(2, .int r28), (1, .int r17), (0, .ref (a 27))]) hx hb dX5_readCase_96 rfl hl (by decide) rfl (fun ls hl => ?_)
            refine lv_iload_n hx hb dX5_readCase_97 rfl (lv_at hl 0 rfl) ?_
            refine bs_ne (tgt := 103) (X := (r28).toInt) hx hb dX5_readCase_98 (by decide) rfl (fun c31 => ?_) (fun c31 => ?_)
            · refine lv_aload_n hx hb dX5_readCase_103 rfl (lv_at hl 2 rfl) ?_
              refine gf_RX5_15 (v := .ref (a 15)) C hO 27 cW_27 (congrArg (fun z : Nat => some (Value.ref z)) hW) dX5_readCase_104 ?_
              refine gf_RX5_155 (v := .ref (a 22)) C hO 15 cW_15 rfl dX5_readCase_107 ?_
              refine lv_aload_n hx hb dX5_readCase_110 rfl (lv_at hl 2 rfl) ?_
              refine gf_RX5_15 (v := .ref (a 15)) C hO 27 cW_27 (congrArg (fun z : Nat => some (Value.ref z)) hW) dX5_readCase_111 ?_
              refine gf_RX5_145 (v := .int (fI u 15 12)) C hO 15 cW_15 (congrArg (fun z : Int32 => some (Value.int z)) hI_15_12_u29) dX5_readCase_114 ?_
              refine lv_iload_n hx hb dX5_readCase_117 rfl (lv_at hl 1 rfl) ?_
              refine aIs C hO 22 cW_22 (i_in (X := ((fI u 15 12)).toInt) rfl (by omega) (by omega)) cW_s22 dX5_readCase_118 (fun H locs hO => ?_)
              have hJ := CIsA hO hJ
              refine lv_aload_n hx hb dX5_readCase_119 rfl (lv_at hl 2 rfl) ?_
              refine gf_RX5_15 (v := .ref (a 15)) C hO 27 cW_27 (congrArg (fun z : Nat => some (Value.ref z)) hW) dX5_readCase_120 ?_
              refine gf_RX5_158 (v := .ref (a 23)) C hO 15 cW_15 rfl dX5_readCase_123 ?_
              refine lv_aload_n hx hb dX5_readCase_126 rfl (lv_at hl 2 rfl) ?_
              refine gf_RX5_15 (v := .ref (a 15)) C hO 27 cW_27 (congrArg (fun z : Nat => some (Value.ref z)) hW) dX5_readCase_127 ?_
              refine gf_RX5_145 (v := .int (fI u 15 12)) C hO 15 cW_15 (congrArg (fun z : Int32 => some (Value.int z)) hI_15_12_u29) dX5_readCase_130 ?_
              refine lv_iload_n hx hb dX5_readCase_133 rfl (lv_at hl 0 rfl) ?_
              refine aIs C hO 23 cW_23 (i_in (X := ((fI u 15 12)).toInt) rfl (by omega) (by omega)) cW_s23 dX5_readCase_134 (fun H locs hO => ?_)
              have hJ := CIsA hO hJ
              refine lv_aload_n hx hb dX5_readCase_135 rfl (lv_at hl 2 rfl) ?_
              refine gf_RX5_15 (v := .ref (a 15)) C hO 27 cW_27 (congrArg (fun z : Nat => some (Value.ref z)) hW) dX5_readCase_136 ?_
              refine lv_dup hx hb dX5_readCase_139 rfl ?_
              refine gf_RX5_145 (v := .int (fI u 15 12)) C hO 15 cW_15 (congrArg (fun z : Int32 => some (Value.int z)) hI_15_12_u29) dX5_readCase_140 ?_
              refine lv_iconst (v := 1) hx hb dX5_readCase_143 (by decide) ?_
              have e32 : (((fI u 15 12) + 1)).toInt = ((fI u 15 12)).toInt + 1 := i_add rfl rfl (by omega)
              refine lv_iadd hx hb dX5_readCase_144 ?_
              refine pf_RX5_145 C hO 15 cW_15 (Nat.le_of_ble_eq_true rfl) cW_s15_12 dX5_readCase_145 (fun H locs hO => ?_)
              have hJ := CIs_15_12 (v := ((fI u 15 12) + 1)) hJ (by first | decide | omega)
              refine lv_iconst (v := 1) hx hb dX5_readCase_148 (by decide) ?_
              refine hret _ _ _ _ _ _ dX5_readCase_149 rfl ?_ hO
              exact ⟨Or.inr rfl, hJ, hT, hW⟩
            · refine lv_iconst (v := 0) hx hb dX5_readCase_101 (by decide) ?_
              refine hret _ _ _ _ _ _ dX5_readCase_102 rfl ?_ hO
              exact ⟨Or.inl rfl, hJ, hT, hW⟩
          · refine lv_iconst (v := 0) hx hb dX5_readCase_90 (by decide) ?_
            refine hret _ _ _ _ _ _ dX5_readCase_91 rfl ?_ hO
            exact ⟨Or.inl rfl, hJ, hT, hW⟩
        · refine lv_iconst (v := 0) hx hb dX5_readCase_72 (by decide) ?_
          refine hret _ _ _ _ _ _ dX5_readCase_73 rfl ?_ hO
          exact ⟨Or.inl rfl, hJ, hT, hW⟩
      · refine lv_iconst (v := 0) hx hb dX5_readCase_46 (by decide) ?_
        refine hret _ _ _ _ _ _ dX5_readCase_47 rfl ?_ hO
        exact ⟨Or.inl rfl, hJ, hT, hW⟩
  · subst hvr2
    refine bt_eq (tgt := 46) (X := 0) hx hb dX5_readCase_13 (by decide) rfl (by omega) ?_
    refine lv_iconst (v := 0) hx hb dX5_readCase_46 (by decide) ?_
    refine hret _ _ _ _ _ _ dX5_readCase_47 rfl ?_ hO
    exact ⟨Or.inl rfl, hJ, hT, hW⟩
theorem dX5_readBench_0 : decode cX5_readBench 0 = .ok (.aload_n 0, 1) := by decide +kernel
theorem dX5_readBench_1 : decode cX5_readBench 1 = .ok (.invokevirtual 62, 3) := by decide +kernel
theorem dX5_readBench_4 : decode cX5_readBench 4 = .ok (.ifCond .ne 5, 3) := by decide +kernel
theorem dX5_readBench_7 : decode cX5_readBench 7 = .ok (.iconst 0, 1) := by decide +kernel
theorem dX5_readBench_8 : decode cX5_readBench 8 = .ok (.ireturn, 1) := by decide +kernel
theorem dX5_readBench_9 : decode cX5_readBench 9 = .ok (.aload_n 0, 1) := by decide +kernel
theorem dX5_readBench_10 : decode cX5_readBench 10 = .ok (.aload_n 0, 1) := by decide +kernel
theorem dX5_readBench_11 : decode cX5_readBench 11 = .ok (.getfield 15, 3) := by decide +kernel
theorem dX5_readBench_14 : decode cX5_readBench 14 = .ok (.getfield 104, 3) := by decide +kernel
theorem dX5_readBench_17 : decode cX5_readBench 17 = .ok (.aload_n 0, 1) := by decide +kernel
theorem dX5_readBench_18 : decode cX5_readBench 18 = .ok (.getfield 15, 3) := by decide +kernel
theorem dX5_readBench_21 : decode cX5_readBench 21 = .ok (.getfield 97, 3) := by decide +kernel
theorem dX5_readBench_24 : decode cX5_readBench 24 = .ok (.invokevirtual 115, 3) := by decide +kernel
theorem dX5_readBench_27 : decode cX5_readBench 27 = .ok (.istore_n 1, 1) := by decide +kernel
theorem dX5_readBench_28 : decode cX5_readBench 28 = .ok (.iload_n 1, 1) := by decide +kernel
theorem dX5_readBench_29 : decode cX5_readBench 29 = .ok (.iconst (-1), 1) := by decide +kernel
theorem dX5_readBench_30 : decode cX5_readBench 30 = .ok (.if_icmp .ne 5, 3) := by decide +kernel
theorem dX5_readBench_33 : decode cX5_readBench 33 = .ok (.iconst 0, 1) := by decide +kernel
theorem dX5_readBench_34 : decode cX5_readBench 34 = .ok (.ireturn, 1) := by decide +kernel
theorem dX5_readBench_35 : decode cX5_readBench 35 = .ok (.aload_n 0, 1) := by decide +kernel
theorem dX5_readBench_36 : decode cX5_readBench 36 = .ok (.getfield 15, 3) := by decide +kernel
theorem dX5_readBench_39 : decode cX5_readBench 39 = .ok (.iload_n 1, 1) := by decide +kernel
theorem dX5_readBench_40 : decode cX5_readBench 40 = .ok (.putfield 161, 3) := by decide +kernel
theorem dX5_readBench_43 : decode cX5_readBench 43 = .ok (.aload_n 0, 1) := by decide +kernel
theorem dX5_readBench_44 : decode cX5_readBench 44 = .ok (.getfield 9, 3) := by decide +kernel
theorem dX5_readBench_47 : decode cX5_readBench 47 = .ok (.invokevirtual 80, 3) := by decide +kernel
theorem dX5_readBench_50 : decode cX5_readBench 50 = .ok (.iconst 1, 1) := by decide +kernel
theorem dX5_readBench_51 : decode cX5_readBench 51 = .ok (.ireturn, 1) := by decide +kernel
theorem wd_738 : (Cond.code ⟨"WebCourt$Reader", "readBench", "()Z"⟩ prog_7_method_17_code (2 : Nat) (Option.some FieldType.boolean)) ∈ gtb := gtb_c3 149 (by decide +kernel) rfl
theorem wd_739 : (Cond.methodLink "WebCourt$Reader" (62 : Nat) ⟨"WebCourt$Reader", "openOnce", "()Z"⟩) ∈ gtb := gtb_c3 150 (by decide +kernel) rfl
theorem wd_741 : (Cond.instanceMethod ⟨"WebCourt$Reader", "openOnce", "()Z"⟩) ∈ gtb := gtb_c3 152 (by decide +kernel) rfl
theorem wd_16 : (Cond.selects "WebCourt$Reader" ⟨"WebCourt$Reader", "openOnce", "()Z"⟩ ⟨"WebCourt$Reader", "openOnce", "()Z"⟩) ∈ gtb := gtb_p 16 (by decide +kernel) rfl
theorem hd_yX5_openOnce : yX5_openOnce.cls = RX5 ∧ yX5_openOnce.cls ≠ "java/lang/invoke/MethodHandle" ∧ yX5_openOnce.cls ≠ "java/lang/invoke/VarHandle" ∧ (parseMethodDescriptor yX5_openOnce.desc).map (fun d => d.parameters.length) = some 0 := by decide +kernel
theorem wd_279 : (Cond.fieldLink "WebCourt$Reader" (161 : Nat) "WebCourt$Web" "bench" "I") ∈ gtb := gtb_c1 170 (by decide +kernel) rfl
theorem pf_RX5_161 {p : Program} {l : Launch} {e : Env} {R : Room} {s : State} {m : MethodId} {args : Array Value} {below : List Frame} {meth : Method} {c : Code} {H : Heap} {locs : List Loc} {cells slots : Nat} {Q : State → Prop} {cc : ByteArray} {pc nL : Nat} {ls : Array Slot} {rest : List Value} {D : va_G} {cy : Nat → ClassId} {A : Nat → Prop} {ws : va_W} {b : Nat} {fs : List Value} {v : Int32} {ws' : va_W} (C : Cx p s m args c cc nL RX5 D cy A) (hO : Wo D A ws s.heap H locs) (q0 : Nat) (he : ws[q0]? = some (b, .inr (9, fs))) (hlen : 14 < fs.length) (hw : ws.set q0 (b, .inr (9, fs.set 14 (.int v))) = ws') (hdg : decode cc pc = .ok (.putfield 161, 3)) (kk : ∀ (H : Heap) (locs : List Loc), Wo D A ws' s.heap H locs → W p l e R s m args below meth c H locs cells slots Q (F0 m (pc + 3) ls rest)) : W p l e R s m args below meth c H locs cells slots Q (F0 m pc ls (.int v :: .ref b :: rest)) := pF (k := 14) (ty := .int) C hO q0 he rfl inFX9 (by decide) wd_279 rfl tyX9 tyX9_ok nmX9 rfl (by decide +kernel) rfl rfl hlen hw hdg kk
set_option maxHeartbeats 4000000 in
set_option maxRecDepth 100000 in
theorem T_X5_readBench (l : Launch) (D : va_G) (cy : Nat → ClassId) (a : Nat → Nat) (u : St) (hJ : CI a u) (hW : fR u 2 = a 15)   : Mi l D cy (cW cy a) yX5_readBench (.code yX5_readBench cX5_readBench 2 (some .boolean)) (rmo 7 152) [.ref (a 27)] u (fun (r : Int32) (u' : St) => (r = 0 ∨ r = 1) ∧ (CI a u') ∧ (KT u u') ∧ (fR u' 2 = a 15)) := by
  refine Mi.of (own := RX5) rfl (by decide) (Nat.le_of_ble_eq_true rfl) ?_
  have hT : KT u u := KT.rf
  intro p e s m below meth c A Q ls C hret hO hl
  obtain ⟨hx, hb, hml, hown, ht, hK, hA⟩ := id C
  have hl : lv_has ls 2 [(0, .ref (a 27))] := hl
  refine lv_aload_n hx hb dX5_readBench_0 rfl (lv_at hl 0 rfl) ?_
  refine cVi (w := cW cy a) (As := []) (rest := []) C hO (T_X5_openOnce l D cy a _ (by exact hJ) (by exact hW)) (cwV 0 ht (gV wd_739 wd_741 wd_16 wd_114 wd_742) rfl rfl rfl hd_yX5_openOnce ⟨Nat.le_of_ble_eq_true rfl, Nat.le_of_ble_eq_true rfl⟩) 27 rfl cW_27 rfl rfl hl.1 (Nat.le_of_ble_eq_true rfl) dX5_readBench_1 rfl ⟨Nat.zero_le _, Nat.zero_le _⟩ (fun r1 u2 H locs hp3 hO => ?_)
  have g4 : 0 ≤ (fI u 15 9).toInt ∧ (fI u 15 9).toInt ≤ 8 := by have h := CI_15_9 hJ; exact h
  have g5 : 0 ≤ (fI u 15 10).toInt ∧ (fI u 15 10).toInt ≤ 14 := by have h := CI_15_10 hJ; exact h
  have g6 : 0 ≤ (fI u 15 11).toInt ∧ (fI u 15 11).toInt ≤ 8 := by have h := CI_15_11 hJ; exact h
  have g7 : 0 ≤ (fI u 15 12).toInt ∧ (fI u 15 12).toInt ≤ 6 := by have h := CI_15_12 hJ; exact h
  obtain ⟨hr1, hJ, hTu2, hW⟩ := hp3
  have gr1 : 0 ≤ r1.toInt ∧ r1.toInt ≤ 1 := by rcases hr1 with h | h <;> rw [h] <;> decide
  have hT : KT u u2 := KT.tr (by exact hT) hTu2.1
  have hI_15_9_u2 : fI u2 15 9 = (fI u 15 9) := hTu2.2.1
  have hI_15_10_u2 : fI u2 15 10 = (fI u 15 10) := hTu2.2.2.1
  have hI_15_11_u2 : fI u2 15 11 = (fI u 15 11) := hTu2.2.2.2.1
  have hI_15_12_u2 : fI u2 15 12 = (fI u 15 12) := hTu2.2.2.2.2
  refine bs_ne (tgt := 9) (X := (r1).toInt) hx hb dX5_readBench_4 (by decide) rfl (fun c8 => ?_) (fun c8 => ?_)
  · refine lv_aload_n hx hb dX5_readBench_9 rfl (lv_at hl 0 rfl) ?_
    refine lv_aload_n hx hb dX5_readBench_10 rfl (lv_at hl 0 rfl) ?_
    refine gf_RX5_15 (v := .ref (a 15)) C hO 27 cW_27 (congrArg (fun z : Nat => some (Value.ref z)) hW) dX5_readBench_11 ?_
    refine gf_RX5_104 (v := .ref (a 16)) C hO 15 cW_15 rfl dX5_readBench_14 ?_
    refine lv_aload_n hx hb dX5_readBench_17 rfl (lv_at hl 0 rfl) ?_
    refine gf_RX5_15 (v := .ref (a 15)) C hO 27 cW_27 (congrArg (fun z : Nat => some (Value.ref z)) hW) dX5_readBench_18 ?_
    refine gf_RX5_97 (v := .int (fI u 15 9)) C hO 15 cW_15 (congrArg (fun z : Int32 => some (Value.int z)) hI_15_9_u2) dX5_readBench_21 ?_
    refine cVi (w := cW cy a) (As := [.ref (a 16), .int (fI u 15 9)]) (rest := []) C hO (T_X5_knownName_16 l D cy a _ (by exact hJ) (by exact hW) ((fI u 15 9))) (cwV 2 ht (gV wd_707 wd_709 wd_9 wd_114 wd_710) rfl rfl rfl hd_yX5_knownName ⟨Nat.le_of_ble_eq_true rfl, Nat.le_of_ble_eq_true rfl⟩) 27 rfl cW_27 rfl rfl hl.1 (Nat.le_of_ble_eq_true rfl) dX5_readBench_24 rfl ⟨Nat.zero_le _, Nat.zero_le _⟩ (fun r9 u10 H locs hp11 hO => ?_)
    obtain ⟨hr9, hJ, hTu10, hW⟩ := hp11
    have hT : KT u u10 := KT.tr (by exact hT) hTu10.1
    have hI_15_9_u10 : fI u10 15 9 = (fI u 15 9) := Eq.trans (hTu10.2.1) (hI_15_9_u2)
    have hI_15_10_u10 : fI u10 15 10 = (fI u 15 10) := Eq.trans (hTu10.2.2.1) (hI_15_10_u2)
    have hI_15_11_u10 : fI u10 15 11 = (fI u 15 11) := Eq.trans (hTu10.2.2.2.1) (hI_15_11_u2)
    have hI_15_12_u10 : fI u10 15 12 = (fI u 15 12) := Eq.trans (hTu10.2.2.2.2) (hI_15_12_u2)
    refine lv_istore_n (lv' := [(1, .int r9), (0, .ref (a 27))]) hx hb dX5_readBench_27 rfl hl (by decide) rfl (fun ls hl => ?_)
    refine lv_iload_n hx hb dX5_readBench_28 rfl (lv_at hl 0 rfl) ?_
    refine lv_iconst (v := (-1)) hx hb dX5_readBench_29 (by decide) ?_
    refine cs_ne (tgt := 35) (X := (r9).toInt) (Y := (-1)) hx hb dX5_readBench_30 (by decide) rfl rfl (fun c12 => ?_) (fun c12 => ?_)
    · refine lv_aload_n hx hb dX5_readBench_35 rfl (lv_at hl 1 rfl) ?_
      refine gf_RX5_15 (v := .ref (a 15)) C hO 27 cW_27 (congrArg (fun z : Nat => some (Value.ref z)) hW) dX5_readBench_36 ?_
      refine lv_iload_n hx hb dX5_readBench_39 rfl (lv_at hl 0 rfl) ?_
      refine pf_RX5_161 C hO 15 cW_15 (Nat.le_of_ble_eq_true rfl) cW_s15_14 dX5_readBench_40 (fun H locs hO => ?_)
      have hJ := CIs_15_14 (v := r9) hJ
      refine lv_aload_n hx hb dX5_readBench_43 rfl (lv_at hl 1 rfl) ?_
      refine gf_RX5_9 (v := .ref (a 1)) C hO 27 cW_27 rfl dX5_readBench_44 ?_
      refine cVv (w := cW cy a) (As := []) (rest := []) C hO (T_X7_advance l D cy a _ (by exact hJ) (by exact hW)) (cwV 0 ht (gV wd_695 wd_541 wd_542 wd_111 wd_543) rfl rfl rfl hd_yX7_advance ⟨Nat.le_of_ble_eq_true rfl, Nat.le_of_ble_eq_true rfl⟩) 1 rfl cW_1 rfl rfl hl.1 (Nat.le_of_ble_eq_true rfl) dX5_readBench_47 rfl ⟨Nat.zero_le _, Nat.zero_le _⟩ (fun u14 H locs hp15 hO => ?_)
      obtain ⟨hJ, hTu14, hW⟩ := hp15
      have hT : KT u u14 := KT.tr (by exact hT) hTu14.1
      have hI_15_9_u14 : fI u14 15 9 = (fI u 15 9) := Eq.trans (hTu14.2.1) (hI_15_9_u10)
      have hI_15_10_u14 : fI u14 15 10 = (fI u 15 10) := Eq.trans (hTu14.2.2.1) (hI_15_10_u10)
      have hI_15_11_u14 : fI u14 15 11 = (fI u 15 11) := Eq.trans (hTu14.2.2.2.1) (hI_15_11_u10)
      have hI_15_12_u14 : fI u14 15 12 = (fI u 15 12) := Eq.trans (hTu14.2.2.2.2) (hI_15_12_u10)
      refine lv_iconst (v := 1) hx hb dX5_readBench_50 (by decide) ?_
      refine hret _ _ _ _ _ _ dX5_readBench_51 rfl ?_ hO
      exact ⟨Or.inr rfl, hJ, hT, hW⟩
    · refine lv_iconst (v := 0) hx hb dX5_readBench_33 (by decide) ?_
      refine hret _ _ _ _ _ _ dX5_readBench_34 rfl ?_ hO
      exact ⟨Or.inl rfl, hJ, hT, hW⟩
  · refine lv_iconst (v := 0) hx hb dX5_readBench_7 (by decide) ?_
    refine hret _ _ _ _ _ _ dX5_readBench_8 rfl ?_ hO
    exact ⟨Or.inl rfl, hJ, hT, hW⟩
theorem dX5_readBack_0 : decode cX5_readBack 0 = .ok (.aload_n 0, 1) := by decide +kernel
theorem dX5_readBack_1 : decode cX5_readBack 1 = .ok (.invokevirtual 62, 3) := by decide +kernel
theorem dX5_readBack_4 : decode cX5_readBack 4 = .ok (.ifCond .ne 5, 3) := by decide +kernel
theorem dX5_readBack_7 : decode cX5_readBack 7 = .ok (.iconst 0, 1) := by decide +kernel
theorem dX5_readBack_8 : decode cX5_readBack 8 = .ok (.ireturn, 1) := by decide +kernel
theorem dX5_readBack_9 : decode cX5_readBack 9 = .ok (.aload_n 0, 1) := by decide +kernel
theorem dX5_readBack_10 : decode cX5_readBack 10 = .ok (.getfield 15, 3) := by decide +kernel
theorem dX5_readBack_13 : decode cX5_readBack 13 = .ok (.aload_n 0, 1) := by decide +kernel
theorem dX5_readBack_14 : decode cX5_readBack 14 = .ok (.bipush 100, 2) := by decide +kernel
theorem dX5_readBack_16 : decode cX5_readBack 16 = .ok (.invokevirtual 138, 3) := by decide +kernel
theorem dX5_readBack_19 : decode cX5_readBack 19 = .ok (.putfield 164, 3) := by decide +kernel
theorem dX5_readBack_22 : decode cX5_readBack 22 = .ok (.aload_n 0, 1) := by decide +kernel
theorem dX5_readBack_23 : decode cX5_readBack 23 = .ok (.getfield 15, 3) := by decide +kernel
theorem dX5_readBack_26 : decode cX5_readBack 26 = .ok (.getfield 164, 3) := by decide +kernel
theorem dX5_readBack_29 : decode cX5_readBack 29 = .ok (.iconst (-1), 1) := by decide +kernel
theorem dX5_readBack_30 : decode cX5_readBack 30 = .ok (.if_icmp .eq 7, 3) := by decide +kernel
theorem dX5_readBack_33 : decode cX5_readBack 33 = .ok (.iconst 1, 1) := by decide +kernel
theorem dX5_readBack_34 : decode cX5_readBack 34 = .ok (.goto 4, 3) := by decide +kernel
theorem dX5_readBack_37 : decode cX5_readBack 37 = .ok (.iconst 0, 1) := by decide +kernel
theorem dX5_readBack_38 : decode cX5_readBack 38 = .ok (.ireturn, 1) := by decide +kernel
theorem wd_792 : (Cond.code ⟨"WebCourt$Reader", "readBack", "()Z"⟩ prog_7_method_18_code (1 : Nat) (Option.some FieldType.boolean)) ∈ gtb := gtb_c3 203 (by decide +kernel) rfl
theorem wd_282 : (Cond.fieldLink "WebCourt$Reader" (164 : Nat) "WebCourt$Web" "back" "I") ∈ gtb := gtb_c1 173 (by decide +kernel) rfl
theorem pf_RX5_164 {p : Program} {l : Launch} {e : Env} {R : Room} {s : State} {m : MethodId} {args : Array Value} {below : List Frame} {meth : Method} {c : Code} {H : Heap} {locs : List Loc} {cells slots : Nat} {Q : State → Prop} {cc : ByteArray} {pc nL : Nat} {ls : Array Slot} {rest : List Value} {D : va_G} {cy : Nat → ClassId} {A : Nat → Prop} {ws : va_W} {b : Nat} {fs : List Value} {v : Int32} {ws' : va_W} (C : Cx p s m args c cc nL RX5 D cy A) (hO : Wo D A ws s.heap H locs) (q0 : Nat) (he : ws[q0]? = some (b, .inr (9, fs))) (hlen : 15 < fs.length) (hw : ws.set q0 (b, .inr (9, fs.set 15 (.int v))) = ws') (hdg : decode cc pc = .ok (.putfield 164, 3)) (kk : ∀ (H : Heap) (locs : List Loc), Wo D A ws' s.heap H locs → W p l e R s m args below meth c H locs cells slots Q (F0 m (pc + 3) ls rest)) : W p l e R s m args below meth c H locs cells slots Q (F0 m pc ls (.int v :: .ref b :: rest)) := pF (k := 15) (ty := .int) C hO q0 he rfl inFX9 (by decide) wd_282 rfl tyX9 tyX9_ok nmX9 rfl (by decide +kernel) rfl rfl hlen hw hdg kk
theorem gf_RX5_164 {p : Program} {l : Launch} {e : Env} {R : Room} {s : State} {m : MethodId} {args : Array Value} {below : List Frame} {meth : Method} {c : Code} {H : Heap} {locs : List Loc} {cells slots : Nat} {Q : State → Prop} {cc : ByteArray} {pc nL : Nat} {ls : Array Slot} {rest : List Value} {D : va_G} {cy : Nat → ClassId} {A : Nat → Prop} {ws : va_W} {b : Nat} {fs : List Value} {v : Value} (C : Cx p s m args c cc nL RX5 D cy A) (hO : Wo D A ws s.heap H locs) (q0 : Nat) (he : ws[q0]? = some (b, .inr (9, fs))) (hv : fs[15]? = some v) (hdg : decode cc pc = .ok (.getfield 164, 3)) (kk : W p l e R s m args below meth c H locs cells slots Q (F0 m (pc + 3) ls (v :: rest))) : W p l e R s m args below meth c H locs cells slots Q (F0 m pc ls (.ref b :: rest)) := gF (k := 15) C hO q0 he rfl inFX9 (by decide) wd_282 rfl hv hdg kk
set_option maxHeartbeats 4000000 in
set_option maxRecDepth 100000 in
theorem T_X5_readBack (l : Launch) (D : va_G) (cy : Nat → ClassId) (a : Nat → Nat) (u : St) (hJ : CI a u) (hW : fR u 2 = a 15)   : Mi l D cy (cW cy a) yX5_readBack (.code yX5_readBack cX5_readBack 1 (some .boolean)) (rmo 7 153) [.ref (a 27)] u (fun (r : Int32) (u' : St) => (r = 0 ∨ r = 1) ∧ (CI a u') ∧ (KT u u') ∧ (fR u' 2 = a 15)) := by
  refine Mi.of (own := RX5) rfl (by decide) (Nat.le_of_ble_eq_true rfl) ?_
  have hT : KT u u := KT.rf
  intro p e s m below meth c A Q ls C hret hO hl
  obtain ⟨hx, hb, hml, hown, ht, hK, hA⟩ := id C
  have hl : lv_has ls 1 [(0, .ref (a 27))] := hl
  refine lv_aload_n hx hb dX5_readBack_0 rfl (lv_at hl 0 rfl) ?_
  refine cVi (w := cW cy a) (As := []) (rest := []) C hO (T_X5_openOnce l D cy a _ (by exact hJ) (by exact hW)) (cwV 0 ht (gV wd_739 wd_741 wd_16 wd_114 wd_742) rfl rfl rfl hd_yX5_openOnce ⟨Nat.le_of_ble_eq_true rfl, Nat.le_of_ble_eq_true rfl⟩) 27 rfl cW_27 rfl rfl hl.1 (Nat.le_of_ble_eq_true rfl) dX5_readBack_1 rfl ⟨Nat.zero_le _, Nat.zero_le _⟩ (fun r1 u2 H locs hp3 hO => ?_)
  have g4 : 0 ≤ (fI u 15 9).toInt ∧ (fI u 15 9).toInt ≤ 8 := by have h := CI_15_9 hJ; exact h
  have g5 : 0 ≤ (fI u 15 10).toInt ∧ (fI u 15 10).toInt ≤ 14 := by have h := CI_15_10 hJ; exact h
  have g6 : 0 ≤ (fI u 15 11).toInt ∧ (fI u 15 11).toInt ≤ 8 := by have h := CI_15_11 hJ; exact h
  have g7 : 0 ≤ (fI u 15 12).toInt ∧ (fI u 15 12).toInt ≤ 6 := by have h := CI_15_12 hJ; exact h
  obtain ⟨hr1, hJ, hTu2, hW⟩ := hp3
  have gr1 : 0 ≤ r1.toInt ∧ r1.toInt ≤ 1 := by rcases hr1 with h | h <;> rw [h] <;> decide
  have hT : KT u u2 := KT.tr (by exact hT) hTu2.1
  have hI_15_9_u2 : fI u2 15 9 = (fI u 15 9) := hTu2.2.1
  have hI_15_10_u2 : fI u2 15 10 = (fI u 15 10) := hTu2.2.2.1
  have hI_15_11_u2 : fI u2 15 11 = (fI u 15 11) := hTu2.2.2.2.1
  have hI_15_12_u2 : fI u2 15 12 = (fI u 15 12) := hTu2.2.2.2.2
  refine bs_ne (tgt := 9) (X := (r1).toInt) hx hb dX5_readBack_4 (by decide) rfl (fun c8 => ?_) (fun c8 => ?_)
  · refine lv_aload_n hx hb dX5_readBack_9 rfl (lv_at hl 0 rfl) ?_
    refine gf_RX5_15 (v := .ref (a 15)) C hO 27 cW_27 (congrArg (fun z : Nat => some (Value.ref z)) hW) dX5_readBack_10 ?_
    refine lv_aload_n hx hb dX5_readBack_13 rfl (lv_at hl 0 rfl) ?_
    refine lv_bipush (v := 100) hx hb dX5_readBack_14 (by decide) ?_
    refine cVi (w := cW cy a) (As := [.int 100]) (rest := [.ref (a 15)]) C hO (T_X5_numberTo l D cy a _ (by exact hJ) (by exact hW) (100)) (cwV 1 ht (gV wd_723 wd_725 wd_12 wd_114 wd_726) rfl rfl rfl hd_yX5_numberTo ⟨Nat.le_of_ble_eq_true rfl, Nat.le_of_ble_eq_true rfl⟩) 27 rfl cW_27 rfl rfl hl.1 (Nat.le_of_ble_eq_true rfl) dX5_readBack_16 rfl ⟨Nat.zero_le _, Nat.zero_le _⟩ (fun r9 u10 H locs hp11 hO => ?_)
    obtain ⟨hJ, hTu10, hW⟩ := hp11
    have hT : KT u u10 := KT.tr (by exact hT) hTu10.1
    have hI_15_9_u10 : fI u10 15 9 = (fI u 15 9) := Eq.trans (hTu10.2.1) (hI_15_9_u2)
    have hI_15_10_u10 : fI u10 15 10 = (fI u 15 10) := Eq.trans (hTu10.2.2.1) (hI_15_10_u2)
    have hI_15_11_u10 : fI u10 15 11 = (fI u 15 11) := Eq.trans (hTu10.2.2.2.1) (hI_15_11_u2)
    have hI_15_12_u10 : fI u10 15 12 = (fI u 15 12) := Eq.trans (hTu10.2.2.2.2) (hI_15_12_u2)
    refine pf_RX5_164 C hO 15 cW_15 (Nat.le_of_ble_eq_true rfl) cW_s15_15 dX5_readBack_19 (fun H locs hO => ?_)
    have hJ := CIs_15_15 (v := r9) hJ
    refine lv_aload_n hx hb dX5_readBack_22 rfl (lv_at hl 0 rfl) ?_
    refine gf_RX5_15 (v := .ref (a 15)) C hO 27 cW_27 (congrArg (fun z : Nat => some (Value.ref z)) hW) dX5_readBack_23 ?_
    refine gf_RX5_164 (v := .int r9) C hO 15 cW_15 rfl dX5_readBack_26 ?_
    refine lv_iconst (v := (-1)) hx hb dX5_readBack_29 (by decide) ?_
    refine cs_eq (tgt := 37) (X := (r9).toInt) (Y := (-1)) hx hb dX5_readBack_30 (by decide) rfl rfl (fun c12 => ?_) (fun c12 => ?_)
    · refine lv_iconst (v := 0) hx hb dX5_readBack_37 (by decide) ?_
      refine hret _ _ _ _ _ _ dX5_readBack_38 rfl ?_ hO
      exact ⟨Or.inl rfl, hJ, hT, hW⟩
    · refine lv_iconst (v := 1) hx hb dX5_readBack_33 (by decide) ?_
      refine lv_goto (tgt := 38) hx hb dX5_readBack_34 (by decide) ?_
      refine hret _ _ _ _ _ _ dX5_readBack_38 rfl ?_ hO
      exact ⟨Or.inr rfl, hJ, hT, hW⟩
  · refine lv_iconst (v := 0) hx hb dX5_readBack_7 (by decide) ?_
    refine hret _ _ _ _ _ _ dX5_readBack_8 rfl ?_ hO
    exact ⟨Or.inl rfl, hJ, hT, hW⟩
theorem dX5_readDraw_0 : decode cX5_readDraw 0 = .ok (.aload_n 0, 1) := by decide +kernel
theorem dX5_readDraw_1 : decode cX5_readDraw 1 = .ok (.invokevirtual 62, 3) := by decide +kernel
theorem dX5_readDraw_4 : decode cX5_readDraw 4 = .ok (.ifCond .ne 5, 3) := by decide +kernel
theorem dX5_readDraw_7 : decode cX5_readDraw 7 = .ok (.iconst 0, 1) := by decide +kernel
theorem dX5_readDraw_8 : decode cX5_readDraw 8 = .ok (.ireturn, 1) := by decide +kernel
theorem dX5_readDraw_9 : decode cX5_readDraw 9 = .ok (.aload_n 0, 1) := by decide +kernel
theorem dX5_readDraw_10 : decode cX5_readDraw 10 = .ok (.getfield 15, 3) := by decide +kernel
theorem dX5_readDraw_13 : decode cX5_readDraw 13 = .ok (.aload_n 0, 1) := by decide +kernel
theorem dX5_readDraw_14 : decode cX5_readDraw 14 = .ok (.sipush 999, 3) := by decide +kernel
theorem dX5_readDraw_17 : decode cX5_readDraw 17 = .ok (.invokevirtual 138, 3) := by decide +kernel
theorem dX5_readDraw_20 : decode cX5_readDraw 20 = .ok (.putfield 167, 3) := by decide +kernel
theorem dX5_readDraw_23 : decode cX5_readDraw 23 = .ok (.aload_n 0, 1) := by decide +kernel
theorem dX5_readDraw_24 : decode cX5_readDraw 24 = .ok (.getfield 15, 3) := by decide +kernel
theorem dX5_readDraw_27 : decode cX5_readDraw 27 = .ok (.getfield 167, 3) := by decide +kernel
theorem dX5_readDraw_30 : decode cX5_readDraw 30 = .ok (.iconst (-1), 1) := by decide +kernel
theorem dX5_readDraw_31 : decode cX5_readDraw 31 = .ok (.if_icmp .eq 7, 3) := by decide +kernel
theorem dX5_readDraw_34 : decode cX5_readDraw 34 = .ok (.iconst 1, 1) := by decide +kernel
theorem dX5_readDraw_35 : decode cX5_readDraw 35 = .ok (.goto 4, 3) := by decide +kernel
theorem dX5_readDraw_38 : decode cX5_readDraw 38 = .ok (.iconst 0, 1) := by decide +kernel
theorem dX5_readDraw_39 : decode cX5_readDraw 39 = .ok (.ireturn, 1) := by decide +kernel
theorem wd_796 : (Cond.code ⟨"WebCourt$Reader", "readDraw", "()Z"⟩ prog_7_method_19_code (1 : Nat) (Option.some FieldType.boolean)) ∈ gtb := gtb_c3 207 (by decide +kernel) rfl
theorem wd_286 : (Cond.fieldLink "WebCourt$Reader" (167 : Nat) "WebCourt$Web" "draw" "I") ∈ gtb := gtb_c1 177 (by decide +kernel) rfl
theorem pf_RX5_167 {p : Program} {l : Launch} {e : Env} {R : Room} {s : State} {m : MethodId} {args : Array Value} {below : List Frame} {meth : Method} {c : Code} {H : Heap} {locs : List Loc} {cells slots : Nat} {Q : State → Prop} {cc : ByteArray} {pc nL : Nat} {ls : Array Slot} {rest : List Value} {D : va_G} {cy : Nat → ClassId} {A : Nat → Prop} {ws : va_W} {b : Nat} {fs : List Value} {v : Int32} {ws' : va_W} (C : Cx p s m args c cc nL RX5 D cy A) (hO : Wo D A ws s.heap H locs) (q0 : Nat) (he : ws[q0]? = some (b, .inr (9, fs))) (hlen : 16 < fs.length) (hw : ws.set q0 (b, .inr (9, fs.set 16 (.int v))) = ws') (hdg : decode cc pc = .ok (.putfield 167, 3)) (kk : ∀ (H : Heap) (locs : List Loc), Wo D A ws' s.heap H locs → W p l e R s m args below meth c H locs cells slots Q (F0 m (pc + 3) ls rest)) : W p l e R s m args below meth c H locs cells slots Q (F0 m pc ls (.int v :: .ref b :: rest)) := pF (k := 16) (ty := .int) C hO q0 he rfl inFX9 (by decide) wd_286 rfl tyX9 tyX9_ok nmX9 rfl (by decide +kernel) rfl rfl hlen hw hdg kk
theorem gf_RX5_167 {p : Program} {l : Launch} {e : Env} {R : Room} {s : State} {m : MethodId} {args : Array Value} {below : List Frame} {meth : Method} {c : Code} {H : Heap} {locs : List Loc} {cells slots : Nat} {Q : State → Prop} {cc : ByteArray} {pc nL : Nat} {ls : Array Slot} {rest : List Value} {D : va_G} {cy : Nat → ClassId} {A : Nat → Prop} {ws : va_W} {b : Nat} {fs : List Value} {v : Value} (C : Cx p s m args c cc nL RX5 D cy A) (hO : Wo D A ws s.heap H locs) (q0 : Nat) (he : ws[q0]? = some (b, .inr (9, fs))) (hv : fs[16]? = some v) (hdg : decode cc pc = .ok (.getfield 167, 3)) (kk : W p l e R s m args below meth c H locs cells slots Q (F0 m (pc + 3) ls (v :: rest))) : W p l e R s m args below meth c H locs cells slots Q (F0 m pc ls (.ref b :: rest)) := gF (k := 16) C hO q0 he rfl inFX9 (by decide) wd_286 rfl hv hdg kk
set_option maxHeartbeats 4000000 in
set_option maxRecDepth 100000 in
theorem T_X5_readDraw (l : Launch) (D : va_G) (cy : Nat → ClassId) (a : Nat → Nat) (u : St) (hJ : CI a u) (hW : fR u 2 = a 15)   : Mi l D cy (cW cy a) yX5_readDraw (.code yX5_readDraw cX5_readDraw 1 (some .boolean)) (rmo 7 153) [.ref (a 27)] u (fun (r : Int32) (u' : St) => (r = 0 ∨ r = 1) ∧ (CI a u') ∧ (KT u u') ∧ (fR u' 2 = a 15)) := by
  refine Mi.of (own := RX5) rfl (by decide) (Nat.le_of_ble_eq_true rfl) ?_
  have hT : KT u u := KT.rf
  intro p e s m below meth c A Q ls C hret hO hl
  obtain ⟨hx, hb, hml, hown, ht, hK, hA⟩ := id C
  have hl : lv_has ls 1 [(0, .ref (a 27))] := hl
  refine lv_aload_n hx hb dX5_readDraw_0 rfl (lv_at hl 0 rfl) ?_
  refine cVi (w := cW cy a) (As := []) (rest := []) C hO (T_X5_openOnce l D cy a _ (by exact hJ) (by exact hW)) (cwV 0 ht (gV wd_739 wd_741 wd_16 wd_114 wd_742) rfl rfl rfl hd_yX5_openOnce ⟨Nat.le_of_ble_eq_true rfl, Nat.le_of_ble_eq_true rfl⟩) 27 rfl cW_27 rfl rfl hl.1 (Nat.le_of_ble_eq_true rfl) dX5_readDraw_1 rfl ⟨Nat.zero_le _, Nat.zero_le _⟩ (fun r1 u2 H locs hp3 hO => ?_)
  have g4 : 0 ≤ (fI u 15 9).toInt ∧ (fI u 15 9).toInt ≤ 8 := by have h := CI_15_9 hJ; exact h
  have g5 : 0 ≤ (fI u 15 10).toInt ∧ (fI u 15 10).toInt ≤ 14 := by have h := CI_15_10 hJ; exact h
  have g6 : 0 ≤ (fI u 15 11).toInt ∧ (fI u 15 11).toInt ≤ 8 := by have h := CI_15_11 hJ; exact h
  have g7 : 0 ≤ (fI u 15 12).toInt ∧ (fI u 15 12).toInt ≤ 6 := by have h := CI_15_12 hJ; exact h
  obtain ⟨hr1, hJ, hTu2, hW⟩ := hp3
  have gr1 : 0 ≤ r1.toInt ∧ r1.toInt ≤ 1 := by rcases hr1 with h | h <;> rw [h] <;> decide
  have hT : KT u u2 := KT.tr (by exact hT) hTu2.1
  have hI_15_9_u2 : fI u2 15 9 = (fI u 15 9) := hTu2.2.1
  have hI_15_10_u2 : fI u2 15 10 = (fI u 15 10) := hTu2.2.2.1
  have hI_15_11_u2 : fI u2 15 11 = (fI u 15 11) := hTu2.2.2.2.1
  have hI_15_12_u2 : fI u2 15 12 = (fI u 15 12) := hTu2.2.2.2.2
  refine bs_ne (tgt := 9) (X := (r1).toInt) hx hb dX5_readDraw_4 (by decide) rfl (fun c8 => ?_) (fun c8 => ?_)
  · refine lv_aload_n hx hb dX5_readDraw_9 rfl (lv_at hl 0 rfl) ?_
    refine gf_RX5_15 (v := .ref (a 15)) C hO 27 cW_27 (congrArg (fun z : Nat => some (Value.ref z)) hW) dX5_readDraw_10 ?_
    refine lv_aload_n hx hb dX5_readDraw_13 rfl (lv_at hl 0 rfl) ?_
    refine lv_sipush (v := 999) hx hb dX5_readDraw_14 (by decide) ?_
    refine cVi (w := cW cy a) (As := [.int 999]) (rest := [.ref (a 15)]) C hO (T_X5_numberTo l D cy a _ (by exact hJ) (by exact hW) (999)) (cwV 1 ht (gV wd_723 wd_725 wd_12 wd_114 wd_726) rfl rfl rfl hd_yX5_numberTo ⟨Nat.le_of_ble_eq_true rfl, Nat.le_of_ble_eq_true rfl⟩) 27 rfl cW_27 rfl rfl hl.1 (Nat.le_of_ble_eq_true rfl) dX5_readDraw_17 rfl ⟨Nat.zero_le _, Nat.zero_le _⟩ (fun r9 u10 H locs hp11 hO => ?_)
    obtain ⟨hJ, hTu10, hW⟩ := hp11
    have hT : KT u u10 := KT.tr (by exact hT) hTu10.1
    have hI_15_9_u10 : fI u10 15 9 = (fI u 15 9) := Eq.trans (hTu10.2.1) (hI_15_9_u2)
    have hI_15_10_u10 : fI u10 15 10 = (fI u 15 10) := Eq.trans (hTu10.2.2.1) (hI_15_10_u2)
    have hI_15_11_u10 : fI u10 15 11 = (fI u 15 11) := Eq.trans (hTu10.2.2.2.1) (hI_15_11_u2)
    have hI_15_12_u10 : fI u10 15 12 = (fI u 15 12) := Eq.trans (hTu10.2.2.2.2) (hI_15_12_u2)
    refine pf_RX5_167 C hO 15 cW_15 (Nat.le_of_ble_eq_true rfl) cW_s15_16 dX5_readDraw_20 (fun H locs hO => ?_)
    have hJ := CIs_15_16 (v := r9) hJ
    refine lv_aload_n hx hb dX5_readDraw_23 rfl (lv_at hl 0 rfl) ?_
    refine gf_RX5_15 (v := .ref (a 15)) C hO 27 cW_27 (congrArg (fun z : Nat => some (Value.ref z)) hW) dX5_readDraw_24 ?_
    refine gf_RX5_167 (v := .int r9) C hO 15 cW_15 rfl dX5_readDraw_27 ?_
    refine lv_iconst (v := (-1)) hx hb dX5_readDraw_30 (by decide) ?_
    refine cs_eq (tgt := 38) (X := (r9).toInt) (Y := (-1)) hx hb dX5_readDraw_31 (by decide) rfl rfl (fun c12 => ?_) (fun c12 => ?_)
    · refine lv_iconst (v := 0) hx hb dX5_readDraw_38 (by decide) ?_
      refine hret _ _ _ _ _ _ dX5_readDraw_39 rfl ?_ hO
      exact ⟨Or.inl rfl, hJ, hT, hW⟩
    · refine lv_iconst (v := 1) hx hb dX5_readDraw_34 (by decide) ?_
      refine lv_goto (tgt := 39) hx hb dX5_readDraw_35 (by decide) ?_
      refine hret _ _ _ _ _ _ dX5_readDraw_39 rfl ?_ hO
      exact ⟨Or.inr rfl, hJ, hT, hW⟩
  · refine lv_iconst (v := 0) hx hb dX5_readDraw_7 (by decide) ?_
    refine hret _ _ _ _ _ _ dX5_readDraw_8 rfl ?_ hO
    exact ⟨Or.inl rfl, hJ, hT, hW⟩
