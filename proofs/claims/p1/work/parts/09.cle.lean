theorem dX7_put_0 : decode cX7_put 0 = .ok (.bipush 24, 2) := by decide +kernel
theorem dX7_put_2 : decode cX7_put 2 = .ok (.istore_n 2, 1) := by decide +kernel
theorem dX7_put_3 : decode cX7_put 3 = .ok (.iload_n 2, 1) := by decide +kernel
theorem dX7_put_4 : decode cX7_put 4 = .ok (.ifCond .lt 42, 3) := by decide +kernel
theorem dX7_put_7 : decode cX7_put 7 = .ok (.aload_n 0, 1) := by decide +kernel
theorem dX7_put_8 : decode cX7_put 8 = .ok (.getfield 15, 3) := by decide +kernel
theorem dX7_put_11 : decode cX7_put 11 = .ok (.sipush 1600, 3) := by decide +kernel
theorem dX7_put_14 : decode cX7_put 14 = .ok (.if_icmp .ge 32, 3) := by decide +kernel
theorem dX7_put_17 : decode cX7_put 17 = .ok (.aload_n 0, 1) := by decide +kernel
theorem dX7_put_18 : decode cX7_put 18 = .ok (.getfield 9, 3) := by decide +kernel
theorem dX7_put_21 : decode cX7_put 21 = .ok (.aload_n 0, 1) := by decide +kernel
theorem dX7_put_22 : decode cX7_put 22 = .ok (.getfield 15, 3) := by decide +kernel
theorem dX7_put_25 : decode cX7_put 25 = .ok (.iload_n 1, 1) := by decide +kernel
theorem dX7_put_26 : decode cX7_put 26 = .ok (.iload_n 2, 1) := by decide +kernel
theorem dX7_put_27 : decode cX7_put 27 = .ok (.ishr, 1) := by decide +kernel
theorem dX7_put_28 : decode cX7_put 28 = .ok (.i2b, 1) := by decide +kernel
theorem dX7_put_29 : decode cX7_put 29 = .ok (.bastore, 1) := by decide +kernel
theorem dX7_put_30 : decode cX7_put 30 = .ok (.aload_n 0, 1) := by decide +kernel
theorem dX7_put_31 : decode cX7_put 31 = .ok (.dup, 1) := by decide +kernel
theorem dX7_put_32 : decode cX7_put 32 = .ok (.getfield 15, 3) := by decide +kernel
theorem dX7_put_35 : decode cX7_put 35 = .ok (.iconst 1, 1) := by decide +kernel
theorem dX7_put_36 : decode cX7_put 36 = .ok (.iadd, 1) := by decide +kernel
theorem dX7_put_37 : decode cX7_put 37 = .ok (.putfield 15, 3) := by decide +kernel
theorem dX7_put_40 : decode cX7_put 40 = .ok (.iinc 2 (-8), 3) := by decide +kernel
theorem dX7_put_43 : decode cX7_put 43 = .ok (.goto (-40), 3) := by decide +kernel
theorem dX7_put_46 : decode cX7_put 46 = .ok (.return_, 1) := by decide +kernel
theorem wd_515 : (Cond.code ⟨"WebCourt$Tape", "put", "(I)V"⟩ prog_9_method_2_code (3 : Nat) (Option.none : Option FieldType)) ∈ gtb := gtb_c2 166 (by decide +kernel) rfl
theorem wd_145 : (Cond.fieldLink "WebCourt$Tape" (15 : Nat) "WebCourt$Tape" "length" "I") ∈ gtb := gtb_c1 36 (by decide +kernel) rfl
theorem gf_RX7_15 {p : Program} {l : Launch} {e : Env} {R : Room} {s : State} {m : MethodId} {args : Array Value} {below : List Frame} {meth : Method} {c : Code} {H : Heap} {locs : List Loc} {cells slots : Nat} {Q : State → Prop} {cc : ByteArray} {pc nL : Nat} {ls : Array Slot} {rest : List Value} {D : va_G} {cy : Nat → ClassId} {A : Nat → Prop} {ws : va_W} {b : Nat} {fs : List Value} {v : Value} (C : Cx p s m args c cc nL RX7 D cy A) (hO : Wo D A ws s.heap H locs) (q0 : Nat) (he : ws[q0]? = some (b, .inr (7, fs))) (hv : fs[1]? = some v) (hdg : decode cc pc = .ok (.getfield 15, 3)) (kk : W p l e R s m args below meth c H locs cells slots Q (F0 m (pc + 3) ls (v :: rest))) : W p l e R s m args below meth c H locs cells slots Q (F0 m pc ls (.ref b :: rest)) := gF (k := 1) C hO q0 he rfl inFX7 (by decide) wd_145 rfl hv hdg kk
theorem wd_143 : (Cond.fieldLink "WebCourt$Tape" (9 : Nat) "WebCourt$Tape" "bytes" "[B") ∈ gtb := gtb_c1 34 (by decide +kernel) rfl
theorem gf_RX7_9 {p : Program} {l : Launch} {e : Env} {R : Room} {s : State} {m : MethodId} {args : Array Value} {below : List Frame} {meth : Method} {c : Code} {H : Heap} {locs : List Loc} {cells slots : Nat} {Q : State → Prop} {cc : ByteArray} {pc nL : Nat} {ls : Array Slot} {rest : List Value} {D : va_G} {cy : Nat → ClassId} {A : Nat → Prop} {ws : va_W} {b : Nat} {fs : List Value} {v : Value} (C : Cx p s m args c cc nL RX7 D cy A) (hO : Wo D A ws s.heap H locs) (q0 : Nat) (he : ws[q0]? = some (b, .inr (7, fs))) (hv : fs[0]? = some v) (hdg : decode cc pc = .ok (.getfield 9, 3)) (kk : W p l e R s m args below meth c H locs cells slots Q (F0 m (pc + 3) ls (v :: rest))) : W p l e R s m args below meth c H locs cells slots Q (F0 m pc ls (.ref b :: rest)) := gF (k := 0) C hO q0 he rfl inFX7 (by decide) wd_143 rfl hv hdg kk
theorem pf_RX7_15 {p : Program} {l : Launch} {e : Env} {R : Room} {s : State} {m : MethodId} {args : Array Value} {below : List Frame} {meth : Method} {c : Code} {H : Heap} {locs : List Loc} {cells slots : Nat} {Q : State → Prop} {cc : ByteArray} {pc nL : Nat} {ls : Array Slot} {rest : List Value} {D : va_G} {cy : Nat → ClassId} {A : Nat → Prop} {ws : va_W} {b : Nat} {fs : List Value} {v : Int32} {ws' : va_W} (C : Cx p s m args c cc nL RX7 D cy A) (hO : Wo D A ws s.heap H locs) (q0 : Nat) (he : ws[q0]? = some (b, .inr (7, fs))) (hlen : 1 < fs.length) (hw : ws.set q0 (b, .inr (7, fs.set 1 (.int v))) = ws') (hdg : decode cc pc = .ok (.putfield 15, 3)) (kk : ∀ (H : Heap) (locs : List Loc), Wo D A ws' s.heap H locs → W p l e R s m args below meth c H locs cells slots Q (F0 m (pc + 3) ls rest)) : W p l e R s m args below meth c H locs cells slots Q (F0 m pc ls (.int v :: .ref b :: rest)) := pF (k := 1) (ty := .int) C hO q0 he rfl inFX7 (by decide) wd_145 rfl tyX7 tyX7_ok nmX7 rfl (by decide +kernel) rfl rfl hlen hw hdg kk
set_option maxHeartbeats 4000000 in
set_option maxRecDepth 100000 in
theorem T_X7_put_0 (l : Launch) (D : va_G) (cy : Nat → ClassId) (a : Nat → Nat) (u : St) (hI_1_1 : fI u 1 1 = 0) (x1 : Int32)  : Mv l D cy (cW cy a) yX7_put (.code yX7_put cX7_put 3 none) (rmo 0 0) [.ref (a 1), .int x1] u (fun (u' : St) => fI u' 1 1 = 4) := by
  refine Mv.of (own := RX7) rfl (by decide) (Nat.le_of_ble_eq_true rfl) ?_
  intro p e s m below meth c A Q ls C hret hO hl
  obtain ⟨hx, hb, hml, hown, ht, hK, hA⟩ := id C
  have hl : lv_has ls 3 [(0, .ref (a 1)), (1, .int x1)] := hl
  refine lv_bipush (v := 24) hx hb dX7_put_0 (by decide) ?_
  refine lv_istore_n (lv' := [(2, .int 24), (0, .ref (a 1)), (1, .int x1)]) hx hb dX7_put_2 rfl hl (by decide) rfl (fun ls hl => ?_)
  refine lv_iload_n hx hb dX7_put_3 rfl (lv_at hl 0 rfl) ?_
  refine bn_lt (X := 24) hx hb dX7_put_4 rfl (by omega) ?_ (tgt := 46) (by decide)
  refine lv_aload_n hx hb dX7_put_7 rfl (lv_at hl 1 rfl) ?_
  refine gf_RX7_15 (v := .int 0) C hO 1 cW_1 (congrArg (fun z : Int32 => some (Value.int z)) hI_1_1) dX7_put_8 ?_
  refine lv_sipush (v := 1600) hx hb dX7_put_11 (by decide) ?_
  refine cn_ge (X := 0) (Y := 1600) hx hb dX7_put_14 rfl rfl (by omega) ?_ (tgt := 46) (by decide)
  refine lv_aload_n hx hb dX7_put_17 rfl (lv_at hl 1 rfl) ?_
  refine gf_RX7_9 (v := .ref (a 2)) C hO 1 cW_1 rfl dX7_put_18 ?_
  refine lv_aload_n hx hb dX7_put_21 rfl (lv_at hl 1 rfl) ?_
  refine gf_RX7_15 (v := .int 0) C hO 1 cW_1 (congrArg (fun z : Int32 => some (Value.int z)) hI_1_1) dX7_put_22 ?_
  refine lv_iload_n hx hb dX7_put_25 rfl (lv_at hl 2 rfl) ?_
  refine lv_iload_n hx hb dX7_put_26 rfl (lv_at hl 0 rfl) ?_
  refine lv_ishr hx hb dX7_put_27 ?_
  refine lv_topi (fun z1 ez1 => ?_)
  refine lv_i2b hx hb dX7_put_28 rfl ?_
  refine lv_topi (fun z2 ez2 => ?_)
  refine aBs C hO 2 cW_2 (i_in (X := 0) rfl (by omega) (by omega)) cW_s2 dX7_put_29 (fun H locs hO => ?_)
  refine lv_aload_n hx hb dX7_put_30 rfl (lv_at hl 1 rfl) ?_
  refine lv_dup hx hb dX7_put_31 rfl ?_
  refine gf_RX7_15 (v := .int 0) C hO 1 cW_1 (congrArg (fun z : Int32 => some (Value.int z)) hI_1_1) dX7_put_32 ?_
  refine lv_iconst (v := 1) hx hb dX7_put_35 (by decide) ?_
  refine lv_iadd hx hb dX7_put_36 ?_
  refine tE (y := 1) rfl ?_
  refine pf_RX7_15 C hO 1 cW_1 (Nat.le_of_ble_eq_true rfl) cW_s1_1 dX7_put_37 (fun H locs hO => ?_)
  refine lv_iinc (v := 16) (lv' := [(2, .int 16), (0, .ref (a 1)), (1, .int x1)]) hx hb dX7_put_40 hl (k := 0) rfl rfl (by decide) rfl (fun ls hl => ?_)
  refine lv_goto (tgt := 3) hx hb dX7_put_43 (by decide) ?_
  refine lv_iload_n hx hb dX7_put_3 rfl (lv_at hl 0 rfl) ?_
  refine bn_lt (X := 16) hx hb dX7_put_4 rfl (by omega) ?_ (tgt := 46) (by decide)
  refine lv_aload_n hx hb dX7_put_7 rfl (lv_at hl 1 rfl) ?_
  refine gf_RX7_15 (v := .int 1) C hO 1 cW_1 rfl dX7_put_8 ?_
  refine lv_sipush (v := 1600) hx hb dX7_put_11 (by decide) ?_
  refine cn_ge (X := 1) (Y := 1600) hx hb dX7_put_14 rfl rfl (by omega) ?_ (tgt := 46) (by decide)
  refine lv_aload_n hx hb dX7_put_17 rfl (lv_at hl 1 rfl) ?_
  refine gf_RX7_9 (v := .ref (a 2)) C hO 1 cW_1 rfl dX7_put_18 ?_
  refine lv_aload_n hx hb dX7_put_21 rfl (lv_at hl 1 rfl) ?_
  refine gf_RX7_15 (v := .int 1) C hO 1 cW_1 rfl dX7_put_22 ?_
  refine lv_iload_n hx hb dX7_put_25 rfl (lv_at hl 2 rfl) ?_
  refine lv_iload_n hx hb dX7_put_26 rfl (lv_at hl 0 rfl) ?_
  refine lv_ishr hx hb dX7_put_27 ?_
  refine lv_topi (fun z3 ez3 => ?_)
  refine lv_i2b hx hb dX7_put_28 rfl ?_
  refine lv_topi (fun z4 ez4 => ?_)
  refine aBs C hO 2 cW_2 (i_in (X := 1) rfl (by omega) (by omega)) cW_s2 dX7_put_29 (fun H locs hO => ?_)
  refine lv_aload_n hx hb dX7_put_30 rfl (lv_at hl 1 rfl) ?_
  refine lv_dup hx hb dX7_put_31 rfl ?_
  refine gf_RX7_15 (v := .int 1) C hO 1 cW_1 rfl dX7_put_32 ?_
  refine lv_iconst (v := 1) hx hb dX7_put_35 (by decide) ?_
  refine lv_iadd hx hb dX7_put_36 ?_
  refine tE (y := 2) rfl ?_
  refine pf_RX7_15 C hO 1 cW_1 (Nat.le_of_ble_eq_true rfl) cW_s1_1 dX7_put_37 (fun H locs hO => ?_)
  refine lv_iinc (v := 8) (lv' := [(2, .int 8), (0, .ref (a 1)), (1, .int x1)]) hx hb dX7_put_40 hl (k := 0) rfl rfl (by decide) rfl (fun ls hl => ?_)
  refine lv_goto (tgt := 3) hx hb dX7_put_43 (by decide) ?_
  refine lv_iload_n hx hb dX7_put_3 rfl (lv_at hl 0 rfl) ?_
  refine bn_lt (X := 8) hx hb dX7_put_4 rfl (by omega) ?_ (tgt := 46) (by decide)
  refine lv_aload_n hx hb dX7_put_7 rfl (lv_at hl 1 rfl) ?_
  refine gf_RX7_15 (v := .int 2) C hO 1 cW_1 rfl dX7_put_8 ?_
  refine lv_sipush (v := 1600) hx hb dX7_put_11 (by decide) ?_
  refine cn_ge (X := 2) (Y := 1600) hx hb dX7_put_14 rfl rfl (by omega) ?_ (tgt := 46) (by decide)
  refine lv_aload_n hx hb dX7_put_17 rfl (lv_at hl 1 rfl) ?_
  refine gf_RX7_9 (v := .ref (a 2)) C hO 1 cW_1 rfl dX7_put_18 ?_
  refine lv_aload_n hx hb dX7_put_21 rfl (lv_at hl 1 rfl) ?_
  refine gf_RX7_15 (v := .int 2) C hO 1 cW_1 rfl dX7_put_22 ?_
  refine lv_iload_n hx hb dX7_put_25 rfl (lv_at hl 2 rfl) ?_
  refine lv_iload_n hx hb dX7_put_26 rfl (lv_at hl 0 rfl) ?_
  refine lv_ishr hx hb dX7_put_27 ?_
  refine lv_topi (fun z5 ez5 => ?_)
  refine lv_i2b hx hb dX7_put_28 rfl ?_
  refine lv_topi (fun z6 ez6 => ?_)
  refine aBs C hO 2 cW_2 (i_in (X := 2) rfl (by omega) (by omega)) cW_s2 dX7_put_29 (fun H locs hO => ?_)
  refine lv_aload_n hx hb dX7_put_30 rfl (lv_at hl 1 rfl) ?_
  refine lv_dup hx hb dX7_put_31 rfl ?_
  refine gf_RX7_15 (v := .int 2) C hO 1 cW_1 rfl dX7_put_32 ?_
  refine lv_iconst (v := 1) hx hb dX7_put_35 (by decide) ?_
  refine lv_iadd hx hb dX7_put_36 ?_
  refine tE (y := 3) rfl ?_
  refine pf_RX7_15 C hO 1 cW_1 (Nat.le_of_ble_eq_true rfl) cW_s1_1 dX7_put_37 (fun H locs hO => ?_)
  refine lv_iinc (v := 0) (lv' := [(2, .int 0), (0, .ref (a 1)), (1, .int x1)]) hx hb dX7_put_40 hl (k := 0) rfl rfl (by decide) rfl (fun ls hl => ?_)
  refine lv_goto (tgt := 3) hx hb dX7_put_43 (by decide) ?_
  refine lv_iload_n hx hb dX7_put_3 rfl (lv_at hl 0 rfl) ?_
  refine bn_lt (X := 0) hx hb dX7_put_4 rfl (by omega) ?_ (tgt := 46) (by decide)
  refine lv_aload_n hx hb dX7_put_7 rfl (lv_at hl 1 rfl) ?_
  refine gf_RX7_15 (v := .int 3) C hO 1 cW_1 rfl dX7_put_8 ?_
  refine lv_sipush (v := 1600) hx hb dX7_put_11 (by decide) ?_
  refine cn_ge (X := 3) (Y := 1600) hx hb dX7_put_14 rfl rfl (by omega) ?_ (tgt := 46) (by decide)
  refine lv_aload_n hx hb dX7_put_17 rfl (lv_at hl 1 rfl) ?_
  refine gf_RX7_9 (v := .ref (a 2)) C hO 1 cW_1 rfl dX7_put_18 ?_
  refine lv_aload_n hx hb dX7_put_21 rfl (lv_at hl 1 rfl) ?_
  refine gf_RX7_15 (v := .int 3) C hO 1 cW_1 rfl dX7_put_22 ?_
  refine lv_iload_n hx hb dX7_put_25 rfl (lv_at hl 2 rfl) ?_
  refine lv_iload_n hx hb dX7_put_26 rfl (lv_at hl 0 rfl) ?_
  refine lv_ishr hx hb dX7_put_27 ?_
  refine lv_topi (fun z7 ez7 => ?_)
  refine lv_i2b hx hb dX7_put_28 rfl ?_
  refine lv_topi (fun z8 ez8 => ?_)
  refine aBs C hO 2 cW_2 (i_in (X := 3) rfl (by omega) (by omega)) cW_s2 dX7_put_29 (fun H locs hO => ?_)
  refine lv_aload_n hx hb dX7_put_30 rfl (lv_at hl 1 rfl) ?_
  refine lv_dup hx hb dX7_put_31 rfl ?_
  refine gf_RX7_15 (v := .int 3) C hO 1 cW_1 rfl dX7_put_32 ?_
  refine lv_iconst (v := 1) hx hb dX7_put_35 (by decide) ?_
  refine lv_iadd hx hb dX7_put_36 ?_
  refine tE (y := 4) rfl ?_
  refine pf_RX7_15 C hO 1 cW_1 (Nat.le_of_ble_eq_true rfl) cW_s1_1 dX7_put_37 (fun H locs hO => ?_)
  refine lv_iinc (v := (-8)) (lv' := [(2, .int (-8)), (0, .ref (a 1)), (1, .int x1)]) hx hb dX7_put_40 hl (k := 0) rfl rfl (by decide) rfl (fun ls hl => ?_)
  refine lv_goto (tgt := 3) hx hb dX7_put_43 (by decide) ?_
  refine lv_iload_n hx hb dX7_put_3 rfl (lv_at hl 0 rfl) ?_
  refine bt_lt (tgt := 46) (X := (-8)) hx hb dX7_put_4 (by decide) rfl (by omega) ?_
  refine hret _ _ _ _ _ dX7_put_46 ?_ hO
  exact rfl
set_option maxHeartbeats 4000000 in
set_option maxRecDepth 100000 in
theorem T_X7_put_4 (l : Launch) (D : va_G) (cy : Nat → ClassId) (a : Nat → Nat) (u : St) (hI_1_1 : fI u 1 1 = 4) (x1 : Int32)  : Mv l D cy (cW cy a) yX7_put (.code yX7_put cX7_put 3 none) (rmo 0 0) [.ref (a 1), .int x1] u (fun (u' : St) => fI u' 1 1 = 8) := by
  refine Mv.of (own := RX7) rfl (by decide) (Nat.le_of_ble_eq_true rfl) ?_
  intro p e s m below meth c A Q ls C hret hO hl
  obtain ⟨hx, hb, hml, hown, ht, hK, hA⟩ := id C
  have hl : lv_has ls 3 [(0, .ref (a 1)), (1, .int x1)] := hl
  refine lv_bipush (v := 24) hx hb dX7_put_0 (by decide) ?_
  refine lv_istore_n (lv' := [(2, .int 24), (0, .ref (a 1)), (1, .int x1)]) hx hb dX7_put_2 rfl hl (by decide) rfl (fun ls hl => ?_)
  refine lv_iload_n hx hb dX7_put_3 rfl (lv_at hl 0 rfl) ?_
  refine bn_lt (X := 24) hx hb dX7_put_4 rfl (by omega) ?_ (tgt := 46) (by decide)
  refine lv_aload_n hx hb dX7_put_7 rfl (lv_at hl 1 rfl) ?_
  refine gf_RX7_15 (v := .int 4) C hO 1 cW_1 (congrArg (fun z : Int32 => some (Value.int z)) hI_1_1) dX7_put_8 ?_
  refine lv_sipush (v := 1600) hx hb dX7_put_11 (by decide) ?_
  refine cn_ge (X := 4) (Y := 1600) hx hb dX7_put_14 rfl rfl (by omega) ?_ (tgt := 46) (by decide)
  refine lv_aload_n hx hb dX7_put_17 rfl (lv_at hl 1 rfl) ?_
  refine gf_RX7_9 (v := .ref (a 2)) C hO 1 cW_1 rfl dX7_put_18 ?_
  refine lv_aload_n hx hb dX7_put_21 rfl (lv_at hl 1 rfl) ?_
  refine gf_RX7_15 (v := .int 4) C hO 1 cW_1 (congrArg (fun z : Int32 => some (Value.int z)) hI_1_1) dX7_put_22 ?_
  refine lv_iload_n hx hb dX7_put_25 rfl (lv_at hl 2 rfl) ?_
  refine lv_iload_n hx hb dX7_put_26 rfl (lv_at hl 0 rfl) ?_
  refine lv_ishr hx hb dX7_put_27 ?_
  refine lv_topi (fun z1 ez1 => ?_)
  refine lv_i2b hx hb dX7_put_28 rfl ?_
  refine lv_topi (fun z2 ez2 => ?_)
  refine aBs C hO 2 cW_2 (i_in (X := 4) rfl (by omega) (by omega)) cW_s2 dX7_put_29 (fun H locs hO => ?_)
  refine lv_aload_n hx hb dX7_put_30 rfl (lv_at hl 1 rfl) ?_
  refine lv_dup hx hb dX7_put_31 rfl ?_
  refine gf_RX7_15 (v := .int 4) C hO 1 cW_1 (congrArg (fun z : Int32 => some (Value.int z)) hI_1_1) dX7_put_32 ?_
  refine lv_iconst (v := 1) hx hb dX7_put_35 (by decide) ?_
  refine lv_iadd hx hb dX7_put_36 ?_
  refine tE (y := 5) rfl ?_
  refine pf_RX7_15 C hO 1 cW_1 (Nat.le_of_ble_eq_true rfl) cW_s1_1 dX7_put_37 (fun H locs hO => ?_)
  refine lv_iinc (v := 16) (lv' := [(2, .int 16), (0, .ref (a 1)), (1, .int x1)]) hx hb dX7_put_40 hl (k := 0) rfl rfl (by decide) rfl (fun ls hl => ?_)
  refine lv_goto (tgt := 3) hx hb dX7_put_43 (by decide) ?_
  refine lv_iload_n hx hb dX7_put_3 rfl (lv_at hl 0 rfl) ?_
  refine bn_lt (X := 16) hx hb dX7_put_4 rfl (by omega) ?_ (tgt := 46) (by decide)
  refine lv_aload_n hx hb dX7_put_7 rfl (lv_at hl 1 rfl) ?_
  refine gf_RX7_15 (v := .int 5) C hO 1 cW_1 rfl dX7_put_8 ?_
  refine lv_sipush (v := 1600) hx hb dX7_put_11 (by decide) ?_
  refine cn_ge (X := 5) (Y := 1600) hx hb dX7_put_14 rfl rfl (by omega) ?_ (tgt := 46) (by decide)
  refine lv_aload_n hx hb dX7_put_17 rfl (lv_at hl 1 rfl) ?_
  refine gf_RX7_9 (v := .ref (a 2)) C hO 1 cW_1 rfl dX7_put_18 ?_
  refine lv_aload_n hx hb dX7_put_21 rfl (lv_at hl 1 rfl) ?_
  refine gf_RX7_15 (v := .int 5) C hO 1 cW_1 rfl dX7_put_22 ?_
  refine lv_iload_n hx hb dX7_put_25 rfl (lv_at hl 2 rfl) ?_
  refine lv_iload_n hx hb dX7_put_26 rfl (lv_at hl 0 rfl) ?_
  refine lv_ishr hx hb dX7_put_27 ?_
  refine lv_topi (fun z3 ez3 => ?_)
  refine lv_i2b hx hb dX7_put_28 rfl ?_
  refine lv_topi (fun z4 ez4 => ?_)
  refine aBs C hO 2 cW_2 (i_in (X := 5) rfl (by omega) (by omega)) cW_s2 dX7_put_29 (fun H locs hO => ?_)
  refine lv_aload_n hx hb dX7_put_30 rfl (lv_at hl 1 rfl) ?_
  refine lv_dup hx hb dX7_put_31 rfl ?_
  refine gf_RX7_15 (v := .int 5) C hO 1 cW_1 rfl dX7_put_32 ?_
  refine lv_iconst (v := 1) hx hb dX7_put_35 (by decide) ?_
  refine lv_iadd hx hb dX7_put_36 ?_
  refine tE (y := 6) rfl ?_
  refine pf_RX7_15 C hO 1 cW_1 (Nat.le_of_ble_eq_true rfl) cW_s1_1 dX7_put_37 (fun H locs hO => ?_)
  refine lv_iinc (v := 8) (lv' := [(2, .int 8), (0, .ref (a 1)), (1, .int x1)]) hx hb dX7_put_40 hl (k := 0) rfl rfl (by decide) rfl (fun ls hl => ?_)
  refine lv_goto (tgt := 3) hx hb dX7_put_43 (by decide) ?_
  refine lv_iload_n hx hb dX7_put_3 rfl (lv_at hl 0 rfl) ?_
  refine bn_lt (X := 8) hx hb dX7_put_4 rfl (by omega) ?_ (tgt := 46) (by decide)
  refine lv_aload_n hx hb dX7_put_7 rfl (lv_at hl 1 rfl) ?_
  refine gf_RX7_15 (v := .int 6) C hO 1 cW_1 rfl dX7_put_8 ?_
  refine lv_sipush (v := 1600) hx hb dX7_put_11 (by decide) ?_
  refine cn_ge (X := 6) (Y := 1600) hx hb dX7_put_14 rfl rfl (by omega) ?_ (tgt := 46) (by decide)
  refine lv_aload_n hx hb dX7_put_17 rfl (lv_at hl 1 rfl) ?_
  refine gf_RX7_9 (v := .ref (a 2)) C hO 1 cW_1 rfl dX7_put_18 ?_
  refine lv_aload_n hx hb dX7_put_21 rfl (lv_at hl 1 rfl) ?_
  refine gf_RX7_15 (v := .int 6) C hO 1 cW_1 rfl dX7_put_22 ?_
  refine lv_iload_n hx hb dX7_put_25 rfl (lv_at hl 2 rfl) ?_
  refine lv_iload_n hx hb dX7_put_26 rfl (lv_at hl 0 rfl) ?_
  refine lv_ishr hx hb dX7_put_27 ?_
  refine lv_topi (fun z5 ez5 => ?_)
  refine lv_i2b hx hb dX7_put_28 rfl ?_
  refine lv_topi (fun z6 ez6 => ?_)
  refine aBs C hO 2 cW_2 (i_in (X := 6) rfl (by omega) (by omega)) cW_s2 dX7_put_29 (fun H locs hO => ?_)
  refine lv_aload_n hx hb dX7_put_30 rfl (lv_at hl 1 rfl) ?_
  refine lv_dup hx hb dX7_put_31 rfl ?_
  refine gf_RX7_15 (v := .int 6) C hO 1 cW_1 rfl dX7_put_32 ?_
  refine lv_iconst (v := 1) hx hb dX7_put_35 (by decide) ?_
  refine lv_iadd hx hb dX7_put_36 ?_
  refine tE (y := 7) rfl ?_
  refine pf_RX7_15 C hO 1 cW_1 (Nat.le_of_ble_eq_true rfl) cW_s1_1 dX7_put_37 (fun H locs hO => ?_)
  refine lv_iinc (v := 0) (lv' := [(2, .int 0), (0, .ref (a 1)), (1, .int x1)]) hx hb dX7_put_40 hl (k := 0) rfl rfl (by decide) rfl (fun ls hl => ?_)
  refine lv_goto (tgt := 3) hx hb dX7_put_43 (by decide) ?_
  refine lv_iload_n hx hb dX7_put_3 rfl (lv_at hl 0 rfl) ?_
  refine bn_lt (X := 0) hx hb dX7_put_4 rfl (by omega) ?_ (tgt := 46) (by decide)
  refine lv_aload_n hx hb dX7_put_7 rfl (lv_at hl 1 rfl) ?_
  refine gf_RX7_15 (v := .int 7) C hO 1 cW_1 rfl dX7_put_8 ?_
  refine lv_sipush (v := 1600) hx hb dX7_put_11 (by decide) ?_
  refine cn_ge (X := 7) (Y := 1600) hx hb dX7_put_14 rfl rfl (by omega) ?_ (tgt := 46) (by decide)
  refine lv_aload_n hx hb dX7_put_17 rfl (lv_at hl 1 rfl) ?_
  refine gf_RX7_9 (v := .ref (a 2)) C hO 1 cW_1 rfl dX7_put_18 ?_
  refine lv_aload_n hx hb dX7_put_21 rfl (lv_at hl 1 rfl) ?_
  refine gf_RX7_15 (v := .int 7) C hO 1 cW_1 rfl dX7_put_22 ?_
  refine lv_iload_n hx hb dX7_put_25 rfl (lv_at hl 2 rfl) ?_
  refine lv_iload_n hx hb dX7_put_26 rfl (lv_at hl 0 rfl) ?_
  refine lv_ishr hx hb dX7_put_27 ?_
  refine lv_topi (fun z7 ez7 => ?_)
  refine lv_i2b hx hb dX7_put_28 rfl ?_
  refine lv_topi (fun z8 ez8 => ?_)
  refine aBs C hO 2 cW_2 (i_in (X := 7) rfl (by omega) (by omega)) cW_s2 dX7_put_29 (fun H locs hO => ?_)
  refine lv_aload_n hx hb dX7_put_30 rfl (lv_at hl 1 rfl) ?_
  refine lv_dup hx hb dX7_put_31 rfl ?_
  refine gf_RX7_15 (v := .int 7) C hO 1 cW_1 rfl dX7_put_32 ?_
  refine lv_iconst (v := 1) hx hb dX7_put_35 (by decide) ?_
  refine lv_iadd hx hb dX7_put_36 ?_
  refine tE (y := 8) rfl ?_
  refine pf_RX7_15 C hO 1 cW_1 (Nat.le_of_ble_eq_true rfl) cW_s1_1 dX7_put_37 (fun H locs hO => ?_)
  refine lv_iinc (v := (-8)) (lv' := [(2, .int (-8)), (0, .ref (a 1)), (1, .int x1)]) hx hb dX7_put_40 hl (k := 0) rfl rfl (by decide) rfl (fun ls hl => ?_)
  refine lv_goto (tgt := 3) hx hb dX7_put_43 (by decide) ?_
  refine lv_iload_n hx hb dX7_put_3 rfl (lv_at hl 0 rfl) ?_
  refine bt_lt (tgt := 46) (X := (-8)) hx hb dX7_put_4 (by decide) rfl (by omega) ?_
  refine hret _ _ _ _ _ dX7_put_46 ?_ hO
  exact rfl
set_option maxHeartbeats 4000000 in
set_option maxRecDepth 100000 in
theorem T_X7_put_8 (l : Launch) (D : va_G) (cy : Nat → ClassId) (a : Nat → Nat) (u : St) (hI_1_1 : fI u 1 1 = 8) (x1 : Int32)  : Mv l D cy (cW cy a) yX7_put (.code yX7_put cX7_put 3 none) (rmo 0 0) [.ref (a 1), .int x1] u (fun (u' : St) => fI u' 1 1 = 12) := by
  refine Mv.of (own := RX7) rfl (by decide) (Nat.le_of_ble_eq_true rfl) ?_
  intro p e s m below meth c A Q ls C hret hO hl
  obtain ⟨hx, hb, hml, hown, ht, hK, hA⟩ := id C
  have hl : lv_has ls 3 [(0, .ref (a 1)), (1, .int x1)] := hl
  refine lv_bipush (v := 24) hx hb dX7_put_0 (by decide) ?_
  refine lv_istore_n (lv' := [(2, .int 24), (0, .ref (a 1)), (1, .int x1)]) hx hb dX7_put_2 rfl hl (by decide) rfl (fun ls hl => ?_)
  refine lv_iload_n hx hb dX7_put_3 rfl (lv_at hl 0 rfl) ?_
  refine bn_lt (X := 24) hx hb dX7_put_4 rfl (by omega) ?_ (tgt := 46) (by decide)
  refine lv_aload_n hx hb dX7_put_7 rfl (lv_at hl 1 rfl) ?_
  refine gf_RX7_15 (v := .int 8) C hO 1 cW_1 (congrArg (fun z : Int32 => some (Value.int z)) hI_1_1) dX7_put_8 ?_
  refine lv_sipush (v := 1600) hx hb dX7_put_11 (by decide) ?_
  refine cn_ge (X := 8) (Y := 1600) hx hb dX7_put_14 rfl rfl (by omega) ?_ (tgt := 46) (by decide)
  refine lv_aload_n hx hb dX7_put_17 rfl (lv_at hl 1 rfl) ?_
  refine gf_RX7_9 (v := .ref (a 2)) C hO 1 cW_1 rfl dX7_put_18 ?_
  refine lv_aload_n hx hb dX7_put_21 rfl (lv_at hl 1 rfl) ?_
  refine gf_RX7_15 (v := .int 8) C hO 1 cW_1 (congrArg (fun z : Int32 => some (Value.int z)) hI_1_1) dX7_put_22 ?_
  refine lv_iload_n hx hb dX7_put_25 rfl (lv_at hl 2 rfl) ?_
  refine lv_iload_n hx hb dX7_put_26 rfl (lv_at hl 0 rfl) ?_
  refine lv_ishr hx hb dX7_put_27 ?_
  refine lv_topi (fun z1 ez1 => ?_)
  refine lv_i2b hx hb dX7_put_28 rfl ?_
  refine lv_topi (fun z2 ez2 => ?_)
  refine aBs C hO 2 cW_2 (i_in (X := 8) rfl (by omega) (by omega)) cW_s2 dX7_put_29 (fun H locs hO => ?_)
  refine lv_aload_n hx hb dX7_put_30 rfl (lv_at hl 1 rfl) ?_
  refine lv_dup hx hb dX7_put_31 rfl ?_
  refine gf_RX7_15 (v := .int 8) C hO 1 cW_1 (congrArg (fun z : Int32 => some (Value.int z)) hI_1_1) dX7_put_32 ?_
  refine lv_iconst (v := 1) hx hb dX7_put_35 (by decide) ?_
  refine lv_iadd hx hb dX7_put_36 ?_
  refine tE (y := 9) rfl ?_
  refine pf_RX7_15 C hO 1 cW_1 (Nat.le_of_ble_eq_true rfl) cW_s1_1 dX7_put_37 (fun H locs hO => ?_)
  refine lv_iinc (v := 16) (lv' := [(2, .int 16), (0, .ref (a 1)), (1, .int x1)]) hx hb dX7_put_40 hl (k := 0) rfl rfl (by decide) rfl (fun ls hl => ?_)
  refine lv_goto (tgt := 3) hx hb dX7_put_43 (by decide) ?_
  refine lv_iload_n hx hb dX7_put_3 rfl (lv_at hl 0 rfl) ?_
  refine bn_lt (X := 16) hx hb dX7_put_4 rfl (by omega) ?_ (tgt := 46) (by decide)
  refine lv_aload_n hx hb dX7_put_7 rfl (lv_at hl 1 rfl) ?_
  refine gf_RX7_15 (v := .int 9) C hO 1 cW_1 rfl dX7_put_8 ?_
  refine lv_sipush (v := 1600) hx hb dX7_put_11 (by decide) ?_
  refine cn_ge (X := 9) (Y := 1600) hx hb dX7_put_14 rfl rfl (by omega) ?_ (tgt := 46) (by decide)
  refine lv_aload_n hx hb dX7_put_17 rfl (lv_at hl 1 rfl) ?_
  refine gf_RX7_9 (v := .ref (a 2)) C hO 1 cW_1 rfl dX7_put_18 ?_
  refine lv_aload_n hx hb dX7_put_21 rfl (lv_at hl 1 rfl) ?_
  refine gf_RX7_15 (v := .int 9) C hO 1 cW_1 rfl dX7_put_22 ?_
  refine lv_iload_n hx hb dX7_put_25 rfl (lv_at hl 2 rfl) ?_
  refine lv_iload_n hx hb dX7_put_26 rfl (lv_at hl 0 rfl) ?_
  refine lv_ishr hx hb dX7_put_27 ?_
  refine lv_topi (fun z3 ez3 => ?_)
  refine lv_i2b hx hb dX7_put_28 rfl ?_
  refine lv_topi (fun z4 ez4 => ?_)
  refine aBs C hO 2 cW_2 (i_in (X := 9) rfl (by omega) (by omega)) cW_s2 dX7_put_29 (fun H locs hO => ?_)
  refine lv_aload_n hx hb dX7_put_30 rfl (lv_at hl 1 rfl) ?_
  refine lv_dup hx hb dX7_put_31 rfl ?_
  refine gf_RX7_15 (v := .int 9) C hO 1 cW_1 rfl dX7_put_32 ?_
  refine lv_iconst (v := 1) hx hb dX7_put_35 (by decide) ?_
  refine lv_iadd hx hb dX7_put_36 ?_
  refine tE (y := 10) rfl ?_
  refine pf_RX7_15 C hO 1 cW_1 (Nat.le_of_ble_eq_true rfl) cW_s1_1 dX7_put_37 (fun H locs hO => ?_)
  refine lv_iinc (v := 8) (lv' := [(2, .int 8), (0, .ref (a 1)), (1, .int x1)]) hx hb dX7_put_40 hl (k := 0) rfl rfl (by decide) rfl (fun ls hl => ?_)
  refine lv_goto (tgt := 3) hx hb dX7_put_43 (by decide) ?_
  refine lv_iload_n hx hb dX7_put_3 rfl (lv_at hl 0 rfl) ?_
  refine bn_lt (X := 8) hx hb dX7_put_4 rfl (by omega) ?_ (tgt := 46) (by decide)
  refine lv_aload_n hx hb dX7_put_7 rfl (lv_at hl 1 rfl) ?_
  refine gf_RX7_15 (v := .int 10) C hO 1 cW_1 rfl dX7_put_8 ?_
  refine lv_sipush (v := 1600) hx hb dX7_put_11 (by decide) ?_
  refine cn_ge (X := 10) (Y := 1600) hx hb dX7_put_14 rfl rfl (by omega) ?_ (tgt := 46) (by decide)
  refine lv_aload_n hx hb dX7_put_17 rfl (lv_at hl 1 rfl) ?_
  refine gf_RX7_9 (v := .ref (a 2)) C hO 1 cW_1 rfl dX7_put_18 ?_
  refine lv_aload_n hx hb dX7_put_21 rfl (lv_at hl 1 rfl) ?_
  refine gf_RX7_15 (v := .int 10) C hO 1 cW_1 rfl dX7_put_22 ?_
  refine lv_iload_n hx hb dX7_put_25 rfl (lv_at hl 2 rfl) ?_
  refine lv_iload_n hx hb dX7_put_26 rfl (lv_at hl 0 rfl) ?_
  refine lv_ishr hx hb dX7_put_27 ?_
  refine lv_topi (fun z5 ez5 => ?_)
  refine lv_i2b hx hb dX7_put_28 rfl ?_
  refine lv_topi (fun z6 ez6 => ?_)
  refine aBs C hO 2 cW_2 (i_in (X := 10) rfl (by omega) (by omega)) cW_s2 dX7_put_29 (fun H locs hO => ?_)
  refine lv_aload_n hx hb dX7_put_30 rfl (lv_at hl 1 rfl) ?_
  refine lv_dup hx hb dX7_put_31 rfl ?_
  refine gf_RX7_15 (v := .int 10) C hO 1 cW_1 rfl dX7_put_32 ?_
  refine lv_iconst (v := 1) hx hb dX7_put_35 (by decide) ?_
  refine lv_iadd hx hb dX7_put_36 ?_
  refine tE (y := 11) rfl ?_
  refine pf_RX7_15 C hO 1 cW_1 (Nat.le_of_ble_eq_true rfl) cW_s1_1 dX7_put_37 (fun H locs hO => ?_)
  refine lv_iinc (v := 0) (lv' := [(2, .int 0), (0, .ref (a 1)), (1, .int x1)]) hx hb dX7_put_40 hl (k := 0) rfl rfl (by decide) rfl (fun ls hl => ?_)
  refine lv_goto (tgt := 3) hx hb dX7_put_43 (by decide) ?_
  refine lv_iload_n hx hb dX7_put_3 rfl (lv_at hl 0 rfl) ?_
  refine bn_lt (X := 0) hx hb dX7_put_4 rfl (by omega) ?_ (tgt := 46) (by decide)
  refine lv_aload_n hx hb dX7_put_7 rfl (lv_at hl 1 rfl) ?_
  refine gf_RX7_15 (v := .int 11) C hO 1 cW_1 rfl dX7_put_8 ?_
  refine lv_sipush (v := 1600) hx hb dX7_put_11 (by decide) ?_
  refine cn_ge (X := 11) (Y := 1600) hx hb dX7_put_14 rfl rfl (by omega) ?_ (tgt := 46) (by decide)
  refine lv_aload_n hx hb dX7_put_17 rfl (lv_at hl 1 rfl) ?_
  refine gf_RX7_9 (v := .ref (a 2)) C hO 1 cW_1 rfl dX7_put_18 ?_
  refine lv_aload_n hx hb dX7_put_21 rfl (lv_at hl 1 rfl) ?_
  refine gf_RX7_15 (v := .int 11) C hO 1 cW_1 rfl dX7_put_22 ?_
  refine lv_iload_n hx hb dX7_put_25 rfl (lv_at hl 2 rfl) ?_
  refine lv_iload_n hx hb dX7_put_26 rfl (lv_at hl 0 rfl) ?_
  refine lv_ishr hx hb dX7_put_27 ?_
  refine lv_topi (fun z7 ez7 => ?_)
  refine lv_i2b hx hb dX7_put_28 rfl ?_
  refine lv_topi (fun z8 ez8 => ?_)
  refine aBs C hO 2 cW_2 (i_in (X := 11) rfl (by omega) (by omega)) cW_s2 dX7_put_29 (fun H locs hO => ?_)
  refine lv_aload_n hx hb dX7_put_30 rfl (lv_at hl 1 rfl) ?_
  refine lv_dup hx hb dX7_put_31 rfl ?_
  refine gf_RX7_15 (v := .int 11) C hO 1 cW_1 rfl dX7_put_32 ?_
  refine lv_iconst (v := 1) hx hb dX7_put_35 (by decide) ?_
  refine lv_iadd hx hb dX7_put_36 ?_
  refine tE (y := 12) rfl ?_
  refine pf_RX7_15 C hO 1 cW_1 (Nat.le_of_ble_eq_true rfl) cW_s1_1 dX7_put_37 (fun H locs hO => ?_)
  refine lv_iinc (v := (-8)) (lv' := [(2, .int (-8)), (0, .ref (a 1)), (1, .int x1)]) hx hb dX7_put_40 hl (k := 0) rfl rfl (by decide) rfl (fun ls hl => ?_)
  refine lv_goto (tgt := 3) hx hb dX7_put_43 (by decide) ?_
  refine lv_iload_n hx hb dX7_put_3 rfl (lv_at hl 0 rfl) ?_
  refine bt_lt (tgt := 46) (X := (-8)) hx hb dX7_put_4 (by decide) rfl (by omega) ?_
  refine hret _ _ _ _ _ dX7_put_46 ?_ hO
  exact rfl
set_option maxHeartbeats 4000000 in
set_option maxRecDepth 100000 in
theorem T_X7_put_12 (l : Launch) (D : va_G) (cy : Nat → ClassId) (a : Nat → Nat) (u : St) (hI_1_1 : fI u 1 1 = 12) (x1 : Int32)  : Mv l D cy (cW cy a) yX7_put (.code yX7_put cX7_put 3 none) (rmo 0 0) [.ref (a 1), .int x1] u (fun (u' : St) => fI u' 1 1 = 16) := by
  refine Mv.of (own := RX7) rfl (by decide) (Nat.le_of_ble_eq_true rfl) ?_
  intro p e s m below meth c A Q ls C hret hO hl
  obtain ⟨hx, hb, hml, hown, ht, hK, hA⟩ := id C
  have hl : lv_has ls 3 [(0, .ref (a 1)), (1, .int x1)] := hl
  refine lv_bipush (v := 24) hx hb dX7_put_0 (by decide) ?_
  refine lv_istore_n (lv' := [(2, .int 24), (0, .ref (a 1)), (1, .int x1)]) hx hb dX7_put_2 rfl hl (by decide) rfl (fun ls hl => ?_)
  refine lv_iload_n hx hb dX7_put_3 rfl (lv_at hl 0 rfl) ?_
  refine bn_lt (X := 24) hx hb dX7_put_4 rfl (by omega) ?_ (tgt := 46) (by decide)
  refine lv_aload_n hx hb dX7_put_7 rfl (lv_at hl 1 rfl) ?_
  refine gf_RX7_15 (v := .int 12) C hO 1 cW_1 (congrArg (fun z : Int32 => some (Value.int z)) hI_1_1) dX7_put_8 ?_
  refine lv_sipush (v := 1600) hx hb dX7_put_11 (by decide) ?_
  refine cn_ge (X := 12) (Y := 1600) hx hb dX7_put_14 rfl rfl (by omega) ?_ (tgt := 46) (by decide)
  refine lv_aload_n hx hb dX7_put_17 rfl (lv_at hl 1 rfl) ?_
  refine gf_RX7_9 (v := .ref (a 2)) C hO 1 cW_1 rfl dX7_put_18 ?_
  refine lv_aload_n hx hb dX7_put_21 rfl (lv_at hl 1 rfl) ?_
  refine gf_RX7_15 (v := .int 12) C hO 1 cW_1 (congrArg (fun z : Int32 => some (Value.int z)) hI_1_1) dX7_put_22 ?_
  refine lv_iload_n hx hb dX7_put_25 rfl (lv_at hl 2 rfl) ?_
  refine lv_iload_n hx hb dX7_put_26 rfl (lv_at hl 0 rfl) ?_
  refine lv_ishr hx hb dX7_put_27 ?_
  refine lv_topi (fun z1 ez1 => ?_)
  refine lv_i2b hx hb dX7_put_28 rfl ?_
  refine lv_topi (fun z2 ez2 => ?_)
  refine aBs C hO 2 cW_2 (i_in (X := 12) rfl (by omega) (by omega)) cW_s2 dX7_put_29 (fun H locs hO => ?_)
  refine lv_aload_n hx hb dX7_put_30 rfl (lv_at hl 1 rfl) ?_
  refine lv_dup hx hb dX7_put_31 rfl ?_
  refine gf_RX7_15 (v := .int 12) C hO 1 cW_1 (congrArg (fun z : Int32 => some (Value.int z)) hI_1_1) dX7_put_32 ?_
  refine lv_iconst (v := 1) hx hb dX7_put_35 (by decide) ?_
  refine lv_iadd hx hb dX7_put_36 ?_
  refine tE (y := 13) rfl ?_
  refine pf_RX7_15 C hO 1 cW_1 (Nat.le_of_ble_eq_true rfl) cW_s1_1 dX7_put_37 (fun H locs hO => ?_)
  refine lv_iinc (v := 16) (lv' := [(2, .int 16), (0, .ref (a 1)), (1, .int x1)]) hx hb dX7_put_40 hl (k := 0) rfl rfl (by decide) rfl (fun ls hl => ?_)
  refine lv_goto (tgt := 3) hx hb dX7_put_43 (by decide) ?_
  refine lv_iload_n hx hb dX7_put_3 rfl (lv_at hl 0 rfl) ?_
  refine bn_lt (X := 16) hx hb dX7_put_4 rfl (by omega) ?_ (tgt := 46) (by decide)
  refine lv_aload_n hx hb dX7_put_7 rfl (lv_at hl 1 rfl) ?_
  refine gf_RX7_15 (v := .int 13) C hO 1 cW_1 rfl dX7_put_8 ?_
  refine lv_sipush (v := 1600) hx hb dX7_put_11 (by decide) ?_
  refine cn_ge (X := 13) (Y := 1600) hx hb dX7_put_14 rfl rfl (by omega) ?_ (tgt := 46) (by decide)
  refine lv_aload_n hx hb dX7_put_17 rfl (lv_at hl 1 rfl) ?_
  refine gf_RX7_9 (v := .ref (a 2)) C hO 1 cW_1 rfl dX7_put_18 ?_
  refine lv_aload_n hx hb dX7_put_21 rfl (lv_at hl 1 rfl) ?_
  refine gf_RX7_15 (v := .int 13) C hO 1 cW_1 rfl dX7_put_22 ?_
  refine lv_iload_n hx hb dX7_put_25 rfl (lv_at hl 2 rfl) ?_
  refine lv_iload_n hx hb dX7_put_26 rfl (lv_at hl 0 rfl) ?_
  refine lv_ishr hx hb dX7_put_27 ?_
  refine lv_topi (fun z3 ez3 => ?_)
  refine lv_i2b hx hb dX7_put_28 rfl ?_
  refine lv_topi (fun z4 ez4 => ?_)
  refine aBs C hO 2 cW_2 (i_in (X := 13) rfl (by omega) (by omega)) cW_s2 dX7_put_29 (fun H locs hO => ?_)
  refine lv_aload_n hx hb dX7_put_30 rfl (lv_at hl 1 rfl) ?_
  refine lv_dup hx hb dX7_put_31 rfl ?_
  refine gf_RX7_15 (v := .int 13) C hO 1 cW_1 rfl dX7_put_32 ?_
  refine lv_iconst (v := 1) hx hb dX7_put_35 (by decide) ?_
  refine lv_iadd hx hb dX7_put_36 ?_
  refine tE (y := 14) rfl ?_
  refine pf_RX7_15 C hO 1 cW_1 (Nat.le_of_ble_eq_true rfl) cW_s1_1 dX7_put_37 (fun H locs hO => ?_)
  refine lv_iinc (v := 8) (lv' := [(2, .int 8), (0, .ref (a 1)), (1, .int x1)]) hx hb dX7_put_40 hl (k := 0) rfl rfl (by decide) rfl (fun ls hl => ?_)
  refine lv_goto (tgt := 3) hx hb dX7_put_43 (by decide) ?_
  refine lv_iload_n hx hb dX7_put_3 rfl (lv_at hl 0 rfl) ?_
  refine bn_lt (X := 8) hx hb dX7_put_4 rfl (by omega) ?_ (tgt := 46) (by decide)
  refine lv_aload_n hx hb dX7_put_7 rfl (lv_at hl 1 rfl) ?_
  refine gf_RX7_15 (v := .int 14) C hO 1 cW_1 rfl dX7_put_8 ?_
  refine lv_sipush (v := 1600) hx hb dX7_put_11 (by decide) ?_
  refine cn_ge (X := 14) (Y := 1600) hx hb dX7_put_14 rfl rfl (by omega) ?_ (tgt := 46) (by decide)
  refine lv_aload_n hx hb dX7_put_17 rfl (lv_at hl 1 rfl) ?_
  refine gf_RX7_9 (v := .ref (a 2)) C hO 1 cW_1 rfl dX7_put_18 ?_
  refine lv_aload_n hx hb dX7_put_21 rfl (lv_at hl 1 rfl) ?_
  refine gf_RX7_15 (v := .int 14) C hO 1 cW_1 rfl dX7_put_22 ?_
  refine lv_iload_n hx hb dX7_put_25 rfl (lv_at hl 2 rfl) ?_
  refine lv_iload_n hx hb dX7_put_26 rfl (lv_at hl 0 rfl) ?_
  refine lv_ishr hx hb dX7_put_27 ?_
  refine lv_topi (fun z5 ez5 => ?_)
  refine lv_i2b hx hb dX7_put_28 rfl ?_
  refine lv_topi (fun z6 ez6 => ?_)
  refine aBs C hO 2 cW_2 (i_in (X := 14) rfl (by omega) (by omega)) cW_s2 dX7_put_29 (fun H locs hO => ?_)
  refine lv_aload_n hx hb dX7_put_30 rfl (lv_at hl 1 rfl) ?_
  refine lv_dup hx hb dX7_put_31 rfl ?_
  refine gf_RX7_15 (v := .int 14) C hO 1 cW_1 rfl dX7_put_32 ?_
  refine lv_iconst (v := 1) hx hb dX7_put_35 (by decide) ?_
  refine lv_iadd hx hb dX7_put_36 ?_
  refine tE (y := 15) rfl ?_
  refine pf_RX7_15 C hO 1 cW_1 (Nat.le_of_ble_eq_true rfl) cW_s1_1 dX7_put_37 (fun H locs hO => ?_)
  refine lv_iinc (v := 0) (lv' := [(2, .int 0), (0, .ref (a 1)), (1, .int x1)]) hx hb dX7_put_40 hl (k := 0) rfl rfl (by decide) rfl (fun ls hl => ?_)
  refine lv_goto (tgt := 3) hx hb dX7_put_43 (by decide) ?_
  refine lv_iload_n hx hb dX7_put_3 rfl (lv_at hl 0 rfl) ?_
  refine bn_lt (X := 0) hx hb dX7_put_4 rfl (by omega) ?_ (tgt := 46) (by decide)
  refine lv_aload_n hx hb dX7_put_7 rfl (lv_at hl 1 rfl) ?_
  refine gf_RX7_15 (v := .int 15) C hO 1 cW_1 rfl dX7_put_8 ?_
  refine lv_sipush (v := 1600) hx hb dX7_put_11 (by decide) ?_
  refine cn_ge (X := 15) (Y := 1600) hx hb dX7_put_14 rfl rfl (by omega) ?_ (tgt := 46) (by decide)
  refine lv_aload_n hx hb dX7_put_17 rfl (lv_at hl 1 rfl) ?_
  refine gf_RX7_9 (v := .ref (a 2)) C hO 1 cW_1 rfl dX7_put_18 ?_
  refine lv_aload_n hx hb dX7_put_21 rfl (lv_at hl 1 rfl) ?_
  refine gf_RX7_15 (v := .int 15) C hO 1 cW_1 rfl dX7_put_22 ?_
  refine lv_iload_n hx hb dX7_put_25 rfl (lv_at hl 2 rfl) ?_
  refine lv_iload_n hx hb dX7_put_26 rfl (lv_at hl 0 rfl) ?_
  refine lv_ishr hx hb dX7_put_27 ?_
  refine lv_topi (fun z7 ez7 => ?_)
  refine lv_i2b hx hb dX7_put_28 rfl ?_
  refine lv_topi (fun z8 ez8 => ?_)
  refine aBs C hO 2 cW_2 (i_in (X := 15) rfl (by omega) (by omega)) cW_s2 dX7_put_29 (fun H locs hO => ?_)
  refine lv_aload_n hx hb dX7_put_30 rfl (lv_at hl 1 rfl) ?_
  refine lv_dup hx hb dX7_put_31 rfl ?_
  refine gf_RX7_15 (v := .int 15) C hO 1 cW_1 rfl dX7_put_32 ?_
  refine lv_iconst (v := 1) hx hb dX7_put_35 (by decide) ?_
  refine lv_iadd hx hb dX7_put_36 ?_
  refine tE (y := 16) rfl ?_
  refine pf_RX7_15 C hO 1 cW_1 (Nat.le_of_ble_eq_true rfl) cW_s1_1 dX7_put_37 (fun H locs hO => ?_)
  refine lv_iinc (v := (-8)) (lv' := [(2, .int (-8)), (0, .ref (a 1)), (1, .int x1)]) hx hb dX7_put_40 hl (k := 0) rfl rfl (by decide) rfl (fun ls hl => ?_)
  refine lv_goto (tgt := 3) hx hb dX7_put_43 (by decide) ?_
  refine lv_iload_n hx hb dX7_put_3 rfl (lv_at hl 0 rfl) ?_
  refine bt_lt (tgt := 46) (X := (-8)) hx hb dX7_put_4 (by decide) rfl (by omega) ?_
  refine hret _ _ _ _ _ dX7_put_46 ?_ hO
  exact rfl
set_option maxHeartbeats 4000000 in
set_option maxRecDepth 100000 in
theorem T_X7_put_16 (l : Launch) (D : va_G) (cy : Nat → ClassId) (a : Nat → Nat) (u : St) (hI_1_1 : fI u 1 1 = 16) (x1 : Int32)  : Mv l D cy (cW cy a) yX7_put (.code yX7_put cX7_put 3 none) (rmo 0 0) [.ref (a 1), .int x1] u (fun (u' : St) => fI u' 1 1 = 20) := by
  refine Mv.of (own := RX7) rfl (by decide) (Nat.le_of_ble_eq_true rfl) ?_
  intro p e s m below meth c A Q ls C hret hO hl
  obtain ⟨hx, hb, hml, hown, ht, hK, hA⟩ := id C
  have hl : lv_has ls 3 [(0, .ref (a 1)), (1, .int x1)] := hl
  refine lv_bipush (v := 24) hx hb dX7_put_0 (by decide) ?_
  refine lv_istore_n (lv' := [(2, .int 24), (0, .ref (a 1)), (1, .int x1)]) hx hb dX7_put_2 rfl hl (by decide) rfl (fun ls hl => ?_)
  refine lv_iload_n hx hb dX7_put_3 rfl (lv_at hl 0 rfl) ?_
  refine bn_lt (X := 24) hx hb dX7_put_4 rfl (by omega) ?_ (tgt := 46) (by decide)
  refine lv_aload_n hx hb dX7_put_7 rfl (lv_at hl 1 rfl) ?_
  refine gf_RX7_15 (v := .int 16) C hO 1 cW_1 (congrArg (fun z : Int32 => some (Value.int z)) hI_1_1) dX7_put_8 ?_
  refine lv_sipush (v := 1600) hx hb dX7_put_11 (by decide) ?_
  refine cn_ge (X := 16) (Y := 1600) hx hb dX7_put_14 rfl rfl (by omega) ?_ (tgt := 46) (by decide)
  refine lv_aload_n hx hb dX7_put_17 rfl (lv_at hl 1 rfl) ?_
  refine gf_RX7_9 (v := .ref (a 2)) C hO 1 cW_1 rfl dX7_put_18 ?_
  refine lv_aload_n hx hb dX7_put_21 rfl (lv_at hl 1 rfl) ?_
  refine gf_RX7_15 (v := .int 16) C hO 1 cW_1 (congrArg (fun z : Int32 => some (Value.int z)) hI_1_1) dX7_put_22 ?_
  refine lv_iload_n hx hb dX7_put_25 rfl (lv_at hl 2 rfl) ?_
  refine lv_iload_n hx hb dX7_put_26 rfl (lv_at hl 0 rfl) ?_
  refine lv_ishr hx hb dX7_put_27 ?_
  refine lv_topi (fun z1 ez1 => ?_)
  refine lv_i2b hx hb dX7_put_28 rfl ?_
  refine lv_topi (fun z2 ez2 => ?_)
  refine aBs C hO 2 cW_2 (i_in (X := 16) rfl (by omega) (by omega)) cW_s2 dX7_put_29 (fun H locs hO => ?_)
  refine lv_aload_n hx hb dX7_put_30 rfl (lv_at hl 1 rfl) ?_
  refine lv_dup hx hb dX7_put_31 rfl ?_
  refine gf_RX7_15 (v := .int 16) C hO 1 cW_1 (congrArg (fun z : Int32 => some (Value.int z)) hI_1_1) dX7_put_32 ?_
  refine lv_iconst (v := 1) hx hb dX7_put_35 (by decide) ?_
  refine lv_iadd hx hb dX7_put_36 ?_
  refine tE (y := 17) rfl ?_
  refine pf_RX7_15 C hO 1 cW_1 (Nat.le_of_ble_eq_true rfl) cW_s1_1 dX7_put_37 (fun H locs hO => ?_)
  refine lv_iinc (v := 16) (lv' := [(2, .int 16), (0, .ref (a 1)), (1, .int x1)]) hx hb dX7_put_40 hl (k := 0) rfl rfl (by decide) rfl (fun ls hl => ?_)
  refine lv_goto (tgt := 3) hx hb dX7_put_43 (by decide) ?_
  refine lv_iload_n hx hb dX7_put_3 rfl (lv_at hl 0 rfl) ?_
  refine bn_lt (X := 16) hx hb dX7_put_4 rfl (by omega) ?_ (tgt := 46) (by decide)
  refine lv_aload_n hx hb dX7_put_7 rfl (lv_at hl 1 rfl) ?_
  refine gf_RX7_15 (v := .int 17) C hO 1 cW_1 rfl dX7_put_8 ?_
  refine lv_sipush (v := 1600) hx hb dX7_put_11 (by decide) ?_
  refine cn_ge (X := 17) (Y := 1600) hx hb dX7_put_14 rfl rfl (by omega) ?_ (tgt := 46) (by decide)
  refine lv_aload_n hx hb dX7_put_17 rfl (lv_at hl 1 rfl) ?_
  refine gf_RX7_9 (v := .ref (a 2)) C hO 1 cW_1 rfl dX7_put_18 ?_
  refine lv_aload_n hx hb dX7_put_21 rfl (lv_at hl 1 rfl) ?_
  refine gf_RX7_15 (v := .int 17) C hO 1 cW_1 rfl dX7_put_22 ?_
  refine lv_iload_n hx hb dX7_put_25 rfl (lv_at hl 2 rfl) ?_
  refine lv_iload_n hx hb dX7_put_26 rfl (lv_at hl 0 rfl) ?_
  refine lv_ishr hx hb dX7_put_27 ?_
  refine lv_topi (fun z3 ez3 => ?_)
  refine lv_i2b hx hb dX7_put_28 rfl ?_
  refine lv_topi (fun z4 ez4 => ?_)
  refine aBs C hO 2 cW_2 (i_in (X := 17) rfl (by omega) (by omega)) cW_s2 dX7_put_29 (fun H locs hO => ?_)
  refine lv_aload_n hx hb dX7_put_30 rfl (lv_at hl 1 rfl) ?_
  refine lv_dup hx hb dX7_put_31 rfl ?_
  refine gf_RX7_15 (v := .int 17) C hO 1 cW_1 rfl dX7_put_32 ?_
  refine lv_iconst (v := 1) hx hb dX7_put_35 (by decide) ?_
  refine lv_iadd hx hb dX7_put_36 ?_
  refine tE (y := 18) rfl ?_
  refine pf_RX7_15 C hO 1 cW_1 (Nat.le_of_ble_eq_true rfl) cW_s1_1 dX7_put_37 (fun H locs hO => ?_)
  refine lv_iinc (v := 8) (lv' := [(2, .int 8), (0, .ref (a 1)), (1, .int x1)]) hx hb dX7_put_40 hl (k := 0) rfl rfl (by decide) rfl (fun ls hl => ?_)
  refine lv_goto (tgt := 3) hx hb dX7_put_43 (by decide) ?_
  refine lv_iload_n hx hb dX7_put_3 rfl (lv_at hl 0 rfl) ?_
  refine bn_lt (X := 8) hx hb dX7_put_4 rfl (by omega) ?_ (tgt := 46) (by decide)
  refine lv_aload_n hx hb dX7_put_7 rfl (lv_at hl 1 rfl) ?_
  refine gf_RX7_15 (v := .int 18) C hO 1 cW_1 rfl dX7_put_8 ?_
  refine lv_sipush (v := 1600) hx hb dX7_put_11 (by decide) ?_
  refine cn_ge (X := 18) (Y := 1600) hx hb dX7_put_14 rfl rfl (by omega) ?_ (tgt := 46) (by decide)
  refine lv_aload_n hx hb dX7_put_17 rfl (lv_at hl 1 rfl) ?_
  refine gf_RX7_9 (v := .ref (a 2)) C hO 1 cW_1 rfl dX7_put_18 ?_
  refine lv_aload_n hx hb dX7_put_21 rfl (lv_at hl 1 rfl) ?_
  refine gf_RX7_15 (v := .int 18) C hO 1 cW_1 rfl dX7_put_22 ?_
  refine lv_iload_n hx hb dX7_put_25 rfl (lv_at hl 2 rfl) ?_
  refine lv_iload_n hx hb dX7_put_26 rfl (lv_at hl 0 rfl) ?_
  refine lv_ishr hx hb dX7_put_27 ?_
  refine lv_topi (fun z5 ez5 => ?_)
  refine lv_i2b hx hb dX7_put_28 rfl ?_
  refine lv_topi (fun z6 ez6 => ?_)
  refine aBs C hO 2 cW_2 (i_in (X := 18) rfl (by omega) (by omega)) cW_s2 dX7_put_29 (fun H locs hO => ?_)
  refine lv_aload_n hx hb dX7_put_30 rfl (lv_at hl 1 rfl) ?_
  refine lv_dup hx hb dX7_put_31 rfl ?_
  refine gf_RX7_15 (v := .int 18) C hO 1 cW_1 rfl dX7_put_32 ?_
  refine lv_iconst (v := 1) hx hb dX7_put_35 (by decide) ?_
  refine lv_iadd hx hb dX7_put_36 ?_
  refine tE (y := 19) rfl ?_
  refine pf_RX7_15 C hO 1 cW_1 (Nat.le_of_ble_eq_true rfl) cW_s1_1 dX7_put_37 (fun H locs hO => ?_)
  refine lv_iinc (v := 0) (lv' := [(2, .int 0), (0, .ref (a 1)), (1, .int x1)]) hx hb dX7_put_40 hl (k := 0) rfl rfl (by decide) rfl (fun ls hl => ?_)
  refine lv_goto (tgt := 3) hx hb dX7_put_43 (by decide) ?_
  refine lv_iload_n hx hb dX7_put_3 rfl (lv_at hl 0 rfl) ?_
  refine bn_lt (X := 0) hx hb dX7_put_4 rfl (by omega) ?_ (tgt := 46) (by decide)
  refine lv_aload_n hx hb dX7_put_7 rfl (lv_at hl 1 rfl) ?_
  refine gf_RX7_15 (v := .int 19) C hO 1 cW_1 rfl dX7_put_8 ?_
  refine lv_sipush (v := 1600) hx hb dX7_put_11 (by decide) ?_
  refine cn_ge (X := 19) (Y := 1600) hx hb dX7_put_14 rfl rfl (by omega) ?_ (tgt := 46) (by decide)
  refine lv_aload_n hx hb dX7_put_17 rfl (lv_at hl 1 rfl) ?_
  refine gf_RX7_9 (v := .ref (a 2)) C hO 1 cW_1 rfl dX7_put_18 ?_
  refine lv_aload_n hx hb dX7_put_21 rfl (lv_at hl 1 rfl) ?_
  refine gf_RX7_15 (v := .int 19) C hO 1 cW_1 rfl dX7_put_22 ?_
  refine lv_iload_n hx hb dX7_put_25 rfl (lv_at hl 2 rfl) ?_
  refine lv_iload_n hx hb dX7_put_26 rfl (lv_at hl 0 rfl) ?_
  refine lv_ishr hx hb dX7_put_27 ?_
  refine lv_topi (fun z7 ez7 => ?_)
  refine lv_i2b hx hb dX7_put_28 rfl ?_
  refine lv_topi (fun z8 ez8 => ?_)
  refine aBs C hO 2 cW_2 (i_in (X := 19) rfl (by omega) (by omega)) cW_s2 dX7_put_29 (fun H locs hO => ?_)
  refine lv_aload_n hx hb dX7_put_30 rfl (lv_at hl 1 rfl) ?_
  refine lv_dup hx hb dX7_put_31 rfl ?_
  refine gf_RX7_15 (v := .int 19) C hO 1 cW_1 rfl dX7_put_32 ?_
  refine lv_iconst (v := 1) hx hb dX7_put_35 (by decide) ?_
  refine lv_iadd hx hb dX7_put_36 ?_
  refine tE (y := 20) rfl ?_
  refine pf_RX7_15 C hO 1 cW_1 (Nat.le_of_ble_eq_true rfl) cW_s1_1 dX7_put_37 (fun H locs hO => ?_)
  refine lv_iinc (v := (-8)) (lv' := [(2, .int (-8)), (0, .ref (a 1)), (1, .int x1)]) hx hb dX7_put_40 hl (k := 0) rfl rfl (by decide) rfl (fun ls hl => ?_)
  refine lv_goto (tgt := 3) hx hb dX7_put_43 (by decide) ?_
  refine lv_iload_n hx hb dX7_put_3 rfl (lv_at hl 0 rfl) ?_
  refine bt_lt (tgt := 46) (X := (-8)) hx hb dX7_put_4 (by decide) rfl (by omega) ?_
  refine hret _ _ _ _ _ dX7_put_46 ?_ hO
  exact rfl
theorem dX10_feed_0 : decode cX10_feed 0 = .ok (.aload_n 0, 1) := by decide +kernel
theorem dX10_feed_1 : decode cX10_feed 1 = .ok (.getfield 12, 3) := by decide +kernel
theorem dX10_feed_4 : decode cX10_feed 4 = .ok (.getfield 89, 3) := by decide +kernel
theorem dX10_feed_7 : decode cX10_feed 7 = .ok (.bipush 20, 2) := by decide +kernel
theorem dX10_feed_9 : decode cX10_feed 9 = .ok (.iadd, 1) := by decide +kernel
theorem dX10_feed_10 : decode cX10_feed 10 = .ok (.sipush 1600, 3) := by decide +kernel
theorem dX10_feed_13 : decode cX10_feed 13 = .ok (.if_icmp .le 5, 3) := by decide +kernel
theorem dX10_feed_16 : decode cX10_feed 16 = .ok (.iconst (-1), 1) := by decide +kernel
theorem dX10_feed_17 : decode cX10_feed 17 = .ok (.ireturn, 1) := by decide +kernel
theorem dX10_feed_18 : decode cX10_feed 18 = .ok (.aload_n 0, 1) := by decide +kernel
theorem dX10_feed_19 : decode cX10_feed 19 = .ok (.getfield 12, 3) := by decide +kernel
theorem dX10_feed_22 : decode cX10_feed 22 = .ok (.iload_n 1, 1) := by decide +kernel
theorem dX10_feed_23 : decode cX10_feed 23 = .ok (.invokevirtual 93, 3) := by decide +kernel
theorem dX10_feed_26 : decode cX10_feed 26 = .ok (.aload_n 0, 1) := by decide +kernel
theorem dX10_feed_27 : decode cX10_feed 27 = .ok (.getfield 12, 3) := by decide +kernel
theorem dX10_feed_30 : decode cX10_feed 30 = .ok (.iload_n 2, 1) := by decide +kernel
theorem dX10_feed_31 : decode cX10_feed 31 = .ok (.invokevirtual 93, 3) := by decide +kernel
theorem dX10_feed_34 : decode cX10_feed 34 = .ok (.aload_n 0, 1) := by decide +kernel
theorem dX10_feed_35 : decode cX10_feed 35 = .ok (.getfield 12, 3) := by decide +kernel
theorem dX10_feed_38 : decode cX10_feed 38 = .ok (.iload_n 3, 1) := by decide +kernel
theorem dX10_feed_39 : decode cX10_feed 39 = .ok (.invokevirtual 93, 3) := by decide +kernel
theorem dX10_feed_42 : decode cX10_feed 42 = .ok (.aload_n 0, 1) := by decide +kernel
theorem dX10_feed_43 : decode cX10_feed 43 = .ok (.getfield 12, 3) := by decide +kernel
theorem dX10_feed_46 : decode cX10_feed 46 = .ok (.iload 4, 2) := by decide +kernel
theorem dX10_feed_48 : decode cX10_feed 48 = .ok (.invokevirtual 93, 3) := by decide +kernel
theorem dX10_feed_51 : decode cX10_feed 51 = .ok (.aload_n 0, 1) := by decide +kernel
theorem dX10_feed_52 : decode cX10_feed 52 = .ok (.getfield 12, 3) := by decide +kernel
theorem dX10_feed_55 : decode cX10_feed 55 = .ok (.iload 5, 2) := by decide +kernel
theorem dX10_feed_57 : decode cX10_feed 57 = .ok (.invokevirtual 93, 3) := by decide +kernel
theorem dX10_feed_60 : decode cX10_feed 60 = .ok (.aload_n 0, 1) := by decide +kernel
theorem dX10_feed_61 : decode cX10_feed 61 = .ok (.getfield 12, 3) := by decide +kernel
theorem dX10_feed_64 : decode cX10_feed 64 = .ok (.getfield 89, 3) := by decide +kernel
theorem dX10_feed_67 : decode cX10_feed 67 = .ok (.ireturn, 1) := by decide +kernel
theorem wd_511 : (Cond.code ⟨"WebCourt", "feed", "(IIIII)I"⟩ prog_1_method_2_code (6 : Nat) (Option.some FieldType.int)) ∈ gtb := gtb_c2 162 (by decide +kernel) rfl
theorem wd_512 : (Cond.methodLink "WebCourt" (93 : Nat) ⟨"WebCourt$Tape", "put", "(I)V"⟩) ∈ gtb := gtb_c2 163 (by decide +kernel) rfl
theorem wd_513 : (Cond.instanceMethod ⟨"WebCourt$Tape", "put", "(I)V"⟩) ∈ gtb := gtb_c2 164 (by decide +kernel) rfl
theorem wd_514 : (Cond.selects "WebCourt$Tape" ⟨"WebCourt$Tape", "put", "(I)V"⟩ ⟨"WebCourt$Tape", "put", "(I)V"⟩) ∈ gtb := gtb_c2 165 (by decide +kernel) rfl
theorem wd_111 : (Cond.initialized "WebCourt$Tape") ∈ gtb := gtb_c1 2 (by decide +kernel) rfl
theorem hd_yX7_put : yX7_put.cls = RX7 ∧ yX7_put.cls ≠ "java/lang/invoke/MethodHandle" ∧ yX7_put.cls ≠ "java/lang/invoke/VarHandle" ∧ (parseMethodDescriptor yX7_put.desc).map (fun d => d.parameters.length) = some 1 := by decide +kernel
set_option maxHeartbeats 4000000 in
set_option maxRecDepth 100000 in
theorem T_X10_feed (l : Launch) (D : va_G) (cy : Nat → ClassId) (a : Nat → Nat) (u : St) (hI_1_1 : fI u 1 1 = 0) (x1 : Int32) (x2 : Int32) (x3 : Int32) (x4 : Int32) (x5 : Int32)  : Mi l D cy (cW cy a) yX10_feed (.code yX10_feed cX10_feed 6 (some .int)) (rmo 1 22) [.ref (a 0), .int x1, .int x2, .int x3, .int x4, .int x5] u (fun (r : Int32) (u' : St) => r = 20) := by
  refine Mi.of (own := RX10) rfl (by decide) (Nat.le_of_ble_eq_true rfl) ?_
  intro p e s m below meth c A Q ls C hret hO hl
  obtain ⟨hx, hb, hml, hown, ht, hK, hA⟩ := id C
  have hl : lv_has ls 6 [(0, .ref (a 0)), (1, .int x1), (2, .int x2), (3, .int x3), (4, .int x4), (5, .int x5)] := hl
  refine lv_aload_n hx hb dX10_feed_0 rfl (lv_at hl 0 rfl) ?_
  refine gf_RX10_12 (v := .ref (a 1)) C hO 0 cW_0 rfl dX10_feed_1 ?_
  refine gf_RX10_89 (v := .int 0) C hO 1 cW_1 (congrArg (fun z : Int32 => some (Value.int z)) hI_1_1) dX10_feed_4 ?_
  refine lv_bipush (v := 20) hx hb dX10_feed_7 (by decide) ?_
  refine lv_iadd hx hb dX10_feed_9 ?_
  refine tE (y := 20) rfl ?_
  refine lv_sipush (v := 1600) hx hb dX10_feed_10 (by decide) ?_
  refine ct_le (tgt := 18) (X := 20) (Y := 1600) hx hb dX10_feed_13 (by decide) rfl rfl (by omega) ?_
  refine lv_aload_n hx hb dX10_feed_18 rfl (lv_at hl 0 rfl) ?_
  refine gf_RX10_12 (v := .ref (a 1)) C hO 0 cW_0 rfl dX10_feed_19 ?_
  refine lv_iload_n hx hb dX10_feed_22 rfl (lv_at hl 1 rfl) ?_
  refine cVv (w := cW cy a) (As := [.int x1]) (rest := []) C hO (T_X7_put_0 l D cy a _ (by exact hI_1_1) (x1)) (cwV 1 ht (gV wd_512 wd_513 wd_514 wd_111 wd_515) rfl rfl rfl hd_yX7_put ⟨Nat.le_of_ble_eq_true rfl, Nat.le_of_ble_eq_true rfl⟩) 1 rfl cW_1 rfl rfl hl.1 (Nat.le_of_ble_eq_true rfl) dX10_feed_23 rfl ⟨Nat.zero_le _, Nat.zero_le _⟩ (fun u2 H locs hp3 hO => ?_)
  have hI_1_1_u2 := hp3
  refine lv_aload_n hx hb dX10_feed_26 rfl (lv_at hl 0 rfl) ?_
  refine gf_RX10_12 (v := .ref (a 1)) C hO 0 cW_0 rfl dX10_feed_27 ?_
  refine lv_iload_n hx hb dX10_feed_30 rfl (lv_at hl 2 rfl) ?_
  refine cVv (w := cW cy a) (As := [.int x2]) (rest := []) C hO (T_X7_put_4 l D cy a _ (by exact hI_1_1_u2) (x2)) (cwV 1 ht (gV wd_512 wd_513 wd_514 wd_111 wd_515) rfl rfl rfl hd_yX7_put ⟨Nat.le_of_ble_eq_true rfl, Nat.le_of_ble_eq_true rfl⟩) 1 rfl cW_1 rfl rfl hl.1 (Nat.le_of_ble_eq_true rfl) dX10_feed_31 rfl ⟨Nat.zero_le _, Nat.zero_le _⟩ (fun u5 H locs hp6 hO => ?_)
  have hI_1_1_u5 := hp6
  refine lv_aload_n hx hb dX10_feed_34 rfl (lv_at hl 0 rfl) ?_
  refine gf_RX10_12 (v := .ref (a 1)) C hO 0 cW_0 rfl dX10_feed_35 ?_
  refine lv_iload_n hx hb dX10_feed_38 rfl (lv_at hl 3 rfl) ?_
  refine cVv (w := cW cy a) (As := [.int x3]) (rest := []) C hO (T_X7_put_8 l D cy a _ (by exact hI_1_1_u5) (x3)) (cwV 1 ht (gV wd_512 wd_513 wd_514 wd_111 wd_515) rfl rfl rfl hd_yX7_put ⟨Nat.le_of_ble_eq_true rfl, Nat.le_of_ble_eq_true rfl⟩) 1 rfl cW_1 rfl rfl hl.1 (Nat.le_of_ble_eq_true rfl) dX10_feed_39 rfl ⟨Nat.zero_le _, Nat.zero_le _⟩ (fun u8 H locs hp9 hO => ?_)
  have hI_1_1_u8 := hp9
  refine lv_aload_n hx hb dX10_feed_42 rfl (lv_at hl 0 rfl) ?_
  refine gf_RX10_12 (v := .ref (a 1)) C hO 0 cW_0 rfl dX10_feed_43 ?_
  refine lv_iload hx hb dX10_feed_46 (lv_at hl 4 rfl) ?_
  refine cVv (w := cW cy a) (As := [.int x4]) (rest := []) C hO (T_X7_put_12 l D cy a _ (by exact hI_1_1_u8) (x4)) (cwV 1 ht (gV wd_512 wd_513 wd_514 wd_111 wd_515) rfl rfl rfl hd_yX7_put ⟨Nat.le_of_ble_eq_true rfl, Nat.le_of_ble_eq_true rfl⟩) 1 rfl cW_1 rfl rfl hl.1 (Nat.le_of_ble_eq_true rfl) dX10_feed_48 rfl ⟨Nat.zero_le _, Nat.zero_le _⟩ (fun u11 H locs hp12 hO => ?_)
  have hI_1_1_u11 := hp12
  refine lv_aload_n hx hb dX10_feed_51 rfl (lv_at hl 0 rfl) ?_
  refine gf_RX10_12 (v := .ref (a 1)) C hO 0 cW_0 rfl dX10_feed_52 ?_
  refine lv_iload hx hb dX10_feed_55 (lv_at hl 5 rfl) ?_
  refine cVv (w := cW cy a) (As := [.int x5]) (rest := []) C hO (T_X7_put_16 l D cy a _ (by exact hI_1_1_u11) (x5)) (cwV 1 ht (gV wd_512 wd_513 wd_514 wd_111 wd_515) rfl rfl rfl hd_yX7_put ⟨Nat.le_of_ble_eq_true rfl, Nat.le_of_ble_eq_true rfl⟩) 1 rfl cW_1 rfl rfl hl.1 (Nat.le_of_ble_eq_true rfl) dX10_feed_57 rfl ⟨Nat.zero_le _, Nat.zero_le _⟩ (fun u14 H locs hp15 hO => ?_)
  have hI_1_1_u14 := hp15
  refine lv_aload_n hx hb dX10_feed_60 rfl (lv_at hl 0 rfl) ?_
  refine gf_RX10_12 (v := .ref (a 1)) C hO 0 cW_0 rfl dX10_feed_61 ?_
  refine gf_RX10_89 (v := .int 20) C hO 1 cW_1 (congrArg (fun z : Int32 => some (Value.int z)) hI_1_1_u14) dX10_feed_64 ?_
  refine hret _ _ _ _ _ _ dX10_feed_67 rfl ?_ hO
  exact rfl
theorem dX10_end_0 : decode cX10_end 0 = .ok (.iload_n 1, 1) := by decide +kernel
theorem dX10_end_1 : decode cX10_end 1 = .ok (.ifCond .lt 14, 3) := by decide +kernel
theorem dX10_end_4 : decode cX10_end 4 = .ok (.iload_n 1, 1) := by decide +kernel
theorem dX10_end_5 : decode cX10_end 5 = .ok (.aload_n 0, 1) := by decide +kernel
theorem dX10_end_6 : decode cX10_end 6 = .ok (.getfield 12, 3) := by decide +kernel
theorem dX10_end_9 : decode cX10_end 9 = .ok (.getfield 89, 3) := by decide +kernel
theorem dX10_end_12 : decode cX10_end 12 = .ok (.if_icmp .le 5, 3) := by decide +kernel
theorem dX10_end_15 : decode cX10_end 15 = .ok (.iconst (-1), 1) := by decide +kernel
theorem dX10_end_16 : decode cX10_end 16 = .ok (.ireturn, 1) := by decide +kernel
theorem dX10_end_17 : decode cX10_end 17 = .ok (.aload_n 0, 1) := by decide +kernel
theorem dX10_end_18 : decode cX10_end 18 = .ok (.getfield 12, 3) := by decide +kernel
theorem dX10_end_21 : decode cX10_end 21 = .ok (.iload_n 1, 1) := by decide +kernel
theorem dX10_end_22 : decode cX10_end 22 = .ok (.putfield 89, 3) := by decide +kernel
theorem dX10_end_25 : decode cX10_end 25 = .ok (.iload_n 1, 1) := by decide +kernel
theorem dX10_end_26 : decode cX10_end 26 = .ok (.ireturn, 1) := by decide +kernel
theorem wd_519 : (Cond.code ⟨"WebCourt", "end", "(I)I"⟩ prog_1_method_3_code (2 : Nat) (Option.some FieldType.int)) ∈ gtb := gtb_c2 170 (by decide +kernel) rfl
theorem pf_RX10_89 {p : Program} {l : Launch} {e : Env} {R : Room} {s : State} {m : MethodId} {args : Array Value} {below : List Frame} {meth : Method} {c : Code} {H : Heap} {locs : List Loc} {cells slots : Nat} {Q : State → Prop} {cc : ByteArray} {pc nL : Nat} {ls : Array Slot} {rest : List Value} {D : va_G} {cy : Nat → ClassId} {A : Nat → Prop} {ws : va_W} {b : Nat} {fs : List Value} {v : Int32} {ws' : va_W} (C : Cx p s m args c cc nL RX10 D cy A) (hO : Wo D A ws s.heap H locs) (q0 : Nat) (he : ws[q0]? = some (b, .inr (7, fs))) (hlen : 1 < fs.length) (hw : ws.set q0 (b, .inr (7, fs.set 1 (.int v))) = ws') (hdg : decode cc pc = .ok (.putfield 89, 3)) (kk : ∀ (H : Heap) (locs : List Loc), Wo D A ws' s.heap H locs → W p l e R s m args below meth c H locs cells slots Q (F0 m (pc + 3) ls rest)) : W p l e R s m args below meth c H locs cells slots Q (F0 m pc ls (.int v :: .ref b :: rest)) := pF (k := 1) (ty := .int) C hO q0 he rfl inFX7 (by decide) wd_144 rfl tyX7 tyX7_ok nmX7 rfl (by decide +kernel) rfl rfl hlen hw hdg kk
set_option maxHeartbeats 4000000 in
set_option maxRecDepth 100000 in
theorem T_X10_end (l : Launch) (D : va_G) (cy : Nat → ClassId) (a : Nat → Nat) (u : St) (hI_1_1 : fI u 1 1 = 0) (x1 : Int32)  : Mi l D cy (cW cy a) yX10_end (.code yX10_end cX10_end 2 (some .int)) (rmo 0 0) [.ref (a 0), .int x1] u (fun (r : Int32) (u' : St) => r = q_end x1) := by
  refine Mi.of (own := RX10) rfl (by decide) (Nat.le_of_ble_eq_true rfl) ?_
  intro p e s m below meth c A Q ls C hret hO hl
  obtain ⟨hx, hb, hml, hown, ht, hK, hA⟩ := id C
  have hl : lv_has ls 2 [(0, .ref (a 0)), (1, .int x1)] := hl
  refine lv_iload_n hx hb dX10_end_0 rfl (lv_at hl 1 rfl) ?_
  refine bs_lt (tgt := 15) (X := (x1).toInt) hx hb dX10_end_1 (by decide) rfl (fun c1 => ?_) (fun c1 => ?_)
  · refine lv_iconst (v := (-1)) hx hb dX10_end_15 (by decide) ?_
    refine hret _ _ _ _ _ _ dX10_end_16 rfl ?_ hO
    exact (by unfold q_end; have z0 : (0 : Int32).toInt = 0 := rfl; have z1 : (-1 : Int32).toInt = -1 := rfl; split <;> first | rfl | (exact i32_eq.mpr (by omega)) | (exfalso; omega))
  · refine lv_iload_n hx hb dX10_end_4 rfl (lv_at hl 1 rfl) ?_
    refine lv_aload_n hx hb dX10_end_5 rfl (lv_at hl 0 rfl) ?_
    refine gf_RX10_12 (v := .ref (a 1)) C hO 0 cW_0 rfl dX10_end_6 ?_
    refine gf_RX10_89 (v := .int 0) C hO 1 cW_1 (congrArg (fun z : Int32 => some (Value.int z)) hI_1_1) dX10_end_9 ?_
    refine cs_le (tgt := 17) (X := (x1).toInt) (Y := 0) hx hb dX10_end_12 (by decide) rfl rfl (fun c2 => ?_) (fun c2 => ?_)
    · refine lv_aload_n hx hb dX10_end_17 rfl (lv_at hl 0 rfl) ?_
      refine gf_RX10_12 (v := .ref (a 1)) C hO 0 cW_0 rfl dX10_end_18 ?_
      refine lv_iload_n hx hb dX10_end_21 rfl (lv_at hl 1 rfl) ?_
      refine pf_RX10_89 C hO 1 cW_1 (Nat.le_of_ble_eq_true rfl) cW_s1_1 dX10_end_22 (fun H locs hO => ?_)
      refine lv_iload_n hx hb dX10_end_25 rfl (lv_at hl 1 rfl) ?_
      refine hret _ _ _ _ _ _ dX10_end_26 rfl ?_ hO
      exact (by unfold q_end; have z0 : (0 : Int32).toInt = 0 := rfl; have z1 : (-1 : Int32).toInt = -1 := rfl; split <;> first | rfl | (exact i32_eq.mpr (by omega)) | (exfalso; omega))
    · refine lv_iconst (v := (-1)) hx hb dX10_end_15 (by decide) ?_
      refine hret _ _ _ _ _ _ dX10_end_16 rfl ?_ hO
      exact (by unfold q_end; have z0 : (0 : Int32).toInt = 0 := rfl; have z1 : (-1 : Int32).toInt = -1 := rfl; split <;> first | rfl | (exact i32_eq.mpr (by omega)) | (exfalso; omega))
theorem dX10_fault_0 : decode cX10_fault 0 = .ok (.iload_n 1, 1) := by decide +kernel
theorem dX10_fault_1 : decode cX10_fault 1 = .ok (.ifCond .ne 11, 3) := by decide +kernel
theorem dX10_fault_4 : decode cX10_fault 4 = .ok (.aload_n 0, 1) := by decide +kernel
theorem dX10_fault_5 : decode cX10_fault 5 = .ok (.getfield 28, 3) := by decide +kernel
theorem dX10_fault_8 : decode cX10_fault 8 = .ok (.getfield 120, 3) := by decide +kernel
theorem dX10_fault_11 : decode cX10_fault 11 = .ok (.ireturn, 1) := by decide +kernel
theorem dX10_fault_12 : decode cX10_fault 12 = .ok (.iload_n 1, 1) := by decide +kernel
theorem dX10_fault_13 : decode cX10_fault 13 = .ok (.iconst 1, 1) := by decide +kernel
theorem dX10_fault_14 : decode cX10_fault 14 = .ok (.if_icmp .ne 13, 3) := by decide +kernel
theorem dX10_fault_17 : decode cX10_fault 17 = .ok (.aload_n 0, 1) := by decide +kernel
theorem dX10_fault_18 : decode cX10_fault 18 = .ok (.getfield 28, 3) := by decide +kernel
theorem dX10_fault_21 : decode cX10_fault 21 = .ok (.getfield 123, 3) := by decide +kernel
theorem dX10_fault_24 : decode cX10_fault 24 = .ok (.goto 4, 3) := by decide +kernel
theorem dX10_fault_27 : decode cX10_fault 27 = .ok (.iconst (-1), 1) := by decide +kernel
theorem dX10_fault_28 : decode cX10_fault 28 = .ok (.ireturn, 1) := by decide +kernel
theorem wd_812 : (Cond.code ⟨"WebCourt", "fault", "(I)I"⟩ prog_1_method_5_code (2 : Nat) (Option.some FieldType.int)) ∈ gtb := gtb_c3 223 (by decide +kernel) rfl
theorem wd_469 : (Cond.fieldLink "WebCourt" (28 : Nat) "WebCourt" "reader" "LWebCourt$Reader;") ∈ gtb := gtb_c2 120 (by decide +kernel) rfl
theorem gf_RX10_28 {p : Program} {l : Launch} {e : Env} {R : Room} {s : State} {m : MethodId} {args : Array Value} {below : List Frame} {meth : Method} {c : Code} {H : Heap} {locs : List Loc} {cells slots : Nat} {Q : State → Prop} {cc : ByteArray} {pc nL : Nat} {ls : Array Slot} {rest : List Value} {D : va_G} {cy : Nat → ClassId} {A : Nat → Prop} {ws : va_W} {b : Nat} {fs : List Value} {v : Value} (C : Cx p s m args c cc nL RX10 D cy A) (hO : Wo D A ws s.heap H locs) (q0 : Nat) (he : ws[q0]? = some (b, .inr (10, fs))) (hv : fs[1]? = some v) (hdg : decode cc pc = .ok (.getfield 28, 3)) (kk : W p l e R s m args below meth c H locs cells slots Q (F0 m (pc + 3) ls (v :: rest))) : W p l e R s m args below meth c H locs cells slots Q (F0 m pc ls (.ref b :: rest)) := gF (k := 1) C hO q0 he rfl inFX10 (by decide) wd_469 rfl hv hdg kk
theorem wd_337 : (Cond.fieldLink "WebCourt" (123 : Nat) "WebCourt$Reader" "place" "I") ∈ gtb := gtb_c1 228 (by decide +kernel) rfl
theorem wd_338 : (Cond.laysFinal "WebCourt$Reader" "WebCourt$Reader" "tape" "LWebCourt$Tape;") ∈ gtb := gtb_c1 229 (by decide +kernel) rfl
theorem wd_340 : (Cond.lays "WebCourt$Reader" "WebCourt$Reader" "web" "LWebCourt$Web;") ∈ gtb := gtb_c1 231 (by decide +kernel) rfl
theorem wd_342 : (Cond.lays "WebCourt$Reader" "WebCourt$Reader" "fault" "I") ∈ gtb := gtb_c1 233 (by decide +kernel) rfl
theorem wd_344 : (Cond.lays "WebCourt$Reader" "WebCourt$Reader" "place" "I") ∈ gtb := gtb_c1 235 (by decide +kernel) rfl
theorem inFX5 : ∀ w ∈ u_ws RX5 TX5 4, w ∈ gtb := by
  show ∀ w ∈ [u_lay RX5 TX5 0, u_lay RX5 TX5 1, u_lay RX5 TX5 2, u_lay RX5 TX5 3], w ∈ gtb
  exact List.forall_mem_cons.mpr ⟨wd_338, List.forall_mem_cons.mpr ⟨wd_340, List.forall_mem_cons.mpr ⟨wd_342, List.forall_mem_cons.mpr ⟨wd_344, fun _ h => absurd h List.not_mem_nil⟩⟩⟩⟩
theorem gf_RX10_123 {p : Program} {l : Launch} {e : Env} {R : Room} {s : State} {m : MethodId} {args : Array Value} {below : List Frame} {meth : Method} {c : Code} {H : Heap} {locs : List Loc} {cells slots : Nat} {Q : State → Prop} {cc : ByteArray} {pc nL : Nat} {ls : Array Slot} {rest : List Value} {D : va_G} {cy : Nat → ClassId} {A : Nat → Prop} {ws : va_W} {b : Nat} {fs : List Value} {v : Value} (C : Cx p s m args c cc nL RX10 D cy A) (hO : Wo D A ws s.heap H locs) (q0 : Nat) (he : ws[q0]? = some (b, .inr (5, fs))) (hv : fs[3]? = some v) (hdg : decode cc pc = .ok (.getfield 123, 3)) (kk : W p l e R s m args below meth c H locs cells slots Q (F0 m (pc + 3) ls (v :: rest))) : W p l e R s m args below meth c H locs cells slots Q (F0 m pc ls (.ref b :: rest)) := gF (k := 3) C hO q0 he rfl inFX5 (by decide) wd_337 rfl hv hdg kk
theorem wd_335 : (Cond.fieldLink "WebCourt" (120 : Nat) "WebCourt$Reader" "fault" "I") ∈ gtb := gtb_c1 226 (by decide +kernel) rfl
theorem gf_RX10_120 {p : Program} {l : Launch} {e : Env} {R : Room} {s : State} {m : MethodId} {args : Array Value} {below : List Frame} {meth : Method} {c : Code} {H : Heap} {locs : List Loc} {cells slots : Nat} {Q : State → Prop} {cc : ByteArray} {pc nL : Nat} {ls : Array Slot} {rest : List Value} {D : va_G} {cy : Nat → ClassId} {A : Nat → Prop} {ws : va_W} {b : Nat} {fs : List Value} {v : Value} (C : Cx p s m args c cc nL RX10 D cy A) (hO : Wo D A ws s.heap H locs) (q0 : Nat) (he : ws[q0]? = some (b, .inr (5, fs))) (hv : fs[2]? = some v) (hdg : decode cc pc = .ok (.getfield 120, 3)) (kk : W p l e R s m args below meth c H locs cells slots Q (F0 m (pc + 3) ls (v :: rest))) : W p l e R s m args below meth c H locs cells slots Q (F0 m pc ls (.ref b :: rest)) := gF (k := 2) C hO q0 he rfl inFX5 (by decide) wd_335 rfl hv hdg kk
set_option maxHeartbeats 4000000 in
set_option maxRecDepth 100000 in
theorem T_X10_fault (l : Launch) (D : va_G) (cy : Nat → ClassId) (a : Nat → Nat) (u : St) (hI_27_2 : fI u 27 2 = 0) (hI_27_3 : fI u 27 3 = (-1)) (x1 : Int32)  : Mi l D cy (cW cy a) yX10_fault (.code yX10_fault cX10_fault 2 (some .int)) (rmo 0 0) [.ref (a 0), .int x1] u (fun (r : Int32) (u' : St) => (r = q_end x1) ∧ (u' = u)) := by
  refine Mi.of (own := RX10) rfl (by decide) (Nat.le_of_ble_eq_true rfl) ?_
  intro p e s m below meth c A Q ls C hret hO hl
  obtain ⟨hx, hb, hml, hown, ht, hK, hA⟩ := id C
  have hl : lv_has ls 2 [(0, .ref (a 0)), (1, .int x1)] := hl
  refine lv_iload_n hx hb dX10_fault_0 rfl (lv_at hl 1 rfl) ?_
  refine bs_ne (tgt := 12) (X := (x1).toInt) hx hb dX10_fault_1 (by decide) rfl (fun c1 => ?_) (fun c1 => ?_)
  · refine lv_iload_n hx hb dX10_fault_12 rfl (lv_at hl 1 rfl) ?_
    refine lv_iconst (v := 1) hx hb dX10_fault_13 (by decide) ?_
    refine cs_ne (tgt := 27) (X := (x1).toInt) (Y := 1) hx hb dX10_fault_14 (by decide) rfl rfl (fun c2 => ?_) (fun c2 => ?_)
    · refine lv_iconst (v := (-1)) hx hb dX10_fault_27 (by decide) ?_
      refine hret _ _ _ _ _ _ dX10_fault_28 rfl ?_ hO
      exact ⟨(by unfold q_end; have z0 : (0 : Int32).toInt = 0 := rfl; have z1 : (-1 : Int32).toInt = -1 := rfl; split <;> first | rfl | (exact i32_eq.mpr (by omega)) | (exfalso; omega)), rfl⟩
    · refine lv_aload_n hx hb dX10_fault_17 rfl (lv_at hl 0 rfl) ?_
      refine gf_RX10_28 (v := .ref (a 27)) C hO 0 cW_0 rfl dX10_fault_18 ?_
      refine gf_RX10_123 (v := .int (-1)) C hO 27 cW_27 (congrArg (fun z : Int32 => some (Value.int z)) hI_27_3) dX10_fault_21 ?_
      refine lv_goto (tgt := 28) hx hb dX10_fault_24 (by decide) ?_
      refine hret _ _ _ _ _ _ dX10_fault_28 rfl ?_ hO
      exact ⟨(by unfold q_end; have z0 : (0 : Int32).toInt = 0 := rfl; have z1 : (-1 : Int32).toInt = -1 := rfl; split <;> first | rfl | (exact i32_eq.mpr (by omega)) | (exfalso; omega)), rfl⟩
  · refine lv_aload_n hx hb dX10_fault_4 rfl (lv_at hl 0 rfl) ?_
    refine gf_RX10_28 (v := .ref (a 27)) C hO 0 cW_0 rfl dX10_fault_5 ?_
    refine gf_RX10_120 (v := .int 0) C hO 27 cW_27 (congrArg (fun z : Int32 => some (Value.int z)) hI_27_2) dX10_fault_8 ?_
    refine hret _ _ _ _ _ _ dX10_fault_11 rfl ?_ hO
    exact ⟨(by unfold q_end; have z0 : (0 : Int32).toInt = 0 := rfl; have z1 : (-1 : Int32).toInt = -1 := rfl; split <;> first | rfl | (exact i32_eq.mpr (by omega)) | (exfalso; omega)), rfl⟩
theorem dX7_advance_0 : decode cX7_advance 0 = .ok (.aload_n 0, 1) := by decide +kernel
theorem dX7_advance_1 : decode cX7_advance 1 = .ok (.getfield 19, 3) := by decide +kernel
theorem dX7_advance_4 : decode cX7_advance 4 = .ok (.aload_n 0, 1) := by decide +kernel
theorem dX7_advance_5 : decode cX7_advance 5 = .ok (.getfield 15, 3) := by decide +kernel
theorem dX7_advance_8 : decode cX7_advance 8 = .ok (.if_icmp .ge 31, 3) := by decide +kernel
theorem dX7_advance_11 : decode cX7_advance 11 = .ok (.aload_n 0, 1) := by decide +kernel
theorem dX7_advance_12 : decode cX7_advance 12 = .ok (.getfield 9, 3) := by decide +kernel
theorem dX7_advance_15 : decode cX7_advance 15 = .ok (.aload_n 0, 1) := by decide +kernel
theorem dX7_advance_16 : decode cX7_advance 16 = .ok (.getfield 19, 3) := by decide +kernel
theorem dX7_advance_19 : decode cX7_advance 19 = .ok (.baload, 1) := by decide +kernel
theorem dX7_advance_20 : decode cX7_advance 20 = .ok (.invokestatic 25, 3) := by decide +kernel
theorem dX7_advance_23 : decode cX7_advance 23 = .ok (.ifCond .eq 16, 3) := by decide +kernel
theorem dX7_advance_26 : decode cX7_advance 26 = .ok (.aload_n 0, 1) := by decide +kernel
theorem dX7_advance_27 : decode cX7_advance 27 = .ok (.dup, 1) := by decide +kernel
theorem dX7_advance_28 : decode cX7_advance 28 = .ok (.getfield 19, 3) := by decide +kernel
theorem dX7_advance_31 : decode cX7_advance 31 = .ok (.iconst 1, 1) := by decide +kernel
theorem dX7_advance_32 : decode cX7_advance 32 = .ok (.iadd, 1) := by decide +kernel
theorem dX7_advance_33 : decode cX7_advance 33 = .ok (.putfield 19, 3) := by decide +kernel
theorem dX7_advance_36 : decode cX7_advance 36 = .ok (.goto (-36), 3) := by decide +kernel
theorem dX7_advance_39 : decode cX7_advance 39 = .ok (.aload_n 0, 1) := by decide +kernel
theorem dX7_advance_40 : decode cX7_advance 40 = .ok (.aload_n 0, 1) := by decide +kernel
theorem dX7_advance_41 : decode cX7_advance 41 = .ok (.getfield 19, 3) := by decide +kernel
theorem dX7_advance_44 : decode cX7_advance 44 = .ok (.putfield 29, 3) := by decide +kernel
theorem dX7_advance_47 : decode cX7_advance 47 = .ok (.aload_n 0, 1) := by decide +kernel
theorem dX7_advance_48 : decode cX7_advance 48 = .ok (.getfield 19, 3) := by decide +kernel
theorem dX7_advance_51 : decode cX7_advance 51 = .ok (.aload_n 0, 1) := by decide +kernel
theorem dX7_advance_52 : decode cX7_advance 52 = .ok (.getfield 15, 3) := by decide +kernel
theorem dX7_advance_55 : decode cX7_advance 55 = .ok (.if_icmp .lt 13, 3) := by decide +kernel
theorem dX7_advance_58 : decode cX7_advance 58 = .ok (.aload_n 0, 1) := by decide +kernel
theorem dX7_advance_59 : decode cX7_advance 59 = .ok (.sipush 202, 3) := by decide +kernel
theorem dX7_advance_62 : decode cX7_advance 62 = .ok (.putfield 32, 3) := by decide +kernel
theorem dX7_advance_65 : decode cX7_advance 65 = .ok (.goto 119, 3) := by decide +kernel
theorem dX7_advance_68 : decode cX7_advance 68 = .ok (.aload_n 0, 1) := by decide +kernel
theorem dX7_advance_69 : decode cX7_advance 69 = .ok (.getfield 9, 3) := by decide +kernel
theorem dX7_advance_72 : decode cX7_advance 72 = .ok (.aload_n 0, 1) := by decide +kernel
theorem dX7_advance_73 : decode cX7_advance 73 = .ok (.getfield 19, 3) := by decide +kernel
theorem dX7_advance_76 : decode cX7_advance 76 = .ok (.baload, 1) := by decide +kernel
theorem dX7_advance_77 : decode cX7_advance 77 = .ok (.invokestatic 35, 3) := by decide +kernel
theorem dX7_advance_80 : decode cX7_advance 80 = .ok (.ifCond .eq 38, 3) := by decide +kernel
theorem dX7_advance_83 : decode cX7_advance 83 = .ok (.aload_n 0, 1) := by decide +kernel
theorem dX7_advance_84 : decode cX7_advance 84 = .ok (.invokevirtual 38, 3) := by decide +kernel
theorem dX7_advance_87 : decode cX7_advance 87 = .ok (.aload_n 0, 1) := by decide +kernel
theorem dX7_advance_88 : decode cX7_advance 88 = .ok (.aload_n 0, 1) := by decide +kernel
theorem dX7_advance_89 : decode cX7_advance 89 = .ok (.getfield 19, 3) := by decide +kernel
theorem dX7_advance_92 : decode cX7_advance 92 = .ok (.aload_n 0, 1) := by decide +kernel
theorem dX7_advance_93 : decode cX7_advance 93 = .ok (.getfield 29, 3) := by decide +kernel
theorem dX7_advance_96 : decode cX7_advance 96 = .ok (.isub, 1) := by decide +kernel
theorem dX7_advance_97 : decode cX7_advance 97 = .ok (.bipush 8, 2) := by decide +kernel
theorem dX7_advance_99 : decode cX7_advance 99 = .ok (.if_icmp .le 9, 3) := by decide +kernel
theorem dX7_advance_102 : decode cX7_advance 102 = .ok (.sipush 203, 3) := by decide +kernel
theorem dX7_advance_105 : decode cX7_advance 105 = .ok (.goto 7, 3) := by decide +kernel
theorem dX7_advance_108 : decode cX7_advance 108 = .ok (.aload_n 0, 1) := by decide +kernel
theorem dX7_advance_109 : decode cX7_advance 109 = .ok (.invokevirtual 41, 3) := by decide +kernel
theorem dX7_advance_112 : decode cX7_advance 112 = .ok (.putfield 32, 3) := by decide +kernel
theorem dX7_advance_115 : decode cX7_advance 115 = .ok (.goto 69, 3) := by decide +kernel
theorem dX7_advance_118 : decode cX7_advance 118 = .ok (.aload_n 0, 1) := by decide +kernel
theorem dX7_advance_119 : decode cX7_advance 119 = .ok (.getfield 9, 3) := by decide +kernel
theorem dX7_advance_122 : decode cX7_advance 122 = .ok (.aload_n 0, 1) := by decide +kernel
theorem dX7_advance_123 : decode cX7_advance 123 = .ok (.getfield 19, 3) := by decide +kernel
theorem dX7_advance_126 : decode cX7_advance 126 = .ok (.baload, 1) := by decide +kernel
theorem dX7_advance_127 : decode cX7_advance 127 = .ok (.invokestatic 45, 3) := by decide +kernel
theorem dX7_advance_130 : decode cX7_advance 130 = .ok (.ifCond .eq 10, 3) := by decide +kernel
theorem dX7_advance_133 : decode cX7_advance 133 = .ok (.aload_n 0, 1) := by decide +kernel
theorem dX7_advance_134 : decode cX7_advance 134 = .ok (.invokevirtual 48, 3) := by decide +kernel
theorem dX7_advance_137 : decode cX7_advance 137 = .ok (.goto 47, 3) := by decide +kernel
theorem dX7_advance_140 : decode cX7_advance 140 = .ok (.aload_n 0, 1) := by decide +kernel
theorem dX7_advance_141 : decode cX7_advance 141 = .ok (.aload_n 0, 1) := by decide +kernel
theorem dX7_advance_142 : decode cX7_advance 142 = .ok (.getfield 9, 3) := by decide +kernel
theorem dX7_advance_145 : decode cX7_advance 145 = .ok (.aload_n 0, 1) := by decide +kernel
theorem dX7_advance_146 : decode cX7_advance 146 = .ok (.getfield 19, 3) := by decide +kernel
theorem dX7_advance_149 : decode cX7_advance 149 = .ok (.baload, 1) := by decide +kernel
theorem dX7_advance_150 : decode cX7_advance 150 = .ok (.invokestatic 51, 3) := by decide +kernel
theorem dX7_advance_153 : decode cX7_advance 153 = .ok (.ifCond .eq 15, 3) := by decide +kernel
theorem dX7_advance_156 : decode cX7_advance 156 = .ok (.aload_n 0, 1) := by decide +kernel
theorem dX7_advance_157 : decode cX7_advance 157 = .ok (.getfield 9, 3) := by decide +kernel
theorem dX7_advance_160 : decode cX7_advance 160 = .ok (.aload_n 0, 1) := by decide +kernel
theorem dX7_advance_161 : decode cX7_advance 161 = .ok (.getfield 19, 3) := by decide +kernel
theorem dX7_advance_164 : decode cX7_advance 164 = .ok (.baload, 1) := by decide +kernel
theorem dX7_advance_165 : decode cX7_advance 165 = .ok (.goto 6, 3) := by decide +kernel
theorem dX7_advance_168 : decode cX7_advance 168 = .ok (.sipush 203, 3) := by decide +kernel
theorem dX7_advance_171 : decode cX7_advance 171 = .ok (.putfield 32, 3) := by decide +kernel
theorem dX7_advance_174 : decode cX7_advance 174 = .ok (.aload_n 0, 1) := by decide +kernel
theorem dX7_advance_175 : decode cX7_advance 175 = .ok (.dup, 1) := by decide +kernel
theorem dX7_advance_176 : decode cX7_advance 176 = .ok (.getfield 19, 3) := by decide +kernel
theorem dX7_advance_179 : decode cX7_advance 179 = .ok (.iconst 1, 1) := by decide +kernel
theorem dX7_advance_180 : decode cX7_advance 180 = .ok (.iadd, 1) := by decide +kernel
theorem dX7_advance_181 : decode cX7_advance 181 = .ok (.putfield 19, 3) := by decide +kernel
theorem dX7_advance_184 : decode cX7_advance 184 = .ok (.return_, 1) := by decide +kernel
theorem wd_543 : (Cond.code ⟨"WebCourt$Tape", "advance", "()V"⟩ prog_9_method_4_code (1 : Nat) (Option.none : Option FieldType)) ∈ gtb := gtb_c2 194 (by decide +kernel) rfl
theorem wd_146 : (Cond.fieldLink "WebCourt$Tape" (19 : Nat) "WebCourt$Tape" "next" "I") ∈ gtb := gtb_c1 37 (by decide +kernel) rfl
theorem gf_RX7_19 {p : Program} {l : Launch} {e : Env} {R : Room} {s : State} {m : MethodId} {args : Array Value} {below : List Frame} {meth : Method} {c : Code} {H : Heap} {locs : List Loc} {cells slots : Nat} {Q : State → Prop} {cc : ByteArray} {pc nL : Nat} {ls : Array Slot} {rest : List Value} {D : va_G} {cy : Nat → ClassId} {A : Nat → Prop} {ws : va_W} {b : Nat} {fs : List Value} {v : Value} (C : Cx p s m args c cc nL RX7 D cy A) (hO : Wo D A ws s.heap H locs) (q0 : Nat) (he : ws[q0]? = some (b, .inr (7, fs))) (hv : fs[2]? = some v) (hdg : decode cc pc = .ok (.getfield 19, 3)) (kk : W p l e R s m args below meth c H locs cells slots Q (F0 m (pc + 3) ls (v :: rest))) : W p l e R s m args below meth c H locs cells slots Q (F0 m pc ls (.ref b :: rest)) := gF (k := 2) C hO q0 he rfl inFX7 (by decide) wd_146 rfl hv hdg kk
theorem wd_148 : (Cond.fieldLink "WebCourt$Tape" (29 : Nat) "WebCourt$Tape" "start" "I") ∈ gtb := gtb_c1 39 (by decide +kernel) rfl
theorem pf_RX7_29 {p : Program} {l : Launch} {e : Env} {R : Room} {s : State} {m : MethodId} {args : Array Value} {below : List Frame} {meth : Method} {c : Code} {H : Heap} {locs : List Loc} {cells slots : Nat} {Q : State → Prop} {cc : ByteArray} {pc nL : Nat} {ls : Array Slot} {rest : List Value} {D : va_G} {cy : Nat → ClassId} {A : Nat → Prop} {ws : va_W} {b : Nat} {fs : List Value} {v : Int32} {ws' : va_W} (C : Cx p s m args c cc nL RX7 D cy A) (hO : Wo D A ws s.heap H locs) (q0 : Nat) (he : ws[q0]? = some (b, .inr (7, fs))) (hlen : 3 < fs.length) (hw : ws.set q0 (b, .inr (7, fs.set 3 (.int v))) = ws') (hdg : decode cc pc = .ok (.putfield 29, 3)) (kk : ∀ (H : Heap) (locs : List Loc), Wo D A ws' s.heap H locs → W p l e R s m args below meth c H locs cells slots Q (F0 m (pc + 3) ls rest)) : W p l e R s m args below meth c H locs cells slots Q (F0 m pc ls (.int v :: .ref b :: rest)) := pF (k := 3) (ty := .int) C hO q0 he rfl inFX7 (by decide) wd_148 rfl tyX7 tyX7_ok nmX7 rfl (by decide +kernel) rfl rfl hlen hw hdg kk
theorem wd_150 : (Cond.fieldLink "WebCourt$Tape" (32 : Nat) "WebCourt$Tape" "kind" "I") ∈ gtb := gtb_c1 41 (by decide +kernel) rfl
theorem pf_RX7_32 {p : Program} {l : Launch} {e : Env} {R : Room} {s : State} {m : MethodId} {args : Array Value} {below : List Frame} {meth : Method} {c : Code} {H : Heap} {locs : List Loc} {cells slots : Nat} {Q : State → Prop} {cc : ByteArray} {pc nL : Nat} {ls : Array Slot} {rest : List Value} {D : va_G} {cy : Nat → ClassId} {A : Nat → Prop} {ws : va_W} {b : Nat} {fs : List Value} {v : Int32} {ws' : va_W} (C : Cx p s m args c cc nL RX7 D cy A) (hO : Wo D A ws s.heap H locs) (q0 : Nat) (he : ws[q0]? = some (b, .inr (7, fs))) (hlen : 4 < fs.length) (hw : ws.set q0 (b, .inr (7, fs.set 4 (.int v))) = ws') (hdg : decode cc pc = .ok (.putfield 32, 3)) (kk : ∀ (H : Heap) (locs : List Loc), Wo D A ws' s.heap H locs → W p l e R s m args below meth c H locs cells slots Q (F0 m (pc + 3) ls rest)) : W p l e R s m args below meth c H locs cells slots Q (F0 m pc ls (.int v :: .ref b :: rest)) := pF (k := 4) (ty := .int) C hO q0 he rfl inFX7 (by decide) wd_150 rfl tyX7 tyX7_ok nmX7 rfl (by decide +kernel) rfl rfl hlen hw hdg kk
set_option maxHeartbeats 4000000 in
set_option maxRecDepth 100000 in
theorem T_X7_advance (l : Launch) (D : va_G) (cy : Nat → ClassId) (a : Nat → Nat) (u : St) (hI_1_1 : fI u 1 1 = 0) (hI_1_2 : fI u 1 2 = 0)   : Mv l D cy (cW cy a) yX7_advance (.code yX7_advance cX7_advance 1 none) (rmo 0 0) [.ref (a 1)] u (fun (u' : St) => u' = (sI (sI u 1 3 0) 1 4 202)) := by
  refine Mv.of (own := RX7) rfl (by decide) (Nat.le_of_ble_eq_true rfl) ?_
  intro p e s m below meth c A Q ls C hret hO hl
  obtain ⟨hx, hb, hml, hown, ht, hK, hA⟩ := id C
  have hl : lv_has ls 1 [(0, .ref (a 1))] := hl
  refine lv_aload_n hx hb dX7_advance_0 rfl (lv_at hl 0 rfl) ?_
  refine gf_RX7_19 (v := .int 0) C hO 1 cW_1 (congrArg (fun z : Int32 => some (Value.int z)) hI_1_2) dX7_advance_1 ?_
  refine lv_aload_n hx hb dX7_advance_4 rfl (lv_at hl 0 rfl) ?_
  refine gf_RX7_15 (v := .int 0) C hO 1 cW_1 (congrArg (fun z : Int32 => some (Value.int z)) hI_1_1) dX7_advance_5 ?_
  refine ct_ge (tgt := 39) (X := 0) (Y := 0) hx hb dX7_advance_8 (by decide) rfl rfl (by omega) ?_
  refine lv_aload_n hx hb dX7_advance_39 rfl (lv_at hl 0 rfl) ?_
  refine lv_aload_n hx hb dX7_advance_40 rfl (lv_at hl 0 rfl) ?_
  refine gf_RX7_19 (v := .int 0) C hO 1 cW_1 (congrArg (fun z : Int32 => some (Value.int z)) hI_1_2) dX7_advance_41 ?_
  refine pf_RX7_29 C hO 1 cW_1 (Nat.le_of_ble_eq_true rfl) cW_s1_3 dX7_advance_44 (fun H locs hO => ?_)
  refine lv_aload_n hx hb dX7_advance_47 rfl (lv_at hl 0 rfl) ?_
  refine gf_RX7_19 (v := .int 0) C hO 1 cW_1 (congrArg (fun z : Int32 => some (Value.int z)) hI_1_2) dX7_advance_48 ?_
  refine lv_aload_n hx hb dX7_advance_51 rfl (lv_at hl 0 rfl) ?_
  refine gf_RX7_15 (v := .int 0) C hO 1 cW_1 (congrArg (fun z : Int32 => some (Value.int z)) hI_1_1) dX7_advance_52 ?_
  refine cn_lt (X := 0) (Y := 0) hx hb dX7_advance_55 rfl rfl (by omega) ?_ (tgt := 68) (by decide)
  refine lv_aload_n hx hb dX7_advance_58 rfl (lv_at hl 0 rfl) ?_
  refine lv_sipush (v := 202) hx hb dX7_advance_59 (by decide) ?_
  refine pf_RX7_32 C hO 1 cW_1 (Nat.le_of_ble_eq_true rfl) cW_s1_4 dX7_advance_62 (fun H locs hO => ?_)
  refine lv_goto (tgt := 184) hx hb dX7_advance_65 (by decide) ?_
  refine hret _ _ _ _ _ dX7_advance_184 ?_ hO
  exact rfl
theorem dX7_rewind_0 : decode cX7_rewind 0 = .ok (.aload_n 0, 1) := by decide +kernel
theorem dX7_rewind_1 : decode cX7_rewind 1 = .ok (.iconst 0, 1) := by decide +kernel
theorem dX7_rewind_2 : decode cX7_rewind 2 = .ok (.putfield 19, 3) := by decide +kernel
theorem dX7_rewind_5 : decode cX7_rewind 5 = .ok (.aload_n 0, 1) := by decide +kernel
theorem dX7_rewind_6 : decode cX7_rewind 6 = .ok (.invokevirtual 22, 3) := by decide +kernel
theorem dX7_rewind_9 : decode cX7_rewind 9 = .ok (.return_, 1) := by decide +kernel
theorem wd_539 : (Cond.code ⟨"WebCourt$Tape", "rewind", "()V"⟩ prog_9_method_3_code (1 : Nat) (Option.none : Option FieldType)) ∈ gtb := gtb_c2 190 (by decide +kernel) rfl
theorem pf_RX7_19 {p : Program} {l : Launch} {e : Env} {R : Room} {s : State} {m : MethodId} {args : Array Value} {below : List Frame} {meth : Method} {c : Code} {H : Heap} {locs : List Loc} {cells slots : Nat} {Q : State → Prop} {cc : ByteArray} {pc nL : Nat} {ls : Array Slot} {rest : List Value} {D : va_G} {cy : Nat → ClassId} {A : Nat → Prop} {ws : va_W} {b : Nat} {fs : List Value} {v : Int32} {ws' : va_W} (C : Cx p s m args c cc nL RX7 D cy A) (hO : Wo D A ws s.heap H locs) (q0 : Nat) (he : ws[q0]? = some (b, .inr (7, fs))) (hlen : 2 < fs.length) (hw : ws.set q0 (b, .inr (7, fs.set 2 (.int v))) = ws') (hdg : decode cc pc = .ok (.putfield 19, 3)) (kk : ∀ (H : Heap) (locs : List Loc), Wo D A ws' s.heap H locs → W p l e R s m args below meth c H locs cells slots Q (F0 m (pc + 3) ls rest)) : W p l e R s m args below meth c H locs cells slots Q (F0 m pc ls (.int v :: .ref b :: rest)) := pF (k := 2) (ty := .int) C hO q0 he rfl inFX7 (by decide) wd_146 rfl tyX7 tyX7_ok nmX7 rfl (by decide +kernel) rfl rfl hlen hw hdg kk
theorem wd_540 : (Cond.methodLink "WebCourt$Tape" (22 : Nat) ⟨"WebCourt$Tape", "advance", "()V"⟩) ∈ gtb := gtb_c2 191 (by decide +kernel) rfl
theorem wd_541 : (Cond.instanceMethod ⟨"WebCourt$Tape", "advance", "()V"⟩) ∈ gtb := gtb_c2 192 (by decide +kernel) rfl
theorem wd_542 : (Cond.selects "WebCourt$Tape" ⟨"WebCourt$Tape", "advance", "()V"⟩ ⟨"WebCourt$Tape", "advance", "()V"⟩) ∈ gtb := gtb_c2 193 (by decide +kernel) rfl
theorem hd_yX7_advance : yX7_advance.cls = RX7 ∧ yX7_advance.cls ≠ "java/lang/invoke/MethodHandle" ∧ yX7_advance.cls ≠ "java/lang/invoke/VarHandle" ∧ (parseMethodDescriptor yX7_advance.desc).map (fun d => d.parameters.length) = some 0 := by decide +kernel
set_option maxHeartbeats 4000000 in
set_option maxRecDepth 100000 in
theorem T_X7_rewind (l : Launch) (D : va_G) (cy : Nat → ClassId) (a : Nat → Nat) (u : St) (hI_1_1 : fI u 1 1 = 0)   : Mv l D cy (cW cy a) yX7_rewind (.code yX7_rewind cX7_rewind 1 none) (rmo 1 20) [.ref (a 1)] u (fun (u' : St) => u' = (sI (sI (sI u 1 2 0) 1 3 0) 1 4 202)) := by
  refine Mv.of (own := RX7) rfl (by decide) (Nat.le_of_ble_eq_true rfl) ?_
  intro p e s m below meth c A Q ls C hret hO hl
  obtain ⟨hx, hb, hml, hown, ht, hK, hA⟩ := id C
  have hl : lv_has ls 1 [(0, .ref (a 1))] := hl
  refine lv_aload_n hx hb dX7_rewind_0 rfl (lv_at hl 0 rfl) ?_
  refine lv_iconst (v := 0) hx hb dX7_rewind_1 (by decide) ?_
  refine pf_RX7_19 C hO 1 cW_1 (Nat.le_of_ble_eq_true rfl) cW_s1_2 dX7_rewind_2 (fun H locs hO => ?_)
  refine lv_aload_n hx hb dX7_rewind_5 rfl (lv_at hl 0 rfl) ?_
  refine cVv (w := cW cy a) (As := []) (rest := []) C hO (T_X7_advance l D cy a _ (by exact hI_1_1) (by exact rfl)) (cwV 0 ht (gV wd_540 wd_541 wd_542 wd_111 wd_543) rfl rfl rfl hd_yX7_advance ⟨Nat.le_of_ble_eq_true rfl, Nat.le_of_ble_eq_true rfl⟩) 1 rfl cW_1 rfl rfl hl.1 (Nat.le_of_ble_eq_true rfl) dX7_rewind_6 rfl ⟨Nat.zero_le _, Nat.zero_le _⟩ (fun u2 H locs hp3 hO => ?_)
  have hu2 := hp3
  rw [hu2] at hO
  refine hret _ _ _ _ _ dX7_rewind_9 ?_ hO
  exact rfl
theorem dX4_clear_0 : decode cX4_clear 0 = .ok (.aload_n 0, 1) := by decide +kernel
theorem dX4_clear_1 : decode cX4_clear 1 = .ok (.iconst 0, 1) := by decide +kernel
theorem dX4_clear_2 : decode cX4_clear 2 = .ok (.putfield 18, 3) := by decide +kernel
theorem dX4_clear_5 : decode cX4_clear 5 = .ok (.aload_n 0, 1) := by decide +kernel
theorem dX4_clear_6 : decode cX4_clear 6 = .ok (.iconst 0, 1) := by decide +kernel
theorem dX4_clear_7 : decode cX4_clear 7 = .ok (.putfield 22, 3) := by decide +kernel
theorem dX4_clear_10 : decode cX4_clear 10 = .ok (.return_, 1) := by decide +kernel
theorem wd_535 : (Cond.code ⟨"WebCourt$Law", "clear", "()V"⟩ prog_6_method_2_code (1 : Nat) (Option.none : Option FieldType)) ∈ gtb := gtb_c2 186 (by decide +kernel) rfl
theorem wd_185 : (Cond.fieldLink "WebCourt$Law" (18 : Nat) "WebCourt$Law" "length" "I") ∈ gtb := gtb_c1 76 (by decide +kernel) rfl
theorem pf_RX4_18 {p : Program} {l : Launch} {e : Env} {R : Room} {s : State} {m : MethodId} {args : Array Value} {below : List Frame} {meth : Method} {c : Code} {H : Heap} {locs : List Loc} {cells slots : Nat} {Q : State → Prop} {cc : ByteArray} {pc nL : Nat} {ls : Array Slot} {rest : List Value} {D : va_G} {cy : Nat → ClassId} {A : Nat → Prop} {ws : va_W} {b : Nat} {fs : List Value} {v : Int32} {ws' : va_W} (C : Cx p s m args c cc nL RX4 D cy A) (hO : Wo D A ws s.heap H locs) (q0 : Nat) (he : ws[q0]? = some (b, .inr (4, fs))) (hlen : 2 < fs.length) (hw : ws.set q0 (b, .inr (4, fs.set 2 (.int v))) = ws') (hdg : decode cc pc = .ok (.putfield 18, 3)) (kk : ∀ (H : Heap) (locs : List Loc), Wo D A ws' s.heap H locs → W p l e R s m args below meth c H locs cells slots Q (F0 m (pc + 3) ls rest)) : W p l e R s m args below meth c H locs cells slots Q (F0 m pc ls (.int v :: .ref b :: rest)) := pF (k := 2) (ty := .int) C hO q0 he rfl inFX4 (by decide) wd_185 rfl tyX4 tyX4_ok nmX4 rfl (by decide +kernel) rfl rfl hlen hw hdg kk
theorem wd_187 : (Cond.fieldLink "WebCourt$Law" (22 : Nat) "WebCourt$Law" "units" "I") ∈ gtb := gtb_c1 78 (by decide +kernel) rfl
theorem pf_RX4_22 {p : Program} {l : Launch} {e : Env} {R : Room} {s : State} {m : MethodId} {args : Array Value} {below : List Frame} {meth : Method} {c : Code} {H : Heap} {locs : List Loc} {cells slots : Nat} {Q : State → Prop} {cc : ByteArray} {pc nL : Nat} {ls : Array Slot} {rest : List Value} {D : va_G} {cy : Nat → ClassId} {A : Nat → Prop} {ws : va_W} {b : Nat} {fs : List Value} {v : Int32} {ws' : va_W} (C : Cx p s m args c cc nL RX4 D cy A) (hO : Wo D A ws s.heap H locs) (q0 : Nat) (he : ws[q0]? = some (b, .inr (4, fs))) (hlen : 4 < fs.length) (hw : ws.set q0 (b, .inr (4, fs.set 4 (.int v))) = ws') (hdg : decode cc pc = .ok (.putfield 22, 3)) (kk : ∀ (H : Heap) (locs : List Loc), Wo D A ws' s.heap H locs → W p l e R s m args below meth c H locs cells slots Q (F0 m (pc + 3) ls rest)) : W p l e R s m args below meth c H locs cells slots Q (F0 m pc ls (.int v :: .ref b :: rest)) := pF (k := 4) (ty := .int) C hO q0 he rfl inFX4 (by decide) wd_187 rfl tyX4 tyX4_ok nmX4 rfl (by decide +kernel) rfl rfl hlen hw hdg kk
set_option maxHeartbeats 4000000 in
set_option maxRecDepth 100000 in
theorem T_X4_clear (l : Launch) (D : va_G) (cy : Nat → ClassId) (a : Nat → Nat) (u : St)    : Mv l D cy (cW cy a) yX4_clear (.code yX4_clear cX4_clear 1 none) (rmo 0 0) [.ref (a 24)] u (fun (u' : St) => u' = (sI (sI u 24 2 0) 24 4 0)) := by
  refine Mv.of (own := RX4) rfl (by decide) (Nat.le_of_ble_eq_true rfl) ?_
  intro p e s m below meth c A Q ls C hret hO hl
  obtain ⟨hx, hb, hml, hown, ht, hK, hA⟩ := id C
  have hl : lv_has ls 1 [(0, .ref (a 24))] := hl
  refine lv_aload_n hx hb dX4_clear_0 rfl (lv_at hl 0 rfl) ?_
  refine lv_iconst (v := 0) hx hb dX4_clear_1 (by decide) ?_
  refine pf_RX4_18 C hO 24 cW_24 (Nat.le_of_ble_eq_true rfl) cW_s24_2 dX4_clear_2 (fun H locs hO => ?_)
  refine lv_aload_n hx hb dX4_clear_5 rfl (lv_at hl 0 rfl) ?_
  refine lv_iconst (v := 0) hx hb dX4_clear_6 (by decide) ?_
  refine pf_RX4_22 C hO 24 cW_24 (Nat.le_of_ble_eq_true rfl) cW_s24_4 dX4_clear_7 (fun H locs hO => ?_)
  refine hret _ _ _ _ _ dX4_clear_10 ?_ hO
  exact rfl
theorem dX9_clear_0 : decode cX9_clear 0 = .ok (.aload_n 0, 1) := by decide +kernel
theorem dX9_clear_1 : decode cX9_clear 1 = .ok (.getfield 40, 3) := by decide +kernel
theorem dX9_clear_4 : decode cX9_clear 4 = .ok (.invokevirtual 44, 3) := by decide +kernel
theorem dX9_clear_7 : decode cX9_clear 7 = .ok (.aload_n 0, 1) := by decide +kernel
theorem dX9_clear_8 : decode cX9_clear 8 = .ok (.iconst 0, 1) := by decide +kernel
theorem dX9_clear_9 : decode cX9_clear 9 = .ok (.putfield 47, 3) := by decide +kernel
theorem dX9_clear_12 : decode cX9_clear 12 = .ok (.aload_n 0, 1) := by decide +kernel
theorem dX9_clear_13 : decode cX9_clear 13 = .ok (.iconst 0, 1) := by decide +kernel
theorem dX9_clear_14 : decode cX9_clear 14 = .ok (.putfield 51, 3) := by decide +kernel
theorem dX9_clear_17 : decode cX9_clear 17 = .ok (.aload_n 0, 1) := by decide +kernel
theorem dX9_clear_18 : decode cX9_clear 18 = .ok (.iconst 0, 1) := by decide +kernel
theorem dX9_clear_19 : decode cX9_clear 19 = .ok (.putfield 54, 3) := by decide +kernel
theorem dX9_clear_22 : decode cX9_clear 22 = .ok (.aload_n 0, 1) := by decide +kernel
theorem dX9_clear_23 : decode cX9_clear 23 = .ok (.iconst 0, 1) := by decide +kernel
theorem dX9_clear_24 : decode cX9_clear 24 = .ok (.putfield 57, 3) := by decide +kernel
theorem dX9_clear_27 : decode cX9_clear 27 = .ok (.aload_n 0, 1) := by decide +kernel
theorem dX9_clear_28 : decode cX9_clear 28 = .ok (.iconst 0, 1) := by decide +kernel
theorem dX9_clear_29 : decode cX9_clear 29 = .ok (.putfield 60, 3) := by decide +kernel
theorem dX9_clear_32 : decode cX9_clear 32 = .ok (.aload_n 0, 1) := by decide +kernel
theorem dX9_clear_33 : decode cX9_clear 33 = .ok (.iconst 0, 1) := by decide +kernel
theorem dX9_clear_34 : decode cX9_clear 34 = .ok (.putfield 63, 3) := by decide +kernel
theorem dX9_clear_37 : decode cX9_clear 37 = .ok (.aload_n 0, 1) := by decide +kernel
theorem dX9_clear_38 : decode cX9_clear 38 = .ok (.iconst 0, 1) := by decide +kernel
theorem dX9_clear_39 : decode cX9_clear 39 = .ok (.putfield 66, 3) := by decide +kernel
theorem dX9_clear_42 : decode cX9_clear 42 = .ok (.aload_n 0, 1) := by decide +kernel
theorem dX9_clear_43 : decode cX9_clear 43 = .ok (.iconst 0, 1) := by decide +kernel
theorem dX9_clear_44 : decode cX9_clear 44 = .ok (.putfield 69, 3) := by decide +kernel
theorem dX9_clear_47 : decode cX9_clear 47 = .ok (.aload_n 0, 1) := by decide +kernel
theorem dX9_clear_48 : decode cX9_clear 48 = .ok (.iconst 0, 1) := by decide +kernel
theorem dX9_clear_49 : decode cX9_clear 49 = .ok (.putfield 72, 3) := by decide +kernel
theorem dX9_clear_52 : decode cX9_clear 52 = .ok (.return_, 1) := by decide +kernel
theorem wd_531 : (Cond.code ⟨"WebCourt$Web", "clear", "()V"⟩ prog_11_method_2_code (1 : Nat) (Option.none : Option FieldType)) ∈ gtb := gtb_c2 182 (by decide +kernel) rfl
theorem wd_247 : (Cond.fieldLink "WebCourt$Web" (40 : Nat) "WebCourt$Web" "law" "LWebCourt$Law;") ∈ gtb := gtb_c1 138 (by decide +kernel) rfl
theorem gf_RX9_40 {p : Program} {l : Launch} {e : Env} {R : Room} {s : State} {m : MethodId} {args : Array Value} {below : List Frame} {meth : Method} {c : Code} {H : Heap} {locs : List Loc} {cells slots : Nat} {Q : State → Prop} {cc : ByteArray} {pc nL : Nat} {ls : Array Slot} {rest : List Value} {D : va_G} {cy : Nat → ClassId} {A : Nat → Prop} {ws : va_W} {b : Nat} {fs : List Value} {v : Value} (C : Cx p s m args c cc nL RX9 D cy A) (hO : Wo D A ws s.heap H locs) (q0 : Nat) (he : ws[q0]? = some (b, .inr (9, fs))) (hv : fs[8]? = some v) (hdg : decode cc pc = .ok (.getfield 40, 3)) (kk : W p l e R s m args below meth c H locs cells slots Q (F0 m (pc + 3) ls (v :: rest))) : W p l e R s m args below meth c H locs cells slots Q (F0 m pc ls (.ref b :: rest)) := gF (k := 8) C hO q0 he rfl inFX9 (by decide) wd_247 rfl hv hdg kk
theorem wd_532 : (Cond.methodLink "WebCourt$Web" (44 : Nat) ⟨"WebCourt$Law", "clear", "()V"⟩) ∈ gtb := gtb_c2 183 (by decide +kernel) rfl
theorem wd_533 : (Cond.instanceMethod ⟨"WebCourt$Law", "clear", "()V"⟩) ∈ gtb := gtb_c2 184 (by decide +kernel) rfl
theorem wd_534 : (Cond.selects "WebCourt$Law" ⟨"WebCourt$Law", "clear", "()V"⟩ ⟨"WebCourt$Law", "clear", "()V"⟩) ∈ gtb := gtb_c2 185 (by decide +kernel) rfl
theorem wd_113 : (Cond.initialized "WebCourt$Law") ∈ gtb := gtb_c1 4 (by decide +kernel) rfl
theorem hd_yX4_clear : yX4_clear.cls = RX4 ∧ yX4_clear.cls ≠ "java/lang/invoke/MethodHandle" ∧ yX4_clear.cls ≠ "java/lang/invoke/VarHandle" ∧ (parseMethodDescriptor yX4_clear.desc).map (fun d => d.parameters.length) = some 0 := by decide +kernel
theorem wd_251 : (Cond.fieldLink "WebCourt$Web" (47 : Nat) "WebCourt$Web" "knots" "I") ∈ gtb := gtb_c1 142 (by decide +kernel) rfl
theorem pf_RX9_47 {p : Program} {l : Launch} {e : Env} {R : Room} {s : State} {m : MethodId} {args : Array Value} {below : List Frame} {meth : Method} {c : Code} {H : Heap} {locs : List Loc} {cells slots : Nat} {Q : State → Prop} {cc : ByteArray} {pc nL : Nat} {ls : Array Slot} {rest : List Value} {D : va_G} {cy : Nat → ClassId} {A : Nat → Prop} {ws : va_W} {b : Nat} {fs : List Value} {v : Int32} {ws' : va_W} (C : Cx p s m args c cc nL RX9 D cy A) (hO : Wo D A ws s.heap H locs) (q0 : Nat) (he : ws[q0]? = some (b, .inr (9, fs))) (hlen : 9 < fs.length) (hw : ws.set q0 (b, .inr (9, fs.set 9 (.int v))) = ws') (hdg : decode cc pc = .ok (.putfield 47, 3)) (kk : ∀ (H : Heap) (locs : List Loc), Wo D A ws' s.heap H locs → W p l e R s m args below meth c H locs cells slots Q (F0 m (pc + 3) ls rest)) : W p l e R s m args below meth c H locs cells slots Q (F0 m pc ls (.int v :: .ref b :: rest)) := pF (k := 9) (ty := .int) C hO q0 he rfl inFX9 (by decide) wd_251 rfl tyX9 tyX9_ok nmX9 rfl (by decide +kernel) rfl rfl hlen hw hdg kk
theorem wd_256 : (Cond.fieldLink "WebCourt$Web" (51 : Nat) "WebCourt$Web" "lines" "I") ∈ gtb := gtb_c1 147 (by decide +kernel) rfl
theorem pf_RX9_51 {p : Program} {l : Launch} {e : Env} {R : Room} {s : State} {m : MethodId} {args : Array Value} {below : List Frame} {meth : Method} {c : Code} {H : Heap} {locs : List Loc} {cells slots : Nat} {Q : State → Prop} {cc : ByteArray} {pc nL : Nat} {ls : Array Slot} {rest : List Value} {D : va_G} {cy : Nat → ClassId} {A : Nat → Prop} {ws : va_W} {b : Nat} {fs : List Value} {v : Int32} {ws' : va_W} (C : Cx p s m args c cc nL RX9 D cy A) (hO : Wo D A ws s.heap H locs) (q0 : Nat) (he : ws[q0]? = some (b, .inr (9, fs))) (hlen : 10 < fs.length) (hw : ws.set q0 (b, .inr (9, fs.set 10 (.int v))) = ws') (hdg : decode cc pc = .ok (.putfield 51, 3)) (kk : ∀ (H : Heap) (locs : List Loc), Wo D A ws' s.heap H locs → W p l e R s m args below meth c H locs cells slots Q (F0 m (pc + 3) ls rest)) : W p l e R s m args below meth c H locs cells slots Q (F0 m pc ls (.int v :: .ref b :: rest)) := pF (k := 10) (ty := .int) C hO q0 he rfl inFX9 (by decide) wd_256 rfl tyX9 tyX9_ok nmX9 rfl (by decide +kernel) rfl rfl hlen hw hdg kk
theorem wd_261 : (Cond.fieldLink "WebCourt$Web" (54 : Nat) "WebCourt$Web" "pleas" "I") ∈ gtb := gtb_c1 152 (by decide +kernel) rfl
theorem pf_RX9_54 {p : Program} {l : Launch} {e : Env} {R : Room} {s : State} {m : MethodId} {args : Array Value} {below : List Frame} {meth : Method} {c : Code} {H : Heap} {locs : List Loc} {cells slots : Nat} {Q : State → Prop} {cc : ByteArray} {pc nL : Nat} {ls : Array Slot} {rest : List Value} {D : va_G} {cy : Nat → ClassId} {A : Nat → Prop} {ws : va_W} {b : Nat} {fs : List Value} {v : Int32} {ws' : va_W} (C : Cx p s m args c cc nL RX9 D cy A) (hO : Wo D A ws s.heap H locs) (q0 : Nat) (he : ws[q0]? = some (b, .inr (9, fs))) (hlen : 11 < fs.length) (hw : ws.set q0 (b, .inr (9, fs.set 11 (.int v))) = ws') (hdg : decode cc pc = .ok (.putfield 54, 3)) (kk : ∀ (H : Heap) (locs : List Loc), Wo D A ws' s.heap H locs → W p l e R s m args below meth c H locs cells slots Q (F0 m (pc + 3) ls rest)) : W p l e R s m args below meth c H locs cells slots Q (F0 m pc ls (.int v :: .ref b :: rest)) := pF (k := 11) (ty := .int) C hO q0 he rfl inFX9 (by decide) wd_261 rfl tyX9 tyX9_ok nmX9 rfl (by decide +kernel) rfl rfl hlen hw hdg kk
theorem wd_268 : (Cond.fieldLink "WebCourt$Web" (57 : Nat) "WebCourt$Web" "cases" "I") ∈ gtb := gtb_c1 159 (by decide +kernel) rfl
theorem pf_RX9_57 {p : Program} {l : Launch} {e : Env} {R : Room} {s : State} {m : MethodId} {args : Array Value} {below : List Frame} {meth : Method} {c : Code} {H : Heap} {locs : List Loc} {cells slots : Nat} {Q : State → Prop} {cc : ByteArray} {pc nL : Nat} {ls : Array Slot} {rest : List Value} {D : va_G} {cy : Nat → ClassId} {A : Nat → Prop} {ws : va_W} {b : Nat} {fs : List Value} {v : Int32} {ws' : va_W} (C : Cx p s m args c cc nL RX9 D cy A) (hO : Wo D A ws s.heap H locs) (q0 : Nat) (he : ws[q0]? = some (b, .inr (9, fs))) (hlen : 12 < fs.length) (hw : ws.set q0 (b, .inr (9, fs.set 12 (.int v))) = ws') (hdg : decode cc pc = .ok (.putfield 57, 3)) (kk : ∀ (H : Heap) (locs : List Loc), Wo D A ws' s.heap H locs → W p l e R s m args below meth c H locs cells slots Q (F0 m (pc + 3) ls rest)) : W p l e R s m args below meth c H locs cells slots Q (F0 m pc ls (.int v :: .ref b :: rest)) := pF (k := 12) (ty := .int) C hO q0 he rfl inFX9 (by decide) wd_268 rfl tyX9 tyX9_ok nmX9 rfl (by decide +kernel) rfl rfl hlen hw hdg kk
theorem wd_274 : (Cond.fieldLink "WebCourt$Web" (60 : Nat) "WebCourt$Web" "sticky" "I") ∈ gtb := gtb_c1 165 (by decide +kernel) rfl
theorem pf_RX9_60 {p : Program} {l : Launch} {e : Env} {R : Room} {s : State} {m : MethodId} {args : Array Value} {below : List Frame} {meth : Method} {c : Code} {H : Heap} {locs : List Loc} {cells slots : Nat} {Q : State → Prop} {cc : ByteArray} {pc nL : Nat} {ls : Array Slot} {rest : List Value} {D : va_G} {cy : Nat → ClassId} {A : Nat → Prop} {ws : va_W} {b : Nat} {fs : List Value} {v : Int32} {ws' : va_W} (C : Cx p s m args c cc nL RX9 D cy A) (hO : Wo D A ws s.heap H locs) (q0 : Nat) (he : ws[q0]? = some (b, .inr (9, fs))) (hlen : 13 < fs.length) (hw : ws.set q0 (b, .inr (9, fs.set 13 (.int v))) = ws') (hdg : decode cc pc = .ok (.putfield 60, 3)) (kk : ∀ (H : Heap) (locs : List Loc), Wo D A ws' s.heap H locs → W p l e R s m args below meth c H locs cells slots Q (F0 m (pc + 3) ls rest)) : W p l e R s m args below meth c H locs cells slots Q (F0 m pc ls (.int v :: .ref b :: rest)) := pF (k := 13) (ty := .int) C hO q0 he rfl inFX9 (by decide) wd_274 rfl tyX9 tyX9_ok nmX9 rfl (by decide +kernel) rfl rfl hlen hw hdg kk
theorem wd_278 : (Cond.fieldLink "WebCourt$Web" (63 : Nat) "WebCourt$Web" "bench" "I") ∈ gtb := gtb_c1 169 (by decide +kernel) rfl
theorem pf_RX9_63 {p : Program} {l : Launch} {e : Env} {R : Room} {s : State} {m : MethodId} {args : Array Value} {below : List Frame} {meth : Method} {c : Code} {H : Heap} {locs : List Loc} {cells slots : Nat} {Q : State → Prop} {cc : ByteArray} {pc nL : Nat} {ls : Array Slot} {rest : List Value} {D : va_G} {cy : Nat → ClassId} {A : Nat → Prop} {ws : va_W} {b : Nat} {fs : List Value} {v : Int32} {ws' : va_W} (C : Cx p s m args c cc nL RX9 D cy A) (hO : Wo D A ws s.heap H locs) (q0 : Nat) (he : ws[q0]? = some (b, .inr (9, fs))) (hlen : 14 < fs.length) (hw : ws.set q0 (b, .inr (9, fs.set 14 (.int v))) = ws') (hdg : decode cc pc = .ok (.putfield 63, 3)) (kk : ∀ (H : Heap) (locs : List Loc), Wo D A ws' s.heap H locs → W p l e R s m args below meth c H locs cells slots Q (F0 m (pc + 3) ls rest)) : W p l e R s m args below meth c H locs cells slots Q (F0 m pc ls (.int v :: .ref b :: rest)) := pF (k := 14) (ty := .int) C hO q0 he rfl inFX9 (by decide) wd_278 rfl tyX9 tyX9_ok nmX9 rfl (by decide +kernel) rfl rfl hlen hw hdg kk
theorem wd_280 : (Cond.fieldLink "WebCourt$Web" (66 : Nat) "WebCourt$Web" "back" "I") ∈ gtb := gtb_c1 171 (by decide +kernel) rfl
theorem pf_RX9_66 {p : Program} {l : Launch} {e : Env} {R : Room} {s : State} {m : MethodId} {args : Array Value} {below : List Frame} {meth : Method} {c : Code} {H : Heap} {locs : List Loc} {cells slots : Nat} {Q : State → Prop} {cc : ByteArray} {pc nL : Nat} {ls : Array Slot} {rest : List Value} {D : va_G} {cy : Nat → ClassId} {A : Nat → Prop} {ws : va_W} {b : Nat} {fs : List Value} {v : Int32} {ws' : va_W} (C : Cx p s m args c cc nL RX9 D cy A) (hO : Wo D A ws s.heap H locs) (q0 : Nat) (he : ws[q0]? = some (b, .inr (9, fs))) (hlen : 15 < fs.length) (hw : ws.set q0 (b, .inr (9, fs.set 15 (.int v))) = ws') (hdg : decode cc pc = .ok (.putfield 66, 3)) (kk : ∀ (H : Heap) (locs : List Loc), Wo D A ws' s.heap H locs → W p l e R s m args below meth c H locs cells slots Q (F0 m (pc + 3) ls rest)) : W p l e R s m args below meth c H locs cells slots Q (F0 m pc ls (.int v :: .ref b :: rest)) := pF (k := 15) (ty := .int) C hO q0 he rfl inFX9 (by decide) wd_280 rfl tyX9 tyX9_ok nmX9 rfl (by decide +kernel) rfl rfl hlen hw hdg kk
theorem wd_284 : (Cond.fieldLink "WebCourt$Web" (69 : Nat) "WebCourt$Web" "draw" "I") ∈ gtb := gtb_c1 175 (by decide +kernel) rfl
theorem pf_RX9_69 {p : Program} {l : Launch} {e : Env} {R : Room} {s : State} {m : MethodId} {args : Array Value} {below : List Frame} {meth : Method} {c : Code} {H : Heap} {locs : List Loc} {cells slots : Nat} {Q : State → Prop} {cc : ByteArray} {pc nL : Nat} {ls : Array Slot} {rest : List Value} {D : va_G} {cy : Nat → ClassId} {A : Nat → Prop} {ws : va_W} {b : Nat} {fs : List Value} {v : Int32} {ws' : va_W} (C : Cx p s m args c cc nL RX9 D cy A) (hO : Wo D A ws s.heap H locs) (q0 : Nat) (he : ws[q0]? = some (b, .inr (9, fs))) (hlen : 16 < fs.length) (hw : ws.set q0 (b, .inr (9, fs.set 16 (.int v))) = ws') (hdg : decode cc pc = .ok (.putfield 69, 3)) (kk : ∀ (H : Heap) (locs : List Loc), Wo D A ws' s.heap H locs → W p l e R s m args below meth c H locs cells slots Q (F0 m (pc + 3) ls rest)) : W p l e R s m args below meth c H locs cells slots Q (F0 m pc ls (.int v :: .ref b :: rest)) := pF (k := 16) (ty := .int) C hO q0 he rfl inFX9 (by decide) wd_284 rfl tyX9 tyX9_ok nmX9 rfl (by decide +kernel) rfl rfl hlen hw hdg kk
theorem wd_287 : (Cond.fieldLink "WebCourt$Web" (72 : Nat) "WebCourt$Web" "toldOnce" "I") ∈ gtb := gtb_c1 178 (by decide +kernel) rfl
theorem pf_RX9_72 {p : Program} {l : Launch} {e : Env} {R : Room} {s : State} {m : MethodId} {args : Array Value} {below : List Frame} {meth : Method} {c : Code} {H : Heap} {locs : List Loc} {cells slots : Nat} {Q : State → Prop} {cc : ByteArray} {pc nL : Nat} {ls : Array Slot} {rest : List Value} {D : va_G} {cy : Nat → ClassId} {A : Nat → Prop} {ws : va_W} {b : Nat} {fs : List Value} {v : Int32} {ws' : va_W} (C : Cx p s m args c cc nL RX9 D cy A) (hO : Wo D A ws s.heap H locs) (q0 : Nat) (he : ws[q0]? = some (b, .inr (9, fs))) (hlen : 17 < fs.length) (hw : ws.set q0 (b, .inr (9, fs.set 17 (.int v))) = ws') (hdg : decode cc pc = .ok (.putfield 72, 3)) (kk : ∀ (H : Heap) (locs : List Loc), Wo D A ws' s.heap H locs → W p l e R s m args below meth c H locs cells slots Q (F0 m (pc + 3) ls rest)) : W p l e R s m args below meth c H locs cells slots Q (F0 m pc ls (.int v :: .ref b :: rest)) := pF (k := 17) (ty := .int) C hO q0 he rfl inFX9 (by decide) wd_287 rfl tyX9 tyX9_ok nmX9 rfl (by decide +kernel) rfl rfl hlen hw hdg kk
set_option maxHeartbeats 4000000 in
set_option maxRecDepth 100000 in
theorem T_X9_clear (l : Launch) (D : va_G) (cy : Nat → ClassId) (a : Nat → Nat) (u : St)    : Mv l D cy (cW cy a) yX9_clear (.code yX9_clear cX9_clear 1 none) (rmo 1 20) [.ref (a 15)] u (fun (u' : St) => u' = (sI (sI (sI (sI (sI (sI (sI (sI (sI (sI (sI u 24 2 0) 24 4 0) 15 9 0) 15 10 0) 15 11 0) 15 12 0) 15 13 0) 15 14 0) 15 15 0) 15 16 0) 15 17 0)) := by
  refine Mv.of (own := RX9) rfl (by decide) (Nat.le_of_ble_eq_true rfl) ?_
  intro p e s m below meth c A Q ls C hret hO hl
  obtain ⟨hx, hb, hml, hown, ht, hK, hA⟩ := id C
  have hl : lv_has ls 1 [(0, .ref (a 15))] := hl
  refine lv_aload_n hx hb dX9_clear_0 rfl (lv_at hl 0 rfl) ?_
  refine gf_RX9_40 (v := .ref (a 24)) C hO 15 cW_15 rfl dX9_clear_1 ?_
  refine cVv (w := cW cy a) (As := []) (rest := []) C hO (T_X4_clear l D cy a _ ) (cwV 0 ht (gV wd_532 wd_533 wd_534 wd_113 wd_535) rfl rfl rfl hd_yX4_clear ⟨Nat.le_of_ble_eq_true rfl, Nat.le_of_ble_eq_true rfl⟩) 24 rfl cW_24 rfl rfl hl.1 (Nat.le_of_ble_eq_true rfl) dX9_clear_4 rfl ⟨Nat.zero_le _, Nat.zero_le _⟩ (fun u2 H locs hp3 hO => ?_)
  have hu2 := hp3
  rw [hu2] at hO
  refine lv_aload_n hx hb dX9_clear_7 rfl (lv_at hl 0 rfl) ?_
  refine lv_iconst (v := 0) hx hb dX9_clear_8 (by decide) ?_
  refine pf_RX9_47 C hO 15 cW_15 (Nat.le_of_ble_eq_true rfl) cW_s15_9 dX9_clear_9 (fun H locs hO => ?_)
  refine lv_aload_n hx hb dX9_clear_12 rfl (lv_at hl 0 rfl) ?_
  refine lv_iconst (v := 0) hx hb dX9_clear_13 (by decide) ?_
  refine pf_RX9_51 C hO 15 cW_15 (Nat.le_of_ble_eq_true rfl) cW_s15_10 dX9_clear_14 (fun H locs hO => ?_)
  refine lv_aload_n hx hb dX9_clear_17 rfl (lv_at hl 0 rfl) ?_
  refine lv_iconst (v := 0) hx hb dX9_clear_18 (by decide) ?_
  refine pf_RX9_54 C hO 15 cW_15 (Nat.le_of_ble_eq_true rfl) cW_s15_11 dX9_clear_19 (fun H locs hO => ?_)
  refine lv_aload_n hx hb dX9_clear_22 rfl (lv_at hl 0 rfl) ?_
  refine lv_iconst (v := 0) hx hb dX9_clear_23 (by decide) ?_
  refine pf_RX9_57 C hO 15 cW_15 (Nat.le_of_ble_eq_true rfl) cW_s15_12 dX9_clear_24 (fun H locs hO => ?_)
  refine lv_aload_n hx hb dX9_clear_27 rfl (lv_at hl 0 rfl) ?_
  refine lv_iconst (v := 0) hx hb dX9_clear_28 (by decide) ?_
  refine pf_RX9_60 C hO 15 cW_15 (Nat.le_of_ble_eq_true rfl) cW_s15_13 dX9_clear_29 (fun H locs hO => ?_)
  refine lv_aload_n hx hb dX9_clear_32 rfl (lv_at hl 0 rfl) ?_
  refine lv_iconst (v := 0) hx hb dX9_clear_33 (by decide) ?_
  refine pf_RX9_63 C hO 15 cW_15 (Nat.le_of_ble_eq_true rfl) cW_s15_14 dX9_clear_34 (fun H locs hO => ?_)
  refine lv_aload_n hx hb dX9_clear_37 rfl (lv_at hl 0 rfl) ?_
  refine lv_iconst (v := 0) hx hb dX9_clear_38 (by decide) ?_
  refine pf_RX9_66 C hO 15 cW_15 (Nat.le_of_ble_eq_true rfl) cW_s15_15 dX9_clear_39 (fun H locs hO => ?_)
  refine lv_aload_n hx hb dX9_clear_42 rfl (lv_at hl 0 rfl) ?_
  refine lv_iconst (v := 0) hx hb dX9_clear_43 (by decide) ?_
  refine pf_RX9_69 C hO 15 cW_15 (Nat.le_of_ble_eq_true rfl) cW_s15_16 dX9_clear_44 (fun H locs hO => ?_)
  refine lv_aload_n hx hb dX9_clear_47 rfl (lv_at hl 0 rfl) ?_
  refine lv_iconst (v := 0) hx hb dX9_clear_48 (by decide) ?_
  refine pf_RX9_72 C hO 15 cW_15 (Nat.le_of_ble_eq_true rfl) cW_s15_17 dX9_clear_49 (fun H locs hO => ?_)
  refine hret _ _ _ _ _ dX9_clear_52 ?_ hO
  exact rfl
theorem dX5_read_0 : decode cX5_read 0 = .ok (.aload_n 0, 1) := by decide +kernel
theorem dX5_read_1 : decode cX5_read 1 = .ok (.aload_n 1, 1) := by decide +kernel
theorem dX5_read_2 : decode cX5_read 2 = .ok (.putfield 15, 3) := by decide +kernel
theorem dX5_read_5 : decode cX5_read 5 = .ok (.aload_n 0, 1) := by decide +kernel
theorem dX5_read_6 : decode cX5_read 6 = .ok (.getfield 15, 3) := by decide +kernel
theorem dX5_read_9 : decode cX5_read 9 = .ok (.invokevirtual 23, 3) := by decide +kernel
theorem dX5_read_12 : decode cX5_read 12 = .ok (.aload_n 0, 1) := by decide +kernel
theorem dX5_read_13 : decode cX5_read 13 = .ok (.iconst 0, 1) := by decide +kernel
theorem dX5_read_14 : decode cX5_read 14 = .ok (.putfield 28, 3) := by decide +kernel
theorem dX5_read_17 : decode cX5_read 17 = .ok (.aload_n 0, 1) := by decide +kernel
theorem dX5_read_18 : decode cX5_read 18 = .ok (.iconst (-1), 1) := by decide +kernel
theorem dX5_read_19 : decode cX5_read 19 = .ok (.putfield 19, 3) := by decide +kernel
theorem dX5_read_22 : decode cX5_read 22 = .ok (.aload_n 0, 1) := by decide +kernel
theorem dX5_read_23 : decode cX5_read 23 = .ok (.getfield 9, 3) := by decide +kernel
theorem dX5_read_26 : decode cX5_read 26 = .ok (.invokevirtual 31, 3) := by decide +kernel
theorem dX5_read_29 : decode cX5_read 29 = .ok (.iconst 1, 1) := by decide +kernel
theorem dX5_read_30 : decode cX5_read 30 = .ok (.istore_n 2, 1) := by decide +kernel
theorem dX5_read_31 : decode cX5_read 31 = .ok (.iconst 0, 1) := by decide +kernel
theorem dX5_read_32 : decode cX5_read 32 = .ok (.istore_n 3, 1) := by decide +kernel
theorem dX5_read_33 : decode cX5_read 33 = .ok (.iload_n 3, 1) := by decide +kernel
theorem dX5_read_34 : decode cX5_read 34 = .ok (.sipush 1600, 3) := by decide +kernel
theorem dX5_read_37 : decode cX5_read 37 = .ok (.if_icmp .gt 48, 3) := by decide +kernel
theorem dX5_read_40 : decode cX5_read 40 = .ok (.iload_n 2, 1) := by decide +kernel
theorem dX5_read_41 : decode cX5_read 41 = .ok (.ifCond .eq 44, 3) := by decide +kernel
theorem dX5_read_44 : decode cX5_read 44 = .ok (.aload_n 0, 1) := by decide +kernel
theorem dX5_read_45 : decode cX5_read 45 = .ok (.getfield 9, 3) := by decide +kernel
theorem dX5_read_48 : decode cX5_read 48 = .ok (.getfield 36, 3) := by decide +kernel
theorem dX5_read_51 : decode cX5_read 51 = .ok (.sipush 202, 3) := by decide +kernel
theorem dX5_read_54 : decode cX5_read 54 = .ok (.if_icmp .eq 31, 3) := by decide +kernel
theorem dX5_read_57 : decode cX5_read 57 = .ok (.aload_n 0, 1) := by decide +kernel
theorem dX5_read_58 : decode cX5_read 58 = .ok (.invokevirtual 39, 3) := by decide +kernel
theorem dX5_read_61 : decode cX5_read 61 = .ok (.ifCond .eq 16, 3) := by decide +kernel
theorem dX5_read_64 : decode cX5_read 64 = .ok (.aload_n 0, 1) := by decide +kernel
theorem dX5_read_65 : decode cX5_read 65 = .ok (.bipush 59, 2) := by decide +kernel
theorem dX5_read_67 : decode cX5_read 67 = .ok (.invokevirtual 43, 3) := by decide +kernel
theorem dX5_read_70 : decode cX5_read 70 = .ok (.ifCond .eq 7, 3) := by decide +kernel
theorem dX5_read_73 : decode cX5_read 73 = .ok (.iconst 1, 1) := by decide +kernel
theorem dX5_read_74 : decode cX5_read 74 = .ok (.goto 4, 3) := by decide +kernel
theorem dX5_read_77 : decode cX5_read 77 = .ok (.iconst 0, 1) := by decide +kernel
theorem dX5_read_78 : decode cX5_read 78 = .ok (.istore_n 2, 1) := by decide +kernel
theorem dX5_read_79 : decode cX5_read 79 = .ok (.iinc 3 1, 3) := by decide +kernel
theorem dX5_read_82 : decode cX5_read 82 = .ok (.goto (-49), 3) := by decide +kernel
theorem dX5_read_85 : decode cX5_read 85 = .ok (.iload_n 2, 1) := by decide +kernel
theorem dX5_read_86 : decode cX5_read 86 = .ok (.ireturn, 1) := by decide +kernel
theorem wd_527 : (Cond.code ⟨"WebCourt$Reader", "read", "(LWebCourt$Web;)Z"⟩ prog_7_method_2_code (4 : Nat) (Option.some FieldType.boolean)) ∈ gtb := gtb_c2 178 (by decide +kernel) rfl
theorem wd_333 : (Cond.fieldLink "WebCourt$Reader" (15 : Nat) "WebCourt$Reader" "web" "LWebCourt$Web;") ∈ gtb := gtb_c1 224 (by decide +kernel) rfl
theorem pf_RX5_15 {p : Program} {l : Launch} {e : Env} {R : Room} {s : State} {m : MethodId} {args : Array Value} {below : List Frame} {meth : Method} {c : Code} {H : Heap} {locs : List Loc} {cells slots : Nat} {Q : State → Prop} {cc : ByteArray} {pc nL : Nat} {ls : Array Slot} {rest : List Value} {D : va_G} {cy : Nat → ClassId} {A : Nat → Prop} {ws : va_W} {b : Nat} {fs : List Value} {v : Nat} {ws' : va_W} (C : Cx p s m args c cc nL RX5 D cy A) (hO : Wo D A ws s.heap H locs) (q0 : Nat) (he : ws[q0]? = some (b, .inr (5, fs))) (hlen : 1 < fs.length) (hw : ws.set q0 (b, .inr (5, fs.set 1 (.ref v))) = ws') (hdg : decode cc pc = .ok (.putfield 15, 3)) (kk : ∀ (H : Heap) (locs : List Loc), Wo D A ws' s.heap H locs → W p l e R s m args below meth c H locs cells slots Q (F0 m (pc + 3) ls rest)) : W p l e R s m args below meth c H locs cells slots Q (F0 m pc ls (.ref v :: .ref b :: rest)) := pF (k := 1) (ty := .object "WebCourt$Web") C hO q0 he rfl inFX5 (by decide) wd_333 rfl tyX5 tyX5_ok nmX5 rfl (by decide +kernel) rfl rfl hlen hw hdg kk
theorem gf_RX5_15 {p : Program} {l : Launch} {e : Env} {R : Room} {s : State} {m : MethodId} {args : Array Value} {below : List Frame} {meth : Method} {c : Code} {H : Heap} {locs : List Loc} {cells slots : Nat} {Q : State → Prop} {cc : ByteArray} {pc nL : Nat} {ls : Array Slot} {rest : List Value} {D : va_G} {cy : Nat → ClassId} {A : Nat → Prop} {ws : va_W} {b : Nat} {fs : List Value} {v : Value} (C : Cx p s m args c cc nL RX5 D cy A) (hO : Wo D A ws s.heap H locs) (q0 : Nat) (he : ws[q0]? = some (b, .inr (5, fs))) (hv : fs[1]? = some v) (hdg : decode cc pc = .ok (.getfield 15, 3)) (kk : W p l e R s m args below meth c H locs cells slots Q (F0 m (pc + 3) ls (v :: rest))) : W p l e R s m args below meth c H locs cells slots Q (F0 m pc ls (.ref b :: rest)) := gF (k := 1) C hO q0 he rfl inFX5 (by decide) wd_333 rfl hv hdg kk
theorem wd_528 : (Cond.methodLink "WebCourt$Reader" (23 : Nat) ⟨"WebCourt$Web", "clear", "()V"⟩) ∈ gtb := gtb_c2 179 (by decide +kernel) rfl
theorem wd_529 : (Cond.instanceMethod ⟨"WebCourt$Web", "clear", "()V"⟩) ∈ gtb := gtb_c2 180 (by decide +kernel) rfl
theorem wd_530 : (Cond.selects "WebCourt$Web" ⟨"WebCourt$Web", "clear", "()V"⟩ ⟨"WebCourt$Web", "clear", "()V"⟩) ∈ gtb := gtb_c2 181 (by decide +kernel) rfl
theorem wd_112 : (Cond.initialized "WebCourt$Web") ∈ gtb := gtb_c1 3 (by decide +kernel) rfl
theorem hd_yX9_clear : yX9_clear.cls = RX9 ∧ yX9_clear.cls ≠ "java/lang/invoke/MethodHandle" ∧ yX9_clear.cls ≠ "java/lang/invoke/VarHandle" ∧ (parseMethodDescriptor yX9_clear.desc).map (fun d => d.parameters.length) = some 0 := by decide +kernel
theorem wd_334 : (Cond.fieldLink "WebCourt$Reader" (28 : Nat) "WebCourt$Reader" "fault" "I") ∈ gtb := gtb_c1 225 (by decide +kernel) rfl
theorem pf_RX5_28 {p : Program} {l : Launch} {e : Env} {R : Room} {s : State} {m : MethodId} {args : Array Value} {below : List Frame} {meth : Method} {c : Code} {H : Heap} {locs : List Loc} {cells slots : Nat} {Q : State → Prop} {cc : ByteArray} {pc nL : Nat} {ls : Array Slot} {rest : List Value} {D : va_G} {cy : Nat → ClassId} {A : Nat → Prop} {ws : va_W} {b : Nat} {fs : List Value} {v : Int32} {ws' : va_W} (C : Cx p s m args c cc nL RX5 D cy A) (hO : Wo D A ws s.heap H locs) (q0 : Nat) (he : ws[q0]? = some (b, .inr (5, fs))) (hlen : 2 < fs.length) (hw : ws.set q0 (b, .inr (5, fs.set 2 (.int v))) = ws') (hdg : decode cc pc = .ok (.putfield 28, 3)) (kk : ∀ (H : Heap) (locs : List Loc), Wo D A ws' s.heap H locs → W p l e R s m args below meth c H locs cells slots Q (F0 m (pc + 3) ls rest)) : W p l e R s m args below meth c H locs cells slots Q (F0 m pc ls (.int v :: .ref b :: rest)) := pF (k := 2) (ty := .int) C hO q0 he rfl inFX5 (by decide) wd_334 rfl tyX5 tyX5_ok nmX5 rfl (by decide +kernel) rfl rfl hlen hw hdg kk
theorem wd_336 : (Cond.fieldLink "WebCourt$Reader" (19 : Nat) "WebCourt$Reader" "place" "I") ∈ gtb := gtb_c1 227 (by decide +kernel) rfl
theorem pf_RX5_19 {p : Program} {l : Launch} {e : Env} {R : Room} {s : State} {m : MethodId} {args : Array Value} {below : List Frame} {meth : Method} {c : Code} {H : Heap} {locs : List Loc} {cells slots : Nat} {Q : State → Prop} {cc : ByteArray} {pc nL : Nat} {ls : Array Slot} {rest : List Value} {D : va_G} {cy : Nat → ClassId} {A : Nat → Prop} {ws : va_W} {b : Nat} {fs : List Value} {v : Int32} {ws' : va_W} (C : Cx p s m args c cc nL RX5 D cy A) (hO : Wo D A ws s.heap H locs) (q0 : Nat) (he : ws[q0]? = some (b, .inr (5, fs))) (hlen : 3 < fs.length) (hw : ws.set q0 (b, .inr (5, fs.set 3 (.int v))) = ws') (hdg : decode cc pc = .ok (.putfield 19, 3)) (kk : ∀ (H : Heap) (locs : List Loc), Wo D A ws' s.heap H locs → W p l e R s m args below meth c H locs cells slots Q (F0 m (pc + 3) ls rest)) : W p l e R s m args below meth c H locs cells slots Q (F0 m pc ls (.int v :: .ref b :: rest)) := pF (k := 3) (ty := .int) C hO q0 he rfl inFX5 (by decide) wd_336 rfl tyX5 tyX5_ok nmX5 rfl (by decide +kernel) rfl rfl hlen hw hdg kk
theorem wd_332 : (Cond.fieldLink "WebCourt$Reader" (9 : Nat) "WebCourt$Reader" "tape" "LWebCourt$Tape;") ∈ gtb := gtb_c1 223 (by decide +kernel) rfl
theorem gf_RX5_9 {p : Program} {l : Launch} {e : Env} {R : Room} {s : State} {m : MethodId} {args : Array Value} {below : List Frame} {meth : Method} {c : Code} {H : Heap} {locs : List Loc} {cells slots : Nat} {Q : State → Prop} {cc : ByteArray} {pc nL : Nat} {ls : Array Slot} {rest : List Value} {D : va_G} {cy : Nat → ClassId} {A : Nat → Prop} {ws : va_W} {b : Nat} {fs : List Value} {v : Value} (C : Cx p s m args c cc nL RX5 D cy A) (hO : Wo D A ws s.heap H locs) (q0 : Nat) (he : ws[q0]? = some (b, .inr (5, fs))) (hv : fs[0]? = some v) (hdg : decode cc pc = .ok (.getfield 9, 3)) (kk : W p l e R s m args below meth c H locs cells slots Q (F0 m (pc + 3) ls (v :: rest))) : W p l e R s m args below meth c H locs cells slots Q (F0 m pc ls (.ref b :: rest)) := gF (k := 0) C hO q0 he rfl inFX5 (by decide) wd_332 rfl hv hdg kk
theorem wd_536 : (Cond.methodLink "WebCourt$Reader" (31 : Nat) ⟨"WebCourt$Tape", "rewind", "()V"⟩) ∈ gtb := gtb_c2 187 (by decide +kernel) rfl
theorem wd_537 : (Cond.instanceMethod ⟨"WebCourt$Tape", "rewind", "()V"⟩) ∈ gtb := gtb_c2 188 (by decide +kernel) rfl
theorem wd_538 : (Cond.selects "WebCourt$Tape" ⟨"WebCourt$Tape", "rewind", "()V"⟩ ⟨"WebCourt$Tape", "rewind", "()V"⟩) ∈ gtb := gtb_c2 189 (by decide +kernel) rfl
theorem hd_yX7_rewind : yX7_rewind.cls = RX7 ∧ yX7_rewind.cls ≠ "java/lang/invoke/MethodHandle" ∧ yX7_rewind.cls ≠ "java/lang/invoke/VarHandle" ∧ (parseMethodDescriptor yX7_rewind.desc).map (fun d => d.parameters.length) = some 0 := by decide +kernel
theorem wd_149 : (Cond.fieldLink "WebCourt$Reader" (36 : Nat) "WebCourt$Tape" "kind" "I") ∈ gtb := gtb_c1 40 (by decide +kernel) rfl
theorem gf_RX5_36 {p : Program} {l : Launch} {e : Env} {R : Room} {s : State} {m : MethodId} {args : Array Value} {below : List Frame} {meth : Method} {c : Code} {H : Heap} {locs : List Loc} {cells slots : Nat} {Q : State → Prop} {cc : ByteArray} {pc nL : Nat} {ls : Array Slot} {rest : List Value} {D : va_G} {cy : Nat → ClassId} {A : Nat → Prop} {ws : va_W} {b : Nat} {fs : List Value} {v : Value} (C : Cx p s m args c cc nL RX5 D cy A) (hO : Wo D A ws s.heap H locs) (q0 : Nat) (he : ws[q0]? = some (b, .inr (7, fs))) (hv : fs[4]? = some v) (hdg : decode cc pc = .ok (.getfield 36, 3)) (kk : W p l e R s m args below meth c H locs cells slots Q (F0 m (pc + 3) ls (v :: rest))) : W p l e R s m args below meth c H locs cells slots Q (F0 m pc ls (.ref b :: rest)) := gF (k := 4) C hO q0 he rfl inFX7 (by decide) wd_149 rfl hv hdg kk
set_option maxHeartbeats 4000000 in
set_option maxRecDepth 100000 in
theorem T_X5_read (l : Launch) (D : va_G) (cy : Nat → ClassId) (a : Nat → Nat) (u : St) (hI_1_1 : fI u 1 1 = 0)   : Mi l D cy (cW cy a) yX5_read (.code yX5_read cX5_read 4 (some .boolean)) (rmo 2 40) [.ref (a 27), .ref (a 15)] u (fun (r : Int32) (u' : St) => (r = 1) ∧ (u' = (sI (sI (sI (sI (sI (sI (sI (sI (sI (sI (sI (sI (sI (sI (sI (sI (sR u 2 (a 15)) 24 2 0) 24 4 0) 15 9 0) 15 10 0) 15 11 0) 15 12 0) 15 13 0) 15 14 0) 15 15 0) 15 16 0) 15 17 0) 27 2 0) 27 3 (-1)) 1 2 0) 1 3 0) 1 4 202))) := by
  refine Mi.of (own := RX5) rfl (by decide) (Nat.le_of_ble_eq_true rfl) ?_
  intro p e s m below meth c A Q ls C hret hO hl
  obtain ⟨hx, hb, hml, hown, ht, hK, hA⟩ := id C
  have hl : lv_has ls 4 [(0, .ref (a 27)), (1, .ref (a 15))] := hl
  refine lv_aload_n hx hb dX5_read_0 rfl (lv_at hl 0 rfl) ?_
  refine lv_aload_n hx hb dX5_read_1 rfl (lv_at hl 1 rfl) ?_
  refine pf_RX5_15 C hO 27 cW_27 (Nat.le_of_ble_eq_true rfl) cW_s27_1 dX5_read_2 (fun H locs hO => ?_)
  refine lv_aload_n hx hb dX5_read_5 rfl (lv_at hl 0 rfl) ?_
  refine gf_RX5_15 (v := .ref (a 15)) C hO 27 cW_27 rfl dX5_read_6 ?_
  refine cVv (w := cW cy a) (As := []) (rest := []) C hO (T_X9_clear l D cy a _ ) (cwV 0 ht (gV wd_528 wd_529 wd_530 wd_112 wd_531) rfl rfl rfl hd_yX9_clear ⟨Nat.le_of_ble_eq_true rfl, Nat.le_of_ble_eq_true rfl⟩) 15 rfl cW_15 rfl rfl hl.1 (Nat.le_of_ble_eq_true rfl) dX5_read_9 rfl ⟨Nat.zero_le _, Nat.zero_le _⟩ (fun u2 H locs hp3 hO => ?_)
  have hu2 := hp3
  rw [hu2] at hO
  refine lv_aload_n hx hb dX5_read_12 rfl (lv_at hl 0 rfl) ?_
  refine lv_iconst (v := 0) hx hb dX5_read_13 (by decide) ?_
  refine pf_RX5_28 C hO 27 cW_27 (Nat.le_of_ble_eq_true rfl) cW_s27_2 dX5_read_14 (fun H locs hO => ?_)
  refine lv_aload_n hx hb dX5_read_17 rfl (lv_at hl 0 rfl) ?_
  refine lv_iconst (v := (-1)) hx hb dX5_read_18 (by decide) ?_
  refine pf_RX5_19 C hO 27 cW_27 (Nat.le_of_ble_eq_true rfl) cW_s27_3 dX5_read_19 (fun H locs hO => ?_)
  refine lv_aload_n hx hb dX5_read_22 rfl (lv_at hl 0 rfl) ?_
  refine gf_RX5_9 (v := .ref (a 1)) C hO 27 cW_27 rfl dX5_read_23 ?_
  refine cVv (w := cW cy a) (As := []) (rest := []) C hO (T_X7_rewind l D cy a _ (by exact hI_1_1)) (cwV 0 ht (gV wd_536 wd_537 wd_538 wd_111 wd_539) rfl rfl rfl hd_yX7_rewind ⟨Nat.le_of_ble_eq_true rfl, Nat.le_of_ble_eq_true rfl⟩) 1 rfl cW_1 rfl rfl hl.1 (Nat.le_of_ble_eq_true rfl) dX5_read_26 rfl ⟨Nat.zero_le _, Nat.zero_le _⟩ (fun u5 H locs hp6 hO => ?_)
  have hu5 := hp6
  rw [hu5] at hO
  refine lv_iconst (v := 1) hx hb dX5_read_29 (by decide) ?_
  refine lv_istore_n (lv' := [(2, .int 1), (0, .ref (a 27)), (1, .ref (a 15))]) hx hb dX5_read_30 rfl hl (by decide) rfl (fun ls hl => ?_)
  refine lv_iconst (v := 0) hx hb dX5_read_31 (by decide) ?_
  refine lv_istore_n (lv' := [(3, .int 0), (2, .int 1), (0, .ref (a 27)), (1, .ref (a 15))]) hx hb dX5_read_32 rfl hl (by decide) rfl (fun ls hl => ?_)
  refine lv_iload_n hx hb dX5_read_33 rfl (lv_at hl 0 rfl) ?_
  refine lv_sipush (v := 1600) hx hb dX5_read_34 (by decide) ?_
  refine cn_gt (X := 0) (Y := 1600) hx hb dX5_read_37 rfl rfl (by omega) ?_ (tgt := 85) (by decide)
  refine lv_iload_n hx hb dX5_read_40 rfl (lv_at hl 1 rfl) ?_
  refine bn_eq (X := 1) hx hb dX5_read_41 rfl (by omega) ?_ (tgt := 85) (by decide)
  refine lv_aload_n hx hb dX5_read_44 rfl (lv_at hl 2 rfl) ?_
  refine gf_RX5_9 (v := .ref (a 1)) C hO 27 cW_27 rfl dX5_read_45 ?_
  refine gf_RX5_36 (v := .int 202) C hO 1 cW_1 rfl dX5_read_48 ?_
  refine lv_sipush (v := 202) hx hb dX5_read_51 (by decide) ?_
  refine ct_eq (tgt := 85) (X := 202) (Y := 202) hx hb dX5_read_54 (by decide) rfl rfl (by omega) ?_
  refine lv_iload_n hx hb dX5_read_85 rfl (lv_at hl 1 rfl) ?_
  refine hret _ _ _ _ _ _ dX5_read_86 rfl ?_ hO
  exact ⟨rfl, rfl⟩
theorem dX2_open_0 : decode cX2_open 0 = .ok (.aload_n 0, 1) := by decide +kernel
theorem dX2_open_1 : decode cX2_open 1 = .ok (.aload_n 1, 1) := by decide +kernel
theorem dX2_open_2 : decode cX2_open 2 = .ok (.putfield 15, 3) := by decide +kernel
theorem dX2_open_5 : decode cX2_open 5 = .ok (.aload_n 0, 1) := by decide +kernel
theorem dX2_open_6 : decode cX2_open 6 = .ok (.getfield 9, 3) := by decide +kernel
theorem dX2_open_9 : decode cX2_open 9 = .ok (.iconst 0, 1) := by decide +kernel
theorem dX2_open_10 : decode cX2_open 10 = .ok (.aload_n 1, 1) := by decide +kernel
theorem dX2_open_11 : decode cX2_open 11 = .ok (.getfield 19, 3) := by decide +kernel
theorem dX2_open_14 : decode cX2_open 14 = .ok (.ifCond .le 10, 3) := by decide +kernel
theorem dX2_open_17 : decode cX2_open 17 = .ok (.aload_n 1, 1) := by decide +kernel
theorem dX2_open_18 : decode cX2_open 18 = .ok (.getfield 25, 3) := by decide +kernel
theorem dX2_open_21 : decode cX2_open 21 = .ok (.goto 4, 3) := by decide +kernel
theorem dX2_open_24 : decode cX2_open 24 = .ok (.iconst (-1), 1) := by decide +kernel
theorem dX2_open_25 : decode cX2_open 25 = .ok (.iastore, 1) := by decide +kernel
theorem dX2_open_26 : decode cX2_open 26 = .ok (.aload_n 0, 1) := by decide +kernel
theorem dX2_open_27 : decode cX2_open 27 = .ok (.getfield 9, 3) := by decide +kernel
theorem dX2_open_30 : decode cX2_open 30 = .ok (.iconst 1, 1) := by decide +kernel
theorem dX2_open_31 : decode cX2_open 31 = .ok (.iconst 0, 1) := by decide +kernel
theorem dX2_open_32 : decode cX2_open 32 = .ok (.iastore, 1) := by decide +kernel
theorem dX2_open_33 : decode cX2_open 33 = .ok (.aload_n 0, 1) := by decide +kernel
theorem dX2_open_34 : decode cX2_open 34 = .ok (.getfield 9, 3) := by decide +kernel
theorem dX2_open_37 : decode cX2_open 37 = .ok (.iconst 2, 1) := by decide +kernel
theorem dX2_open_38 : decode cX2_open 38 = .ok (.iconst 0, 1) := by decide +kernel
theorem dX2_open_39 : decode cX2_open 39 = .ok (.iastore, 1) := by decide +kernel
theorem dX2_open_40 : decode cX2_open 40 = .ok (.aload_n 0, 1) := by decide +kernel
theorem dX2_open_41 : decode cX2_open 41 = .ok (.getfield 9, 3) := by decide +kernel
theorem dX2_open_44 : decode cX2_open 44 = .ok (.iconst 3, 1) := by decide +kernel
theorem dX2_open_45 : decode cX2_open 45 = .ok (.aload_n 1, 1) := by decide +kernel
theorem dX2_open_46 : decode cX2_open 46 = .ok (.getfield 28, 3) := by decide +kernel
theorem dX2_open_49 : decode cX2_open 49 = .ok (.iastore, 1) := by decide +kernel
theorem dX2_open_50 : decode cX2_open 50 = .ok (.aload_n 0, 1) := by decide +kernel
theorem dX2_open_51 : decode cX2_open 51 = .ok (.getfield 9, 3) := by decide +kernel
theorem dX2_open_54 : decode cX2_open 54 = .ok (.iconst 4, 1) := by decide +kernel
theorem dX2_open_55 : decode cX2_open 55 = .ok (.aload_n 1, 1) := by decide +kernel
theorem dX2_open_56 : decode cX2_open 56 = .ok (.getfield 31, 3) := by decide +kernel
theorem dX2_open_59 : decode cX2_open 59 = .ok (.iastore, 1) := by decide +kernel
theorem dX2_open_60 : decode cX2_open 60 = .ok (.iconst 0, 1) := by decide +kernel
theorem dX2_open_61 : decode cX2_open 61 = .ok (.istore_n 2, 1) := by decide +kernel
theorem dX2_open_62 : decode cX2_open 62 = .ok (.iload_n 2, 1) := by decide +kernel
theorem dX2_open_63 : decode cX2_open 63 = .ok (.bipush 6, 2) := by decide +kernel
theorem dX2_open_65 : decode cX2_open 65 = .ok (.if_icmp .ge 65, 3) := by decide +kernel
theorem dX2_open_68 : decode cX2_open 68 = .ok (.aload_n 0, 1) := by decide +kernel
theorem dX2_open_69 : decode cX2_open 69 = .ok (.getfield 9, 3) := by decide +kernel
theorem dX2_open_72 : decode cX2_open 72 = .ok (.iconst 5, 1) := by decide +kernel
theorem dX2_open_73 : decode cX2_open 73 = .ok (.iload_n 2, 1) := by decide +kernel
theorem dX2_open_74 : decode cX2_open 74 = .ok (.iadd, 1) := by decide +kernel
theorem dX2_open_75 : decode cX2_open 75 = .ok (.iconst 0, 1) := by decide +kernel
theorem dX2_open_76 : decode cX2_open 76 = .ok (.iastore, 1) := by decide +kernel
theorem dX2_open_77 : decode cX2_open 77 = .ok (.aload_n 0, 1) := by decide +kernel
theorem dX2_open_78 : decode cX2_open 78 = .ok (.getfield 9, 3) := by decide +kernel
theorem dX2_open_81 : decode cX2_open 81 = .ok (.bipush 11, 2) := by decide +kernel
theorem dX2_open_83 : decode cX2_open 83 = .ok (.iload_n 2, 1) := by decide +kernel
theorem dX2_open_84 : decode cX2_open 84 = .ok (.iadd, 1) := by decide +kernel
theorem dX2_open_85 : decode cX2_open 85 = .ok (.iload_n 2, 1) := by decide +kernel
theorem dX2_open_86 : decode cX2_open 86 = .ok (.aload_n 1, 1) := by decide +kernel
theorem dX2_open_87 : decode cX2_open 87 = .ok (.getfield 34, 3) := by decide +kernel
theorem dX2_open_90 : decode cX2_open 90 = .ok (.if_icmp .ge 12, 3) := by decide +kernel
theorem dX2_open_93 : decode cX2_open 93 = .ok (.aload_n 1, 1) := by decide +kernel
theorem dX2_open_94 : decode cX2_open 94 = .ok (.getfield 37, 3) := by decide +kernel
theorem dX2_open_97 : decode cX2_open 97 = .ok (.iload_n 2, 1) := by decide +kernel
theorem dX2_open_98 : decode cX2_open 98 = .ok (.iaload, 1) := by decide +kernel
theorem dX2_open_99 : decode cX2_open 99 = .ok (.goto 4, 3) := by decide +kernel
theorem dX2_open_102 : decode cX2_open 102 = .ok (.iconst 0, 1) := by decide +kernel
theorem dX2_open_103 : decode cX2_open 103 = .ok (.iastore, 1) := by decide +kernel
theorem dX2_open_104 : decode cX2_open 104 = .ok (.aload_n 0, 1) := by decide +kernel
theorem dX2_open_105 : decode cX2_open 105 = .ok (.getfield 9, 3) := by decide +kernel
theorem dX2_open_108 : decode cX2_open 108 = .ok (.bipush 17, 2) := by decide +kernel
theorem dX2_open_110 : decode cX2_open 110 = .ok (.iload_n 2, 1) := by decide +kernel
theorem dX2_open_111 : decode cX2_open 111 = .ok (.iadd, 1) := by decide +kernel
theorem dX2_open_112 : decode cX2_open 112 = .ok (.iconst 0, 1) := by decide +kernel
theorem dX2_open_113 : decode cX2_open 113 = .ok (.iastore, 1) := by decide +kernel
theorem dX2_open_114 : decode cX2_open 114 = .ok (.aload_n 0, 1) := by decide +kernel
theorem dX2_open_115 : decode cX2_open 115 = .ok (.getfield 9, 3) := by decide +kernel
theorem dX2_open_118 : decode cX2_open 118 = .ok (.bipush 23, 2) := by decide +kernel
theorem dX2_open_120 : decode cX2_open 120 = .ok (.iload_n 2, 1) := by decide +kernel
theorem dX2_open_121 : decode cX2_open 121 = .ok (.iadd, 1) := by decide +kernel
theorem dX2_open_122 : decode cX2_open 122 = .ok (.iconst 0, 1) := by decide +kernel
theorem dX2_open_123 : decode cX2_open 123 = .ok (.iastore, 1) := by decide +kernel
theorem dX2_open_124 : decode cX2_open 124 = .ok (.iinc 2 1, 3) := by decide +kernel
theorem dX2_open_127 : decode cX2_open 127 = .ok (.goto (-65), 3) := by decide +kernel
theorem dX2_open_130 : decode cX2_open 130 = .ok (.return_, 1) := by decide +kernel
theorem wd_800 : (Cond.code ⟨"WebCourt$Court", "open", "(LWebCourt$Web;)V"⟩ prog_4_method_2_code (3 : Nat) (Option.none : Option FieldType)) ∈ gtb := gtb_c3 211 (by decide +kernel) rfl
theorem pf_RX2_15 {p : Program} {l : Launch} {e : Env} {R : Room} {s : State} {m : MethodId} {args : Array Value} {below : List Frame} {meth : Method} {c : Code} {H : Heap} {locs : List Loc} {cells slots : Nat} {Q : State → Prop} {cc : ByteArray} {pc nL : Nat} {ls : Array Slot} {rest : List Value} {D : va_G} {cy : Nat → ClassId} {A : Nat → Prop} {ws : va_W} {b : Nat} {fs : List Value} {v : Nat} {ws' : va_W} (C : Cx p s m args c cc nL RX2 D cy A) (hO : Wo D A ws s.heap H locs) (q0 : Nat) (he : ws[q0]? = some (b, .inr (2, fs))) (hlen : 1 < fs.length) (hw : ws.set q0 (b, .inr (2, fs.set 1 (.ref v))) = ws') (hdg : decode cc pc = .ok (.putfield 15, 3)) (kk : ∀ (H : Heap) (locs : List Loc), Wo D A ws' s.heap H locs → W p l e R s m args below meth c H locs cells slots Q (F0 m (pc + 3) ls rest)) : W p l e R s m args below meth c H locs cells slots Q (F0 m pc ls (.ref v :: .ref b :: rest)) := pF (k := 1) (ty := .object "WebCourt$Web") C hO q0 he rfl inFX2 (by decide) wd_358 rfl tyX2 tyX2_ok nmX2 rfl (by decide +kernel) rfl rfl hlen hw hdg kk
theorem wd_353 : (Cond.fieldLink "WebCourt$Court" (9 : Nat) "WebCourt$Court" "row" "[I") ∈ gtb := gtb_c2 4 (by decide +kernel) rfl
theorem gf_RX2_9 {p : Program} {l : Launch} {e : Env} {R : Room} {s : State} {m : MethodId} {args : Array Value} {below : List Frame} {meth : Method} {c : Code} {H : Heap} {locs : List Loc} {cells slots : Nat} {Q : State → Prop} {cc : ByteArray} {pc nL : Nat} {ls : Array Slot} {rest : List Value} {D : va_G} {cy : Nat → ClassId} {A : Nat → Prop} {ws : va_W} {b : Nat} {fs : List Value} {v : Value} (C : Cx p s m args c cc nL RX2 D cy A) (hO : Wo D A ws s.heap H locs) (q0 : Nat) (he : ws[q0]? = some (b, .inr (2, fs))) (hv : fs[0]? = some v) (hdg : decode cc pc = .ok (.getfield 9, 3)) (kk : W p l e R s m args below meth c H locs cells slots Q (F0 m (pc + 3) ls (v :: rest))) : W p l e R s m args below meth c H locs cells slots Q (F0 m pc ls (.ref b :: rest)) := gF (k := 0) C hO q0 he rfl inFX2 (by decide) wd_353 rfl hv hdg kk
theorem wd_285 : (Cond.fieldLink "WebCourt$Court" (28 : Nat) "WebCourt$Web" "draw" "I") ∈ gtb := gtb_c1 176 (by decide +kernel) rfl
theorem gf_RX2_28 {p : Program} {l : Launch} {e : Env} {R : Room} {s : State} {m : MethodId} {args : Array Value} {below : List Frame} {meth : Method} {c : Code} {H : Heap} {locs : List Loc} {cells slots : Nat} {Q : State → Prop} {cc : ByteArray} {pc nL : Nat} {ls : Array Slot} {rest : List Value} {D : va_G} {cy : Nat → ClassId} {A : Nat → Prop} {ws : va_W} {b : Nat} {fs : List Value} {v : Value} (C : Cx p s m args c cc nL RX2 D cy A) (hO : Wo D A ws s.heap H locs) (q0 : Nat) (he : ws[q0]? = some (b, .inr (9, fs))) (hv : fs[16]? = some v) (hdg : decode cc pc = .ok (.getfield 28, 3)) (kk : W p l e R s m args below meth c H locs cells slots Q (F0 m (pc + 3) ls (v :: rest))) : W p l e R s m args below meth c H locs cells slots Q (F0 m pc ls (.ref b :: rest)) := gF (k := 16) C hO q0 he rfl inFX9 (by decide) wd_285 rfl hv hdg kk
theorem wd_275 : (Cond.fieldLink "WebCourt$Court" (31 : Nat) "WebCourt$Web" "sticky" "I") ∈ gtb := gtb_c1 166 (by decide +kernel) rfl
theorem gf_RX2_31 {p : Program} {l : Launch} {e : Env} {R : Room} {s : State} {m : MethodId} {args : Array Value} {below : List Frame} {meth : Method} {c : Code} {H : Heap} {locs : List Loc} {cells slots : Nat} {Q : State → Prop} {cc : ByteArray} {pc nL : Nat} {ls : Array Slot} {rest : List Value} {D : va_G} {cy : Nat → ClassId} {A : Nat → Prop} {ws : va_W} {b : Nat} {fs : List Value} {v : Value} (C : Cx p s m args c cc nL RX2 D cy A) (hO : Wo D A ws s.heap H locs) (q0 : Nat) (he : ws[q0]? = some (b, .inr (9, fs))) (hv : fs[13]? = some v) (hdg : decode cc pc = .ok (.getfield 31, 3)) (kk : W p l e R s m args below meth c H locs cells slots Q (F0 m (pc + 3) ls (v :: rest))) : W p l e R s m args below meth c H locs cells slots Q (F0 m pc ls (.ref b :: rest)) := gF (k := 13) C hO q0 he rfl inFX9 (by decide) wd_275 rfl hv hdg kk
set_option maxHeartbeats 4000000 in
set_option maxRecDepth 100000 in
theorem T_X2_open (l : Launch) (D : va_G) (cy : Nat → ClassId) (a : Nat → Nat) (u : St) (hI_15_12 : fI u 15 12 = 0) (hI_15_13 : fI u 15 13 = 0) (hI_15_16 : fI u 15 16 = 0) (hI_15_9 : fI u 15 9 = 0)   : Mv l D cy (cW cy a) yX2_open (.code yX2_open cX2_open 3 none) (rmo 0 0) [.ref (a 28), .ref (a 15)] u (fun (u' : St) => (fR u' 0 = a 15) ∧ (fI u' 15 12 = 0)) := by
  refine Mv.of (own := RX2) rfl (by decide) (Nat.le_of_ble_eq_true rfl) ?_
  intro p e s m below meth c A Q ls C hret hO hl
  obtain ⟨hx, hb, hml, hown, ht, hK, hA⟩ := id C
  have hl : lv_has ls 3 [(0, .ref (a 28)), (1, .ref (a 15))] := hl
  refine lv_aload_n hx hb dX2_open_0 rfl (lv_at hl 0 rfl) ?_
  refine lv_aload_n hx hb dX2_open_1 rfl (lv_at hl 1 rfl) ?_
  refine pf_RX2_15 C hO 28 cW_28 (Nat.le_of_ble_eq_true rfl) cW_s28_1 dX2_open_2 (fun H locs hO => ?_)
  refine lv_aload_n hx hb dX2_open_5 rfl (lv_at hl 0 rfl) ?_
  refine gf_RX2_9 (v := .ref (a 29)) C hO 28 cW_28 rfl dX2_open_6 ?_
  refine lv_iconst (v := 0) hx hb dX2_open_9 (by decide) ?_
  refine lv_aload_n hx hb dX2_open_10 rfl (lv_at hl 1 rfl) ?_
  refine gf_RX2_19 (v := .int 0) C hO 15 cW_15 (congrArg (fun z : Int32 => some (Value.int z)) hI_15_9) dX2_open_11 ?_
  refine bt_le (tgt := 24) (X := 0) hx hb dX2_open_14 (by decide) rfl (by omega) ?_
  refine lv_iconst (v := (-1)) hx hb dX2_open_24 (by decide) ?_
  refine aIs C hO 29 cW_29 (i_in (X := 0) rfl (by omega) (by omega)) cW_s29 dX2_open_25 (fun H locs hO => ?_)
  refine lv_aload_n hx hb dX2_open_26 rfl (lv_at hl 0 rfl) ?_
  refine gf_RX2_9 (v := .ref (a 29)) C hO 28 cW_28 rfl dX2_open_27 ?_
  refine lv_iconst (v := 1) hx hb dX2_open_30 (by decide) ?_
  refine lv_iconst (v := 0) hx hb dX2_open_31 (by decide) ?_
  refine aIs C hO 29 cW_29 (i_in (X := 1) rfl (by omega) (by omega)) cW_s29 dX2_open_32 (fun H locs hO => ?_)
  refine lv_aload_n hx hb dX2_open_33 rfl (lv_at hl 0 rfl) ?_
  refine gf_RX2_9 (v := .ref (a 29)) C hO 28 cW_28 rfl dX2_open_34 ?_
  refine lv_iconst (v := 2) hx hb dX2_open_37 (by decide) ?_
  refine lv_iconst (v := 0) hx hb dX2_open_38 (by decide) ?_
  refine aIs C hO 29 cW_29 (i_in (X := 2) rfl (by omega) (by omega)) cW_s29 dX2_open_39 (fun H locs hO => ?_)
  refine lv_aload_n hx hb dX2_open_40 rfl (lv_at hl 0 rfl) ?_
  refine gf_RX2_9 (v := .ref (a 29)) C hO 28 cW_28 rfl dX2_open_41 ?_
  refine lv_iconst (v := 3) hx hb dX2_open_44 (by decide) ?_
  refine lv_aload_n hx hb dX2_open_45 rfl (lv_at hl 1 rfl) ?_
  refine gf_RX2_28 (v := .int 0) C hO 15 cW_15 (congrArg (fun z : Int32 => some (Value.int z)) hI_15_16) dX2_open_46 ?_
  refine aIs C hO 29 cW_29 (i_in (X := 3) rfl (by omega) (by omega)) cW_s29 dX2_open_49 (fun H locs hO => ?_)
  refine lv_aload_n hx hb dX2_open_50 rfl (lv_at hl 0 rfl) ?_
  refine gf_RX2_9 (v := .ref (a 29)) C hO 28 cW_28 rfl dX2_open_51 ?_
  refine lv_iconst (v := 4) hx hb dX2_open_54 (by decide) ?_
  refine lv_aload_n hx hb dX2_open_55 rfl (lv_at hl 1 rfl) ?_
  refine gf_RX2_31 (v := .int 0) C hO 15 cW_15 (congrArg (fun z : Int32 => some (Value.int z)) hI_15_13) dX2_open_56 ?_
  refine aIs C hO 29 cW_29 (i_in (X := 4) rfl (by omega) (by omega)) cW_s29 dX2_open_59 (fun H locs hO => ?_)
  refine lv_iconst (v := 0) hx hb dX2_open_60 (by decide) ?_
  refine lv_istore_n (lv' := [(2, .int 0), (0, .ref (a 28)), (1, .ref (a 15))]) hx hb dX2_open_61 rfl hl (by decide) rfl (fun ls hl => ?_)
  refine lv_iload_n hx hb dX2_open_62 rfl (lv_at hl 0 rfl) ?_
  refine lv_bipush (v := 6) hx hb dX2_open_63 (by decide) ?_
  refine cn_ge (X := 0) (Y := 6) hx hb dX2_open_65 rfl rfl (by omega) ?_ (tgt := 130) (by decide)
  refine lv_aload_n hx hb dX2_open_68 rfl (lv_at hl 1 rfl) ?_
  refine gf_RX2_9 (v := .ref (a 29)) C hO 28 cW_28 rfl dX2_open_69 ?_
  refine lv_iconst (v := 5) hx hb dX2_open_72 (by decide) ?_
  refine lv_iload_n hx hb dX2_open_73 rfl (lv_at hl 0 rfl) ?_
  refine lv_iadd hx hb dX2_open_74 ?_
  refine tE (y := 5) rfl ?_
  refine lv_iconst (v := 0) hx hb dX2_open_75 (by decide) ?_
  refine aIs C hO 29 cW_29 (i_in (X := 5) rfl (by omega) (by omega)) cW_s29 dX2_open_76 (fun H locs hO => ?_)
  refine lv_aload_n hx hb dX2_open_77 rfl (lv_at hl 1 rfl) ?_
  refine gf_RX2_9 (v := .ref (a 29)) C hO 28 cW_28 rfl dX2_open_78 ?_
  refine lv_bipush (v := 11) hx hb dX2_open_81 (by decide) ?_
  refine lv_iload_n hx hb dX2_open_83 rfl (lv_at hl 0 rfl) ?_
  refine lv_iadd hx hb dX2_open_84 ?_
  refine tE (y := 11) rfl ?_
  refine lv_iload_n hx hb dX2_open_85 rfl (lv_at hl 0 rfl) ?_
  refine lv_aload_n hx hb dX2_open_86 rfl (lv_at hl 2 rfl) ?_
  refine gf_RX2_34 (v := .int 0) C hO 15 cW_15 (congrArg (fun z : Int32 => some (Value.int z)) hI_15_12) dX2_open_87 ?_
  refine ct_ge (tgt := 102) (X := 0) (Y := 0) hx hb dX2_open_90 (by decide) rfl rfl (by omega) ?_
  refine lv_iconst (v := 0) hx hb dX2_open_102 (by decide) ?_
  refine aIs C hO 29 cW_29 (i_in (X := 11) rfl (by omega) (by omega)) cW_s29 dX2_open_103 (fun H locs hO => ?_)
  refine lv_aload_n hx hb dX2_open_104 rfl (lv_at hl 1 rfl) ?_
  refine gf_RX2_9 (v := .ref (a 29)) C hO 28 cW_28 rfl dX2_open_105 ?_
  refine lv_bipush (v := 17) hx hb dX2_open_108 (by decide) ?_
  refine lv_iload_n hx hb dX2_open_110 rfl (lv_at hl 0 rfl) ?_
  refine lv_iadd hx hb dX2_open_111 ?_
  refine tE (y := 17) rfl ?_
  refine lv_iconst (v := 0) hx hb dX2_open_112 (by decide) ?_
  refine aIs C hO 29 cW_29 (i_in (X := 17) rfl (by omega) (by omega)) cW_s29 dX2_open_113 (fun H locs hO => ?_)
  refine lv_aload_n hx hb dX2_open_114 rfl (lv_at hl 1 rfl) ?_
  refine gf_RX2_9 (v := .ref (a 29)) C hO 28 cW_28 rfl dX2_open_115 ?_
  refine lv_bipush (v := 23) hx hb dX2_open_118 (by decide) ?_
  refine lv_iload_n hx hb dX2_open_120 rfl (lv_at hl 0 rfl) ?_
  refine lv_iadd hx hb dX2_open_121 ?_
  refine tE (y := 23) rfl ?_
  refine lv_iconst (v := 0) hx hb dX2_open_122 (by decide) ?_
  refine aIs C hO 29 cW_29 (i_in (X := 23) rfl (by omega) (by omega)) cW_s29 dX2_open_123 (fun H locs hO => ?_)
  refine lv_iinc (v := 1) (lv' := [(2, .int 1), (0, .ref (a 28)), (1, .ref (a 15))]) hx hb dX2_open_124 hl (k := 0) rfl rfl (by decide) rfl (fun ls hl => ?_)
  refine lv_goto (tgt := 62) hx hb dX2_open_127 (by decide) ?_
  refine lv_iload_n hx hb dX2_open_62 rfl (lv_at hl 0 rfl) ?_
  refine lv_bipush (v := 6) hx hb dX2_open_63 (by decide) ?_
  refine cn_ge (X := 1) (Y := 6) hx hb dX2_open_65 rfl rfl (by omega) ?_ (tgt := 130) (by decide)
  refine lv_aload_n hx hb dX2_open_68 rfl (lv_at hl 1 rfl) ?_
  refine gf_RX2_9 (v := .ref (a 29)) C hO 28 cW_28 rfl dX2_open_69 ?_
  refine lv_iconst (v := 5) hx hb dX2_open_72 (by decide) ?_
  refine lv_iload_n hx hb dX2_open_73 rfl (lv_at hl 0 rfl) ?_
  refine lv_iadd hx hb dX2_open_74 ?_
  refine tE (y := 6) rfl ?_
  refine lv_iconst (v := 0) hx hb dX2_open_75 (by decide) ?_
  refine aIs C hO 29 cW_29 (i_in (X := 6) rfl (by omega) (by omega)) cW_s29 dX2_open_76 (fun H locs hO => ?_)
  refine lv_aload_n hx hb dX2_open_77 rfl (lv_at hl 1 rfl) ?_
  refine gf_RX2_9 (v := .ref (a 29)) C hO 28 cW_28 rfl dX2_open_78 ?_
  refine lv_bipush (v := 11) hx hb dX2_open_81 (by decide) ?_
  refine lv_iload_n hx hb dX2_open_83 rfl (lv_at hl 0 rfl) ?_
  refine lv_iadd hx hb dX2_open_84 ?_
  refine tE (y := 12) rfl ?_
  refine lv_iload_n hx hb dX2_open_85 rfl (lv_at hl 0 rfl) ?_
  refine lv_aload_n hx hb dX2_open_86 rfl (lv_at hl 2 rfl) ?_
  refine gf_RX2_34 (v := .int 0) C hO 15 cW_15 (congrArg (fun z : Int32 => some (Value.int z)) hI_15_12) dX2_open_87 ?_
  refine ct_ge (tgt := 102) (X := 1) (Y := 0) hx hb dX2_open_90 (by decide) rfl rfl (by omega) ?_
  refine lv_iconst (v := 0) hx hb dX2_open_102 (by decide) ?_
  refine aIs C hO 29 cW_29 (i_in (X := 12) rfl (by omega) (by omega)) cW_s29 dX2_open_103 (fun H locs hO => ?_)
  refine lv_aload_n hx hb dX2_open_104 rfl (lv_at hl 1 rfl) ?_
  refine gf_RX2_9 (v := .ref (a 29)) C hO 28 cW_28 rfl dX2_open_105 ?_
  refine lv_bipush (v := 17) hx hb dX2_open_108 (by decide) ?_
  refine lv_iload_n hx hb dX2_open_110 rfl (lv_at hl 0 rfl) ?_
  refine lv_iadd hx hb dX2_open_111 ?_
  refine tE (y := 18) rfl ?_
  refine lv_iconst (v := 0) hx hb dX2_open_112 (by decide) ?_
  refine aIs C hO 29 cW_29 (i_in (X := 18) rfl (by omega) (by omega)) cW_s29 dX2_open_113 (fun H locs hO => ?_)
  refine lv_aload_n hx hb dX2_open_114 rfl (lv_at hl 1 rfl) ?_
  refine gf_RX2_9 (v := .ref (a 29)) C hO 28 cW_28 rfl dX2_open_115 ?_
  refine lv_bipush (v := 23) hx hb dX2_open_118 (by decide) ?_
  refine lv_iload_n hx hb dX2_open_120 rfl (lv_at hl 0 rfl) ?_
  refine lv_iadd hx hb dX2_open_121 ?_
  refine tE (y := 24) rfl ?_
  refine lv_iconst (v := 0) hx hb dX2_open_122 (by decide) ?_
  refine aIs C hO 29 cW_29 (i_in (X := 24) rfl (by omega) (by omega)) cW_s29 dX2_open_123 (fun H locs hO => ?_)
  refine lv_iinc (v := 2) (lv' := [(2, .int 2), (0, .ref (a 28)), (1, .ref (a 15))]) hx hb dX2_open_124 hl (k := 0) rfl rfl (by decide) rfl (fun ls hl => ?_)
  refine lv_goto (tgt := 62) hx hb dX2_open_127 (by decide) ?_
  refine lv_iload_n hx hb dX2_open_62 rfl (lv_at hl 0 rfl) ?_
  refine lv_bipush (v := 6) hx hb dX2_open_63 (by decide) ?_
  refine cn_ge (X := 2) (Y := 6) hx hb dX2_open_65 rfl rfl (by omega) ?_ (tgt := 130) (by decide)
  refine lv_aload_n hx hb dX2_open_68 rfl (lv_at hl 1 rfl) ?_
  refine gf_RX2_9 (v := .ref (a 29)) C hO 28 cW_28 rfl dX2_open_69 ?_
  refine lv_iconst (v := 5) hx hb dX2_open_72 (by decide) ?_
  refine lv_iload_n hx hb dX2_open_73 rfl (lv_at hl 0 rfl) ?_
  refine lv_iadd hx hb dX2_open_74 ?_
  refine tE (y := 7) rfl ?_
  refine lv_iconst (v := 0) hx hb dX2_open_75 (by decide) ?_
  refine aIs C hO 29 cW_29 (i_in (X := 7) rfl (by omega) (by omega)) cW_s29 dX2_open_76 (fun H locs hO => ?_)
  refine lv_aload_n hx hb dX2_open_77 rfl (lv_at hl 1 rfl) ?_
  refine gf_RX2_9 (v := .ref (a 29)) C hO 28 cW_28 rfl dX2_open_78 ?_
  refine lv_bipush (v := 11) hx hb dX2_open_81 (by decide) ?_
  refine lv_iload_n hx hb dX2_open_83 rfl (lv_at hl 0 rfl) ?_
  refine lv_iadd hx hb dX2_open_84 ?_
  refine tE (y := 13) rfl ?_
  refine lv_iload_n hx hb dX2_open_85 rfl (lv_at hl 0 rfl) ?_
  refine lv_aload_n hx hb dX2_open_86 rfl (lv_at hl 2 rfl) ?_
  refine gf_RX2_34 (v := .int 0) C hO 15 cW_15 (congrArg (fun z : Int32 => some (Value.int z)) hI_15_12) dX2_open_87 ?_
  refine ct_ge (tgt := 102) (X := 2) (Y := 0) hx hb dX2_open_90 (by decide) rfl rfl (by omega) ?_
  refine lv_iconst (v := 0) hx hb dX2_open_102 (by decide) ?_
  refine aIs C hO 29 cW_29 (i_in (X := 13) rfl (by omega) (by omega)) cW_s29 dX2_open_103 (fun H locs hO => ?_)
  refine lv_aload_n hx hb dX2_open_104 rfl (lv_at hl 1 rfl) ?_
  refine gf_RX2_9 (v := .ref (a 29)) C hO 28 cW_28 rfl dX2_open_105 ?_
  refine lv_bipush (v := 17) hx hb dX2_open_108 (by decide) ?_
  refine lv_iload_n hx hb dX2_open_110 rfl (lv_at hl 0 rfl) ?_
  refine lv_iadd hx hb dX2_open_111 ?_
  refine tE (y := 19) rfl ?_
  refine lv_iconst (v := 0) hx hb dX2_open_112 (by decide) ?_
  refine aIs C hO 29 cW_29 (i_in (X := 19) rfl (by omega) (by omega)) cW_s29 dX2_open_113 (fun H locs hO => ?_)
  refine lv_aload_n hx hb dX2_open_114 rfl (lv_at hl 1 rfl) ?_
  refine gf_RX2_9 (v := .ref (a 29)) C hO 28 cW_28 rfl dX2_open_115 ?_
  refine lv_bipush (v := 23) hx hb dX2_open_118 (by decide) ?_
  refine lv_iload_n hx hb dX2_open_120 rfl (lv_at hl 0 rfl) ?_
  refine lv_iadd hx hb dX2_open_121 ?_
  refine tE (y := 25) rfl ?_
  refine lv_iconst (v := 0) hx hb dX2_open_122 (by decide) ?_
  refine aIs C hO 29 cW_29 (i_in (X := 25) rfl (by omega) (by omega)) cW_s29 dX2_open_123 (fun H locs hO => ?_)
  refine lv_iinc (v := 3) (lv' := [(2, .int 3), (0, .ref (a 28)), (1, .ref (a 15))]) hx hb dX2_open_124 hl (k := 0) rfl rfl (by decide) rfl (fun ls hl => ?_)
  refine lv_goto (tgt := 62) hx hb dX2_open_127 (by decide) ?_
  refine lv_iload_n hx hb dX2_open_62 rfl (lv_at hl 0 rfl) ?_
  refine lv_bipush (v := 6) hx hb dX2_open_63 (by decide) ?_
  refine cn_ge (X := 3) (Y := 6) hx hb dX2_open_65 rfl rfl (by omega) ?_ (tgt := 130) (by decide)
  refine lv_aload_n hx hb dX2_open_68 rfl (lv_at hl 1 rfl) ?_
  refine gf_RX2_9 (v := .ref (a 29)) C hO 28 cW_28 rfl dX2_open_69 ?_
  refine lv_iconst (v := 5) hx hb dX2_open_72 (by decide) ?_
  refine lv_iload_n hx hb dX2_open_73 rfl (lv_at hl 0 rfl) ?_
  refine lv_iadd hx hb dX2_open_74 ?_
  refine tE (y := 8) rfl ?_
  refine lv_iconst (v := 0) hx hb dX2_open_75 (by decide) ?_
  refine aIs C hO 29 cW_29 (i_in (X := 8) rfl (by omega) (by omega)) cW_s29 dX2_open_76 (fun H locs hO => ?_)
  refine lv_aload_n hx hb dX2_open_77 rfl (lv_at hl 1 rfl) ?_
  refine gf_RX2_9 (v := .ref (a 29)) C hO 28 cW_28 rfl dX2_open_78 ?_
  refine lv_bipush (v := 11) hx hb dX2_open_81 (by decide) ?_
  refine lv_iload_n hx hb dX2_open_83 rfl (lv_at hl 0 rfl) ?_
  refine lv_iadd hx hb dX2_open_84 ?_
  refine tE (y := 14) rfl ?_
  refine lv_iload_n hx hb dX2_open_85 rfl (lv_at hl 0 rfl) ?_
  refine lv_aload_n hx hb dX2_open_86 rfl (lv_at hl 2 rfl) ?_
  refine gf_RX2_34 (v := .int 0) C hO 15 cW_15 (congrArg (fun z : Int32 => some (Value.int z)) hI_15_12) dX2_open_87 ?_
  refine ct_ge (tgt := 102) (X := 3) (Y := 0) hx hb dX2_open_90 (by decide) rfl rfl (by omega) ?_
  refine lv_iconst (v := 0) hx hb dX2_open_102 (by decide) ?_
  refine aIs C hO 29 cW_29 (i_in (X := 14) rfl (by omega) (by omega)) cW_s29 dX2_open_103 (fun H locs hO => ?_)
  refine lv_aload_n hx hb dX2_open_104 rfl (lv_at hl 1 rfl) ?_
  refine gf_RX2_9 (v := .ref (a 29)) C hO 28 cW_28 rfl dX2_open_105 ?_
  refine lv_bipush (v := 17) hx hb dX2_open_108 (by decide) ?_
  refine lv_iload_n hx hb dX2_open_110 rfl (lv_at hl 0 rfl) ?_
  refine lv_iadd hx hb dX2_open_111 ?_
  refine tE (y := 20) rfl ?_
  refine lv_iconst (v := 0) hx hb dX2_open_112 (by decide) ?_
  refine aIs C hO 29 cW_29 (i_in (X := 20) rfl (by omega) (by omega)) cW_s29 dX2_open_113 (fun H locs hO => ?_)
  refine lv_aload_n hx hb dX2_open_114 rfl (lv_at hl 1 rfl) ?_
  refine gf_RX2_9 (v := .ref (a 29)) C hO 28 cW_28 rfl dX2_open_115 ?_
  refine lv_bipush (v := 23) hx hb dX2_open_118 (by decide) ?_
  refine lv_iload_n hx hb dX2_open_120 rfl (lv_at hl 0 rfl) ?_
  refine lv_iadd hx hb dX2_open_121 ?_
  refine tE (y := 26) rfl ?_
  refine lv_iconst (v := 0) hx hb dX2_open_122 (by decide) ?_
  refine aIs C hO 29 cW_29 (i_in (X := 26) rfl (by omega) (by omega)) cW_s29 dX2_open_123 (fun H locs hO => ?_)
  refine lv_iinc (v := 4) (lv' := [(2, .int 4), (0, .ref (a 28)), (1, .ref (a 15))]) hx hb dX2_open_124 hl (k := 0) rfl rfl (by decide) rfl (fun ls hl => ?_)
  refine lv_goto (tgt := 62) hx hb dX2_open_127 (by decide) ?_
  refine lv_iload_n hx hb dX2_open_62 rfl (lv_at hl 0 rfl) ?_
  refine lv_bipush (v := 6) hx hb dX2_open_63 (by decide) ?_
  refine cn_ge (X := 4) (Y := 6) hx hb dX2_open_65 rfl rfl (by omega) ?_ (tgt := 130) (by decide)
  refine lv_aload_n hx hb dX2_open_68 rfl (lv_at hl 1 rfl) ?_
  refine gf_RX2_9 (v := .ref (a 29)) C hO 28 cW_28 rfl dX2_open_69 ?_
  refine lv_iconst (v := 5) hx hb dX2_open_72 (by decide) ?_
  refine lv_iload_n hx hb dX2_open_73 rfl (lv_at hl 0 rfl) ?_
  refine lv_iadd hx hb dX2_open_74 ?_
  refine tE (y := 9) rfl ?_
  refine lv_iconst (v := 0) hx hb dX2_open_75 (by decide) ?_
  refine aIs C hO 29 cW_29 (i_in (X := 9) rfl (by omega) (by omega)) cW_s29 dX2_open_76 (fun H locs hO => ?_)
  refine lv_aload_n hx hb dX2_open_77 rfl (lv_at hl 1 rfl) ?_
  refine gf_RX2_9 (v := .ref (a 29)) C hO 28 cW_28 rfl dX2_open_78 ?_
  refine lv_bipush (v := 11) hx hb dX2_open_81 (by decide) ?_
  refine lv_iload_n hx hb dX2_open_83 rfl (lv_at hl 0 rfl) ?_
  refine lv_iadd hx hb dX2_open_84 ?_
  refine tE (y := 15) rfl ?_
  refine lv_iload_n hx hb dX2_open_85 rfl (lv_at hl 0 rfl) ?_
  refine lv_aload_n hx hb dX2_open_86 rfl (lv_at hl 2 rfl) ?_
  refine gf_RX2_34 (v := .int 0) C hO 15 cW_15 (congrArg (fun z : Int32 => some (Value.int z)) hI_15_12) dX2_open_87 ?_
  refine ct_ge (tgt := 102) (X := 4) (Y := 0) hx hb dX2_open_90 (by decide) rfl rfl (by omega) ?_
  refine lv_iconst (v := 0) hx hb dX2_open_102 (by decide) ?_
  refine aIs C hO 29 cW_29 (i_in (X := 15) rfl (by omega) (by omega)) cW_s29 dX2_open_103 (fun H locs hO => ?_)
  refine lv_aload_n hx hb dX2_open_104 rfl (lv_at hl 1 rfl) ?_
  refine gf_RX2_9 (v := .ref (a 29)) C hO 28 cW_28 rfl dX2_open_105 ?_
  refine lv_bipush (v := 17) hx hb dX2_open_108 (by decide) ?_
  refine lv_iload_n hx hb dX2_open_110 rfl (lv_at hl 0 rfl) ?_
  refine lv_iadd hx hb dX2_open_111 ?_
  refine tE (y := 21) rfl ?_
  refine lv_iconst (v := 0) hx hb dX2_open_112 (by decide) ?_
  refine aIs C hO 29 cW_29 (i_in (X := 21) rfl (by omega) (by omega)) cW_s29 dX2_open_113 (fun H locs hO => ?_)
  refine lv_aload_n hx hb dX2_open_114 rfl (lv_at hl 1 rfl) ?_
  refine gf_RX2_9 (v := .ref (a 29)) C hO 28 cW_28 rfl dX2_open_115 ?_
  refine lv_bipush (v := 23) hx hb dX2_open_118 (by decide) ?_
  refine lv_iload_n hx hb dX2_open_120 rfl (lv_at hl 0 rfl) ?_
  refine lv_iadd hx hb dX2_open_121 ?_
  refine tE (y := 27) rfl ?_
  refine lv_iconst (v := 0) hx hb dX2_open_122 (by decide) ?_
  refine aIs C hO 29 cW_29 (i_in (X := 27) rfl (by omega) (by omega)) cW_s29 dX2_open_123 (fun H locs hO => ?_)
  refine lv_iinc (v := 5) (lv' := [(2, .int 5), (0, .ref (a 28)), (1, .ref (a 15))]) hx hb dX2_open_124 hl (k := 0) rfl rfl (by decide) rfl (fun ls hl => ?_)
  refine lv_goto (tgt := 62) hx hb dX2_open_127 (by decide) ?_
  refine lv_iload_n hx hb dX2_open_62 rfl (lv_at hl 0 rfl) ?_
  refine lv_bipush (v := 6) hx hb dX2_open_63 (by decide) ?_
  refine cn_ge (X := 5) (Y := 6) hx hb dX2_open_65 rfl rfl (by omega) ?_ (tgt := 130) (by decide)
  refine lv_aload_n hx hb dX2_open_68 rfl (lv_at hl 1 rfl) ?_
  refine gf_RX2_9 (v := .ref (a 29)) C hO 28 cW_28 rfl dX2_open_69 ?_
  refine lv_iconst (v := 5) hx hb dX2_open_72 (by decide) ?_
  refine lv_iload_n hx hb dX2_open_73 rfl (lv_at hl 0 rfl) ?_
  refine lv_iadd hx hb dX2_open_74 ?_
  refine tE (y := 10) rfl ?_
  refine lv_iconst (v := 0) hx hb dX2_open_75 (by decide) ?_
  refine aIs C hO 29 cW_29 (i_in (X := 10) rfl (by omega) (by omega)) cW_s29 dX2_open_76 (fun H locs hO => ?_)
  refine lv_aload_n hx hb dX2_open_77 rfl (lv_at hl 1 rfl) ?_
  refine gf_RX2_9 (v := .ref (a 29)) C hO 28 cW_28 rfl dX2_open_78 ?_
  refine lv_bipush (v := 11) hx hb dX2_open_81 (by decide) ?_
  refine lv_iload_n hx hb dX2_open_83 rfl (lv_at hl 0 rfl) ?_
  refine lv_iadd hx hb dX2_open_84 ?_
  refine tE (y := 16) rfl ?_
  refine lv_iload_n hx hb dX2_open_85 rfl (lv_at hl 0 rfl) ?_
  refine lv_aload_n hx hb dX2_open_86 rfl (lv_at hl 2 rfl) ?_
  refine gf_RX2_34 (v := .int 0) C hO 15 cW_15 (congrArg (fun z : Int32 => some (Value.int z)) hI_15_12) dX2_open_87 ?_
  refine ct_ge (tgt := 102) (X := 5) (Y := 0) hx hb dX2_open_90 (by decide) rfl rfl (by omega) ?_
  refine lv_iconst (v := 0) hx hb dX2_open_102 (by decide) ?_
  refine aIs C hO 29 cW_29 (i_in (X := 16) rfl (by omega) (by omega)) cW_s29 dX2_open_103 (fun H locs hO => ?_)
  refine lv_aload_n hx hb dX2_open_104 rfl (lv_at hl 1 rfl) ?_
  refine gf_RX2_9 (v := .ref (a 29)) C hO 28 cW_28 rfl dX2_open_105 ?_
  refine lv_bipush (v := 17) hx hb dX2_open_108 (by decide) ?_
  refine lv_iload_n hx hb dX2_open_110 rfl (lv_at hl 0 rfl) ?_
  refine lv_iadd hx hb dX2_open_111 ?_
  refine tE (y := 22) rfl ?_
  refine lv_iconst (v := 0) hx hb dX2_open_112 (by decide) ?_
  refine aIs C hO 29 cW_29 (i_in (X := 22) rfl (by omega) (by omega)) cW_s29 dX2_open_113 (fun H locs hO => ?_)
  refine lv_aload_n hx hb dX2_open_114 rfl (lv_at hl 1 rfl) ?_
  refine gf_RX2_9 (v := .ref (a 29)) C hO 28 cW_28 rfl dX2_open_115 ?_
  refine lv_bipush (v := 23) hx hb dX2_open_118 (by decide) ?_
  refine lv_iload_n hx hb dX2_open_120 rfl (lv_at hl 0 rfl) ?_
  refine lv_iadd hx hb dX2_open_121 ?_
  refine tE (y := 28) rfl ?_
  refine lv_iconst (v := 0) hx hb dX2_open_122 (by decide) ?_
  refine aIs C hO 29 cW_29 (i_in (X := 28) rfl (by omega) (by omega)) cW_s29 dX2_open_123 (fun H locs hO => ?_)
  refine lv_iinc (v := 6) (lv' := [(2, .int 6), (0, .ref (a 28)), (1, .ref (a 15))]) hx hb dX2_open_124 hl (k := 0) rfl rfl (by decide) rfl (fun ls hl => ?_)
  refine lv_goto (tgt := 62) hx hb dX2_open_127 (by decide) ?_
  refine lv_iload_n hx hb dX2_open_62 rfl (lv_at hl 0 rfl) ?_
  refine lv_bipush (v := 6) hx hb dX2_open_63 (by decide) ?_
  refine ct_ge (tgt := 130) (X := 6) (Y := 6) hx hb dX2_open_65 (by decide) rfl rfl (by omega) ?_
  refine hret _ _ _ _ _ dX2_open_130 ?_ hO
  exact ⟨rfl, hI_15_12⟩
theorem dX0_clear_0 : decode cX0_clear 0 = .ok (.aload_n 0, 1) := by decide +kernel
theorem dX0_clear_1 : decode cX0_clear 1 = .ok (.iconst 0, 1) := by decide +kernel
theorem dX0_clear_2 : decode cX0_clear 2 = .ok (.putfield 16, 3) := by decide +kernel
theorem dX0_clear_5 : decode cX0_clear 5 = .ok (.aload_n 0, 1) := by decide +kernel
theorem dX0_clear_6 : decode cX0_clear 6 = .ok (.iconst 0, 1) := by decide +kernel
theorem dX0_clear_7 : decode cX0_clear 7 = .ok (.putfield 20, 3) := by decide +kernel
theorem dX0_clear_10 : decode cX0_clear 10 = .ok (.return_, 1) := by decide +kernel
theorem wd_804 : (Cond.code ⟨"WebCourt$Acts", "clear", "()V"⟩ prog_2_method_2_code (1 : Nat) (Option.none : Option FieldType)) ∈ gtb := gtb_c3 215 (by decide +kernel) rfl
theorem pf_RX0_16 {p : Program} {l : Launch} {e : Env} {R : Room} {s : State} {m : MethodId} {args : Array Value} {below : List Frame} {meth : Method} {c : Code} {H : Heap} {locs : List Loc} {cells slots : Nat} {Q : State → Prop} {cc : ByteArray} {pc nL : Nat} {ls : Array Slot} {rest : List Value} {D : va_G} {cy : Nat → ClassId} {A : Nat → Prop} {ws : va_W} {b : Nat} {fs : List Value} {v : Int32} {ws' : va_W} (C : Cx p s m args c cc nL RX0 D cy A) (hO : Wo D A ws s.heap H locs) (q0 : Nat) (he : ws[q0]? = some (b, .inr (0, fs))) (hlen : 2 < fs.length) (hw : ws.set q0 (b, .inr (0, fs.set 2 (.int v))) = ws') (hdg : decode cc pc = .ok (.putfield 16, 3)) (kk : ∀ (H : Heap) (locs : List Loc), Wo D A ws' s.heap H locs → W p l e R s m args below meth c H locs cells slots Q (F0 m (pc + 3) ls rest)) : W p l e R s m args below meth c H locs cells slots Q (F0 m pc ls (.int v :: .ref b :: rest)) := pF (k := 2) (ty := .int) C hO q0 he rfl inFX0 (by decide) wd_378 rfl tyX0 tyX0_ok nmX0 rfl (by decide +kernel) rfl rfl hlen hw hdg kk
theorem pf_RX0_20 {p : Program} {l : Launch} {e : Env} {R : Room} {s : State} {m : MethodId} {args : Array Value} {below : List Frame} {meth : Method} {c : Code} {H : Heap} {locs : List Loc} {cells slots : Nat} {Q : State → Prop} {cc : ByteArray} {pc nL : Nat} {ls : Array Slot} {rest : List Value} {D : va_G} {cy : Nat → ClassId} {A : Nat → Prop} {ws : va_W} {b : Nat} {fs : List Value} {v : Int32} {ws' : va_W} (C : Cx p s m args c cc nL RX0 D cy A) (hO : Wo D A ws s.heap H locs) (q0 : Nat) (he : ws[q0]? = some (b, .inr (0, fs))) (hlen : 3 < fs.length) (hw : ws.set q0 (b, .inr (0, fs.set 3 (.int v))) = ws') (hdg : decode cc pc = .ok (.putfield 20, 3)) (kk : ∀ (H : Heap) (locs : List Loc), Wo D A ws' s.heap H locs → W p l e R s m args below meth c H locs cells slots Q (F0 m (pc + 3) ls rest)) : W p l e R s m args below meth c H locs cells slots Q (F0 m pc ls (.int v :: .ref b :: rest)) := pF (k := 3) (ty := .int) C hO q0 he rfl inFX0 (by decide) wd_380 rfl tyX0 tyX0_ok nmX0 rfl (by decide +kernel) rfl rfl hlen hw hdg kk
set_option maxHeartbeats 4000000 in
set_option maxRecDepth 100000 in
theorem T_X0_clear (l : Launch) (D : va_G) (cy : Nat → ClassId) (a : Nat → Nat) (u : St)    : Mv l D cy (cW cy a) yX0_clear (.code yX0_clear cX0_clear 1 none) (rmo 0 0) [.ref (a 30)] u (fun (u' : St) => u' = (sI (sI u 30 2 0) 30 3 0)) := by
  refine Mv.of (own := RX0) rfl (by decide) (Nat.le_of_ble_eq_true rfl) ?_
  intro p e s m below meth c A Q ls C hret hO hl
  obtain ⟨hx, hb, hml, hown, ht, hK, hA⟩ := id C
  have hl : lv_has ls 1 [(0, .ref (a 30))] := hl
  refine lv_aload_n hx hb dX0_clear_0 rfl (lv_at hl 0 rfl) ?_
  refine lv_iconst (v := 0) hx hb dX0_clear_1 (by decide) ?_
  refine pf_RX0_16 C hO 30 cW_30 (Nat.le_of_ble_eq_true rfl) cW_s30_2 dX0_clear_2 (fun H locs hO => ?_)
  refine lv_aload_n hx hb dX0_clear_5 rfl (lv_at hl 0 rfl) ?_
  refine lv_iconst (v := 0) hx hb dX0_clear_6 (by decide) ?_
  refine pf_RX0_20 C hO 30 cW_30 (Nat.le_of_ble_eq_true rfl) cW_s30_3 dX0_clear_7 (fun H locs hO => ?_)
  refine hret _ _ _ _ _ dX0_clear_10 ?_ hO
  exact rfl
theorem dX3_clear_0 : decode cX3_clear 0 = .ok (.aload_n 0, 1) := by decide +kernel
theorem dX3_clear_1 : decode cX3_clear 1 = .ok (.iconst 0, 1) := by decide +kernel
theorem dX3_clear_2 : decode cX3_clear 2 = .ok (.putfield 28, 3) := by decide +kernel
theorem dX3_clear_5 : decode cX3_clear 5 = .ok (.return_, 1) := by decide +kernel
theorem wd_808 : (Cond.code ⟨"WebCourt$Hearsay", "clear", "()V"⟩ prog_5_method_2_code (1 : Nat) (Option.none : Option FieldType)) ∈ gtb := gtb_c3 219 (by decide +kernel) rfl
theorem pf_RX3_28 {p : Program} {l : Launch} {e : Env} {R : Room} {s : State} {m : MethodId} {args : Array Value} {below : List Frame} {meth : Method} {c : Code} {H : Heap} {locs : List Loc} {cells slots : Nat} {Q : State → Prop} {cc : ByteArray} {pc nL : Nat} {ls : Array Slot} {rest : List Value} {D : va_G} {cy : Nat → ClassId} {A : Nat → Prop} {ws : va_W} {b : Nat} {fs : List Value} {v : Int32} {ws' : va_W} (C : Cx p s m args c cc nL RX3 D cy A) (hO : Wo D A ws s.heap H locs) (q0 : Nat) (he : ws[q0]? = some (b, .inr (3, fs))) (hlen : 5 < fs.length) (hw : ws.set q0 (b, .inr (3, fs.set 5 (.int v))) = ws') (hdg : decode cc pc = .ok (.putfield 28, 3)) (kk : ∀ (H : Heap) (locs : List Loc), Wo D A ws' s.heap H locs → W p l e R s m args below meth c H locs cells slots Q (F0 m (pc + 3) ls rest)) : W p l e R s m args below meth c H locs cells slots Q (F0 m pc ls (.int v :: .ref b :: rest)) := pF (k := 5) (ty := .int) C hO q0 he rfl inFX3 (by decide) wd_447 rfl tyX3 tyX3_ok nmX3 rfl (by decide +kernel) rfl rfl hlen hw hdg kk
set_option maxHeartbeats 4000000 in
set_option maxRecDepth 100000 in
theorem T_X3_clear (l : Launch) (D : va_G) (cy : Nat → ClassId) (a : Nat → Nat) (u : St)    : Mv l D cy (cW cy a) yX3_clear (.code yX3_clear cX3_clear 1 none) (rmo 0 0) [.ref (a 39)] u (fun (u' : St) => u' = (sI u 39 5 0)) := by
  refine Mv.of (own := RX3) rfl (by decide) (Nat.le_of_ble_eq_true rfl) ?_
  intro p e s m below meth c A Q ls C hret hO hl
  obtain ⟨hx, hb, hml, hown, ht, hK, hA⟩ := id C
  have hl : lv_has ls 1 [(0, .ref (a 39))] := hl
  refine lv_aload_n hx hb dX3_clear_0 rfl (lv_at hl 0 rfl) ?_
  refine lv_iconst (v := 0) hx hb dX3_clear_1 (by decide) ?_
  refine pf_RX3_28 C hO 39 cW_39 (Nat.le_of_ble_eq_true rfl) cW_s39_5 dX3_clear_2 (fun H locs hO => ?_)
  refine hret _ _ _ _ _ dX3_clear_5 ?_ hO
  exact rfl
theorem dX10_web_0 : decode cX10_web 0 = .ok (.aload_n 0, 1) := by decide +kernel
theorem dX10_web_1 : decode cX10_web 1 = .ok (.getfield 28, 3) := by decide +kernel
theorem dX10_web_4 : decode cX10_web 4 = .ok (.aload_n 0, 1) := by decide +kernel
theorem dX10_web_5 : decode cX10_web 5 = .ok (.getfield 19, 3) := by decide +kernel
theorem dX10_web_8 : decode cX10_web 8 = .ok (.invokevirtual 97, 3) := by decide +kernel
theorem dX10_web_11 : decode cX10_web 11 = .ok (.ifCond .ne 5, 3) := by decide +kernel
theorem dX10_web_14 : decode cX10_web 14 = .ok (.iconst (-1), 1) := by decide +kernel
theorem dX10_web_15 : decode cX10_web 15 = .ok (.ireturn, 1) := by decide +kernel
theorem dX10_web_16 : decode cX10_web 16 = .ok (.aload_n 0, 1) := by decide +kernel
theorem dX10_web_17 : decode cX10_web 17 = .ok (.getfield 37, 3) := by decide +kernel
theorem dX10_web_20 : decode cX10_web 20 = .ok (.getfield 101, 3) := by decide +kernel
theorem dX10_web_23 : decode cX10_web 23 = .ok (.astore_n 1, 1) := by decide +kernel
theorem dX10_web_24 : decode cX10_web 24 = .ok (.aload_n 0, 1) := by decide +kernel
theorem dX10_web_25 : decode cX10_web 25 = .ok (.getfield 37, 3) := by decide +kernel
theorem dX10_web_28 : decode cX10_web 28 = .ok (.aload_n 0, 1) := by decide +kernel
theorem dX10_web_29 : decode cX10_web 29 = .ok (.getfield 19, 3) := by decide +kernel
theorem dX10_web_32 : decode cX10_web 32 = .ok (.invokevirtual 104, 3) := by decide +kernel
theorem dX10_web_35 : decode cX10_web 35 = .ok (.aload_n 0, 1) := by decide +kernel
theorem dX10_web_36 : decode cX10_web 36 = .ok (.aload_n 1, 1) := by decide +kernel
theorem dX10_web_37 : decode cX10_web 37 = .ok (.putfield 19, 3) := by decide +kernel
theorem dX10_web_40 : decode cX10_web 40 = .ok (.aload_n 0, 1) := by decide +kernel
theorem dX10_web_41 : decode cX10_web 41 = .ok (.getfield 12, 3) := by decide +kernel
theorem dX10_web_44 : decode cX10_web 44 = .ok (.iconst 0, 1) := by decide +kernel
theorem dX10_web_45 : decode cX10_web 45 = .ok (.putfield 89, 3) := by decide +kernel
theorem dX10_web_48 : decode cX10_web 48 = .ok (.aload_n 0, 1) := by decide +kernel
theorem dX10_web_49 : decode cX10_web 49 = .ok (.getfield 44, 3) := by decide +kernel
theorem dX10_web_52 : decode cX10_web 52 = .ok (.invokevirtual 107, 3) := by decide +kernel
theorem dX10_web_55 : decode cX10_web 55 = .ok (.aload_n 0, 1) := by decide +kernel
theorem dX10_web_56 : decode cX10_web 56 = .ok (.getfield 76, 3) := by decide +kernel
theorem dX10_web_59 : decode cX10_web 59 = .ok (.invokevirtual 110, 3) := by decide +kernel
theorem dX10_web_62 : decode cX10_web 62 = .ok (.aload_n 0, 1) := by decide +kernel
theorem dX10_web_63 : decode cX10_web 63 = .ok (.iconst 0, 1) := by decide +kernel
theorem dX10_web_64 : decode cX10_web 64 = .ok (.putfield 111, 3) := by decide +kernel
theorem dX10_web_67 : decode cX10_web 67 = .ok (.aload_n 0, 1) := by decide +kernel
theorem dX10_web_68 : decode cX10_web 68 = .ok (.iconst 0, 1) := by decide +kernel
theorem dX10_web_69 : decode cX10_web 69 = .ok (.putfield 114, 3) := by decide +kernel
theorem dX10_web_72 : decode cX10_web 72 = .ok (.aload_n 0, 1) := by decide +kernel
theorem dX10_web_73 : decode cX10_web 73 = .ok (.getfield 37, 3) := by decide +kernel
theorem dX10_web_76 : decode cX10_web 76 = .ok (.getfield 101, 3) := by decide +kernel
theorem dX10_web_79 : decode cX10_web 79 = .ok (.getfield 117, 3) := by decide +kernel
theorem dX10_web_82 : decode cX10_web 82 = .ok (.ireturn, 1) := by decide +kernel
theorem wd_523 : (Cond.code ⟨"WebCourt", "web", "()I"⟩ prog_1_method_4_code (2 : Nat) (Option.some FieldType.int)) ∈ gtb := gtb_c2 174 (by decide +kernel) rfl
theorem wd_480 : (Cond.fieldLink "WebCourt" (19 : Nat) "WebCourt" "draft" "LWebCourt$Web;") ∈ gtb := gtb_c2 131 (by decide +kernel) rfl
theorem gf_RX10_19 {p : Program} {l : Launch} {e : Env} {R : Room} {s : State} {m : MethodId} {args : Array Value} {below : List Frame} {meth : Method} {c : Code} {H : Heap} {locs : List Loc} {cells slots : Nat} {Q : State → Prop} {cc : ByteArray} {pc nL : Nat} {ls : Array Slot} {rest : List Value} {D : va_G} {cy : Nat → ClassId} {A : Nat → Prop} {ws : va_W} {b : Nat} {fs : List Value} {v : Value} (C : Cx p s m args c cc nL RX10 D cy A) (hO : Wo D A ws s.heap H locs) (q0 : Nat) (he : ws[q0]? = some (b, .inr (10, fs))) (hv : fs[12]? = some v) (hdg : decode cc pc = .ok (.getfield 19, 3)) (kk : W p l e R s m args below meth c H locs cells slots Q (F0 m (pc + 3) ls (v :: rest))) : W p l e R s m args below meth c H locs cells slots Q (F0 m pc ls (.ref b :: rest)) := gF (k := 12) C hO q0 he rfl inFX10 (by decide) wd_480 rfl hv hdg kk
theorem wd_524 : (Cond.methodLink "WebCourt" (97 : Nat) ⟨"WebCourt$Reader", "read", "(LWebCourt$Web;)Z"⟩) ∈ gtb := gtb_c2 175 (by decide +kernel) rfl
theorem wd_525 : (Cond.instanceMethod ⟨"WebCourt$Reader", "read", "(LWebCourt$Web;)Z"⟩) ∈ gtb := gtb_c2 176 (by decide +kernel) rfl
theorem wd_526 : (Cond.selects "WebCourt$Reader" ⟨"WebCourt$Reader", "read", "(LWebCourt$Web;)Z"⟩ ⟨"WebCourt$Reader", "read", "(LWebCourt$Web;)Z"⟩) ∈ gtb := gtb_c2 177 (by decide +kernel) rfl
theorem wd_114 : (Cond.initialized "WebCourt$Reader") ∈ gtb := gtb_c1 5 (by decide +kernel) rfl
theorem hd_yX5_read : yX5_read.cls = RX5 ∧ yX5_read.cls ≠ "java/lang/invoke/MethodHandle" ∧ yX5_read.cls ≠ "java/lang/invoke/VarHandle" ∧ (parseMethodDescriptor yX5_read.desc).map (fun d => d.parameters.length) = some 1 := by decide +kernel
theorem wd_797 : (Cond.methodLink "WebCourt" (104 : Nat) ⟨"WebCourt$Court", "open", "(LWebCourt$Web;)V"⟩) ∈ gtb := gtb_c3 208 (by decide +kernel) rfl
theorem wd_798 : (Cond.instanceMethod ⟨"WebCourt$Court", "open", "(LWebCourt$Web;)V"⟩) ∈ gtb := gtb_c3 209 (by decide +kernel) rfl
theorem wd_799 : (Cond.selects "WebCourt$Court" ⟨"WebCourt$Court", "open", "(LWebCourt$Web;)V"⟩ ⟨"WebCourt$Court", "open", "(LWebCourt$Web;)V"⟩) ∈ gtb := gtb_c3 210 (by decide +kernel) rfl
theorem hd_yX2_open : yX2_open.cls = RX2 ∧ yX2_open.cls ≠ "java/lang/invoke/MethodHandle" ∧ yX2_open.cls ≠ "java/lang/invoke/VarHandle" ∧ (parseMethodDescriptor yX2_open.desc).map (fun d => d.parameters.length) = some 1 := by decide +kernel
theorem pf_RX10_19 {p : Program} {l : Launch} {e : Env} {R : Room} {s : State} {m : MethodId} {args : Array Value} {below : List Frame} {meth : Method} {c : Code} {H : Heap} {locs : List Loc} {cells slots : Nat} {Q : State → Prop} {cc : ByteArray} {pc nL : Nat} {ls : Array Slot} {rest : List Value} {D : va_G} {cy : Nat → ClassId} {A : Nat → Prop} {ws : va_W} {b : Nat} {fs : List Value} {v : Nat} {ws' : va_W} (C : Cx p s m args c cc nL RX10 D cy A) (hO : Wo D A ws s.heap H locs) (q0 : Nat) (he : ws[q0]? = some (b, .inr (10, fs))) (hlen : 12 < fs.length) (hw : ws.set q0 (b, .inr (10, fs.set 12 (.ref v))) = ws') (hdg : decode cc pc = .ok (.putfield 19, 3)) (kk : ∀ (H : Heap) (locs : List Loc), Wo D A ws' s.heap H locs → W p l e R s m args below meth c H locs cells slots Q (F0 m (pc + 3) ls rest)) : W p l e R s m args below meth c H locs cells slots Q (F0 m pc ls (.ref v :: .ref b :: rest)) := pF (k := 12) (ty := .object "WebCourt$Web") C hO q0 he rfl inFX10 (by decide) wd_480 rfl tyX10 tyX10_ok nmX10 rfl (by decide +kernel) rfl rfl hlen hw hdg kk
theorem wd_801 : (Cond.methodLink "WebCourt" (107 : Nat) ⟨"WebCourt$Acts", "clear", "()V"⟩) ∈ gtb := gtb_c3 212 (by decide +kernel) rfl
theorem wd_802 : (Cond.instanceMethod ⟨"WebCourt$Acts", "clear", "()V"⟩) ∈ gtb := gtb_c3 213 (by decide +kernel) rfl
theorem wd_803 : (Cond.selects "WebCourt$Acts" ⟨"WebCourt$Acts", "clear", "()V"⟩ ⟨"WebCourt$Acts", "clear", "()V"⟩) ∈ gtb := gtb_c3 214 (by decide +kernel) rfl
theorem hd_yX0_clear : yX0_clear.cls = RX0 ∧ yX0_clear.cls ≠ "java/lang/invoke/MethodHandle" ∧ yX0_clear.cls ≠ "java/lang/invoke/VarHandle" ∧ (parseMethodDescriptor yX0_clear.desc).map (fun d => d.parameters.length) = some 0 := by decide +kernel
theorem wd_805 : (Cond.methodLink "WebCourt" (110 : Nat) ⟨"WebCourt$Hearsay", "clear", "()V"⟩) ∈ gtb := gtb_c3 216 (by decide +kernel) rfl
theorem wd_806 : (Cond.instanceMethod ⟨"WebCourt$Hearsay", "clear", "()V"⟩) ∈ gtb := gtb_c3 217 (by decide +kernel) rfl
theorem wd_807 : (Cond.selects "WebCourt$Hearsay" ⟨"WebCourt$Hearsay", "clear", "()V"⟩ ⟨"WebCourt$Hearsay", "clear", "()V"⟩) ∈ gtb := gtb_c3 218 (by decide +kernel) rfl
theorem hd_yX3_clear : yX3_clear.cls = RX3 ∧ yX3_clear.cls ≠ "java/lang/invoke/MethodHandle" ∧ yX3_clear.cls ≠ "java/lang/invoke/VarHandle" ∧ (parseMethodDescriptor yX3_clear.desc).map (fun d => d.parameters.length) = some 0 := by decide +kernel
set_option maxHeartbeats 4000000 in
set_option maxRecDepth 100000 in
theorem T_X10_web (l : Launch) (D : va_G) (cy : Nat → ClassId) (a : Nat → Nat) (u : St) (hI_1_1 : fI u 1 1 = 0) (hR_0 : fR u 0 = a 3) (hR_1 : fR u 1 = a 15)   : Mi l D cy (cW cy a) yX10_web (.code yX10_web cX10_web 2 (some .int)) (rmo 3 63) [.ref (a 0)] u (fun (r : Int32) (u' : St) => r = 0) := by
  refine Mi.of (own := RX10) rfl (by decide) (Nat.le_of_ble_eq_true rfl) ?_
  intro p e s m below meth c A Q ls C hret hO hl
  obtain ⟨hx, hb, hml, hown, ht, hK, hA⟩ := id C
  have hl : lv_has ls 2 [(0, .ref (a 0))] := hl
  refine lv_aload_n hx hb dX10_web_0 rfl (lv_at hl 0 rfl) ?_
  refine gf_RX10_28 (v := .ref (a 27)) C hO 0 cW_0 rfl dX10_web_1 ?_
  refine lv_aload_n hx hb dX10_web_4 rfl (lv_at hl 0 rfl) ?_
  refine gf_RX10_19 (v := .ref (a 15)) C hO 0 cW_0 (congrArg (fun z : Nat => some (Value.ref z)) hR_1) dX10_web_5 ?_
  refine cVi (w := cW cy a) (As := [.ref (a 15)]) (rest := []) C hO (T_X5_read l D cy a _ (by exact hI_1_1)) (cwV 1 ht (gV wd_524 wd_525 wd_526 wd_114 wd_527) rfl rfl rfl hd_yX5_read ⟨Nat.le_of_ble_eq_true rfl, Nat.le_of_ble_eq_true rfl⟩) 27 rfl cW_27 rfl rfl hl.1 (Nat.le_of_ble_eq_true rfl) dX10_web_8 rfl ⟨Nat.zero_le _, Nat.zero_le _⟩ (fun r1 u2 H locs hp3 hO => ?_)
  obtain ⟨hr1, hu2⟩ := hp3
  subst hr1
  rw [hu2] at hO
  refine bt_ne (tgt := 16) (X := 1) hx hb dX10_web_11 (by decide) rfl (by omega) ?_
  refine lv_aload_n hx hb dX10_web_16 rfl (lv_at hl 0 rfl) ?_
  refine gf_RX10_37 (v := .ref (a 28)) C hO 0 cW_0 rfl dX10_web_17 ?_
  refine gf_RX10_101 (v := .ref (a 3)) C hO 28 cW_28 (congrArg (fun z : Nat => some (Value.ref z)) hR_0) dX10_web_20 ?_
  refine lv_astore_n (lv' := [(1, .ref (a 3)), (0, .ref (a 0))]) hx hb dX10_web_23 rfl hl (by decide) rfl (fun ls hl => ?_)
  refine lv_aload_n hx hb dX10_web_24 rfl (lv_at hl 1 rfl) ?_
  refine gf_RX10_37 (v := .ref (a 28)) C hO 0 cW_0 rfl dX10_web_25 ?_
  refine lv_aload_n hx hb dX10_web_28 rfl (lv_at hl 1 rfl) ?_
  refine gf_RX10_19 (v := .ref (a 15)) C hO 0 cW_0 (congrArg (fun z : Nat => some (Value.ref z)) hR_1) dX10_web_29 ?_
  refine cVv (w := cW cy a) (As := [.ref (a 15)]) (rest := []) C hO (T_X2_open l D cy a _ (by exact rfl) (by exact rfl) (by exact rfl) (by exact rfl)) (cwV 1 ht (gV wd_797 wd_798 wd_799 wd_115 wd_800) rfl rfl rfl hd_yX2_open ⟨Nat.le_of_ble_eq_true rfl, Nat.le_of_ble_eq_true rfl⟩) 28 rfl cW_28 rfl rfl hl.1 (Nat.le_of_ble_eq_true rfl) dX10_web_32 rfl ⟨Nat.zero_le _, Nat.zero_le _⟩ (fun u5 H locs hp6 hO => ?_)
  obtain ⟨hR_0_u5, hI_15_12_u5⟩ := hp6
  refine lv_aload_n hx hb dX10_web_35 rfl (lv_at hl 1 rfl) ?_
  refine lv_aload_n hx hb dX10_web_36 rfl (lv_at hl 0 rfl) ?_
  refine pf_RX10_19 C hO 0 cW_0 (Nat.le_of_ble_eq_true rfl) cW_s0_12 dX10_web_37 (fun H locs hO => ?_)
  refine lv_aload_n hx hb dX10_web_40 rfl (lv_at hl 1 rfl) ?_
  refine gf_RX10_12 (v := .ref (a 1)) C hO 0 cW_0 rfl dX10_web_41 ?_
  refine lv_iconst (v := 0) hx hb dX10_web_44 (by decide) ?_
  refine pf_RX10_89 C hO 1 cW_1 (Nat.le_of_ble_eq_true rfl) cW_s1_1 dX10_web_45 (fun H locs hO => ?_)
  refine lv_aload_n hx hb dX10_web_48 rfl (lv_at hl 1 rfl) ?_
  refine gf_RX10_44 (v := .ref (a 30)) C hO 0 cW_0 rfl dX10_web_49 ?_
  refine cVv (w := cW cy a) (As := []) (rest := []) C hO (T_X0_clear l D cy a _ ) (cwV 0 ht (gV wd_801 wd_802 wd_803 wd_116 wd_804) rfl rfl rfl hd_yX0_clear ⟨Nat.le_of_ble_eq_true rfl, Nat.le_of_ble_eq_true rfl⟩) 30 rfl cW_30 rfl rfl hl.1 (Nat.le_of_ble_eq_true rfl) dX10_web_52 rfl ⟨Nat.zero_le _, Nat.zero_le _⟩ (fun u8 H locs hp9 hO => ?_)
  have hu8 := hp9
  rw [hu8] at hO
  refine lv_aload_n hx hb dX10_web_55 rfl (lv_at hl 1 rfl) ?_
  refine gf_RX10_76 (v := .ref (a 39)) C hO 0 cW_0 rfl dX10_web_56 ?_
  refine cVv (w := cW cy a) (As := []) (rest := []) C hO (T_X3_clear l D cy a _ ) (cwV 0 ht (gV wd_805 wd_806 wd_807 wd_120 wd_808) rfl rfl rfl hd_yX3_clear ⟨Nat.le_of_ble_eq_true rfl, Nat.le_of_ble_eq_true rfl⟩) 39 rfl cW_39 rfl rfl hl.1 (Nat.le_of_ble_eq_true rfl) dX10_web_59 rfl ⟨Nat.zero_le _, Nat.zero_le _⟩ (fun u11 H locs hp12 hO => ?_)
  have hu11 := hp12
  rw [hu11] at hO
  refine lv_aload_n hx hb dX10_web_62 rfl (lv_at hl 1 rfl) ?_
  refine lv_iconst (v := 0) hx hb dX10_web_63 (by decide) ?_
  refine pf_RX10_111 C hO 0 cW_0 (Nat.le_of_ble_eq_true rfl) cW_s0_10 dX10_web_64 (fun H locs hO => ?_)
  refine lv_aload_n hx hb dX10_web_67 rfl (lv_at hl 1 rfl) ?_
  refine lv_iconst (v := 0) hx hb dX10_web_68 (by decide) ?_
  refine pf_RX10_114 C hO 0 cW_0 (Nat.le_of_ble_eq_true rfl) cW_s0_11 dX10_web_69 (fun H locs hO => ?_)
  refine lv_aload_n hx hb dX10_web_72 rfl (lv_at hl 1 rfl) ?_
  refine gf_RX10_37 (v := .ref (a 28)) C hO 0 cW_0 rfl dX10_web_73 ?_
  refine gf_RX10_101 (v := .ref (a 15)) C hO 28 cW_28 (congrArg (fun z : Nat => some (Value.ref z)) hR_0_u5) dX10_web_76 ?_
  refine gf_RX10_117 (v := .int 0) C hO 15 cW_15 (congrArg (fun z : Int32 => some (Value.int z)) hI_15_12_u5) dX10_web_79 ?_
  refine hret _ _ _ _ _ _ dX10_web_82 rfl ?_ hO
  exact rfl
