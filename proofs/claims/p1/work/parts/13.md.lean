theorem dX11_clearBank_0 : decode cX11_clearBank 0 = .ok (.aload_n 0, 1) := by decide +kernel
theorem dX11_clearBank_1 : decode cX11_clearBank 1 = .ok (.getfield 20, 3) := by decide +kernel
theorem dX11_clearBank_4 : decode cX11_clearBank 4 = .ok (.aload_n 0, 1) := by decide +kernel
theorem dX11_clearBank_5 : decode cX11_clearBank 5 = .ok (.getfield 246, 3) := by decide +kernel
theorem dX11_clearBank_8 : decode cX11_clearBank 8 = .ok (.iconst 0, 1) := by decide +kernel
theorem dX11_clearBank_9 : decode cX11_clearBank 9 = .ok (.iastore, 1) := by decide +kernel
theorem dX11_clearBank_10 : decode cX11_clearBank 10 = .ok (.aload_n 0, 1) := by decide +kernel
theorem dX11_clearBank_11 : decode cX11_clearBank 11 = .ok (.getfield 24, 3) := by decide +kernel
theorem dX11_clearBank_14 : decode cX11_clearBank 14 = .ok (.aload_n 0, 1) := by decide +kernel
theorem dX11_clearBank_15 : decode cX11_clearBank 15 = .ok (.getfield 246, 3) := by decide +kernel
theorem dX11_clearBank_18 : decode cX11_clearBank 18 = .ok (.iconst 0, 1) := by decide +kernel
theorem dX11_clearBank_19 : decode cX11_clearBank 19 = .ok (.iastore, 1) := by decide +kernel
theorem dX11_clearBank_20 : decode cX11_clearBank 20 = .ok (.aload_n 0, 1) := by decide +kernel
theorem dX11_clearBank_21 : decode cX11_clearBank 21 = .ok (.getfield 27, 3) := by decide +kernel
theorem dX11_clearBank_24 : decode cX11_clearBank 24 = .ok (.aload_n 0, 1) := by decide +kernel
theorem dX11_clearBank_25 : decode cX11_clearBank 25 = .ok (.getfield 246, 3) := by decide +kernel
theorem dX11_clearBank_28 : decode cX11_clearBank 28 = .ok (.iconst 0, 1) := by decide +kernel
theorem dX11_clearBank_29 : decode cX11_clearBank 29 = .ok (.iastore, 1) := by decide +kernel
theorem dX11_clearBank_30 : decode cX11_clearBank 30 = .ok (.aload_n 0, 1) := by decide +kernel
theorem dX11_clearBank_31 : decode cX11_clearBank 31 = .ok (.getfield 30, 3) := by decide +kernel
theorem dX11_clearBank_34 : decode cX11_clearBank 34 = .ok (.aload_n 0, 1) := by decide +kernel
theorem dX11_clearBank_35 : decode cX11_clearBank 35 = .ok (.getfield 246, 3) := by decide +kernel
theorem dX11_clearBank_38 : decode cX11_clearBank 38 = .ok (.iconst 0, 1) := by decide +kernel
theorem dX11_clearBank_39 : decode cX11_clearBank 39 = .ok (.iastore, 1) := by decide +kernel
theorem dX11_clearBank_40 : decode cX11_clearBank 40 = .ok (.aload_n 0, 1) := by decide +kernel
theorem dX11_clearBank_41 : decode cX11_clearBank 41 = .ok (.getfield 33, 3) := by decide +kernel
theorem dX11_clearBank_44 : decode cX11_clearBank 44 = .ok (.aload_n 0, 1) := by decide +kernel
theorem dX11_clearBank_45 : decode cX11_clearBank 45 = .ok (.getfield 246, 3) := by decide +kernel
theorem dX11_clearBank_48 : decode cX11_clearBank 48 = .ok (.iconst 0, 1) := by decide +kernel
theorem dX11_clearBank_49 : decode cX11_clearBank 49 = .ok (.iastore, 1) := by decide +kernel
theorem dX11_clearBank_50 : decode cX11_clearBank 50 = .ok (.aload_n 0, 1) := by decide +kernel
theorem dX11_clearBank_51 : decode cX11_clearBank 51 = .ok (.getfield 36, 3) := by decide +kernel
theorem dX11_clearBank_54 : decode cX11_clearBank 54 = .ok (.aload_n 0, 1) := by decide +kernel
theorem dX11_clearBank_55 : decode cX11_clearBank 55 = .ok (.getfield 246, 3) := by decide +kernel
theorem dX11_clearBank_58 : decode cX11_clearBank 58 = .ok (.iconst 0, 1) := by decide +kernel
theorem dX11_clearBank_59 : decode cX11_clearBank 59 = .ok (.iastore, 1) := by decide +kernel
theorem dX11_clearBank_60 : decode cX11_clearBank 60 = .ok (.aload_n 0, 1) := by decide +kernel
theorem dX11_clearBank_61 : decode cX11_clearBank 61 = .ok (.getfield 39, 3) := by decide +kernel
theorem dX11_clearBank_64 : decode cX11_clearBank 64 = .ok (.aload_n 0, 1) := by decide +kernel
theorem dX11_clearBank_65 : decode cX11_clearBank 65 = .ok (.getfield 246, 3) := by decide +kernel
theorem dX11_clearBank_68 : decode cX11_clearBank 68 = .ok (.iconst 0, 1) := by decide +kernel
theorem dX11_clearBank_69 : decode cX11_clearBank 69 = .ok (.iastore, 1) := by decide +kernel
theorem dX11_clearBank_70 : decode cX11_clearBank 70 = .ok (.aload_n 0, 1) := by decide +kernel
theorem dX11_clearBank_71 : decode cX11_clearBank 71 = .ok (.getfield 42, 3) := by decide +kernel
theorem dX11_clearBank_74 : decode cX11_clearBank 74 = .ok (.aload_n 0, 1) := by decide +kernel
theorem dX11_clearBank_75 : decode cX11_clearBank 75 = .ok (.getfield 246, 3) := by decide +kernel
theorem dX11_clearBank_78 : decode cX11_clearBank 78 = .ok (.iconst 0, 1) := by decide +kernel
theorem dX11_clearBank_79 : decode cX11_clearBank 79 = .ok (.iastore, 1) := by decide +kernel
theorem dX11_clearBank_80 : decode cX11_clearBank 80 = .ok (.aload_n 0, 1) := by decide +kernel
theorem dX11_clearBank_81 : decode cX11_clearBank 81 = .ok (.getfield 45, 3) := by decide +kernel
theorem dX11_clearBank_84 : decode cX11_clearBank 84 = .ok (.aload_n 0, 1) := by decide +kernel
theorem dX11_clearBank_85 : decode cX11_clearBank 85 = .ok (.getfield 246, 3) := by decide +kernel
theorem dX11_clearBank_88 : decode cX11_clearBank 88 = .ok (.iconst 0, 1) := by decide +kernel
theorem dX11_clearBank_89 : decode cX11_clearBank 89 = .ok (.iastore, 1) := by decide +kernel
theorem dX11_clearBank_90 : decode cX11_clearBank 90 = .ok (.aload_n 0, 1) := by decide +kernel
theorem dX11_clearBank_91 : decode cX11_clearBank 91 = .ok (.getfield 48, 3) := by decide +kernel
theorem dX11_clearBank_94 : decode cX11_clearBank 94 = .ok (.aload_n 0, 1) := by decide +kernel
theorem dX11_clearBank_95 : decode cX11_clearBank 95 = .ok (.getfield 246, 3) := by decide +kernel
theorem dX11_clearBank_98 : decode cX11_clearBank 98 = .ok (.iconst 0, 1) := by decide +kernel
theorem dX11_clearBank_99 : decode cX11_clearBank 99 = .ok (.iastore, 1) := by decide +kernel
theorem dX11_clearBank_100 : decode cX11_clearBank 100 = .ok (.aload_n 0, 1) := by decide +kernel
theorem dX11_clearBank_101 : decode cX11_clearBank 101 = .ok (.sipush 560, 3) := by decide +kernel
theorem dX11_clearBank_104 : decode cX11_clearBank 104 = .ok (.aload_n 0, 1) := by decide +kernel
theorem dX11_clearBank_105 : decode cX11_clearBank 105 = .ok (.getfield 246, 3) := by decide +kernel
theorem dX11_clearBank_108 : decode cX11_clearBank 108 = .ok (.imul, 1) := by decide +kernel
theorem dX11_clearBank_109 : decode cX11_clearBank 109 = .ok (.putfield 249, 3) := by decide +kernel
theorem dX11_clearBank_112 : decode cX11_clearBank 112 = .ok (.return_, 1) := by decide +kernel
theorem wd_1339 : (Cond.code ⟨"WebCourtModel", "clearBank", "()V"⟩ prog_13_method_15_code (1 : Nat) (Option.none : Option FieldType)) ∈ gtb := gtb_c6 30 (by decide +kernel) rfl
theorem wd_1393 : (Cond.fieldLink "WebCourtModel" (246 : Nat) "WebCourtModel" "rb" "I") ∈ gtb := gtb_c6 84 (by decide +kernel) rfl
theorem gf_RX11_246 {p : Program} {l : Launch} {e : Env} {R : Room} {s : State} {m : MethodId} {args : Array Value} {below : List Frame} {meth : Method} {c : Code} {H : Heap} {locs : List Loc} {cells slots : Nat} {Q : State → Prop} {cc : ByteArray} {pc nL : Nat} {ls : Array Slot} {rest : List Value} {D : va_G} {cy : Nat → ClassId} {A : Nat → Prop} {ws : va_W} {b : Nat} {fs : List Value} {v : Value} (C : Cx p s m args c cc nL RX11 D cy A) (hO : Wo D A ws s.heap H locs) (q0 : Nat) (he : ws[q0]? = some (b, .inr (11, fs))) (hv : fs[37]? = some v) (hdg : decode cc pc = .ok (.getfield 246, 3)) (kk : W p l e R s m args below meth c H locs cells slots Q (F0 m (pc + 3) ls (v :: rest))) : W p l e R s m args below meth c H locs cells slots Q (F0 m pc ls (.ref b :: rest)) := gF (k := 37) C hO q0 he rfl inFX11 (by decide) wd_1393 rfl hv hdg kk
theorem wd_1372 : (Cond.fieldLink "WebCourtModel" (36 : Nat) "WebCourtModel" "bench" "[I") ∈ gtb := gtb_c6 63 (by decide +kernel) rfl
theorem gf_RX11_36 {p : Program} {l : Launch} {e : Env} {R : Room} {s : State} {m : MethodId} {args : Array Value} {below : List Frame} {meth : Method} {c : Code} {H : Heap} {locs : List Loc} {cells slots : Nat} {Q : State → Prop} {cc : ByteArray} {pc nL : Nat} {ls : Array Slot} {rest : List Value} {D : va_G} {cy : Nat → ClassId} {A : Nat → Prop} {ws : va_W} {b : Nat} {fs : List Value} {v : Value} (C : Cx p s m args c cc nL RX11 D cy A) (hO : Wo D A ws s.heap H locs) (q0 : Nat) (he : ws[q0]? = some (b, .inr (11, fs))) (hv : fs[16]? = some v) (hdg : decode cc pc = .ok (.getfield 36, 3)) (kk : W p l e R s m args below meth c H locs cells slots Q (F0 m (pc + 3) ls (v :: rest))) : W p l e R s m args below meth c H locs cells slots Q (F0 m pc ls (.ref b :: rest)) := gF (k := 16) C hO q0 he rfl inFX11 (by decide) wd_1372 rfl hv hdg kk
theorem wd_1374 : (Cond.fieldLink "WebCourtModel" (42 : Nat) "WebCourtModel" "draw" "[I") ∈ gtb := gtb_c6 65 (by decide +kernel) rfl
theorem gf_RX11_42 {p : Program} {l : Launch} {e : Env} {R : Room} {s : State} {m : MethodId} {args : Array Value} {below : List Frame} {meth : Method} {c : Code} {H : Heap} {locs : List Loc} {cells slots : Nat} {Q : State → Prop} {cc : ByteArray} {pc nL : Nat} {ls : Array Slot} {rest : List Value} {D : va_G} {cy : Nat → ClassId} {A : Nat → Prop} {ws : va_W} {b : Nat} {fs : List Value} {v : Value} (C : Cx p s m args c cc nL RX11 D cy A) (hO : Wo D A ws s.heap H locs) (q0 : Nat) (he : ws[q0]? = some (b, .inr (11, fs))) (hv : fs[18]? = some v) (hdg : decode cc pc = .ok (.getfield 42, 3)) (kk : W p l e R s m args below meth c H locs cells slots Q (F0 m (pc + 3) ls (v :: rest))) : W p l e R s m args below meth c H locs cells slots Q (F0 m pc ls (.ref b :: rest)) := gF (k := 18) C hO q0 he rfl inFX11 (by decide) wd_1374 rfl hv hdg kk
theorem wd_1375 : (Cond.fieldLink "WebCourtModel" (45 : Nat) "WebCourtModel" "told" "[I") ∈ gtb := gtb_c6 66 (by decide +kernel) rfl
theorem gf_RX11_45 {p : Program} {l : Launch} {e : Env} {R : Room} {s : State} {m : MethodId} {args : Array Value} {below : List Frame} {meth : Method} {c : Code} {H : Heap} {locs : List Loc} {cells slots : Nat} {Q : State → Prop} {cc : ByteArray} {pc nL : Nat} {ls : Array Slot} {rest : List Value} {D : va_G} {cy : Nat → ClassId} {A : Nat → Prop} {ws : va_W} {b : Nat} {fs : List Value} {v : Value} (C : Cx p s m args c cc nL RX11 D cy A) (hO : Wo D A ws s.heap H locs) (q0 : Nat) (he : ws[q0]? = some (b, .inr (11, fs))) (hv : fs[19]? = some v) (hdg : decode cc pc = .ok (.getfield 45, 3)) (kk : W p l e R s m args below meth c H locs cells slots Q (F0 m (pc + 3) ls (v :: rest))) : W p l e R s m args below meth c H locs cells slots Q (F0 m pc ls (.ref b :: rest)) := gF (k := 19) C hO q0 he rfl inFX11 (by decide) wd_1375 rfl hv hdg kk
theorem wd_1376 : (Cond.fieldLink "WebCourtModel" (48 : Nat) "WebCourtModel" "stickyTold" "[I") ∈ gtb := gtb_c6 67 (by decide +kernel) rfl
theorem gf_RX11_48 {p : Program} {l : Launch} {e : Env} {R : Room} {s : State} {m : MethodId} {args : Array Value} {below : List Frame} {meth : Method} {c : Code} {H : Heap} {locs : List Loc} {cells slots : Nat} {Q : State → Prop} {cc : ByteArray} {pc nL : Nat} {ls : Array Slot} {rest : List Value} {D : va_G} {cy : Nat → ClassId} {A : Nat → Prop} {ws : va_W} {b : Nat} {fs : List Value} {v : Value} (C : Cx p s m args c cc nL RX11 D cy A) (hO : Wo D A ws s.heap H locs) (q0 : Nat) (he : ws[q0]? = some (b, .inr (11, fs))) (hv : fs[20]? = some v) (hdg : decode cc pc = .ok (.getfield 48, 3)) (kk : W p l e R s m args below meth c H locs cells slots Q (F0 m (pc + 3) ls (v :: rest))) : W p l e R s m args below meth c H locs cells slots Q (F0 m pc ls (.ref b :: rest)) := gF (k := 20) C hO q0 he rfl inFX11 (by decide) wd_1376 rfl hv hdg kk
theorem wd_1394 : (Cond.fieldLink "WebCourtModel" (249 : Nat) "WebCourtModel" "codes" "I") ∈ gtb := gtb_c6 85 (by decide +kernel) rfl
theorem pf_RX11_249 {p : Program} {l : Launch} {e : Env} {R : Room} {s : State} {m : MethodId} {args : Array Value} {below : List Frame} {meth : Method} {c : Code} {H : Heap} {locs : List Loc} {cells slots : Nat} {Q : State → Prop} {cc : ByteArray} {pc nL : Nat} {ls : Array Slot} {rest : List Value} {D : va_G} {cy : Nat → ClassId} {A : Nat → Prop} {ws : va_W} {b : Nat} {fs : List Value} {v : Int32} {ws' : va_W} (C : Cx p s m args c cc nL RX11 D cy A) (hO : Wo D A ws s.heap H locs) (q0 : Nat) (he : ws[q0]? = some (b, .inr (11, fs))) (hlen : 38 < fs.length) (hw : ws.set q0 (b, .inr (11, fs.set 38 (.int v))) = ws') (hdg : decode cc pc = .ok (.putfield 249, 3)) (kk : ∀ (H : Heap) (locs : List Loc), Wo D A ws' s.heap H locs → W p l e R s m args below meth c H locs cells slots Q (F0 m (pc + 3) ls rest)) : W p l e R s m args below meth c H locs cells slots Q (F0 m pc ls (.int v :: .ref b :: rest)) := pF (k := 38) (ty := .int) C hO q0 he rfl inFX11 (by decide) wd_1394 rfl tyX11 tyX11_ok nmX11 rfl (by decide +kernel) rfl rfl hlen hw hdg kk
set_option maxHeartbeats 4000000 in
set_option maxRecDepth 100000 in
theorem T_X11_clearBank (l : Launch) (D : va_G) (cy : Nat → ClassId) (a : Nat → Nat) (u : St) (hI_0_37 : fI u 0 37 = 0)   : Mv l D cy (mW cy a) yX11_clearBank (.code yX11_clearBank cX11_clearBank 1 none) (rmo 0 0) [.ref (a 0)] u (fun (u' : St) => u' = (sI (sAt (sAt (sAt (sAt (sAt (sAt (sAt (sAt (sAt (sAt u 3 (0 : Int32).toNatClampNeg 0) 4 (0 : Int32).toNatClampNeg 0) 5 (0 : Int32).toNatClampNeg 0) 6 (0 : Int32).toNatClampNeg 0) 7 (0 : Int32).toNatClampNeg 0) 8 (0 : Int32).toNatClampNeg 0) 9 (0 : Int32).toNatClampNeg 0) 10 (0 : Int32).toNatClampNeg 0) 11 (0 : Int32).toNatClampNeg 0) 12 (0 : Int32).toNatClampNeg 0) 0 38 0)) := by
  refine Mv.of (own := RX11) rfl (by decide) (Nat.le_of_ble_eq_true rfl) ?_
  intro p e s m below meth c A Q ls C hret hO hl
  obtain ⟨hx, hb, hml, hown, ht, hK, hA⟩ := id C
  have hl : lv_has ls 1 [(0, .ref (a 0))] := hl
  refine lv_aload_n hx hb dX11_clearBank_0 rfl (lv_at hl 0 rfl) ?_
  refine gf_RX11_20 (v := .ref (a 3)) C hO 0 mW_0 rfl dX11_clearBank_1 ?_
  refine lv_aload_n hx hb dX11_clearBank_4 rfl (lv_at hl 0 rfl) ?_
  refine gf_RX11_246 (v := .int 0) C hO 0 mW_0 (congrArg (fun z : Int32 => some (Value.int z)) hI_0_37) dX11_clearBank_5 ?_
  refine lv_iconst (v := 0) hx hb dX11_clearBank_8 (by decide) ?_
  refine aIs C hO 3 mW_3 (i_in (X := 0) rfl (by omega) (by omega)) mW_s3 dX11_clearBank_9 (fun H locs hO => ?_)
  refine lv_aload_n hx hb dX11_clearBank_10 rfl (lv_at hl 0 rfl) ?_
  refine gf_RX11_24 (v := .ref (a 4)) C hO 0 mW_0 rfl dX11_clearBank_11 ?_
  refine lv_aload_n hx hb dX11_clearBank_14 rfl (lv_at hl 0 rfl) ?_
  refine gf_RX11_246 (v := .int 0) C hO 0 mW_0 (congrArg (fun z : Int32 => some (Value.int z)) hI_0_37) dX11_clearBank_15 ?_
  refine lv_iconst (v := 0) hx hb dX11_clearBank_18 (by decide) ?_
  refine aIs C hO 4 mW_4 (i_in (X := 0) rfl (by omega) (by omega)) mW_s4 dX11_clearBank_19 (fun H locs hO => ?_)
  refine lv_aload_n hx hb dX11_clearBank_20 rfl (lv_at hl 0 rfl) ?_
  refine gf_RX11_27 (v := .ref (a 5)) C hO 0 mW_0 rfl dX11_clearBank_21 ?_
  refine lv_aload_n hx hb dX11_clearBank_24 rfl (lv_at hl 0 rfl) ?_
  refine gf_RX11_246 (v := .int 0) C hO 0 mW_0 (congrArg (fun z : Int32 => some (Value.int z)) hI_0_37) dX11_clearBank_25 ?_
  refine lv_iconst (v := 0) hx hb dX11_clearBank_28 (by decide) ?_
  refine aIs C hO 5 mW_5 (i_in (X := 0) rfl (by omega) (by omega)) mW_s5 dX11_clearBank_29 (fun H locs hO => ?_)
  refine lv_aload_n hx hb dX11_clearBank_30 rfl (lv_at hl 0 rfl) ?_
  refine gf_RX11_30 (v := .ref (a 6)) C hO 0 mW_0 rfl dX11_clearBank_31 ?_
  refine lv_aload_n hx hb dX11_clearBank_34 rfl (lv_at hl 0 rfl) ?_
  refine gf_RX11_246 (v := .int 0) C hO 0 mW_0 (congrArg (fun z : Int32 => some (Value.int z)) hI_0_37) dX11_clearBank_35 ?_
  refine lv_iconst (v := 0) hx hb dX11_clearBank_38 (by decide) ?_
  refine aIs C hO 6 mW_6 (i_in (X := 0) rfl (by omega) (by omega)) mW_s6 dX11_clearBank_39 (fun H locs hO => ?_)
  refine lv_aload_n hx hb dX11_clearBank_40 rfl (lv_at hl 0 rfl) ?_
  refine gf_RX11_33 (v := .ref (a 7)) C hO 0 mW_0 rfl dX11_clearBank_41 ?_
  refine lv_aload_n hx hb dX11_clearBank_44 rfl (lv_at hl 0 rfl) ?_
  refine gf_RX11_246 (v := .int 0) C hO 0 mW_0 (congrArg (fun z : Int32 => some (Value.int z)) hI_0_37) dX11_clearBank_45 ?_
  refine lv_iconst (v := 0) hx hb dX11_clearBank_48 (by decide) ?_
  refine aIs C hO 7 mW_7 (i_in (X := 0) rfl (by omega) (by omega)) mW_s7 dX11_clearBank_49 (fun H locs hO => ?_)
  refine lv_aload_n hx hb dX11_clearBank_50 rfl (lv_at hl 0 rfl) ?_
  refine gf_RX11_36 (v := .ref (a 8)) C hO 0 mW_0 rfl dX11_clearBank_51 ?_
  refine lv_aload_n hx hb dX11_clearBank_54 rfl (lv_at hl 0 rfl) ?_
  refine gf_RX11_246 (v := .int 0) C hO 0 mW_0 (congrArg (fun z : Int32 => some (Value.int z)) hI_0_37) dX11_clearBank_55 ?_
  refine lv_iconst (v := 0) hx hb dX11_clearBank_58 (by decide) ?_
  refine aIs C hO 8 mW_8 (i_in (X := 0) rfl (by omega) (by omega)) mW_s8 dX11_clearBank_59 (fun H locs hO => ?_)
  refine lv_aload_n hx hb dX11_clearBank_60 rfl (lv_at hl 0 rfl) ?_
  refine gf_RX11_39 (v := .ref (a 9)) C hO 0 mW_0 rfl dX11_clearBank_61 ?_
  refine lv_aload_n hx hb dX11_clearBank_64 rfl (lv_at hl 0 rfl) ?_
  refine gf_RX11_246 (v := .int 0) C hO 0 mW_0 (congrArg (fun z : Int32 => some (Value.int z)) hI_0_37) dX11_clearBank_65 ?_
  refine lv_iconst (v := 0) hx hb dX11_clearBank_68 (by decide) ?_
  refine aIs C hO 9 mW_9 (i_in (X := 0) rfl (by omega) (by omega)) mW_s9 dX11_clearBank_69 (fun H locs hO => ?_)
  refine lv_aload_n hx hb dX11_clearBank_70 rfl (lv_at hl 0 rfl) ?_
  refine gf_RX11_42 (v := .ref (a 10)) C hO 0 mW_0 rfl dX11_clearBank_71 ?_
  refine lv_aload_n hx hb dX11_clearBank_74 rfl (lv_at hl 0 rfl) ?_
  refine gf_RX11_246 (v := .int 0) C hO 0 mW_0 (congrArg (fun z : Int32 => some (Value.int z)) hI_0_37) dX11_clearBank_75 ?_
  refine lv_iconst (v := 0) hx hb dX11_clearBank_78 (by decide) ?_
  refine aIs C hO 10 mW_10 (i_in (X := 0) rfl (by omega) (by omega)) mW_s10 dX11_clearBank_79 (fun H locs hO => ?_)
  refine lv_aload_n hx hb dX11_clearBank_80 rfl (lv_at hl 0 rfl) ?_
  refine gf_RX11_45 (v := .ref (a 11)) C hO 0 mW_0 rfl dX11_clearBank_81 ?_
  refine lv_aload_n hx hb dX11_clearBank_84 rfl (lv_at hl 0 rfl) ?_
  refine gf_RX11_246 (v := .int 0) C hO 0 mW_0 (congrArg (fun z : Int32 => some (Value.int z)) hI_0_37) dX11_clearBank_85 ?_
  refine lv_iconst (v := 0) hx hb dX11_clearBank_88 (by decide) ?_
  refine aIs C hO 11 mW_11 (i_in (X := 0) rfl (by omega) (by omega)) mW_s11 dX11_clearBank_89 (fun H locs hO => ?_)
  refine lv_aload_n hx hb dX11_clearBank_90 rfl (lv_at hl 0 rfl) ?_
  refine gf_RX11_48 (v := .ref (a 12)) C hO 0 mW_0 rfl dX11_clearBank_91 ?_
  refine lv_aload_n hx hb dX11_clearBank_94 rfl (lv_at hl 0 rfl) ?_
  refine gf_RX11_246 (v := .int 0) C hO 0 mW_0 (congrArg (fun z : Int32 => some (Value.int z)) hI_0_37) dX11_clearBank_95 ?_
  refine lv_iconst (v := 0) hx hb dX11_clearBank_98 (by decide) ?_
  refine aIs C hO 12 mW_12 (i_in (X := 0) rfl (by omega) (by omega)) mW_s12 dX11_clearBank_99 (fun H locs hO => ?_)
  refine lv_aload_n hx hb dX11_clearBank_100 rfl (lv_at hl 0 rfl) ?_
  refine lv_sipush (v := 560) hx hb dX11_clearBank_101 (by decide) ?_
  refine lv_aload_n hx hb dX11_clearBank_104 rfl (lv_at hl 0 rfl) ?_
  refine gf_RX11_246 (v := .int 0) C hO 0 mW_0 (congrArg (fun z : Int32 => some (Value.int z)) hI_0_37) dX11_clearBank_105 ?_
  refine lv_imul hx hb dX11_clearBank_108 ?_
  refine tE (y := 0) rfl ?_
  refine pf_RX11_249 C hO 0 mW_0 (Nat.le_of_ble_eq_true rfl) mW_s0_38 dX11_clearBank_109 (fun H locs hO => ?_)
  refine hret _ _ _ _ _ dX11_clearBank_112 ?_ hO
  exact rfl
set_option maxHeartbeats 4000000 in
set_option maxRecDepth 100000 in
theorem T_X11_clearBank_r1 (l : Launch) (D : va_G) (cy : Nat → ClassId) (a : Nat → Nat) (u : St) (hI_0_37 : fI u 0 37 = 1)   : Mv l D cy (mW cy a) yX11_clearBank (.code yX11_clearBank cX11_clearBank 1 none) (rmo 0 0) [.ref (a 0)] u (fun (u' : St) => u' = (sI (sAt (sAt (sAt (sAt (sAt (sAt (sAt (sAt (sAt (sAt u 3 (1 : Int32).toNatClampNeg 0) 4 (1 : Int32).toNatClampNeg 0) 5 (1 : Int32).toNatClampNeg 0) 6 (1 : Int32).toNatClampNeg 0) 7 (1 : Int32).toNatClampNeg 0) 8 (1 : Int32).toNatClampNeg 0) 9 (1 : Int32).toNatClampNeg 0) 10 (1 : Int32).toNatClampNeg 0) 11 (1 : Int32).toNatClampNeg 0) 12 (1 : Int32).toNatClampNeg 0) 0 38 560)) := by
  refine Mv.of (own := RX11) rfl (by decide) (Nat.le_of_ble_eq_true rfl) ?_
  intro p e s m below meth c A Q ls C hret hO hl
  obtain ⟨hx, hb, hml, hown, ht, hK, hA⟩ := id C
  have hl : lv_has ls 1 [(0, .ref (a 0))] := hl
  refine lv_aload_n hx hb dX11_clearBank_0 rfl (lv_at hl 0 rfl) ?_
  refine gf_RX11_20 (v := .ref (a 3)) C hO 0 mW_0 rfl dX11_clearBank_1 ?_
  refine lv_aload_n hx hb dX11_clearBank_4 rfl (lv_at hl 0 rfl) ?_
  refine gf_RX11_246 (v := .int 1) C hO 0 mW_0 (congrArg (fun z : Int32 => some (Value.int z)) hI_0_37) dX11_clearBank_5 ?_
  refine lv_iconst (v := 0) hx hb dX11_clearBank_8 (by decide) ?_
  refine aIs C hO 3 mW_3 (i_in (X := 1) rfl (by omega) (by omega)) mW_s3 dX11_clearBank_9 (fun H locs hO => ?_)
  refine lv_aload_n hx hb dX11_clearBank_10 rfl (lv_at hl 0 rfl) ?_
  refine gf_RX11_24 (v := .ref (a 4)) C hO 0 mW_0 rfl dX11_clearBank_11 ?_
  refine lv_aload_n hx hb dX11_clearBank_14 rfl (lv_at hl 0 rfl) ?_
  refine gf_RX11_246 (v := .int 1) C hO 0 mW_0 (congrArg (fun z : Int32 => some (Value.int z)) hI_0_37) dX11_clearBank_15 ?_
  refine lv_iconst (v := 0) hx hb dX11_clearBank_18 (by decide) ?_
  refine aIs C hO 4 mW_4 (i_in (X := 1) rfl (by omega) (by omega)) mW_s4 dX11_clearBank_19 (fun H locs hO => ?_)
  refine lv_aload_n hx hb dX11_clearBank_20 rfl (lv_at hl 0 rfl) ?_
  refine gf_RX11_27 (v := .ref (a 5)) C hO 0 mW_0 rfl dX11_clearBank_21 ?_
  refine lv_aload_n hx hb dX11_clearBank_24 rfl (lv_at hl 0 rfl) ?_
  refine gf_RX11_246 (v := .int 1) C hO 0 mW_0 (congrArg (fun z : Int32 => some (Value.int z)) hI_0_37) dX11_clearBank_25 ?_
  refine lv_iconst (v := 0) hx hb dX11_clearBank_28 (by decide) ?_
  refine aIs C hO 5 mW_5 (i_in (X := 1) rfl (by omega) (by omega)) mW_s5 dX11_clearBank_29 (fun H locs hO => ?_)
  refine lv_aload_n hx hb dX11_clearBank_30 rfl (lv_at hl 0 rfl) ?_
  refine gf_RX11_30 (v := .ref (a 6)) C hO 0 mW_0 rfl dX11_clearBank_31 ?_
  refine lv_aload_n hx hb dX11_clearBank_34 rfl (lv_at hl 0 rfl) ?_
  refine gf_RX11_246 (v := .int 1) C hO 0 mW_0 (congrArg (fun z : Int32 => some (Value.int z)) hI_0_37) dX11_clearBank_35 ?_
  refine lv_iconst (v := 0) hx hb dX11_clearBank_38 (by decide) ?_
  refine aIs C hO 6 mW_6 (i_in (X := 1) rfl (by omega) (by omega)) mW_s6 dX11_clearBank_39 (fun H locs hO => ?_)
  refine lv_aload_n hx hb dX11_clearBank_40 rfl (lv_at hl 0 rfl) ?_
  refine gf_RX11_33 (v := .ref (a 7)) C hO 0 mW_0 rfl dX11_clearBank_41 ?_
  refine lv_aload_n hx hb dX11_clearBank_44 rfl (lv_at hl 0 rfl) ?_
  refine gf_RX11_246 (v := .int 1) C hO 0 mW_0 (congrArg (fun z : Int32 => some (Value.int z)) hI_0_37) dX11_clearBank_45 ?_
  refine lv_iconst (v := 0) hx hb dX11_clearBank_48 (by decide) ?_
  refine aIs C hO 7 mW_7 (i_in (X := 1) rfl (by omega) (by omega)) mW_s7 dX11_clearBank_49 (fun H locs hO => ?_)
  refine lv_aload_n hx hb dX11_clearBank_50 rfl (lv_at hl 0 rfl) ?_
  refine gf_RX11_36 (v := .ref (a 8)) C hO 0 mW_0 rfl dX11_clearBank_51 ?_
  refine lv_aload_n hx hb dX11_clearBank_54 rfl (lv_at hl 0 rfl) ?_
  refine gf_RX11_246 (v := .int 1) C hO 0 mW_0 (congrArg (fun z : Int32 => some (Value.int z)) hI_0_37) dX11_clearBank_55 ?_
  refine lv_iconst (v := 0) hx hb dX11_clearBank_58 (by decide) ?_
  refine aIs C hO 8 mW_8 (i_in (X := 1) rfl (by omega) (by omega)) mW_s8 dX11_clearBank_59 (fun H locs hO => ?_)
  refine lv_aload_n hx hb dX11_clearBank_60 rfl (lv_at hl 0 rfl) ?_
  refine gf_RX11_39 (v := .ref (a 9)) C hO 0 mW_0 rfl dX11_clearBank_61 ?_
  refine lv_aload_n hx hb dX11_clearBank_64 rfl (lv_at hl 0 rfl) ?_
  refine gf_RX11_246 (v := .int 1) C hO 0 mW_0 (congrArg (fun z : Int32 => some (Value.int z)) hI_0_37) dX11_clearBank_65 ?_
  refine lv_iconst (v := 0) hx hb dX11_clearBank_68 (by decide) ?_
  refine aIs C hO 9 mW_9 (i_in (X := 1) rfl (by omega) (by omega)) mW_s9 dX11_clearBank_69 (fun H locs hO => ?_)
  refine lv_aload_n hx hb dX11_clearBank_70 rfl (lv_at hl 0 rfl) ?_
  refine gf_RX11_42 (v := .ref (a 10)) C hO 0 mW_0 rfl dX11_clearBank_71 ?_
  refine lv_aload_n hx hb dX11_clearBank_74 rfl (lv_at hl 0 rfl) ?_
  refine gf_RX11_246 (v := .int 1) C hO 0 mW_0 (congrArg (fun z : Int32 => some (Value.int z)) hI_0_37) dX11_clearBank_75 ?_
  refine lv_iconst (v := 0) hx hb dX11_clearBank_78 (by decide) ?_
  refine aIs C hO 10 mW_10 (i_in (X := 1) rfl (by omega) (by omega)) mW_s10 dX11_clearBank_79 (fun H locs hO => ?_)
  refine lv_aload_n hx hb dX11_clearBank_80 rfl (lv_at hl 0 rfl) ?_
  refine gf_RX11_45 (v := .ref (a 11)) C hO 0 mW_0 rfl dX11_clearBank_81 ?_
  refine lv_aload_n hx hb dX11_clearBank_84 rfl (lv_at hl 0 rfl) ?_
  refine gf_RX11_246 (v := .int 1) C hO 0 mW_0 (congrArg (fun z : Int32 => some (Value.int z)) hI_0_37) dX11_clearBank_85 ?_
  refine lv_iconst (v := 0) hx hb dX11_clearBank_88 (by decide) ?_
  refine aIs C hO 11 mW_11 (i_in (X := 1) rfl (by omega) (by omega)) mW_s11 dX11_clearBank_89 (fun H locs hO => ?_)
  refine lv_aload_n hx hb dX11_clearBank_90 rfl (lv_at hl 0 rfl) ?_
  refine gf_RX11_48 (v := .ref (a 12)) C hO 0 mW_0 rfl dX11_clearBank_91 ?_
  refine lv_aload_n hx hb dX11_clearBank_94 rfl (lv_at hl 0 rfl) ?_
  refine gf_RX11_246 (v := .int 1) C hO 0 mW_0 (congrArg (fun z : Int32 => some (Value.int z)) hI_0_37) dX11_clearBank_95 ?_
  refine lv_iconst (v := 0) hx hb dX11_clearBank_98 (by decide) ?_
  refine aIs C hO 12 mW_12 (i_in (X := 1) rfl (by omega) (by omega)) mW_s12 dX11_clearBank_99 (fun H locs hO => ?_)
  refine lv_aload_n hx hb dX11_clearBank_100 rfl (lv_at hl 0 rfl) ?_
  refine lv_sipush (v := 560) hx hb dX11_clearBank_101 (by decide) ?_
  refine lv_aload_n hx hb dX11_clearBank_104 rfl (lv_at hl 0 rfl) ?_
  refine gf_RX11_246 (v := .int 1) C hO 0 mW_0 (congrArg (fun z : Int32 => some (Value.int z)) hI_0_37) dX11_clearBank_105 ?_
  refine lv_imul hx hb dX11_clearBank_108 ?_
  refine tE (y := 560) rfl ?_
  refine pf_RX11_249 C hO 0 mW_0 (Nat.le_of_ble_eq_true rfl) mW_s0_38 dX11_clearBank_109 (fun H locs hO => ?_)
  refine hret _ _ _ _ _ dX11_clearBank_112 ?_ hO
  exact rfl
set_option maxHeartbeats 4000000 in
set_option maxRecDepth 100000 in
theorem T_X11_many_b1 (l : Launch) (D : va_G) (cy : Nat → ClassId) (a : Nat → Nat) (u : St) (hA_6_1 : fA u 6 1 = 0) (hI_0_36 : fI u 0 36 = 1)   : Mi l D cy (mW cy a) yX11_many (.code yX11_many cX11_many 1 (some .int)) (rmo 0 0) [.ref (a 0)] u (fun (r : Int32) (u' : St) => (r = 0) ∧ (u' = u)) := by
  refine Mi.of (own := RX11) rfl (by decide) (Nat.le_of_ble_eq_true rfl) ?_
  intro p e s m below meth c A Q ls C hret hO hl
  obtain ⟨hx, hb, hml, hown, ht, hK, hA⟩ := id C
  have hl : lv_has ls 1 [(0, .ref (a 0))] := hl
  refine lv_aload_n hx hb dX11_many_0 rfl (lv_at hl 0 rfl) ?_
  refine gf_RX11_30 (v := .ref (a 6)) C hO 0 mW_0 rfl dX11_many_1 ?_
  refine lv_aload_n hx hb dX11_many_4 rfl (lv_at hl 0 rfl) ?_
  refine gf_RX11_255 (v := .int 1) C hO 0 mW_0 (congrArg (fun z : Int32 => some (Value.int z)) hI_0_36) dX11_many_5 ?_
  refine aI C hO 6 mW_6 (i_in (X := 1) rfl (by omega) (by omega)) dX11_many_8 ?_
  refine tE (y := 0) hA_6_1 ?_
  refine hret _ _ _ _ _ _ dX11_many_9 rfl ?_ hO
  exact ⟨rfl, rfl⟩
set_option maxHeartbeats 4000000 in
set_option maxRecDepth 100000 in
theorem T_X11_spots_b1 (l : Launch) (D : va_G) (cy : Nat → ClassId) (a : Nat → Nat) (u : St) (hA_3_1 : fA u 3 1 = 0) (hI_0_36 : fI u 0 36 = 1)   : Mi l D cy (mW cy a) yX11_spots (.code yX11_spots cX11_spots 1 (some .int)) (rmo 0 0) [.ref (a 0)] u (fun (r : Int32) (u' : St) => (r = 0) ∧ (u' = u)) := by
  refine Mi.of (own := RX11) rfl (by decide) (Nat.le_of_ble_eq_true rfl) ?_
  intro p e s m below meth c A Q ls C hret hO hl
  obtain ⟨hx, hb, hml, hown, ht, hK, hA⟩ := id C
  have hl : lv_has ls 1 [(0, .ref (a 0))] := hl
  refine lv_aload_n hx hb dX11_spots_0 rfl (lv_at hl 0 rfl) ?_
  refine gf_RX11_20 (v := .ref (a 3)) C hO 0 mW_0 rfl dX11_spots_1 ?_
  refine lv_aload_n hx hb dX11_spots_4 rfl (lv_at hl 0 rfl) ?_
  refine gf_RX11_255 (v := .int 1) C hO 0 mW_0 (congrArg (fun z : Int32 => some (Value.int z)) hI_0_36) dX11_spots_5 ?_
  refine aI C hO 3 mW_3 (i_in (X := 1) rfl (by omega) (by omega)) dX11_spots_8 ?_
  refine tE (y := 0) hA_3_1 ?_
  refine hret _ _ _ _ _ _ dX11_spots_9 rfl ?_ hO
  exact ⟨rfl, rfl⟩
theorem dX11_sign_0 : decode cX11_sign 0 = .ok (.iload_n 1, 1) := by decide +kernel
theorem dX11_sign_1 : decode cX11_sign 1 = .ok (.aload_n 0, 1) := by decide +kernel
theorem dX11_sign_2 : decode cX11_sign 2 = .ok (.getfield 152, 3) := by decide +kernel
theorem dX11_sign_5 : decode cX11_sign 5 = .ok (.if_icmp .ge 16, 3) := by decide +kernel
theorem dX11_sign_8 : decode cX11_sign 8 = .ok (.aload_n 0, 1) := by decide +kernel
theorem dX11_sign_9 : decode cX11_sign 9 = .ok (.getfield 13, 3) := by decide +kernel
theorem dX11_sign_12 : decode cX11_sign 12 = .ok (.iload_n 1, 1) := by decide +kernel
theorem dX11_sign_13 : decode cX11_sign 13 = .ok (.baload, 1) := by decide +kernel
theorem dX11_sign_14 : decode cX11_sign 14 = .ok (.sipush 255, 3) := by decide +kernel
theorem dX11_sign_17 : decode cX11_sign 17 = .ok (.iand, 1) := by decide +kernel
theorem dX11_sign_18 : decode cX11_sign 18 = .ok (.goto 4, 3) := by decide +kernel
theorem dX11_sign_21 : decode cX11_sign 21 = .ok (.iconst 0, 1) := by decide +kernel
theorem dX11_sign_22 : decode cX11_sign 22 = .ok (.ireturn, 1) := by decide +kernel
theorem wd_1563 : (Cond.code ⟨"WebCourtModel", "sign", "(I)I"⟩ prog_13_method_2_code (2 : Nat) (Option.some FieldType.int)) ∈ gtb := gtb_c7 14 (by decide +kernel) rfl
theorem wd_1359 : (Cond.fieldLink "WebCourtModel" (152 : Nat) "WebCourtModel" "size" "I") ∈ gtb := gtb_c6 50 (by decide +kernel) rfl
theorem gf_RX11_152 {p : Program} {l : Launch} {e : Env} {R : Room} {s : State} {m : MethodId} {args : Array Value} {below : List Frame} {meth : Method} {c : Code} {H : Heap} {locs : List Loc} {cells slots : Nat} {Q : State → Prop} {cc : ByteArray} {pc nL : Nat} {ls : Array Slot} {rest : List Value} {D : va_G} {cy : Nat → ClassId} {A : Nat → Prop} {ws : va_W} {b : Nat} {fs : List Value} {v : Value} (C : Cx p s m args c cc nL RX11 D cy A) (hO : Wo D A ws s.heap H locs) (q0 : Nat) (he : ws[q0]? = some (b, .inr (11, fs))) (hv : fs[3]? = some v) (hdg : decode cc pc = .ok (.getfield 152, 3)) (kk : W p l e R s m args below meth c H locs cells slots Q (F0 m (pc + 3) ls (v :: rest))) : W p l e R s m args below meth c H locs cells slots Q (F0 m pc ls (.ref b :: rest)) := gF (k := 3) C hO q0 he rfl inFX11 (by decide) wd_1359 rfl hv hdg kk
set_option maxHeartbeats 4000000 in
set_option maxRecDepth 100000 in
theorem T_X11_sign_0 (l : Launch) (D : va_G) (cy : Nat → ClassId) (a : Nat → Nat) (u : St) (hI_0_3 : fI u 0 3 = 0)   : Mi l D cy (mW cy a) yX11_sign (.code yX11_sign cX11_sign 2 (some .int)) (rmo 0 0) [.ref (a 0), .int 0] u (fun (r : Int32) (u' : St) => (r = 0) ∧ (u' = u)) := by
  refine Mi.of (own := RX11) rfl (by decide) (Nat.le_of_ble_eq_true rfl) ?_
  intro p e s m below meth c A Q ls C hret hO hl
  obtain ⟨hx, hb, hml, hown, ht, hK, hA⟩ := id C
  have hl : lv_has ls 2 [(0, .ref (a 0)), (1, .int 0)] := hl
  refine lv_iload_n hx hb dX11_sign_0 rfl (lv_at hl 1 rfl) ?_
  refine lv_aload_n hx hb dX11_sign_1 rfl (lv_at hl 0 rfl) ?_
  refine gf_RX11_152 (v := .int 0) C hO 0 mW_0 (congrArg (fun z : Int32 => some (Value.int z)) hI_0_3) dX11_sign_2 ?_
  refine ct_ge (tgt := 21) (X := 0) (Y := 0) hx hb dX11_sign_5 (by decide) rfl rfl (by omega) ?_
  refine lv_iconst (v := 0) hx hb dX11_sign_21 (by decide) ?_
  refine hret _ _ _ _ _ _ dX11_sign_22 rfl ?_ hO
  exact ⟨rfl, rfl⟩
theorem dX11_goOn_0 : decode cX11_goOn 0 = .ok (.aload_n 0, 1) := by decide +kernel
theorem dX11_goOn_1 : decode cX11_goOn 1 = .ok (.aload_n 0, 1) := by decide +kernel
theorem dX11_goOn_2 : decode cX11_goOn 2 = .ok (.getfield 198, 3) := by decide +kernel
theorem dX11_goOn_5 : decode cX11_goOn 5 = .ok (.putfield 201, 3) := by decide +kernel
theorem dX11_goOn_8 : decode cX11_goOn 8 = .ok (.aload_n 0, 1) := by decide +kernel
theorem dX11_goOn_9 : decode cX11_goOn 9 = .ok (.getfield 201, 3) := by decide +kernel
theorem dX11_goOn_12 : decode cX11_goOn 12 = .ok (.aload_n 0, 1) := by decide +kernel
theorem dX11_goOn_13 : decode cX11_goOn 13 = .ok (.getfield 152, 3) := by decide +kernel
theorem dX11_goOn_16 : decode cX11_goOn 16 = .ok (.if_icmp .ge 42, 3) := by decide +kernel
theorem dX11_goOn_19 : decode cX11_goOn 19 = .ok (.aload_n 0, 1) := by decide +kernel
theorem dX11_goOn_20 : decode cX11_goOn 20 = .ok (.aload_n 0, 1) := by decide +kernel
theorem dX11_goOn_21 : decode cX11_goOn 21 = .ok (.getfield 201, 3) := by decide +kernel
theorem dX11_goOn_24 : decode cX11_goOn 24 = .ok (.invokevirtual 204, 3) := by decide +kernel
theorem dX11_goOn_27 : decode cX11_goOn 27 = .ok (.bipush 32, 2) := by decide +kernel
theorem dX11_goOn_29 : decode cX11_goOn 29 = .ok (.if_icmp .eq 16, 3) := by decide +kernel
theorem dX11_goOn_32 : decode cX11_goOn 32 = .ok (.aload_n 0, 1) := by decide +kernel
theorem dX11_goOn_33 : decode cX11_goOn 33 = .ok (.aload_n 0, 1) := by decide +kernel
theorem dX11_goOn_34 : decode cX11_goOn 34 = .ok (.getfield 201, 3) := by decide +kernel
theorem dX11_goOn_37 : decode cX11_goOn 37 = .ok (.invokevirtual 204, 3) := by decide +kernel
theorem dX11_goOn_40 : decode cX11_goOn 40 = .ok (.bipush 10, 2) := by decide +kernel
theorem dX11_goOn_42 : decode cX11_goOn 42 = .ok (.if_icmp .ne 16, 3) := by decide +kernel
theorem dX11_goOn_45 : decode cX11_goOn 45 = .ok (.aload_n 0, 1) := by decide +kernel
theorem dX11_goOn_46 : decode cX11_goOn 46 = .ok (.dup, 1) := by decide +kernel
theorem dX11_goOn_47 : decode cX11_goOn 47 = .ok (.getfield 201, 3) := by decide +kernel
theorem dX11_goOn_50 : decode cX11_goOn 50 = .ok (.iconst 1, 1) := by decide +kernel
theorem dX11_goOn_51 : decode cX11_goOn 51 = .ok (.iadd, 1) := by decide +kernel
theorem dX11_goOn_52 : decode cX11_goOn 52 = .ok (.putfield 201, 3) := by decide +kernel
theorem dX11_goOn_55 : decode cX11_goOn 55 = .ok (.goto (-47), 3) := by decide +kernel
theorem dX11_goOn_58 : decode cX11_goOn 58 = .ok (.aload_n 0, 1) := by decide +kernel
theorem dX11_goOn_59 : decode cX11_goOn 59 = .ok (.aload_n 0, 1) := by decide +kernel
theorem dX11_goOn_60 : decode cX11_goOn 60 = .ok (.getfield 201, 3) := by decide +kernel
theorem dX11_goOn_63 : decode cX11_goOn 63 = .ok (.invokevirtual 204, 3) := by decide +kernel
theorem dX11_goOn_66 : decode cX11_goOn 66 = .ok (.istore_n 1, 1) := by decide +kernel
theorem dX11_goOn_67 : decode cX11_goOn 67 = .ok (.aload_n 0, 1) := by decide +kernel
theorem dX11_goOn_68 : decode cX11_goOn 68 = .ok (.aload_n 0, 1) := by decide +kernel
theorem dX11_goOn_69 : decode cX11_goOn 69 = .ok (.getfield 201, 3) := by decide +kernel
theorem dX11_goOn_72 : decode cX11_goOn 72 = .ok (.iconst 1, 1) := by decide +kernel
theorem dX11_goOn_73 : decode cX11_goOn 73 = .ok (.iadd, 1) := by decide +kernel
theorem dX11_goOn_74 : decode cX11_goOn 74 = .ok (.putfield 198, 3) := by decide +kernel
theorem dX11_goOn_77 : decode cX11_goOn 77 = .ok (.aload_n 0, 1) := by decide +kernel
theorem dX11_goOn_78 : decode cX11_goOn 78 = .ok (.getfield 201, 3) := by decide +kernel
theorem dX11_goOn_81 : decode cX11_goOn 81 = .ok (.aload_n 0, 1) := by decide +kernel
theorem dX11_goOn_82 : decode cX11_goOn 82 = .ok (.getfield 152, 3) := by decide +kernel
theorem dX11_goOn_85 : decode cX11_goOn 85 = .ok (.if_icmp .lt 27, 3) := by decide +kernel
theorem dX11_goOn_88 : decode cX11_goOn 88 = .ok (.aload_n 0, 1) := by decide +kernel
theorem dX11_goOn_89 : decode cX11_goOn 89 = .ok (.iconst 0, 1) := by decide +kernel
theorem dX11_goOn_90 : decode cX11_goOn 90 = .ok (.putfield 208, 3) := by decide +kernel
theorem dX11_goOn_93 : decode cX11_goOn 93 = .ok (.aload_n 0, 1) := by decide +kernel
theorem dX11_goOn_94 : decode cX11_goOn 94 = .ok (.aload_n 0, 1) := by decide +kernel
theorem dX11_goOn_95 : decode cX11_goOn 95 = .ok (.getfield 152, 3) := by decide +kernel
theorem dX11_goOn_98 : decode cX11_goOn 98 = .ok (.putfield 201, 3) := by decide +kernel
theorem dX11_goOn_101 : decode cX11_goOn 101 = .ok (.aload_n 0, 1) := by decide +kernel
theorem dX11_goOn_102 : decode cX11_goOn 102 = .ok (.aload_n 0, 1) := by decide +kernel
theorem dX11_goOn_103 : decode cX11_goOn 103 = .ok (.getfield 152, 3) := by decide +kernel
theorem dX11_goOn_106 : decode cX11_goOn 106 = .ok (.putfield 198, 3) := by decide +kernel
theorem dX11_goOn_109 : decode cX11_goOn 109 = .ok (.goto 268, 3) := by decide +kernel
theorem dX11_goOn_112 : decode cX11_goOn 112 = .ok (.iload_n 1, 1) := by decide +kernel
theorem dX11_goOn_113 : decode cX11_goOn 113 = .ok (.invokestatic 211, 3) := by decide +kernel
theorem dX11_goOn_116 : decode cX11_goOn 116 = .ok (.ifCond .eq 123, 3) := by decide +kernel
theorem dX11_goOn_119 : decode cX11_goOn 119 = .ok (.aload_n 0, 1) := by decide +kernel
theorem dX11_goOn_120 : decode cX11_goOn 120 = .ok (.aload_n 0, 1) := by decide +kernel
theorem dX11_goOn_121 : decode cX11_goOn 121 = .ok (.getfield 198, 3) := by decide +kernel
theorem dX11_goOn_124 : decode cX11_goOn 124 = .ok (.invokevirtual 204, 3) := by decide +kernel
theorem dX11_goOn_127 : decode cX11_goOn 127 = .ok (.invokestatic 211, 3) := by decide +kernel
theorem dX11_goOn_130 : decode cX11_goOn 130 = .ok (.ifCond .eq 16, 3) := by decide +kernel
theorem dX11_goOn_133 : decode cX11_goOn 133 = .ok (.aload_n 0, 1) := by decide +kernel
theorem dX11_goOn_134 : decode cX11_goOn 134 = .ok (.dup, 1) := by decide +kernel
theorem dX11_goOn_135 : decode cX11_goOn 135 = .ok (.getfield 198, 3) := by decide +kernel
theorem dX11_goOn_138 : decode cX11_goOn 138 = .ok (.iconst 1, 1) := by decide +kernel
theorem dX11_goOn_139 : decode cX11_goOn 139 = .ok (.iadd, 1) := by decide +kernel
theorem dX11_goOn_140 : decode cX11_goOn 140 = .ok (.putfield 198, 3) := by decide +kernel
theorem dX11_goOn_143 : decode cX11_goOn 143 = .ok (.goto (-24), 3) := by decide +kernel
theorem dX11_goOn_146 : decode cX11_goOn 146 = .ok (.aload_n 0, 1) := by decide +kernel
theorem dX11_goOn_147 : decode cX11_goOn 147 = .ok (.lconst 0, 1) := by decide +kernel
theorem dX11_goOn_148 : decode cX11_goOn 148 = .ok (.putfield 215, 3) := by decide +kernel
theorem dX11_goOn_151 : decode cX11_goOn 151 = .ok (.aload_n 0, 1) := by decide +kernel
theorem dX11_goOn_152 : decode cX11_goOn 152 = .ok (.getfield 201, 3) := by decide +kernel
theorem dX11_goOn_155 : decode cX11_goOn 155 = .ok (.istore_n 2, 1) := by decide +kernel
theorem dX11_goOn_156 : decode cX11_goOn 156 = .ok (.iload_n 2, 1) := by decide +kernel
theorem dX11_goOn_157 : decode cX11_goOn 157 = .ok (.aload_n 0, 1) := by decide +kernel
theorem dX11_goOn_158 : decode cX11_goOn 158 = .ok (.getfield 198, 3) := by decide +kernel
theorem dX11_goOn_161 : decode cX11_goOn 161 = .ok (.if_icmp .ge 38, 3) := by decide +kernel
theorem dX11_goOn_164 : decode cX11_goOn 164 = .ok (.iload_n 2, 1) := by decide +kernel
theorem dX11_goOn_165 : decode cX11_goOn 165 = .ok (.aload_n 0, 1) := by decide +kernel
theorem dX11_goOn_166 : decode cX11_goOn 166 = .ok (.getfield 201, 3) := by decide +kernel
theorem dX11_goOn_169 : decode cX11_goOn 169 = .ok (.bipush 8, 2) := by decide +kernel
theorem dX11_goOn_171 : decode cX11_goOn 171 = .ok (.iadd, 1) := by decide +kernel
theorem dX11_goOn_172 : decode cX11_goOn 172 = .ok (.if_icmp .ge 27, 3) := by decide +kernel
theorem dX11_goOn_175 : decode cX11_goOn 175 = .ok (.aload_n 0, 1) := by decide +kernel
theorem dX11_goOn_176 : decode cX11_goOn 176 = .ok (.aload_n 0, 1) := by decide +kernel
theorem dX11_goOn_177 : decode cX11_goOn 177 = .ok (.getfield 215, 3) := by decide +kernel
theorem dX11_goOn_180 : decode cX11_goOn 180 = .ok (.bipush 8, 2) := by decide +kernel
theorem dX11_goOn_182 : decode cX11_goOn 182 = .ok (.lshl, 1) := by decide +kernel
theorem dX11_goOn_183 : decode cX11_goOn 183 = .ok (.aload_n 0, 1) := by decide +kernel
theorem dX11_goOn_184 : decode cX11_goOn 184 = .ok (.iload_n 2, 1) := by decide +kernel
theorem dX11_goOn_185 : decode cX11_goOn 185 = .ok (.invokevirtual 204, 3) := by decide +kernel
theorem dX11_goOn_188 : decode cX11_goOn 188 = .ok (.i2l, 1) := by decide +kernel
theorem dX11_goOn_189 : decode cX11_goOn 189 = .ok (.lor, 1) := by decide +kernel
theorem dX11_goOn_190 : decode cX11_goOn 190 = .ok (.putfield 215, 3) := by decide +kernel
theorem dX11_goOn_193 : decode cX11_goOn 193 = .ok (.iinc 2 1, 3) := by decide +kernel
theorem dX11_goOn_196 : decode cX11_goOn 196 = .ok (.goto (-40), 3) := by decide +kernel
theorem dX11_goOn_199 : decode cX11_goOn 199 = .ok (.aload_n 0, 1) := by decide +kernel
theorem dX11_goOn_200 : decode cX11_goOn 200 = .ok (.aload_n 0, 1) := by decide +kernel
theorem dX11_goOn_201 : decode cX11_goOn 201 = .ok (.getfield 198, 3) := by decide +kernel
theorem dX11_goOn_204 : decode cX11_goOn 204 = .ok (.aload_n 0, 1) := by decide +kernel
theorem dX11_goOn_205 : decode cX11_goOn 205 = .ok (.getfield 201, 3) := by decide +kernel
theorem dX11_goOn_208 : decode cX11_goOn 208 = .ok (.isub, 1) := by decide +kernel
theorem dX11_goOn_209 : decode cX11_goOn 209 = .ok (.bipush 8, 2) := by decide +kernel
theorem dX11_goOn_211 : decode cX11_goOn 211 = .ok (.if_icmp .le 7, 3) := by decide +kernel
theorem dX11_goOn_214 : decode cX11_goOn 214 = .ok (.iconst 1, 1) := by decide +kernel
theorem dX11_goOn_215 : decode cX11_goOn 215 = .ok (.goto 18, 3) := by decide +kernel
theorem dX11_goOn_218 : decode cX11_goOn 218 = .ok (.aload_n 0, 1) := by decide +kernel
theorem dX11_goOn_219 : decode cX11_goOn 219 = .ok (.getfield 215, 3) := by decide +kernel
theorem dX11_goOn_222 : decode cX11_goOn 222 = .ok (.invokestatic 219, 3) := by decide +kernel
theorem dX11_goOn_225 : decode cX11_goOn 225 = .ok (.ifCond .eq 7, 3) := by decide +kernel
theorem dX11_goOn_228 : decode cX11_goOn 228 = .ok (.iconst 3, 1) := by decide +kernel
theorem dX11_goOn_229 : decode cX11_goOn 229 = .ok (.goto 4, 3) := by decide +kernel
theorem dX11_goOn_232 : decode cX11_goOn 232 = .ok (.iconst 2, 1) := by decide +kernel
theorem dX11_goOn_233 : decode cX11_goOn 233 = .ok (.putfield 208, 3) := by decide +kernel
theorem dX11_goOn_236 : decode cX11_goOn 236 = .ok (.goto 141, 3) := by decide +kernel
theorem dX11_goOn_239 : decode cX11_goOn 239 = .ok (.iload_n 1, 1) := by decide +kernel
theorem dX11_goOn_240 : decode cX11_goOn 240 = .ok (.invokestatic 223, 3) := by decide +kernel
theorem dX11_goOn_243 : decode cX11_goOn 243 = .ok (.ifCond .eq 118, 3) := by decide +kernel
theorem dX11_goOn_246 : decode cX11_goOn 246 = .ok (.aload_n 0, 1) := by decide +kernel
theorem dX11_goOn_247 : decode cX11_goOn 247 = .ok (.iconst 0, 1) := by decide +kernel
theorem dX11_goOn_248 : decode cX11_goOn 248 = .ok (.putfield 226, 3) := by decide +kernel
theorem dX11_goOn_251 : decode cX11_goOn 251 = .ok (.aload_n 0, 1) := by decide +kernel
theorem dX11_goOn_252 : decode cX11_goOn 252 = .ok (.aload_n 0, 1) := by decide +kernel
theorem dX11_goOn_253 : decode cX11_goOn 253 = .ok (.getfield 201, 3) := by decide +kernel
theorem dX11_goOn_256 : decode cX11_goOn 256 = .ok (.putfield 198, 3) := by decide +kernel
theorem dX11_goOn_259 : decode cX11_goOn 259 = .ok (.aload_n 0, 1) := by decide +kernel
theorem dX11_goOn_260 : decode cX11_goOn 260 = .ok (.aload_n 0, 1) := by decide +kernel
theorem dX11_goOn_261 : decode cX11_goOn 261 = .ok (.getfield 198, 3) := by decide +kernel
theorem dX11_goOn_264 : decode cX11_goOn 264 = .ok (.invokevirtual 204, 3) := by decide +kernel
theorem dX11_goOn_267 : decode cX11_goOn 267 = .ok (.invokestatic 223, 3) := by decide +kernel
theorem dX11_goOn_270 : decode cX11_goOn 270 = .ok (.ifCond .eq 52, 3) := by decide +kernel
theorem dX11_goOn_273 : decode cX11_goOn 273 = .ok (.aload_n 0, 1) := by decide +kernel
theorem dX11_goOn_274 : decode cX11_goOn 274 = .ok (.getfield 198, 3) := by decide +kernel
theorem dX11_goOn_277 : decode cX11_goOn 277 = .ok (.aload_n 0, 1) := by decide +kernel
theorem dX11_goOn_278 : decode cX11_goOn 278 = .ok (.getfield 201, 3) := by decide +kernel
theorem dX11_goOn_281 : decode cX11_goOn 281 = .ok (.isub, 1) := by decide +kernel
theorem dX11_goOn_282 : decode cX11_goOn 282 = .ok (.iconst 4, 1) := by decide +kernel
theorem dX11_goOn_283 : decode cX11_goOn 283 = .ok (.if_icmp .ge 26, 3) := by decide +kernel
theorem dX11_goOn_286 : decode cX11_goOn 286 = .ok (.aload_n 0, 1) := by decide +kernel
theorem dX11_goOn_287 : decode cX11_goOn 287 = .ok (.bipush 10, 2) := by decide +kernel
theorem dX11_goOn_289 : decode cX11_goOn 289 = .ok (.aload_n 0, 1) := by decide +kernel
theorem dX11_goOn_290 : decode cX11_goOn 290 = .ok (.getfield 226, 3) := by decide +kernel
theorem dX11_goOn_293 : decode cX11_goOn 293 = .ok (.imul, 1) := by decide +kernel
theorem dX11_goOn_294 : decode cX11_goOn 294 = .ok (.aload_n 0, 1) := by decide +kernel
theorem dX11_goOn_295 : decode cX11_goOn 295 = .ok (.aload_n 0, 1) := by decide +kernel
theorem dX11_goOn_296 : decode cX11_goOn 296 = .ok (.getfield 198, 3) := by decide +kernel
theorem dX11_goOn_299 : decode cX11_goOn 299 = .ok (.invokevirtual 204, 3) := by decide +kernel
theorem dX11_goOn_302 : decode cX11_goOn 302 = .ok (.iadd, 1) := by decide +kernel
theorem dX11_goOn_303 : decode cX11_goOn 303 = .ok (.bipush 48, 2) := by decide +kernel
theorem dX11_goOn_305 : decode cX11_goOn 305 = .ok (.isub, 1) := by decide +kernel
theorem dX11_goOn_306 : decode cX11_goOn 306 = .ok (.putfield 226, 3) := by decide +kernel
theorem dX11_goOn_309 : decode cX11_goOn 309 = .ok (.aload_n 0, 1) := by decide +kernel
theorem dX11_goOn_310 : decode cX11_goOn 310 = .ok (.dup, 1) := by decide +kernel
theorem dX11_goOn_311 : decode cX11_goOn 311 = .ok (.getfield 198, 3) := by decide +kernel
theorem dX11_goOn_314 : decode cX11_goOn 314 = .ok (.iconst 1, 1) := by decide +kernel
theorem dX11_goOn_315 : decode cX11_goOn 315 = .ok (.iadd, 1) := by decide +kernel
theorem dX11_goOn_316 : decode cX11_goOn 316 = .ok (.putfield 198, 3) := by decide +kernel
theorem dX11_goOn_319 : decode cX11_goOn 319 = .ok (.goto (-60), 3) := by decide +kernel
theorem dX11_goOn_322 : decode cX11_goOn 322 = .ok (.aload_n 0, 1) := by decide +kernel
theorem dX11_goOn_323 : decode cX11_goOn 323 = .ok (.aload_n 0, 1) := by decide +kernel
theorem dX11_goOn_324 : decode cX11_goOn 324 = .ok (.getfield 198, 3) := by decide +kernel
theorem dX11_goOn_327 : decode cX11_goOn 327 = .ok (.aload_n 0, 1) := by decide +kernel
theorem dX11_goOn_328 : decode cX11_goOn 328 = .ok (.getfield 201, 3) := by decide +kernel
theorem dX11_goOn_331 : decode cX11_goOn 331 = .ok (.isub, 1) := by decide +kernel
theorem dX11_goOn_332 : decode cX11_goOn 332 = .ok (.iconst 4, 1) := by decide +kernel
theorem dX11_goOn_333 : decode cX11_goOn 333 = .ok (.if_icmp .gt 17, 3) := by decide +kernel
theorem dX11_goOn_336 : decode cX11_goOn 336 = .ok (.aload_n 0, 1) := by decide +kernel
theorem dX11_goOn_337 : decode cX11_goOn 337 = .ok (.aload_n 0, 1) := by decide +kernel
theorem dX11_goOn_338 : decode cX11_goOn 338 = .ok (.getfield 198, 3) := by decide +kernel
theorem dX11_goOn_341 : decode cX11_goOn 341 = .ok (.invokevirtual 204, 3) := by decide +kernel
theorem dX11_goOn_344 : decode cX11_goOn 344 = .ok (.invokestatic 211, 3) := by decide +kernel
theorem dX11_goOn_347 : decode cX11_goOn 347 = .ok (.ifCond .eq 7, 3) := by decide +kernel
theorem dX11_goOn_350 : decode cX11_goOn 350 = .ok (.iconst 1, 1) := by decide +kernel
theorem dX11_goOn_351 : decode cX11_goOn 351 = .ok (.goto 4, 3) := by decide +kernel
theorem dX11_goOn_354 : decode cX11_goOn 354 = .ok (.iconst 4, 1) := by decide +kernel
theorem dX11_goOn_355 : decode cX11_goOn 355 = .ok (.putfield 208, 3) := by decide +kernel
theorem dX11_goOn_358 : decode cX11_goOn 358 = .ok (.goto 19, 3) := by decide +kernel
theorem dX11_goOn_361 : decode cX11_goOn 361 = .ok (.aload_n 0, 1) := by decide +kernel
theorem dX11_goOn_362 : decode cX11_goOn 362 = .ok (.iload_n 1, 1) := by decide +kernel
theorem dX11_goOn_363 : decode cX11_goOn 363 = .ok (.invokestatic 229, 3) := by decide +kernel
theorem dX11_goOn_366 : decode cX11_goOn 366 = .ok (.ifCond .eq 7, 3) := by decide +kernel
theorem dX11_goOn_369 : decode cX11_goOn 369 = .ok (.iconst 5, 1) := by decide +kernel
theorem dX11_goOn_370 : decode cX11_goOn 370 = .ok (.goto 4, 3) := by decide +kernel
theorem dX11_goOn_373 : decode cX11_goOn 373 = .ok (.iconst 1, 1) := by decide +kernel
theorem dX11_goOn_374 : decode cX11_goOn 374 = .ok (.putfield 208, 3) := by decide +kernel
theorem dX11_goOn_377 : decode cX11_goOn 377 = .ok (.return_, 1) := by decide +kernel
theorem wd_1559 : (Cond.code ⟨"WebCourtModel", "goOn", "()V"⟩ prog_13_method_9_code (3 : Nat) (Option.none : Option FieldType)) ∈ gtb := gtb_c7 10 (by decide +kernel) rfl
theorem wd_1363 : (Cond.fieldLink "WebCourtModel" (198 : Nat) "WebCourtModel" "end" "I") ∈ gtb := gtb_c6 54 (by decide +kernel) rfl
theorem gf_RX11_198 {p : Program} {l : Launch} {e : Env} {R : Room} {s : State} {m : MethodId} {args : Array Value} {below : List Frame} {meth : Method} {c : Code} {H : Heap} {locs : List Loc} {cells slots : Nat} {Q : State → Prop} {cc : ByteArray} {pc nL : Nat} {ls : Array Slot} {rest : List Value} {D : va_G} {cy : Nat → ClassId} {A : Nat → Prop} {ws : va_W} {b : Nat} {fs : List Value} {v : Value} (C : Cx p s m args c cc nL RX11 D cy A) (hO : Wo D A ws s.heap H locs) (q0 : Nat) (he : ws[q0]? = some (b, .inr (11, fs))) (hv : fs[7]? = some v) (hdg : decode cc pc = .ok (.getfield 198, 3)) (kk : W p l e R s m args below meth c H locs cells slots Q (F0 m (pc + 3) ls (v :: rest))) : W p l e R s m args below meth c H locs cells slots Q (F0 m pc ls (.ref b :: rest)) := gF (k := 7) C hO q0 he rfl inFX11 (by decide) wd_1363 rfl hv hdg kk
theorem wd_1362 : (Cond.fieldLink "WebCourtModel" (201 : Nat) "WebCourtModel" "at" "I") ∈ gtb := gtb_c6 53 (by decide +kernel) rfl
theorem pf_RX11_201 {p : Program} {l : Launch} {e : Env} {R : Room} {s : State} {m : MethodId} {args : Array Value} {below : List Frame} {meth : Method} {c : Code} {H : Heap} {locs : List Loc} {cells slots : Nat} {Q : State → Prop} {cc : ByteArray} {pc nL : Nat} {ls : Array Slot} {rest : List Value} {D : va_G} {cy : Nat → ClassId} {A : Nat → Prop} {ws : va_W} {b : Nat} {fs : List Value} {v : Int32} {ws' : va_W} (C : Cx p s m args c cc nL RX11 D cy A) (hO : Wo D A ws s.heap H locs) (q0 : Nat) (he : ws[q0]? = some (b, .inr (11, fs))) (hlen : 6 < fs.length) (hw : ws.set q0 (b, .inr (11, fs.set 6 (.int v))) = ws') (hdg : decode cc pc = .ok (.putfield 201, 3)) (kk : ∀ (H : Heap) (locs : List Loc), Wo D A ws' s.heap H locs → W p l e R s m args below meth c H locs cells slots Q (F0 m (pc + 3) ls rest)) : W p l e R s m args below meth c H locs cells slots Q (F0 m pc ls (.int v :: .ref b :: rest)) := pF (k := 6) (ty := .int) C hO q0 he rfl inFX11 (by decide) wd_1362 rfl tyX11 tyX11_ok nmX11 rfl (by decide +kernel) rfl rfl hlen hw hdg kk
theorem gf_RX11_201 {p : Program} {l : Launch} {e : Env} {R : Room} {s : State} {m : MethodId} {args : Array Value} {below : List Frame} {meth : Method} {c : Code} {H : Heap} {locs : List Loc} {cells slots : Nat} {Q : State → Prop} {cc : ByteArray} {pc nL : Nat} {ls : Array Slot} {rest : List Value} {D : va_G} {cy : Nat → ClassId} {A : Nat → Prop} {ws : va_W} {b : Nat} {fs : List Value} {v : Value} (C : Cx p s m args c cc nL RX11 D cy A) (hO : Wo D A ws s.heap H locs) (q0 : Nat) (he : ws[q0]? = some (b, .inr (11, fs))) (hv : fs[6]? = some v) (hdg : decode cc pc = .ok (.getfield 201, 3)) (kk : W p l e R s m args below meth c H locs cells slots Q (F0 m (pc + 3) ls (v :: rest))) : W p l e R s m args below meth c H locs cells slots Q (F0 m pc ls (.ref b :: rest)) := gF (k := 6) C hO q0 he rfl inFX11 (by decide) wd_1362 rfl hv hdg kk
theorem wd_1560 : (Cond.methodLink "WebCourtModel" (204 : Nat) ⟨"WebCourtModel", "sign", "(I)I"⟩) ∈ gtb := gtb_c7 11 (by decide +kernel) rfl
theorem wd_1562 : (Cond.instanceMethod ⟨"WebCourtModel", "sign", "(I)I"⟩) ∈ gtb := gtb_c7 13 (by decide +kernel) rfl
theorem wd_49 : (Cond.selects "WebCourtModel" ⟨"WebCourtModel", "sign", "(I)I"⟩ ⟨"WebCourtModel", "sign", "(I)I"⟩) ∈ gtb := gtb_p 49 (by decide +kernel) rfl
theorem hd_yX11_sign : yX11_sign.cls = RX11 ∧ yX11_sign.cls ≠ "java/lang/invoke/MethodHandle" ∧ yX11_sign.cls ≠ "java/lang/invoke/VarHandle" ∧ (parseMethodDescriptor yX11_sign.desc).map (fun d => d.parameters.length) = some 1 := by decide +kernel
theorem pf_RX11_198 {p : Program} {l : Launch} {e : Env} {R : Room} {s : State} {m : MethodId} {args : Array Value} {below : List Frame} {meth : Method} {c : Code} {H : Heap} {locs : List Loc} {cells slots : Nat} {Q : State → Prop} {cc : ByteArray} {pc nL : Nat} {ls : Array Slot} {rest : List Value} {D : va_G} {cy : Nat → ClassId} {A : Nat → Prop} {ws : va_W} {b : Nat} {fs : List Value} {v : Int32} {ws' : va_W} (C : Cx p s m args c cc nL RX11 D cy A) (hO : Wo D A ws s.heap H locs) (q0 : Nat) (he : ws[q0]? = some (b, .inr (11, fs))) (hlen : 7 < fs.length) (hw : ws.set q0 (b, .inr (11, fs.set 7 (.int v))) = ws') (hdg : decode cc pc = .ok (.putfield 198, 3)) (kk : ∀ (H : Heap) (locs : List Loc), Wo D A ws' s.heap H locs → W p l e R s m args below meth c H locs cells slots Q (F0 m (pc + 3) ls rest)) : W p l e R s m args below meth c H locs cells slots Q (F0 m pc ls (.int v :: .ref b :: rest)) := pF (k := 7) (ty := .int) C hO q0 he rfl inFX11 (by decide) wd_1363 rfl tyX11 tyX11_ok nmX11 rfl (by decide +kernel) rfl rfl hlen hw hdg kk
theorem wd_1364 : (Cond.fieldLink "WebCourtModel" (208 : Nat) "WebCourtModel" "token" "I") ∈ gtb := gtb_c6 55 (by decide +kernel) rfl
theorem pf_RX11_208 {p : Program} {l : Launch} {e : Env} {R : Room} {s : State} {m : MethodId} {args : Array Value} {below : List Frame} {meth : Method} {c : Code} {H : Heap} {locs : List Loc} {cells slots : Nat} {Q : State → Prop} {cc : ByteArray} {pc nL : Nat} {ls : Array Slot} {rest : List Value} {D : va_G} {cy : Nat → ClassId} {A : Nat → Prop} {ws : va_W} {b : Nat} {fs : List Value} {v : Int32} {ws' : va_W} (C : Cx p s m args c cc nL RX11 D cy A) (hO : Wo D A ws s.heap H locs) (q0 : Nat) (he : ws[q0]? = some (b, .inr (11, fs))) (hlen : 8 < fs.length) (hw : ws.set q0 (b, .inr (11, fs.set 8 (.int v))) = ws') (hdg : decode cc pc = .ok (.putfield 208, 3)) (kk : ∀ (H : Heap) (locs : List Loc), Wo D A ws' s.heap H locs → W p l e R s m args below meth c H locs cells slots Q (F0 m (pc + 3) ls rest)) : W p l e R s m args below meth c H locs cells slots Q (F0 m pc ls (.int v :: .ref b :: rest)) := pF (k := 8) (ty := .int) C hO q0 he rfl inFX11 (by decide) wd_1364 rfl tyX11 tyX11_ok nmX11 rfl (by decide +kernel) rfl rfl hlen hw hdg kk
set_option maxHeartbeats 4000000 in
set_option maxRecDepth 100000 in
theorem T_X11_goOn (l : Launch) (D : va_G) (cy : Nat → ClassId) (a : Nat → Nat) (u : St) (hI_0_3 : fI u 0 3 = 0) (hI_0_7 : fI u 0 7 = 0)   : Mv l D cy (mW cy a) yX11_goOn (.code yX11_goOn cX11_goOn 3 none) (rmo 1 21) [.ref (a 0)] u (fun (u' : St) => u' = (sI (sI (sI (sI (sI u 0 6 0) 0 7 1) 0 8 0) 0 6 0) 0 7 0)) := by
  refine Mv.of (own := RX11) rfl (by decide) (Nat.le_of_ble_eq_true rfl) ?_
  intro p e s m below meth c A Q ls C hret hO hl
  obtain ⟨hx, hb, hml, hown, ht, hK, hA⟩ := id C
  have hl : lv_has ls 3 [(0, .ref (a 0))] := hl
  refine lv_aload_n hx hb dX11_goOn_0 rfl (lv_at hl 0 rfl) ?_
  refine lv_aload_n hx hb dX11_goOn_1 rfl (lv_at hl 0 rfl) ?_
  refine gf_RX11_198 (v := .int 0) C hO 0 mW_0 (congrArg (fun z : Int32 => some (Value.int z)) hI_0_7) dX11_goOn_2 ?_
  refine pf_RX11_201 C hO 0 mW_0 (Nat.le_of_ble_eq_true rfl) mW_s0_6 dX11_goOn_5 (fun H locs hO => ?_)
  refine lv_aload_n hx hb dX11_goOn_8 rfl (lv_at hl 0 rfl) ?_
  refine gf_RX11_201 (v := .int 0) C hO 0 mW_0 rfl dX11_goOn_9 ?_
  refine lv_aload_n hx hb dX11_goOn_12 rfl (lv_at hl 0 rfl) ?_
  refine gf_RX11_152 (v := .int 0) C hO 0 mW_0 (congrArg (fun z : Int32 => some (Value.int z)) hI_0_3) dX11_goOn_13 ?_
  refine ct_ge (tgt := 58) (X := 0) (Y := 0) hx hb dX11_goOn_16 (by decide) rfl rfl (by omega) ?_
  refine lv_aload_n hx hb dX11_goOn_58 rfl (lv_at hl 0 rfl) ?_
  refine lv_aload_n hx hb dX11_goOn_59 rfl (lv_at hl 0 rfl) ?_
  refine gf_RX11_201 (v := .int 0) C hO 0 mW_0 rfl dX11_goOn_60 ?_
  refine cVi (w := mW cy a) (As := [.int 0]) (rest := []) C hO (T_X11_sign_0 l D cy a _ (by exact hI_0_3)) (cwV 1 ht (gV wd_1560 wd_1562 wd_49 wd_121 wd_1563) rfl rfl rfl hd_yX11_sign ⟨Nat.le_of_ble_eq_true rfl, Nat.le_of_ble_eq_true rfl⟩) 0 rfl mW_0 rfl rfl hl.1 (Nat.le_of_ble_eq_true rfl) dX11_goOn_63 rfl ⟨Nat.zero_le _, Nat.zero_le _⟩ (fun r1 u2 H locs hp3 hO => ?_)
  obtain ⟨hr1, hu2⟩ := hp3
  subst hr1
  rw [hu2] at hO
  refine lv_istore_n (lv' := [(1, .int 0), (0, .ref (a 0))]) hx hb dX11_goOn_66 rfl hl (by decide) rfl (fun ls hl => ?_)
  refine lv_aload_n hx hb dX11_goOn_67 rfl (lv_at hl 1 rfl) ?_
  refine lv_aload_n hx hb dX11_goOn_68 rfl (lv_at hl 1 rfl) ?_
  refine gf_RX11_201 (v := .int 0) C hO 0 mW_0 rfl dX11_goOn_69 ?_
  refine lv_iconst (v := 1) hx hb dX11_goOn_72 (by decide) ?_
  refine lv_iadd hx hb dX11_goOn_73 ?_
  refine tE (y := 1) rfl ?_
  refine pf_RX11_198 C hO 0 mW_0 (Nat.le_of_ble_eq_true rfl) mW_s0_7 dX11_goOn_74 (fun H locs hO => ?_)
  refine lv_aload_n hx hb dX11_goOn_77 rfl (lv_at hl 1 rfl) ?_
  refine gf_RX11_201 (v := .int 0) C hO 0 mW_0 rfl dX11_goOn_78 ?_
  refine lv_aload_n hx hb dX11_goOn_81 rfl (lv_at hl 1 rfl) ?_
  refine gf_RX11_152 (v := .int 0) C hO 0 mW_0 (congrArg (fun z : Int32 => some (Value.int z)) hI_0_3) dX11_goOn_82 ?_
  refine cn_lt (X := 0) (Y := 0) hx hb dX11_goOn_85 rfl rfl (by omega) ?_ (tgt := 112) (by decide)
  refine lv_aload_n hx hb dX11_goOn_88 rfl (lv_at hl 1 rfl) ?_
  refine lv_iconst (v := 0) hx hb dX11_goOn_89 (by decide) ?_
  refine pf_RX11_208 C hO 0 mW_0 (Nat.le_of_ble_eq_true rfl) mW_s0_8 dX11_goOn_90 (fun H locs hO => ?_)
  refine lv_aload_n hx hb dX11_goOn_93 rfl (lv_at hl 1 rfl) ?_
  refine lv_aload_n hx hb dX11_goOn_94 rfl (lv_at hl 1 rfl) ?_
  refine gf_RX11_152 (v := .int 0) C hO 0 mW_0 (congrArg (fun z : Int32 => some (Value.int z)) hI_0_3) dX11_goOn_95 ?_
  refine pf_RX11_201 C hO 0 mW_0 (Nat.le_of_ble_eq_true rfl) mW_s0_6 dX11_goOn_98 (fun H locs hO => ?_)
  refine lv_aload_n hx hb dX11_goOn_101 rfl (lv_at hl 1 rfl) ?_
  refine lv_aload_n hx hb dX11_goOn_102 rfl (lv_at hl 1 rfl) ?_
  refine gf_RX11_152 (v := .int 0) C hO 0 mW_0 (congrArg (fun z : Int32 => some (Value.int z)) hI_0_3) dX11_goOn_103 ?_
  refine pf_RX11_198 C hO 0 mW_0 (Nat.le_of_ble_eq_true rfl) mW_s0_7 dX11_goOn_106 (fun H locs hO => ?_)
  refine lv_goto (tgt := 377) hx hb dX11_goOn_109 (by decide) ?_
  refine hret _ _ _ _ _ dX11_goOn_377 ?_ hO
  exact rfl
theorem dX11_isGood_0 : decode cX11_isGood 0 = .ok (.aload_n 0, 1) := by decide +kernel
theorem dX11_isGood_1 : decode cX11_isGood 1 = .ok (.getfield 155, 3) := by decide +kernel
theorem dX11_isGood_4 : decode cX11_isGood 4 = .ok (.ifCond .ne 7, 3) := by decide +kernel
theorem dX11_isGood_7 : decode cX11_isGood 7 = .ok (.iconst 1, 1) := by decide +kernel
theorem dX11_isGood_8 : decode cX11_isGood 8 = .ok (.goto 4, 3) := by decide +kernel
theorem dX11_isGood_11 : decode cX11_isGood 11 = .ok (.iconst 0, 1) := by decide +kernel
theorem dX11_isGood_12 : decode cX11_isGood 12 = .ok (.ireturn, 1) := by decide +kernel
theorem wd_1599 : (Cond.code ⟨"WebCourtModel", "isGood", "()Z"⟩ prog_13_method_6_code (1 : Nat) (Option.some FieldType.boolean)) ∈ gtb := gtb_c7 50 (by decide +kernel) rfl
set_option maxHeartbeats 4000000 in
set_option maxRecDepth 100000 in
theorem T_X11_isGood (l : Launch) (D : va_G) (cy : Nat → ClassId) (a : Nat → Nat) (u : St) (hI_0_4 : fI u 0 4 = 0)   : Mi l D cy (mW cy a) yX11_isGood (.code yX11_isGood cX11_isGood 1 (some .boolean)) (rmo 0 0) [.ref (a 0)] u (fun (r : Int32) (u' : St) => (r = 1) ∧ (u' = u)) := by
  refine Mi.of (own := RX11) rfl (by decide) (Nat.le_of_ble_eq_true rfl) ?_
  intro p e s m below meth c A Q ls C hret hO hl
  obtain ⟨hx, hb, hml, hown, ht, hK, hA⟩ := id C
  have hl : lv_has ls 1 [(0, .ref (a 0))] := hl
  refine lv_aload_n hx hb dX11_isGood_0 rfl (lv_at hl 0 rfl) ?_
  refine gf_RX11_155 (v := .int 0) C hO 0 mW_0 (congrArg (fun z : Int32 => some (Value.int z)) hI_0_4) dX11_isGood_1 ?_
  refine bn_ne (X := 0) hx hb dX11_isGood_4 rfl (by omega) ?_ (tgt := 11) (by decide)
  refine lv_iconst (v := 1) hx hb dX11_isGood_7 (by decide) ?_
  refine lv_goto (tgt := 12) hx hb dX11_isGood_8 (by decide) ?_
  refine hret _ _ _ _ _ _ dX11_isGood_12 rfl ?_ hO
  exact ⟨rfl, rfl⟩
theorem dX11_layTold_0 : decode cX11_layTold 0 = .ok (.iconst 0, 1) := by decide +kernel
theorem dX11_layTold_1 : decode cX11_layTold 1 = .ok (.istore_n 1, 1) := by decide +kernel
theorem dX11_layTold_2 : decode cX11_layTold 2 = .ok (.iload_n 1, 1) := by decide +kernel
theorem dX11_layTold_3 : decode cX11_layTold 3 = .ok (.bipush 29, 2) := by decide +kernel
theorem dX11_layTold_5 : decode cX11_layTold 5 = .ok (.if_icmp .ge 16, 3) := by decide +kernel
theorem dX11_layTold_8 : decode cX11_layTold 8 = .ok (.aload_n 0, 1) := by decide +kernel
theorem dX11_layTold_9 : decode cX11_layTold 9 = .ok (.getfield 97, 3) := by decide +kernel
theorem dX11_layTold_12 : decode cX11_layTold 12 = .ok (.iload_n 1, 1) := by decide +kernel
theorem dX11_layTold_13 : decode cX11_layTold 13 = .ok (.iconst 0, 1) := by decide +kernel
theorem dX11_layTold_14 : decode cX11_layTold 14 = .ok (.iastore, 1) := by decide +kernel
theorem dX11_layTold_15 : decode cX11_layTold 15 = .ok (.iinc 1 1, 3) := by decide +kernel
theorem dX11_layTold_18 : decode cX11_layTold 18 = .ok (.goto (-16), 3) := by decide +kernel
theorem dX11_layTold_21 : decode cX11_layTold 21 = .ok (.iconst 0, 1) := by decide +kernel
theorem dX11_layTold_22 : decode cX11_layTold 22 = .ok (.istore_n 1, 1) := by decide +kernel
theorem dX11_layTold_23 : decode cX11_layTold 23 = .ok (.iload_n 1, 1) := by decide +kernel
theorem dX11_layTold_24 : decode cX11_layTold 24 = .ok (.aload_n 0, 1) := by decide +kernel
theorem dX11_layTold_25 : decode cX11_layTold 25 = .ok (.invokevirtual 371, 3) := by decide +kernel
theorem dX11_layTold_28 : decode cX11_layTold 28 = .ok (.if_icmp .ge 32, 3) := by decide +kernel
theorem dX11_layTold_31 : decode cX11_layTold 31 = .ok (.aload_n 0, 1) := by decide +kernel
theorem dX11_layTold_32 : decode cX11_layTold 32 = .ok (.getfield 97, 3) := by decide +kernel
theorem dX11_layTold_35 : decode cX11_layTold 35 = .ok (.bipush 6, 2) := by decide +kernel
theorem dX11_layTold_37 : decode cX11_layTold 37 = .ok (.iload_n 1, 1) := by decide +kernel
theorem dX11_layTold_38 : decode cX11_layTold 38 = .ok (.iadd, 1) := by decide +kernel
theorem dX11_layTold_39 : decode cX11_layTold 39 = .ok (.aload_n 0, 1) := by decide +kernel
theorem dX11_layTold_40 : decode cX11_layTold 40 = .ok (.getfield 63, 3) := by decide +kernel
theorem dX11_layTold_43 : decode cX11_layTold 43 = .ok (.bipush 6, 2) := by decide +kernel
theorem dX11_layTold_45 : decode cX11_layTold 45 = .ok (.aload_n 0, 1) := by decide +kernel
theorem dX11_layTold_46 : decode cX11_layTold 46 = .ok (.getfield 255, 3) := by decide +kernel
theorem dX11_layTold_49 : decode cX11_layTold 49 = .ok (.imul, 1) := by decide +kernel
theorem dX11_layTold_50 : decode cX11_layTold 50 = .ok (.iload_n 1, 1) := by decide +kernel
theorem dX11_layTold_51 : decode cX11_layTold 51 = .ok (.iadd, 1) := by decide +kernel
theorem dX11_layTold_52 : decode cX11_layTold 52 = .ok (.iaload, 1) := by decide +kernel
theorem dX11_layTold_53 : decode cX11_layTold 53 = .ok (.iastore, 1) := by decide +kernel
theorem dX11_layTold_54 : decode cX11_layTold 54 = .ok (.iinc 1 1, 3) := by decide +kernel
theorem dX11_layTold_57 : decode cX11_layTold 57 = .ok (.goto (-34), 3) := by decide +kernel
theorem dX11_layTold_60 : decode cX11_layTold 60 = .ok (.aload_n 0, 1) := by decide +kernel
theorem dX11_layTold_61 : decode cX11_layTold 61 = .ok (.getfield 97, 3) := by decide +kernel
theorem dX11_layTold_64 : decode cX11_layTold 64 = .ok (.bipush 24, 2) := by decide +kernel
theorem dX11_layTold_66 : decode cX11_layTold 66 = .ok (.aload_n 0, 1) := by decide +kernel
theorem dX11_layTold_67 : decode cX11_layTold 67 = .ok (.invokevirtual 380, 3) := by decide +kernel
theorem dX11_layTold_70 : decode cX11_layTold 70 = .ok (.ifCond .ne 7, 3) := by decide +kernel
theorem dX11_layTold_73 : decode cX11_layTold 73 = .ok (.iconst (-1), 1) := by decide +kernel
theorem dX11_layTold_74 : decode cX11_layTold 74 = .ok (.goto 12, 3) := by decide +kernel
theorem dX11_layTold_77 : decode cX11_layTold 77 = .ok (.aload_n 0, 1) := by decide +kernel
theorem dX11_layTold_78 : decode cX11_layTold 78 = .ok (.getfield 36, 3) := by decide +kernel
theorem dX11_layTold_81 : decode cX11_layTold 81 = .ok (.aload_n 0, 1) := by decide +kernel
theorem dX11_layTold_82 : decode cX11_layTold 82 = .ok (.getfield 255, 3) := by decide +kernel
theorem dX11_layTold_85 : decode cX11_layTold 85 = .ok (.iaload, 1) := by decide +kernel
theorem dX11_layTold_86 : decode cX11_layTold 86 = .ok (.iastore, 1) := by decide +kernel
theorem dX11_layTold_87 : decode cX11_layTold 87 = .ok (.aload_n 0, 1) := by decide +kernel
theorem dX11_layTold_88 : decode cX11_layTold 88 = .ok (.getfield 97, 3) := by decide +kernel
theorem dX11_layTold_91 : decode cX11_layTold 91 = .ok (.bipush 27, 2) := by decide +kernel
theorem dX11_layTold_93 : decode cX11_layTold 93 = .ok (.aload_n 0, 1) := by decide +kernel
theorem dX11_layTold_94 : decode cX11_layTold 94 = .ok (.getfield 42, 3) := by decide +kernel
theorem dX11_layTold_97 : decode cX11_layTold 97 = .ok (.aload_n 0, 1) := by decide +kernel
theorem dX11_layTold_98 : decode cX11_layTold 98 = .ok (.getfield 255, 3) := by decide +kernel
theorem dX11_layTold_101 : decode cX11_layTold 101 = .ok (.iaload, 1) := by decide +kernel
theorem dX11_layTold_102 : decode cX11_layTold 102 = .ok (.iastore, 1) := by decide +kernel
theorem dX11_layTold_103 : decode cX11_layTold 103 = .ok (.aload_n 0, 1) := by decide +kernel
theorem dX11_layTold_104 : decode cX11_layTold 104 = .ok (.getfield 97, 3) := by decide +kernel
theorem dX11_layTold_107 : decode cX11_layTold 107 = .ok (.bipush 28, 2) := by decide +kernel
theorem dX11_layTold_109 : decode cX11_layTold 109 = .ok (.aload_n 0, 1) := by decide +kernel
theorem dX11_layTold_110 : decode cX11_layTold 110 = .ok (.getfield 48, 3) := by decide +kernel
theorem dX11_layTold_113 : decode cX11_layTold 113 = .ok (.aload_n 0, 1) := by decide +kernel
theorem dX11_layTold_114 : decode cX11_layTold 114 = .ok (.getfield 255, 3) := by decide +kernel
theorem dX11_layTold_117 : decode cX11_layTold 117 = .ok (.iaload, 1) := by decide +kernel
theorem dX11_layTold_118 : decode cX11_layTold 118 = .ok (.iastore, 1) := by decide +kernel
theorem dX11_layTold_119 : decode cX11_layTold 119 = .ok (.return_, 1) := by decide +kernel
theorem wd_1347 : (Cond.code ⟨"WebCourtModel", "layTold", "()V"⟩ prog_13_method_55_code (2 : Nat) (Option.none : Option FieldType)) ∈ gtb := gtb_c6 38 (by decide +kernel) rfl
set_option maxHeartbeats 4000000 in
set_option maxRecDepth 100000 in
theorem T_X11_layTold (l : Launch) (D : va_G) (cy : Nat → ClassId) (a : Nat → Nat) (u : St) (hA_10_0 : fA u 10 0 = 0) (hA_12_0 : fA u 12 0 = 0) (hA_3_0 : fA u 3 0 = 0) (hA_6_0 : fA u 6 0 = 0) (hI_0_36 : fI u 0 36 = 0)   : Mv l D cy (mW cy a) yX11_layTold (.code yX11_layTold cX11_layTold 2 none) (rmo 1 20) [.ref (a 0)] u (fun (u' : St) => u' = (sAt (sAt (sAt (sAt (sAt (sAt (sAt (sAt (sAt (sAt (sAt (sAt (sAt (sAt (sAt (sAt (sAt (sAt (sAt (sAt (sAt (sAt (sAt (sAt (sAt (sAt (sAt (sAt (sAt (sAt (sAt (sAt u 28 (0 : Int32).toNatClampNeg 0) 28 (1 : Int32).toNatClampNeg 0) 28 (2 : Int32).toNatClampNeg 0) 28 (3 : Int32).toNatClampNeg 0) 28 (4 : Int32).toNatClampNeg 0) 28 (5 : Int32).toNatClampNeg 0) 28 (6 : Int32).toNatClampNeg 0) 28 (7 : Int32).toNatClampNeg 0) 28 (8 : Int32).toNatClampNeg 0) 28 (9 : Int32).toNatClampNeg 0) 28 (10 : Int32).toNatClampNeg 0) 28 (11 : Int32).toNatClampNeg 0) 28 (12 : Int32).toNatClampNeg 0) 28 (13 : Int32).toNatClampNeg 0) 28 (14 : Int32).toNatClampNeg 0) 28 (15 : Int32).toNatClampNeg 0) 28 (16 : Int32).toNatClampNeg 0) 28 (17 : Int32).toNatClampNeg 0) 28 (18 : Int32).toNatClampNeg 0) 28 (19 : Int32).toNatClampNeg 0) 28 (20 : Int32).toNatClampNeg 0) 28 (21 : Int32).toNatClampNeg 0) 28 (22 : Int32).toNatClampNeg 0) 28 (23 : Int32).toNatClampNeg 0) 28 (24 : Int32).toNatClampNeg 0) 28 (25 : Int32).toNatClampNeg 0) 28 (26 : Int32).toNatClampNeg 0) 28 (27 : Int32).toNatClampNeg 0) 28 (28 : Int32).toNatClampNeg 0) 28 (24 : Int32).toNatClampNeg (-1)) 28 (27 : Int32).toNatClampNeg 0) 28 (28 : Int32).toNatClampNeg 0)) := by
  refine Mv.of (own := RX11) rfl (by decide) (Nat.le_of_ble_eq_true rfl) ?_
  intro p e s m below meth c A Q ls C hret hO hl
  obtain ⟨hx, hb, hml, hown, ht, hK, hA⟩ := id C
  have hl : lv_has ls 2 [(0, .ref (a 0))] := hl
  refine lv_iconst (v := 0) hx hb dX11_layTold_0 (by decide) ?_
  refine lv_istore_n (lv' := [(1, .int 0), (0, .ref (a 0))]) hx hb dX11_layTold_1 rfl hl (by decide) rfl (fun ls hl => ?_)
  refine lv_iload_n hx hb dX11_layTold_2 rfl (lv_at hl 0 rfl) ?_
  refine lv_bipush (v := 29) hx hb dX11_layTold_3 (by decide) ?_
  refine cn_ge (X := 0) (Y := 29) hx hb dX11_layTold_5 rfl rfl (by omega) ?_ (tgt := 21) (by decide)
  refine lv_aload_n hx hb dX11_layTold_8 rfl (lv_at hl 1 rfl) ?_
  refine gf_RX11_97 (v := .ref (a 28)) C hO 0 mW_0 rfl dX11_layTold_9 ?_
  refine lv_iload_n hx hb dX11_layTold_12 rfl (lv_at hl 0 rfl) ?_
  refine lv_iconst (v := 0) hx hb dX11_layTold_13 (by decide) ?_
  refine aIs C hO 28 mW_28 (i_in (X := 0) rfl (by omega) (by omega)) mW_s28 dX11_layTold_14 (fun H locs hO => ?_)
  refine lv_iinc (v := 1) (lv' := [(1, .int 1), (0, .ref (a 0))]) hx hb dX11_layTold_15 hl (k := 0) rfl rfl (by decide) rfl (fun ls hl => ?_)
  refine lv_goto (tgt := 2) hx hb dX11_layTold_18 (by decide) ?_
  refine lv_iload_n hx hb dX11_layTold_2 rfl (lv_at hl 0 rfl) ?_
  refine lv_bipush (v := 29) hx hb dX11_layTold_3 (by decide) ?_
  refine cn_ge (X := 1) (Y := 29) hx hb dX11_layTold_5 rfl rfl (by omega) ?_ (tgt := 21) (by decide)
  refine lv_aload_n hx hb dX11_layTold_8 rfl (lv_at hl 1 rfl) ?_
  refine gf_RX11_97 (v := .ref (a 28)) C hO 0 mW_0 rfl dX11_layTold_9 ?_
  refine lv_iload_n hx hb dX11_layTold_12 rfl (lv_at hl 0 rfl) ?_
  refine lv_iconst (v := 0) hx hb dX11_layTold_13 (by decide) ?_
  refine aIs C hO 28 mW_28 (i_in (X := 1) rfl (by omega) (by omega)) mW_s28 dX11_layTold_14 (fun H locs hO => ?_)
  refine lv_iinc (v := 2) (lv' := [(1, .int 2), (0, .ref (a 0))]) hx hb dX11_layTold_15 hl (k := 0) rfl rfl (by decide) rfl (fun ls hl => ?_)
  refine lv_goto (tgt := 2) hx hb dX11_layTold_18 (by decide) ?_
  refine lv_iload_n hx hb dX11_layTold_2 rfl (lv_at hl 0 rfl) ?_
  refine lv_bipush (v := 29) hx hb dX11_layTold_3 (by decide) ?_
  refine cn_ge (X := 2) (Y := 29) hx hb dX11_layTold_5 rfl rfl (by omega) ?_ (tgt := 21) (by decide)
  refine lv_aload_n hx hb dX11_layTold_8 rfl (lv_at hl 1 rfl) ?_
  refine gf_RX11_97 (v := .ref (a 28)) C hO 0 mW_0 rfl dX11_layTold_9 ?_
  refine lv_iload_n hx hb dX11_layTold_12 rfl (lv_at hl 0 rfl) ?_
  refine lv_iconst (v := 0) hx hb dX11_layTold_13 (by decide) ?_
  refine aIs C hO 28 mW_28 (i_in (X := 2) rfl (by omega) (by omega)) mW_s28 dX11_layTold_14 (fun H locs hO => ?_)
  refine lv_iinc (v := 3) (lv' := [(1, .int 3), (0, .ref (a 0))]) hx hb dX11_layTold_15 hl (k := 0) rfl rfl (by decide) rfl (fun ls hl => ?_)
  refine lv_goto (tgt := 2) hx hb dX11_layTold_18 (by decide) ?_
  refine lv_iload_n hx hb dX11_layTold_2 rfl (lv_at hl 0 rfl) ?_
  refine lv_bipush (v := 29) hx hb dX11_layTold_3 (by decide) ?_
  refine cn_ge (X := 3) (Y := 29) hx hb dX11_layTold_5 rfl rfl (by omega) ?_ (tgt := 21) (by decide)
  refine lv_aload_n hx hb dX11_layTold_8 rfl (lv_at hl 1 rfl) ?_
  refine gf_RX11_97 (v := .ref (a 28)) C hO 0 mW_0 rfl dX11_layTold_9 ?_
  refine lv_iload_n hx hb dX11_layTold_12 rfl (lv_at hl 0 rfl) ?_
  refine lv_iconst (v := 0) hx hb dX11_layTold_13 (by decide) ?_
  refine aIs C hO 28 mW_28 (i_in (X := 3) rfl (by omega) (by omega)) mW_s28 dX11_layTold_14 (fun H locs hO => ?_)
  refine lv_iinc (v := 4) (lv' := [(1, .int 4), (0, .ref (a 0))]) hx hb dX11_layTold_15 hl (k := 0) rfl rfl (by decide) rfl (fun ls hl => ?_)
  refine lv_goto (tgt := 2) hx hb dX11_layTold_18 (by decide) ?_
  refine lv_iload_n hx hb dX11_layTold_2 rfl (lv_at hl 0 rfl) ?_
  refine lv_bipush (v := 29) hx hb dX11_layTold_3 (by decide) ?_
  refine cn_ge (X := 4) (Y := 29) hx hb dX11_layTold_5 rfl rfl (by omega) ?_ (tgt := 21) (by decide)
  refine lv_aload_n hx hb dX11_layTold_8 rfl (lv_at hl 1 rfl) ?_
  refine gf_RX11_97 (v := .ref (a 28)) C hO 0 mW_0 rfl dX11_layTold_9 ?_
  refine lv_iload_n hx hb dX11_layTold_12 rfl (lv_at hl 0 rfl) ?_
  refine lv_iconst (v := 0) hx hb dX11_layTold_13 (by decide) ?_
  refine aIs C hO 28 mW_28 (i_in (X := 4) rfl (by omega) (by omega)) mW_s28 dX11_layTold_14 (fun H locs hO => ?_)
  refine lv_iinc (v := 5) (lv' := [(1, .int 5), (0, .ref (a 0))]) hx hb dX11_layTold_15 hl (k := 0) rfl rfl (by decide) rfl (fun ls hl => ?_)
  refine lv_goto (tgt := 2) hx hb dX11_layTold_18 (by decide) ?_
  refine lv_iload_n hx hb dX11_layTold_2 rfl (lv_at hl 0 rfl) ?_
  refine lv_bipush (v := 29) hx hb dX11_layTold_3 (by decide) ?_
  refine cn_ge (X := 5) (Y := 29) hx hb dX11_layTold_5 rfl rfl (by omega) ?_ (tgt := 21) (by decide)
  refine lv_aload_n hx hb dX11_layTold_8 rfl (lv_at hl 1 rfl) ?_
  refine gf_RX11_97 (v := .ref (a 28)) C hO 0 mW_0 rfl dX11_layTold_9 ?_
  refine lv_iload_n hx hb dX11_layTold_12 rfl (lv_at hl 0 rfl) ?_
  refine lv_iconst (v := 0) hx hb dX11_layTold_13 (by decide) ?_
  refine aIs C hO 28 mW_28 (i_in (X := 5) rfl (by omega) (by omega)) mW_s28 dX11_layTold_14 (fun H locs hO => ?_)
  refine lv_iinc (v := 6) (lv' := [(1, .int 6), (0, .ref (a 0))]) hx hb dX11_layTold_15 hl (k := 0) rfl rfl (by decide) rfl (fun ls hl => ?_)
  refine lv_goto (tgt := 2) hx hb dX11_layTold_18 (by decide) ?_
  refine lv_iload_n hx hb dX11_layTold_2 rfl (lv_at hl 0 rfl) ?_
  refine lv_bipush (v := 29) hx hb dX11_layTold_3 (by decide) ?_
  refine cn_ge (X := 6) (Y := 29) hx hb dX11_layTold_5 rfl rfl (by omega) ?_ (tgt := 21) (by decide)
  refine lv_aload_n hx hb dX11_layTold_8 rfl (lv_at hl 1 rfl) ?_
  refine gf_RX11_97 (v := .ref (a 28)) C hO 0 mW_0 rfl dX11_layTold_9 ?_
  refine lv_iload_n hx hb dX11_layTold_12 rfl (lv_at hl 0 rfl) ?_
  refine lv_iconst (v := 0) hx hb dX11_layTold_13 (by decide) ?_
  refine aIs C hO 28 mW_28 (i_in (X := 6) rfl (by omega) (by omega)) mW_s28 dX11_layTold_14 (fun H locs hO => ?_)
  refine lv_iinc (v := 7) (lv' := [(1, .int 7), (0, .ref (a 0))]) hx hb dX11_layTold_15 hl (k := 0) rfl rfl (by decide) rfl (fun ls hl => ?_)
  refine lv_goto (tgt := 2) hx hb dX11_layTold_18 (by decide) ?_
  refine lv_iload_n hx hb dX11_layTold_2 rfl (lv_at hl 0 rfl) ?_
  refine lv_bipush (v := 29) hx hb dX11_layTold_3 (by decide) ?_
  refine cn_ge (X := 7) (Y := 29) hx hb dX11_layTold_5 rfl rfl (by omega) ?_ (tgt := 21) (by decide)
  refine lv_aload_n hx hb dX11_layTold_8 rfl (lv_at hl 1 rfl) ?_
  refine gf_RX11_97 (v := .ref (a 28)) C hO 0 mW_0 rfl dX11_layTold_9 ?_
  refine lv_iload_n hx hb dX11_layTold_12 rfl (lv_at hl 0 rfl) ?_
  refine lv_iconst (v := 0) hx hb dX11_layTold_13 (by decide) ?_
  refine aIs C hO 28 mW_28 (i_in (X := 7) rfl (by omega) (by omega)) mW_s28 dX11_layTold_14 (fun H locs hO => ?_)
  refine lv_iinc (v := 8) (lv' := [(1, .int 8), (0, .ref (a 0))]) hx hb dX11_layTold_15 hl (k := 0) rfl rfl (by decide) rfl (fun ls hl => ?_)
  refine lv_goto (tgt := 2) hx hb dX11_layTold_18 (by decide) ?_
  refine lv_iload_n hx hb dX11_layTold_2 rfl (lv_at hl 0 rfl) ?_
  refine lv_bipush (v := 29) hx hb dX11_layTold_3 (by decide) ?_
  refine cn_ge (X := 8) (Y := 29) hx hb dX11_layTold_5 rfl rfl (by omega) ?_ (tgt := 21) (by decide)
  refine lv_aload_n hx hb dX11_layTold_8 rfl (lv_at hl 1 rfl) ?_
  refine gf_RX11_97 (v := .ref (a 28)) C hO 0 mW_0 rfl dX11_layTold_9 ?_
  refine lv_iload_n hx hb dX11_layTold_12 rfl (lv_at hl 0 rfl) ?_
  refine lv_iconst (v := 0) hx hb dX11_layTold_13 (by decide) ?_
  refine aIs C hO 28 mW_28 (i_in (X := 8) rfl (by omega) (by omega)) mW_s28 dX11_layTold_14 (fun H locs hO => ?_)
  refine lv_iinc (v := 9) (lv' := [(1, .int 9), (0, .ref (a 0))]) hx hb dX11_layTold_15 hl (k := 0) rfl rfl (by decide) rfl (fun ls hl => ?_)
  refine lv_goto (tgt := 2) hx hb dX11_layTold_18 (by decide) ?_
  refine lv_iload_n hx hb dX11_layTold_2 rfl (lv_at hl 0 rfl) ?_
  refine lv_bipush (v := 29) hx hb dX11_layTold_3 (by decide) ?_
  refine cn_ge (X := 9) (Y := 29) hx hb dX11_layTold_5 rfl rfl (by omega) ?_ (tgt := 21) (by decide)
  refine lv_aload_n hx hb dX11_layTold_8 rfl (lv_at hl 1 rfl) ?_
  refine gf_RX11_97 (v := .ref (a 28)) C hO 0 mW_0 rfl dX11_layTold_9 ?_
  refine lv_iload_n hx hb dX11_layTold_12 rfl (lv_at hl 0 rfl) ?_
  refine lv_iconst (v := 0) hx hb dX11_layTold_13 (by decide) ?_
  refine aIs C hO 28 mW_28 (i_in (X := 9) rfl (by omega) (by omega)) mW_s28 dX11_layTold_14 (fun H locs hO => ?_)
  refine lv_iinc (v := 10) (lv' := [(1, .int 10), (0, .ref (a 0))]) hx hb dX11_layTold_15 hl (k := 0) rfl rfl (by decide) rfl (fun ls hl => ?_)
  refine lv_goto (tgt := 2) hx hb dX11_layTold_18 (by decide) ?_
  refine lv_iload_n hx hb dX11_layTold_2 rfl (lv_at hl 0 rfl) ?_
  refine lv_bipush (v := 29) hx hb dX11_layTold_3 (by decide) ?_
  refine cn_ge (X := 10) (Y := 29) hx hb dX11_layTold_5 rfl rfl (by omega) ?_ (tgt := 21) (by decide)
  refine lv_aload_n hx hb dX11_layTold_8 rfl (lv_at hl 1 rfl) ?_
  refine gf_RX11_97 (v := .ref (a 28)) C hO 0 mW_0 rfl dX11_layTold_9 ?_
  refine lv_iload_n hx hb dX11_layTold_12 rfl (lv_at hl 0 rfl) ?_
  refine lv_iconst (v := 0) hx hb dX11_layTold_13 (by decide) ?_
  refine aIs C hO 28 mW_28 (i_in (X := 10) rfl (by omega) (by omega)) mW_s28 dX11_layTold_14 (fun H locs hO => ?_)
  refine lv_iinc (v := 11) (lv' := [(1, .int 11), (0, .ref (a 0))]) hx hb dX11_layTold_15 hl (k := 0) rfl rfl (by decide) rfl (fun ls hl => ?_)
  refine lv_goto (tgt := 2) hx hb dX11_layTold_18 (by decide) ?_
  refine lv_iload_n hx hb dX11_layTold_2 rfl (lv_at hl 0 rfl) ?_
  refine lv_bipush (v := 29) hx hb dX11_layTold_3 (by decide) ?_
  refine cn_ge (X := 11) (Y := 29) hx hb dX11_layTold_5 rfl rfl (by omega) ?_ (tgt := 21) (by decide)
  refine lv_aload_n hx hb dX11_layTold_8 rfl (lv_at hl 1 rfl) ?_
  refine gf_RX11_97 (v := .ref (a 28)) C hO 0 mW_0 rfl dX11_layTold_9 ?_
  refine lv_iload_n hx hb dX11_layTold_12 rfl (lv_at hl 0 rfl) ?_
  refine lv_iconst (v := 0) hx hb dX11_layTold_13 (by decide) ?_
  refine aIs C hO 28 mW_28 (i_in (X := 11) rfl (by omega) (by omega)) mW_s28 dX11_layTold_14 (fun H locs hO => ?_)
  refine lv_iinc (v := 12) (lv' := [(1, .int 12), (0, .ref (a 0))]) hx hb dX11_layTold_15 hl (k := 0) rfl rfl (by decide) rfl (fun ls hl => ?_)
  refine lv_goto (tgt := 2) hx hb dX11_layTold_18 (by decide) ?_
  refine lv_iload_n hx hb dX11_layTold_2 rfl (lv_at hl 0 rfl) ?_
  refine lv_bipush (v := 29) hx hb dX11_layTold_3 (by decide) ?_
  refine cn_ge (X := 12) (Y := 29) hx hb dX11_layTold_5 rfl rfl (by omega) ?_ (tgt := 21) (by decide)
  refine lv_aload_n hx hb dX11_layTold_8 rfl (lv_at hl 1 rfl) ?_
  refine gf_RX11_97 (v := .ref (a 28)) C hO 0 mW_0 rfl dX11_layTold_9 ?_
  refine lv_iload_n hx hb dX11_layTold_12 rfl (lv_at hl 0 rfl) ?_
  refine lv_iconst (v := 0) hx hb dX11_layTold_13 (by decide) ?_
  refine aIs C hO 28 mW_28 (i_in (X := 12) rfl (by omega) (by omega)) mW_s28 dX11_layTold_14 (fun H locs hO => ?_)
  refine lv_iinc (v := 13) (lv' := [(1, .int 13), (0, .ref (a 0))]) hx hb dX11_layTold_15 hl (k := 0) rfl rfl (by decide) rfl (fun ls hl => ?_)
  refine lv_goto (tgt := 2) hx hb dX11_layTold_18 (by decide) ?_
  refine lv_iload_n hx hb dX11_layTold_2 rfl (lv_at hl 0 rfl) ?_
  refine lv_bipush (v := 29) hx hb dX11_layTold_3 (by decide) ?_
  refine cn_ge (X := 13) (Y := 29) hx hb dX11_layTold_5 rfl rfl (by omega) ?_ (tgt := 21) (by decide)
  refine lv_aload_n hx hb dX11_layTold_8 rfl (lv_at hl 1 rfl) ?_
  refine gf_RX11_97 (v := .ref (a 28)) C hO 0 mW_0 rfl dX11_layTold_9 ?_
  refine lv_iload_n hx hb dX11_layTold_12 rfl (lv_at hl 0 rfl) ?_
  refine lv_iconst (v := 0) hx hb dX11_layTold_13 (by decide) ?_
  refine aIs C hO 28 mW_28 (i_in (X := 13) rfl (by omega) (by omega)) mW_s28 dX11_layTold_14 (fun H locs hO => ?_)
  refine lv_iinc (v := 14) (lv' := [(1, .int 14), (0, .ref (a 0))]) hx hb dX11_layTold_15 hl (k := 0) rfl rfl (by decide) rfl (fun ls hl => ?_)
  refine lv_goto (tgt := 2) hx hb dX11_layTold_18 (by decide) ?_
  refine lv_iload_n hx hb dX11_layTold_2 rfl (lv_at hl 0 rfl) ?_
  refine lv_bipush (v := 29) hx hb dX11_layTold_3 (by decide) ?_
  refine cn_ge (X := 14) (Y := 29) hx hb dX11_layTold_5 rfl rfl (by omega) ?_ (tgt := 21) (by decide)
  refine lv_aload_n hx hb dX11_layTold_8 rfl (lv_at hl 1 rfl) ?_
  refine gf_RX11_97 (v := .ref (a 28)) C hO 0 mW_0 rfl dX11_layTold_9 ?_
  refine lv_iload_n hx hb dX11_layTold_12 rfl (lv_at hl 0 rfl) ?_
  refine lv_iconst (v := 0) hx hb dX11_layTold_13 (by decide) ?_
  refine aIs C hO 28 mW_28 (i_in (X := 14) rfl (by omega) (by omega)) mW_s28 dX11_layTold_14 (fun H locs hO => ?_)
  refine lv_iinc (v := 15) (lv' := [(1, .int 15), (0, .ref (a 0))]) hx hb dX11_layTold_15 hl (k := 0) rfl rfl (by decide) rfl (fun ls hl => ?_)
  refine lv_goto (tgt := 2) hx hb dX11_layTold_18 (by decide) ?_
  refine lv_iload_n hx hb dX11_layTold_2 rfl (lv_at hl 0 rfl) ?_
  refine lv_bipush (v := 29) hx hb dX11_layTold_3 (by decide) ?_
  refine cn_ge (X := 15) (Y := 29) hx hb dX11_layTold_5 rfl rfl (by omega) ?_ (tgt := 21) (by decide)
  refine lv_aload_n hx hb dX11_layTold_8 rfl (lv_at hl 1 rfl) ?_
  refine gf_RX11_97 (v := .ref (a 28)) C hO 0 mW_0 rfl dX11_layTold_9 ?_
  refine lv_iload_n hx hb dX11_layTold_12 rfl (lv_at hl 0 rfl) ?_
  refine lv_iconst (v := 0) hx hb dX11_layTold_13 (by decide) ?_
  refine aIs C hO 28 mW_28 (i_in (X := 15) rfl (by omega) (by omega)) mW_s28 dX11_layTold_14 (fun H locs hO => ?_)
  refine lv_iinc (v := 16) (lv' := [(1, .int 16), (0, .ref (a 0))]) hx hb dX11_layTold_15 hl (k := 0) rfl rfl (by decide) rfl (fun ls hl => ?_)
  refine lv_goto (tgt := 2) hx hb dX11_layTold_18 (by decide) ?_
  refine lv_iload_n hx hb dX11_layTold_2 rfl (lv_at hl 0 rfl) ?_
  refine lv_bipush (v := 29) hx hb dX11_layTold_3 (by decide) ?_
  refine cn_ge (X := 16) (Y := 29) hx hb dX11_layTold_5 rfl rfl (by omega) ?_ (tgt := 21) (by decide)
  refine lv_aload_n hx hb dX11_layTold_8 rfl (lv_at hl 1 rfl) ?_
  refine gf_RX11_97 (v := .ref (a 28)) C hO 0 mW_0 rfl dX11_layTold_9 ?_
  refine lv_iload_n hx hb dX11_layTold_12 rfl (lv_at hl 0 rfl) ?_
  refine lv_iconst (v := 0) hx hb dX11_layTold_13 (by decide) ?_
  refine aIs C hO 28 mW_28 (i_in (X := 16) rfl (by omega) (by omega)) mW_s28 dX11_layTold_14 (fun H locs hO => ?_)
  refine lv_iinc (v := 17) (lv' := [(1, .int 17), (0, .ref (a 0))]) hx hb dX11_layTold_15 hl (k := 0) rfl rfl (by decide) rfl (fun ls hl => ?_)
  refine lv_goto (tgt := 2) hx hb dX11_layTold_18 (by decide) ?_
  refine lv_iload_n hx hb dX11_layTold_2 rfl (lv_at hl 0 rfl) ?_
  refine lv_bipush (v := 29) hx hb dX11_layTold_3 (by decide) ?_
  refine cn_ge (X := 17) (Y := 29) hx hb dX11_layTold_5 rfl rfl (by omega) ?_ (tgt := 21) (by decide)
  refine lv_aload_n hx hb dX11_layTold_8 rfl (lv_at hl 1 rfl) ?_
  refine gf_RX11_97 (v := .ref (a 28)) C hO 0 mW_0 rfl dX11_layTold_9 ?_
  refine lv_iload_n hx hb dX11_layTold_12 rfl (lv_at hl 0 rfl) ?_
  refine lv_iconst (v := 0) hx hb dX11_layTold_13 (by decide) ?_
  refine aIs C hO 28 mW_28 (i_in (X := 17) rfl (by omega) (by omega)) mW_s28 dX11_layTold_14 (fun H locs hO => ?_)
  refine lv_iinc (v := 18) (lv' := [(1, .int 18), (0, .ref (a 0))]) hx hb dX11_layTold_15 hl (k := 0) rfl rfl (by decide) rfl (fun ls hl => ?_)
  refine lv_goto (tgt := 2) hx hb dX11_layTold_18 (by decide) ?_
  refine lv_iload_n hx hb dX11_layTold_2 rfl (lv_at hl 0 rfl) ?_
  refine lv_bipush (v := 29) hx hb dX11_layTold_3 (by decide) ?_
  refine cn_ge (X := 18) (Y := 29) hx hb dX11_layTold_5 rfl rfl (by omega) ?_ (tgt := 21) (by decide)
  refine lv_aload_n hx hb dX11_layTold_8 rfl (lv_at hl 1 rfl) ?_
  refine gf_RX11_97 (v := .ref (a 28)) C hO 0 mW_0 rfl dX11_layTold_9 ?_
  refine lv_iload_n hx hb dX11_layTold_12 rfl (lv_at hl 0 rfl) ?_
  refine lv_iconst (v := 0) hx hb dX11_layTold_13 (by decide) ?_
  refine aIs C hO 28 mW_28 (i_in (X := 18) rfl (by omega) (by omega)) mW_s28 dX11_layTold_14 (fun H locs hO => ?_)
  refine lv_iinc (v := 19) (lv' := [(1, .int 19), (0, .ref (a 0))]) hx hb dX11_layTold_15 hl (k := 0) rfl rfl (by decide) rfl (fun ls hl => ?_)
  refine lv_goto (tgt := 2) hx hb dX11_layTold_18 (by decide) ?_
  refine lv_iload_n hx hb dX11_layTold_2 rfl (lv_at hl 0 rfl) ?_
  refine lv_bipush (v := 29) hx hb dX11_layTold_3 (by decide) ?_
  refine cn_ge (X := 19) (Y := 29) hx hb dX11_layTold_5 rfl rfl (by omega) ?_ (tgt := 21) (by decide)
  refine lv_aload_n hx hb dX11_layTold_8 rfl (lv_at hl 1 rfl) ?_
  refine gf_RX11_97 (v := .ref (a 28)) C hO 0 mW_0 rfl dX11_layTold_9 ?_
  refine lv_iload_n hx hb dX11_layTold_12 rfl (lv_at hl 0 rfl) ?_
  refine lv_iconst (v := 0) hx hb dX11_layTold_13 (by decide) ?_
  refine aIs C hO 28 mW_28 (i_in (X := 19) rfl (by omega) (by omega)) mW_s28 dX11_layTold_14 (fun H locs hO => ?_)
  refine lv_iinc (v := 20) (lv' := [(1, .int 20), (0, .ref (a 0))]) hx hb dX11_layTold_15 hl (k := 0) rfl rfl (by decide) rfl (fun ls hl => ?_)
  refine lv_goto (tgt := 2) hx hb dX11_layTold_18 (by decide) ?_
  refine lv_iload_n hx hb dX11_layTold_2 rfl (lv_at hl 0 rfl) ?_
  refine lv_bipush (v := 29) hx hb dX11_layTold_3 (by decide) ?_
  refine cn_ge (X := 20) (Y := 29) hx hb dX11_layTold_5 rfl rfl (by omega) ?_ (tgt := 21) (by decide)
  refine lv_aload_n hx hb dX11_layTold_8 rfl (lv_at hl 1 rfl) ?_
  refine gf_RX11_97 (v := .ref (a 28)) C hO 0 mW_0 rfl dX11_layTold_9 ?_
  refine lv_iload_n hx hb dX11_layTold_12 rfl (lv_at hl 0 rfl) ?_
  refine lv_iconst (v := 0) hx hb dX11_layTold_13 (by decide) ?_
  refine aIs C hO 28 mW_28 (i_in (X := 20) rfl (by omega) (by omega)) mW_s28 dX11_layTold_14 (fun H locs hO => ?_)
  refine lv_iinc (v := 21) (lv' := [(1, .int 21), (0, .ref (a 0))]) hx hb dX11_layTold_15 hl (k := 0) rfl rfl (by decide) rfl (fun ls hl => ?_)
  refine lv_goto (tgt := 2) hx hb dX11_layTold_18 (by decide) ?_
  refine lv_iload_n hx hb dX11_layTold_2 rfl (lv_at hl 0 rfl) ?_
  refine lv_bipush (v := 29) hx hb dX11_layTold_3 (by decide) ?_
  refine cn_ge (X := 21) (Y := 29) hx hb dX11_layTold_5 rfl rfl (by omega) ?_ (tgt := 21) (by decide)
  refine lv_aload_n hx hb dX11_layTold_8 rfl (lv_at hl 1 rfl) ?_
  refine gf_RX11_97 (v := .ref (a 28)) C hO 0 mW_0 rfl dX11_layTold_9 ?_
  refine lv_iload_n hx hb dX11_layTold_12 rfl (lv_at hl 0 rfl) ?_
  refine lv_iconst (v := 0) hx hb dX11_layTold_13 (by decide) ?_
  refine aIs C hO 28 mW_28 (i_in (X := 21) rfl (by omega) (by omega)) mW_s28 dX11_layTold_14 (fun H locs hO => ?_)
  refine lv_iinc (v := 22) (lv' := [(1, .int 22), (0, .ref (a 0))]) hx hb dX11_layTold_15 hl (k := 0) rfl rfl (by decide) rfl (fun ls hl => ?_)
  refine lv_goto (tgt := 2) hx hb dX11_layTold_18 (by decide) ?_
  refine lv_iload_n hx hb dX11_layTold_2 rfl (lv_at hl 0 rfl) ?_
  refine lv_bipush (v := 29) hx hb dX11_layTold_3 (by decide) ?_
  refine cn_ge (X := 22) (Y := 29) hx hb dX11_layTold_5 rfl rfl (by omega) ?_ (tgt := 21) (by decide)
  refine lv_aload_n hx hb dX11_layTold_8 rfl (lv_at hl 1 rfl) ?_
  refine gf_RX11_97 (v := .ref (a 28)) C hO 0 mW_0 rfl dX11_layTold_9 ?_
  refine lv_iload_n hx hb dX11_layTold_12 rfl (lv_at hl 0 rfl) ?_
  refine lv_iconst (v := 0) hx hb dX11_layTold_13 (by decide) ?_
  refine aIs C hO 28 mW_28 (i_in (X := 22) rfl (by omega) (by omega)) mW_s28 dX11_layTold_14 (fun H locs hO => ?_)
  refine lv_iinc (v := 23) (lv' := [(1, .int 23), (0, .ref (a 0))]) hx hb dX11_layTold_15 hl (k := 0) rfl rfl (by decide) rfl (fun ls hl => ?_)
  refine lv_goto (tgt := 2) hx hb dX11_layTold_18 (by decide) ?_
  refine lv_iload_n hx hb dX11_layTold_2 rfl (lv_at hl 0 rfl) ?_
  refine lv_bipush (v := 29) hx hb dX11_layTold_3 (by decide) ?_
  refine cn_ge (X := 23) (Y := 29) hx hb dX11_layTold_5 rfl rfl (by omega) ?_ (tgt := 21) (by decide)
  refine lv_aload_n hx hb dX11_layTold_8 rfl (lv_at hl 1 rfl) ?_
  refine gf_RX11_97 (v := .ref (a 28)) C hO 0 mW_0 rfl dX11_layTold_9 ?_
  refine lv_iload_n hx hb dX11_layTold_12 rfl (lv_at hl 0 rfl) ?_
  refine lv_iconst (v := 0) hx hb dX11_layTold_13 (by decide) ?_
  refine aIs C hO 28 mW_28 (i_in (X := 23) rfl (by omega) (by omega)) mW_s28 dX11_layTold_14 (fun H locs hO => ?_)
  refine lv_iinc (v := 24) (lv' := [(1, .int 24), (0, .ref (a 0))]) hx hb dX11_layTold_15 hl (k := 0) rfl rfl (by decide) rfl (fun ls hl => ?_)
  refine lv_goto (tgt := 2) hx hb dX11_layTold_18 (by decide) ?_
  refine lv_iload_n hx hb dX11_layTold_2 rfl (lv_at hl 0 rfl) ?_
  refine lv_bipush (v := 29) hx hb dX11_layTold_3 (by decide) ?_
  refine cn_ge (X := 24) (Y := 29) hx hb dX11_layTold_5 rfl rfl (by omega) ?_ (tgt := 21) (by decide)
  refine lv_aload_n hx hb dX11_layTold_8 rfl (lv_at hl 1 rfl) ?_
  refine gf_RX11_97 (v := .ref (a 28)) C hO 0 mW_0 rfl dX11_layTold_9 ?_
  refine lv_iload_n hx hb dX11_layTold_12 rfl (lv_at hl 0 rfl) ?_
  refine lv_iconst (v := 0) hx hb dX11_layTold_13 (by decide) ?_
  refine aIs C hO 28 mW_28 (i_in (X := 24) rfl (by omega) (by omega)) mW_s28 dX11_layTold_14 (fun H locs hO => ?_)
  refine lv_iinc (v := 25) (lv' := [(1, .int 25), (0, .ref (a 0))]) hx hb dX11_layTold_15 hl (k := 0) rfl rfl (by decide) rfl (fun ls hl => ?_)
  refine lv_goto (tgt := 2) hx hb dX11_layTold_18 (by decide) ?_
  refine lv_iload_n hx hb dX11_layTold_2 rfl (lv_at hl 0 rfl) ?_
  refine lv_bipush (v := 29) hx hb dX11_layTold_3 (by decide) ?_
  refine cn_ge (X := 25) (Y := 29) hx hb dX11_layTold_5 rfl rfl (by omega) ?_ (tgt := 21) (by decide)
  refine lv_aload_n hx hb dX11_layTold_8 rfl (lv_at hl 1 rfl) ?_
  refine gf_RX11_97 (v := .ref (a 28)) C hO 0 mW_0 rfl dX11_layTold_9 ?_
  refine lv_iload_n hx hb dX11_layTold_12 rfl (lv_at hl 0 rfl) ?_
  refine lv_iconst (v := 0) hx hb dX11_layTold_13 (by decide) ?_
  refine aIs C hO 28 mW_28 (i_in (X := 25) rfl (by omega) (by omega)) mW_s28 dX11_layTold_14 (fun H locs hO => ?_)
  refine lv_iinc (v := 26) (lv' := [(1, .int 26), (0, .ref (a 0))]) hx hb dX11_layTold_15 hl (k := 0) rfl rfl (by decide) rfl (fun ls hl => ?_)
  refine lv_goto (tgt := 2) hx hb dX11_layTold_18 (by decide) ?_
  refine lv_iload_n hx hb dX11_layTold_2 rfl (lv_at hl 0 rfl) ?_
  refine lv_bipush (v := 29) hx hb dX11_layTold_3 (by decide) ?_
  refine cn_ge (X := 26) (Y := 29) hx hb dX11_layTold_5 rfl rfl (by omega) ?_ (tgt := 21) (by decide)
  refine lv_aload_n hx hb dX11_layTold_8 rfl (lv_at hl 1 rfl) ?_
  refine gf_RX11_97 (v := .ref (a 28)) C hO 0 mW_0 rfl dX11_layTold_9 ?_
  refine lv_iload_n hx hb dX11_layTold_12 rfl (lv_at hl 0 rfl) ?_
  refine lv_iconst (v := 0) hx hb dX11_layTold_13 (by decide) ?_
  refine aIs C hO 28 mW_28 (i_in (X := 26) rfl (by omega) (by omega)) mW_s28 dX11_layTold_14 (fun H locs hO => ?_)
  refine lv_iinc (v := 27) (lv' := [(1, .int 27), (0, .ref (a 0))]) hx hb dX11_layTold_15 hl (k := 0) rfl rfl (by decide) rfl (fun ls hl => ?_)
  refine lv_goto (tgt := 2) hx hb dX11_layTold_18 (by decide) ?_
  refine lv_iload_n hx hb dX11_layTold_2 rfl (lv_at hl 0 rfl) ?_
  refine lv_bipush (v := 29) hx hb dX11_layTold_3 (by decide) ?_
  refine cn_ge (X := 27) (Y := 29) hx hb dX11_layTold_5 rfl rfl (by omega) ?_ (tgt := 21) (by decide)
  refine lv_aload_n hx hb dX11_layTold_8 rfl (lv_at hl 1 rfl) ?_
  refine gf_RX11_97 (v := .ref (a 28)) C hO 0 mW_0 rfl dX11_layTold_9 ?_
  refine lv_iload_n hx hb dX11_layTold_12 rfl (lv_at hl 0 rfl) ?_
  refine lv_iconst (v := 0) hx hb dX11_layTold_13 (by decide) ?_
  refine aIs C hO 28 mW_28 (i_in (X := 27) rfl (by omega) (by omega)) mW_s28 dX11_layTold_14 (fun H locs hO => ?_)
  refine lv_iinc (v := 28) (lv' := [(1, .int 28), (0, .ref (a 0))]) hx hb dX11_layTold_15 hl (k := 0) rfl rfl (by decide) rfl (fun ls hl => ?_)
  refine lv_goto (tgt := 2) hx hb dX11_layTold_18 (by decide) ?_
  refine lv_iload_n hx hb dX11_layTold_2 rfl (lv_at hl 0 rfl) ?_
  refine lv_bipush (v := 29) hx hb dX11_layTold_3 (by decide) ?_
  refine cn_ge (X := 28) (Y := 29) hx hb dX11_layTold_5 rfl rfl (by omega) ?_ (tgt := 21) (by decide)
  refine lv_aload_n hx hb dX11_layTold_8 rfl (lv_at hl 1 rfl) ?_
  refine gf_RX11_97 (v := .ref (a 28)) C hO 0 mW_0 rfl dX11_layTold_9 ?_
  refine lv_iload_n hx hb dX11_layTold_12 rfl (lv_at hl 0 rfl) ?_
  refine lv_iconst (v := 0) hx hb dX11_layTold_13 (by decide) ?_
  refine aIs C hO 28 mW_28 (i_in (X := 28) rfl (by omega) (by omega)) mW_s28 dX11_layTold_14 (fun H locs hO => ?_)
  refine lv_iinc (v := 29) (lv' := [(1, .int 29), (0, .ref (a 0))]) hx hb dX11_layTold_15 hl (k := 0) rfl rfl (by decide) rfl (fun ls hl => ?_)
  refine lv_goto (tgt := 2) hx hb dX11_layTold_18 (by decide) ?_
  refine lv_iload_n hx hb dX11_layTold_2 rfl (lv_at hl 0 rfl) ?_
  refine lv_bipush (v := 29) hx hb dX11_layTold_3 (by decide) ?_
  refine ct_ge (tgt := 21) (X := 29) (Y := 29) hx hb dX11_layTold_5 (by decide) rfl rfl (by omega) ?_
  refine lv_iconst (v := 0) hx hb dX11_layTold_21 (by decide) ?_
  refine lv_istore_n (lv' := [(1, .int 0), (0, .ref (a 0))]) hx hb dX11_layTold_22 rfl hl (by decide) rfl (fun ls hl => ?_)
  refine lv_iload_n hx hb dX11_layTold_23 rfl (lv_at hl 0 rfl) ?_
  refine lv_aload_n hx hb dX11_layTold_24 rfl (lv_at hl 1 rfl) ?_
  refine cVi (w := mW cy a) (As := []) (rest := [.int 0]) C hO (T_X11_many l D cy a _ (by exact hA_6_0) (by exact hI_0_36)) (cwV 0 ht (gV wd_1348 wd_1350 wd_46 wd_121 wd_1351) rfl rfl rfl hd_yX11_many ⟨Nat.le_of_ble_eq_true rfl, Nat.le_of_ble_eq_true rfl⟩) 0 rfl mW_0 rfl rfl hl.1 (Nat.le_of_ble_eq_true rfl) dX11_layTold_25 rfl ⟨Nat.zero_le _, Nat.zero_le _⟩ (fun r1 u2 H locs hp3 hO => ?_)
  obtain ⟨hr1, hu2⟩ := hp3
  subst hr1
  rw [hu2] at hO
  refine ct_ge (tgt := 60) (X := 0) (Y := 0) hx hb dX11_layTold_28 (by decide) rfl rfl (by omega) ?_
  refine lv_aload_n hx hb dX11_layTold_60 rfl (lv_at hl 1 rfl) ?_
  refine gf_RX11_97 (v := .ref (a 28)) C hO 0 mW_0 rfl dX11_layTold_61 ?_
  refine lv_bipush (v := 24) hx hb dX11_layTold_64 (by decide) ?_
  refine lv_aload_n hx hb dX11_layTold_66 rfl (lv_at hl 1 rfl) ?_
  refine cVi (w := mW cy a) (As := []) (rest := [.int 24, .ref (a 28)]) C hO (T_X11_spots l D cy a _ (by exact hA_3_0) (by exact hI_0_36)) (cwV 0 ht (gV wd_1352 wd_1354 wd_47 wd_121 wd_1355) rfl rfl rfl hd_yX11_spots ⟨Nat.le_of_ble_eq_true rfl, Nat.le_of_ble_eq_true rfl⟩) 0 rfl mW_0 rfl rfl hl.1 (Nat.le_of_ble_eq_true rfl) dX11_layTold_67 rfl ⟨Nat.zero_le _, Nat.zero_le _⟩ (fun r4 u5 H locs hp6 hO => ?_)
  obtain ⟨hr4, hu5⟩ := hp6
  subst hr4
  rw [hu5] at hO
  refine bn_ne (X := 0) hx hb dX11_layTold_70 rfl (by omega) ?_ (tgt := 77) (by decide)
  refine lv_iconst (v := (-1)) hx hb dX11_layTold_73 (by decide) ?_
  refine lv_goto (tgt := 86) hx hb dX11_layTold_74 (by decide) ?_
  refine aIs C hO 28 mW_28 (i_in (X := 24) rfl (by omega) (by omega)) mW_s28 dX11_layTold_86 (fun H locs hO => ?_)
  refine lv_aload_n hx hb dX11_layTold_87 rfl (lv_at hl 1 rfl) ?_
  refine gf_RX11_97 (v := .ref (a 28)) C hO 0 mW_0 rfl dX11_layTold_88 ?_
  refine lv_bipush (v := 27) hx hb dX11_layTold_91 (by decide) ?_
  refine lv_aload_n hx hb dX11_layTold_93 rfl (lv_at hl 1 rfl) ?_
  refine gf_RX11_42 (v := .ref (a 10)) C hO 0 mW_0 rfl dX11_layTold_94 ?_
  refine lv_aload_n hx hb dX11_layTold_97 rfl (lv_at hl 1 rfl) ?_
  refine gf_RX11_255 (v := .int 0) C hO 0 mW_0 (congrArg (fun z : Int32 => some (Value.int z)) hI_0_36) dX11_layTold_98 ?_
  refine aI C hO 10 mW_10 (i_in (X := 0) rfl (by omega) (by omega)) dX11_layTold_101 ?_
  refine tE (y := 0) hA_10_0 ?_
  refine aIs C hO 28 mW_28 (i_in (X := 27) rfl (by omega) (by omega)) mW_s28 dX11_layTold_102 (fun H locs hO => ?_)
  refine lv_aload_n hx hb dX11_layTold_103 rfl (lv_at hl 1 rfl) ?_
  refine gf_RX11_97 (v := .ref (a 28)) C hO 0 mW_0 rfl dX11_layTold_104 ?_
  refine lv_bipush (v := 28) hx hb dX11_layTold_107 (by decide) ?_
  refine lv_aload_n hx hb dX11_layTold_109 rfl (lv_at hl 1 rfl) ?_
  refine gf_RX11_48 (v := .ref (a 12)) C hO 0 mW_0 rfl dX11_layTold_110 ?_
  refine lv_aload_n hx hb dX11_layTold_113 rfl (lv_at hl 1 rfl) ?_
  refine gf_RX11_255 (v := .int 0) C hO 0 mW_0 (congrArg (fun z : Int32 => some (Value.int z)) hI_0_36) dX11_layTold_114 ?_
  refine aI C hO 12 mW_12 (i_in (X := 0) rfl (by omega) (by omega)) dX11_layTold_117 ?_
  refine tE (y := 0) hA_12_0 ?_
  refine aIs C hO 28 mW_28 (i_in (X := 28) rfl (by omega) (by omega)) mW_s28 dX11_layTold_118 (fun H locs hO => ?_)
  refine hret _ _ _ _ _ dX11_layTold_119 ?_ hO
  exact rfl
set_option maxHeartbeats 4000000 in
set_option maxRecDepth 100000 in
theorem T_X11_layTold_b1 (l : Launch) (D : va_G) (cy : Nat → ClassId) (a : Nat → Nat) (u : St) (hA_10_1 : fA u 10 1 = 0) (hA_12_1 : fA u 12 1 = 0) (hA_3_0 : fA u 3 0 = 0) (hA_3_1 : fA u 3 1 = 0) (hA_6_0 : fA u 6 0 = 0) (hA_6_1 : fA u 6 1 = 0) (hI_0_36 : fI u 0 36 = 1)   : Mv l D cy (mW cy a) yX11_layTold (.code yX11_layTold cX11_layTold 2 none) (rmo 1 20) [.ref (a 0)] u (fun (u' : St) => u' = (sAt (sAt (sAt (sAt (sAt (sAt (sAt (sAt (sAt (sAt (sAt (sAt (sAt (sAt (sAt (sAt (sAt (sAt (sAt (sAt (sAt (sAt (sAt (sAt (sAt (sAt (sAt (sAt (sAt (sAt (sAt (sAt u 28 (0 : Int32).toNatClampNeg 0) 28 (1 : Int32).toNatClampNeg 0) 28 (2 : Int32).toNatClampNeg 0) 28 (3 : Int32).toNatClampNeg 0) 28 (4 : Int32).toNatClampNeg 0) 28 (5 : Int32).toNatClampNeg 0) 28 (6 : Int32).toNatClampNeg 0) 28 (7 : Int32).toNatClampNeg 0) 28 (8 : Int32).toNatClampNeg 0) 28 (9 : Int32).toNatClampNeg 0) 28 (10 : Int32).toNatClampNeg 0) 28 (11 : Int32).toNatClampNeg 0) 28 (12 : Int32).toNatClampNeg 0) 28 (13 : Int32).toNatClampNeg 0) 28 (14 : Int32).toNatClampNeg 0) 28 (15 : Int32).toNatClampNeg 0) 28 (16 : Int32).toNatClampNeg 0) 28 (17 : Int32).toNatClampNeg 0) 28 (18 : Int32).toNatClampNeg 0) 28 (19 : Int32).toNatClampNeg 0) 28 (20 : Int32).toNatClampNeg 0) 28 (21 : Int32).toNatClampNeg 0) 28 (22 : Int32).toNatClampNeg 0) 28 (23 : Int32).toNatClampNeg 0) 28 (24 : Int32).toNatClampNeg 0) 28 (25 : Int32).toNatClampNeg 0) 28 (26 : Int32).toNatClampNeg 0) 28 (27 : Int32).toNatClampNeg 0) 28 (28 : Int32).toNatClampNeg 0) 28 (24 : Int32).toNatClampNeg (-1)) 28 (27 : Int32).toNatClampNeg 0) 28 (28 : Int32).toNatClampNeg 0)) := by
  refine Mv.of (own := RX11) rfl (by decide) (Nat.le_of_ble_eq_true rfl) ?_
  intro p e s m below meth c A Q ls C hret hO hl
  obtain ⟨hx, hb, hml, hown, ht, hK, hA⟩ := id C
  have hl : lv_has ls 2 [(0, .ref (a 0))] := hl
  refine lv_iconst (v := 0) hx hb dX11_layTold_0 (by decide) ?_
  refine lv_istore_n (lv' := [(1, .int 0), (0, .ref (a 0))]) hx hb dX11_layTold_1 rfl hl (by decide) rfl (fun ls hl => ?_)
  refine lv_iload_n hx hb dX11_layTold_2 rfl (lv_at hl 0 rfl) ?_
  refine lv_bipush (v := 29) hx hb dX11_layTold_3 (by decide) ?_
  refine cn_ge (X := 0) (Y := 29) hx hb dX11_layTold_5 rfl rfl (by omega) ?_ (tgt := 21) (by decide)
  refine lv_aload_n hx hb dX11_layTold_8 rfl (lv_at hl 1 rfl) ?_
  refine gf_RX11_97 (v := .ref (a 28)) C hO 0 mW_0 rfl dX11_layTold_9 ?_
  refine lv_iload_n hx hb dX11_layTold_12 rfl (lv_at hl 0 rfl) ?_
  refine lv_iconst (v := 0) hx hb dX11_layTold_13 (by decide) ?_
  refine aIs C hO 28 mW_28 (i_in (X := 0) rfl (by omega) (by omega)) mW_s28 dX11_layTold_14 (fun H locs hO => ?_)
  refine lv_iinc (v := 1) (lv' := [(1, .int 1), (0, .ref (a 0))]) hx hb dX11_layTold_15 hl (k := 0) rfl rfl (by decide) rfl (fun ls hl => ?_)
  refine lv_goto (tgt := 2) hx hb dX11_layTold_18 (by decide) ?_
  refine lv_iload_n hx hb dX11_layTold_2 rfl (lv_at hl 0 rfl) ?_
  refine lv_bipush (v := 29) hx hb dX11_layTold_3 (by decide) ?_
  refine cn_ge (X := 1) (Y := 29) hx hb dX11_layTold_5 rfl rfl (by omega) ?_ (tgt := 21) (by decide)
  refine lv_aload_n hx hb dX11_layTold_8 rfl (lv_at hl 1 rfl) ?_
  refine gf_RX11_97 (v := .ref (a 28)) C hO 0 mW_0 rfl dX11_layTold_9 ?_
  refine lv_iload_n hx hb dX11_layTold_12 rfl (lv_at hl 0 rfl) ?_
  refine lv_iconst (v := 0) hx hb dX11_layTold_13 (by decide) ?_
  refine aIs C hO 28 mW_28 (i_in (X := 1) rfl (by omega) (by omega)) mW_s28 dX11_layTold_14 (fun H locs hO => ?_)
  refine lv_iinc (v := 2) (lv' := [(1, .int 2), (0, .ref (a 0))]) hx hb dX11_layTold_15 hl (k := 0) rfl rfl (by decide) rfl (fun ls hl => ?_)
  refine lv_goto (tgt := 2) hx hb dX11_layTold_18 (by decide) ?_
  refine lv_iload_n hx hb dX11_layTold_2 rfl (lv_at hl 0 rfl) ?_
  refine lv_bipush (v := 29) hx hb dX11_layTold_3 (by decide) ?_
  refine cn_ge (X := 2) (Y := 29) hx hb dX11_layTold_5 rfl rfl (by omega) ?_ (tgt := 21) (by decide)
  refine lv_aload_n hx hb dX11_layTold_8 rfl (lv_at hl 1 rfl) ?_
  refine gf_RX11_97 (v := .ref (a 28)) C hO 0 mW_0 rfl dX11_layTold_9 ?_
  refine lv_iload_n hx hb dX11_layTold_12 rfl (lv_at hl 0 rfl) ?_
  refine lv_iconst (v := 0) hx hb dX11_layTold_13 (by decide) ?_
  refine aIs C hO 28 mW_28 (i_in (X := 2) rfl (by omega) (by omega)) mW_s28 dX11_layTold_14 (fun H locs hO => ?_)
  refine lv_iinc (v := 3) (lv' := [(1, .int 3), (0, .ref (a 0))]) hx hb dX11_layTold_15 hl (k := 0) rfl rfl (by decide) rfl (fun ls hl => ?_)
  refine lv_goto (tgt := 2) hx hb dX11_layTold_18 (by decide) ?_
  refine lv_iload_n hx hb dX11_layTold_2 rfl (lv_at hl 0 rfl) ?_
  refine lv_bipush (v := 29) hx hb dX11_layTold_3 (by decide) ?_
  refine cn_ge (X := 3) (Y := 29) hx hb dX11_layTold_5 rfl rfl (by omega) ?_ (tgt := 21) (by decide)
  refine lv_aload_n hx hb dX11_layTold_8 rfl (lv_at hl 1 rfl) ?_
  refine gf_RX11_97 (v := .ref (a 28)) C hO 0 mW_0 rfl dX11_layTold_9 ?_
  refine lv_iload_n hx hb dX11_layTold_12 rfl (lv_at hl 0 rfl) ?_
  refine lv_iconst (v := 0) hx hb dX11_layTold_13 (by decide) ?_
  refine aIs C hO 28 mW_28 (i_in (X := 3) rfl (by omega) (by omega)) mW_s28 dX11_layTold_14 (fun H locs hO => ?_)
  refine lv_iinc (v := 4) (lv' := [(1, .int 4), (0, .ref (a 0))]) hx hb dX11_layTold_15 hl (k := 0) rfl rfl (by decide) rfl (fun ls hl => ?_)
  refine lv_goto (tgt := 2) hx hb dX11_layTold_18 (by decide) ?_
  refine lv_iload_n hx hb dX11_layTold_2 rfl (lv_at hl 0 rfl) ?_
  refine lv_bipush (v := 29) hx hb dX11_layTold_3 (by decide) ?_
  refine cn_ge (X := 4) (Y := 29) hx hb dX11_layTold_5 rfl rfl (by omega) ?_ (tgt := 21) (by decide)
  refine lv_aload_n hx hb dX11_layTold_8 rfl (lv_at hl 1 rfl) ?_
  refine gf_RX11_97 (v := .ref (a 28)) C hO 0 mW_0 rfl dX11_layTold_9 ?_
  refine lv_iload_n hx hb dX11_layTold_12 rfl (lv_at hl 0 rfl) ?_
  refine lv_iconst (v := 0) hx hb dX11_layTold_13 (by decide) ?_
  refine aIs C hO 28 mW_28 (i_in (X := 4) rfl (by omega) (by omega)) mW_s28 dX11_layTold_14 (fun H locs hO => ?_)
  refine lv_iinc (v := 5) (lv' := [(1, .int 5), (0, .ref (a 0))]) hx hb dX11_layTold_15 hl (k := 0) rfl rfl (by decide) rfl (fun ls hl => ?_)
  refine lv_goto (tgt := 2) hx hb dX11_layTold_18 (by decide) ?_
  refine lv_iload_n hx hb dX11_layTold_2 rfl (lv_at hl 0 rfl) ?_
  refine lv_bipush (v := 29) hx hb dX11_layTold_3 (by decide) ?_
  refine cn_ge (X := 5) (Y := 29) hx hb dX11_layTold_5 rfl rfl (by omega) ?_ (tgt := 21) (by decide)
  refine lv_aload_n hx hb dX11_layTold_8 rfl (lv_at hl 1 rfl) ?_
  refine gf_RX11_97 (v := .ref (a 28)) C hO 0 mW_0 rfl dX11_layTold_9 ?_
  refine lv_iload_n hx hb dX11_layTold_12 rfl (lv_at hl 0 rfl) ?_
  refine lv_iconst (v := 0) hx hb dX11_layTold_13 (by decide) ?_
  refine aIs C hO 28 mW_28 (i_in (X := 5) rfl (by omega) (by omega)) mW_s28 dX11_layTold_14 (fun H locs hO => ?_)
  refine lv_iinc (v := 6) (lv' := [(1, .int 6), (0, .ref (a 0))]) hx hb dX11_layTold_15 hl (k := 0) rfl rfl (by decide) rfl (fun ls hl => ?_)
  refine lv_goto (tgt := 2) hx hb dX11_layTold_18 (by decide) ?_
  refine lv_iload_n hx hb dX11_layTold_2 rfl (lv_at hl 0 rfl) ?_
  refine lv_bipush (v := 29) hx hb dX11_layTold_3 (by decide) ?_
  refine cn_ge (X := 6) (Y := 29) hx hb dX11_layTold_5 rfl rfl (by omega) ?_ (tgt := 21) (by decide)
  refine lv_aload_n hx hb dX11_layTold_8 rfl (lv_at hl 1 rfl) ?_
  refine gf_RX11_97 (v := .ref (a 28)) C hO 0 mW_0 rfl dX11_layTold_9 ?_
  refine lv_iload_n hx hb dX11_layTold_12 rfl (lv_at hl 0 rfl) ?_
  refine lv_iconst (v := 0) hx hb dX11_layTold_13 (by decide) ?_
  refine aIs C hO 28 mW_28 (i_in (X := 6) rfl (by omega) (by omega)) mW_s28 dX11_layTold_14 (fun H locs hO => ?_)
  refine lv_iinc (v := 7) (lv' := [(1, .int 7), (0, .ref (a 0))]) hx hb dX11_layTold_15 hl (k := 0) rfl rfl (by decide) rfl (fun ls hl => ?_)
  refine lv_goto (tgt := 2) hx hb dX11_layTold_18 (by decide) ?_
  refine lv_iload_n hx hb dX11_layTold_2 rfl (lv_at hl 0 rfl) ?_
  refine lv_bipush (v := 29) hx hb dX11_layTold_3 (by decide) ?_
  refine cn_ge (X := 7) (Y := 29) hx hb dX11_layTold_5 rfl rfl (by omega) ?_ (tgt := 21) (by decide)
  refine lv_aload_n hx hb dX11_layTold_8 rfl (lv_at hl 1 rfl) ?_
  refine gf_RX11_97 (v := .ref (a 28)) C hO 0 mW_0 rfl dX11_layTold_9 ?_
  refine lv_iload_n hx hb dX11_layTold_12 rfl (lv_at hl 0 rfl) ?_
  refine lv_iconst (v := 0) hx hb dX11_layTold_13 (by decide) ?_
  refine aIs C hO 28 mW_28 (i_in (X := 7) rfl (by omega) (by omega)) mW_s28 dX11_layTold_14 (fun H locs hO => ?_)
  refine lv_iinc (v := 8) (lv' := [(1, .int 8), (0, .ref (a 0))]) hx hb dX11_layTold_15 hl (k := 0) rfl rfl (by decide) rfl (fun ls hl => ?_)
  refine lv_goto (tgt := 2) hx hb dX11_layTold_18 (by decide) ?_
  refine lv_iload_n hx hb dX11_layTold_2 rfl (lv_at hl 0 rfl) ?_
  refine lv_bipush (v := 29) hx hb dX11_layTold_3 (by decide) ?_
  refine cn_ge (X := 8) (Y := 29) hx hb dX11_layTold_5 rfl rfl (by omega) ?_ (tgt := 21) (by decide)
  refine lv_aload_n hx hb dX11_layTold_8 rfl (lv_at hl 1 rfl) ?_
  refine gf_RX11_97 (v := .ref (a 28)) C hO 0 mW_0 rfl dX11_layTold_9 ?_
  refine lv_iload_n hx hb dX11_layTold_12 rfl (lv_at hl 0 rfl) ?_
  refine lv_iconst (v := 0) hx hb dX11_layTold_13 (by decide) ?_
  refine aIs C hO 28 mW_28 (i_in (X := 8) rfl (by omega) (by omega)) mW_s28 dX11_layTold_14 (fun H locs hO => ?_)
  refine lv_iinc (v := 9) (lv' := [(1, .int 9), (0, .ref (a 0))]) hx hb dX11_layTold_15 hl (k := 0) rfl rfl (by decide) rfl (fun ls hl => ?_)
  refine lv_goto (tgt := 2) hx hb dX11_layTold_18 (by decide) ?_
  refine lv_iload_n hx hb dX11_layTold_2 rfl (lv_at hl 0 rfl) ?_
  refine lv_bipush (v := 29) hx hb dX11_layTold_3 (by decide) ?_
  refine cn_ge (X := 9) (Y := 29) hx hb dX11_layTold_5 rfl rfl (by omega) ?_ (tgt := 21) (by decide)
  refine lv_aload_n hx hb dX11_layTold_8 rfl (lv_at hl 1 rfl) ?_
  refine gf_RX11_97 (v := .ref (a 28)) C hO 0 mW_0 rfl dX11_layTold_9 ?_
  refine lv_iload_n hx hb dX11_layTold_12 rfl (lv_at hl 0 rfl) ?_
  refine lv_iconst (v := 0) hx hb dX11_layTold_13 (by decide) ?_
  refine aIs C hO 28 mW_28 (i_in (X := 9) rfl (by omega) (by omega)) mW_s28 dX11_layTold_14 (fun H locs hO => ?_)
  refine lv_iinc (v := 10) (lv' := [(1, .int 10), (0, .ref (a 0))]) hx hb dX11_layTold_15 hl (k := 0) rfl rfl (by decide) rfl (fun ls hl => ?_)
  refine lv_goto (tgt := 2) hx hb dX11_layTold_18 (by decide) ?_
  refine lv_iload_n hx hb dX11_layTold_2 rfl (lv_at hl 0 rfl) ?_
  refine lv_bipush (v := 29) hx hb dX11_layTold_3 (by decide) ?_
  refine cn_ge (X := 10) (Y := 29) hx hb dX11_layTold_5 rfl rfl (by omega) ?_ (tgt := 21) (by decide)
  refine lv_aload_n hx hb dX11_layTold_8 rfl (lv_at hl 1 rfl) ?_
  refine gf_RX11_97 (v := .ref (a 28)) C hO 0 mW_0 rfl dX11_layTold_9 ?_
  refine lv_iload_n hx hb dX11_layTold_12 rfl (lv_at hl 0 rfl) ?_
  refine lv_iconst (v := 0) hx hb dX11_layTold_13 (by decide) ?_
  refine aIs C hO 28 mW_28 (i_in (X := 10) rfl (by omega) (by omega)) mW_s28 dX11_layTold_14 (fun H locs hO => ?_)
  refine lv_iinc (v := 11) (lv' := [(1, .int 11), (0, .ref (a 0))]) hx hb dX11_layTold_15 hl (k := 0) rfl rfl (by decide) rfl (fun ls hl => ?_)
  refine lv_goto (tgt := 2) hx hb dX11_layTold_18 (by decide) ?_
  refine lv_iload_n hx hb dX11_layTold_2 rfl (lv_at hl 0 rfl) ?_
  refine lv_bipush (v := 29) hx hb dX11_layTold_3 (by decide) ?_
  refine cn_ge (X := 11) (Y := 29) hx hb dX11_layTold_5 rfl rfl (by omega) ?_ (tgt := 21) (by decide)
  refine lv_aload_n hx hb dX11_layTold_8 rfl (lv_at hl 1 rfl) ?_
  refine gf_RX11_97 (v := .ref (a 28)) C hO 0 mW_0 rfl dX11_layTold_9 ?_
  refine lv_iload_n hx hb dX11_layTold_12 rfl (lv_at hl 0 rfl) ?_
  refine lv_iconst (v := 0) hx hb dX11_layTold_13 (by decide) ?_
  refine aIs C hO 28 mW_28 (i_in (X := 11) rfl (by omega) (by omega)) mW_s28 dX11_layTold_14 (fun H locs hO => ?_)
  refine lv_iinc (v := 12) (lv' := [(1, .int 12), (0, .ref (a 0))]) hx hb dX11_layTold_15 hl (k := 0) rfl rfl (by decide) rfl (fun ls hl => ?_)
  refine lv_goto (tgt := 2) hx hb dX11_layTold_18 (by decide) ?_
  refine lv_iload_n hx hb dX11_layTold_2 rfl (lv_at hl 0 rfl) ?_
  refine lv_bipush (v := 29) hx hb dX11_layTold_3 (by decide) ?_
  refine cn_ge (X := 12) (Y := 29) hx hb dX11_layTold_5 rfl rfl (by omega) ?_ (tgt := 21) (by decide)
  refine lv_aload_n hx hb dX11_layTold_8 rfl (lv_at hl 1 rfl) ?_
  refine gf_RX11_97 (v := .ref (a 28)) C hO 0 mW_0 rfl dX11_layTold_9 ?_
  refine lv_iload_n hx hb dX11_layTold_12 rfl (lv_at hl 0 rfl) ?_
  refine lv_iconst (v := 0) hx hb dX11_layTold_13 (by decide) ?_
  refine aIs C hO 28 mW_28 (i_in (X := 12) rfl (by omega) (by omega)) mW_s28 dX11_layTold_14 (fun H locs hO => ?_)
  refine lv_iinc (v := 13) (lv' := [(1, .int 13), (0, .ref (a 0))]) hx hb dX11_layTold_15 hl (k := 0) rfl rfl (by decide) rfl (fun ls hl => ?_)
  refine lv_goto (tgt := 2) hx hb dX11_layTold_18 (by decide) ?_
  refine lv_iload_n hx hb dX11_layTold_2 rfl (lv_at hl 0 rfl) ?_
  refine lv_bipush (v := 29) hx hb dX11_layTold_3 (by decide) ?_
  refine cn_ge (X := 13) (Y := 29) hx hb dX11_layTold_5 rfl rfl (by omega) ?_ (tgt := 21) (by decide)
  refine lv_aload_n hx hb dX11_layTold_8 rfl (lv_at hl 1 rfl) ?_
  refine gf_RX11_97 (v := .ref (a 28)) C hO 0 mW_0 rfl dX11_layTold_9 ?_
  refine lv_iload_n hx hb dX11_layTold_12 rfl (lv_at hl 0 rfl) ?_
  refine lv_iconst (v := 0) hx hb dX11_layTold_13 (by decide) ?_
  refine aIs C hO 28 mW_28 (i_in (X := 13) rfl (by omega) (by omega)) mW_s28 dX11_layTold_14 (fun H locs hO => ?_)
  refine lv_iinc (v := 14) (lv' := [(1, .int 14), (0, .ref (a 0))]) hx hb dX11_layTold_15 hl (k := 0) rfl rfl (by decide) rfl (fun ls hl => ?_)
  refine lv_goto (tgt := 2) hx hb dX11_layTold_18 (by decide) ?_
  refine lv_iload_n hx hb dX11_layTold_2 rfl (lv_at hl 0 rfl) ?_
  refine lv_bipush (v := 29) hx hb dX11_layTold_3 (by decide) ?_
  refine cn_ge (X := 14) (Y := 29) hx hb dX11_layTold_5 rfl rfl (by omega) ?_ (tgt := 21) (by decide)
  refine lv_aload_n hx hb dX11_layTold_8 rfl (lv_at hl 1 rfl) ?_
  refine gf_RX11_97 (v := .ref (a 28)) C hO 0 mW_0 rfl dX11_layTold_9 ?_
  refine lv_iload_n hx hb dX11_layTold_12 rfl (lv_at hl 0 rfl) ?_
  refine lv_iconst (v := 0) hx hb dX11_layTold_13 (by decide) ?_
  refine aIs C hO 28 mW_28 (i_in (X := 14) rfl (by omega) (by omega)) mW_s28 dX11_layTold_14 (fun H locs hO => ?_)
  refine lv_iinc (v := 15) (lv' := [(1, .int 15), (0, .ref (a 0))]) hx hb dX11_layTold_15 hl (k := 0) rfl rfl (by decide) rfl (fun ls hl => ?_)
  refine lv_goto (tgt := 2) hx hb dX11_layTold_18 (by decide) ?_
  refine lv_iload_n hx hb dX11_layTold_2 rfl (lv_at hl 0 rfl) ?_
  refine lv_bipush (v := 29) hx hb dX11_layTold_3 (by decide) ?_
  refine cn_ge (X := 15) (Y := 29) hx hb dX11_layTold_5 rfl rfl (by omega) ?_ (tgt := 21) (by decide)
  refine lv_aload_n hx hb dX11_layTold_8 rfl (lv_at hl 1 rfl) ?_
  refine gf_RX11_97 (v := .ref (a 28)) C hO 0 mW_0 rfl dX11_layTold_9 ?_
  refine lv_iload_n hx hb dX11_layTold_12 rfl (lv_at hl 0 rfl) ?_
  refine lv_iconst (v := 0) hx hb dX11_layTold_13 (by decide) ?_
  refine aIs C hO 28 mW_28 (i_in (X := 15) rfl (by omega) (by omega)) mW_s28 dX11_layTold_14 (fun H locs hO => ?_)
  refine lv_iinc (v := 16) (lv' := [(1, .int 16), (0, .ref (a 0))]) hx hb dX11_layTold_15 hl (k := 0) rfl rfl (by decide) rfl (fun ls hl => ?_)
  refine lv_goto (tgt := 2) hx hb dX11_layTold_18 (by decide) ?_
  refine lv_iload_n hx hb dX11_layTold_2 rfl (lv_at hl 0 rfl) ?_
  refine lv_bipush (v := 29) hx hb dX11_layTold_3 (by decide) ?_
  refine cn_ge (X := 16) (Y := 29) hx hb dX11_layTold_5 rfl rfl (by omega) ?_ (tgt := 21) (by decide)
  refine lv_aload_n hx hb dX11_layTold_8 rfl (lv_at hl 1 rfl) ?_
  refine gf_RX11_97 (v := .ref (a 28)) C hO 0 mW_0 rfl dX11_layTold_9 ?_
  refine lv_iload_n hx hb dX11_layTold_12 rfl (lv_at hl 0 rfl) ?_
  refine lv_iconst (v := 0) hx hb dX11_layTold_13 (by decide) ?_
  refine aIs C hO 28 mW_28 (i_in (X := 16) rfl (by omega) (by omega)) mW_s28 dX11_layTold_14 (fun H locs hO => ?_)
  refine lv_iinc (v := 17) (lv' := [(1, .int 17), (0, .ref (a 0))]) hx hb dX11_layTold_15 hl (k := 0) rfl rfl (by decide) rfl (fun ls hl => ?_)
  refine lv_goto (tgt := 2) hx hb dX11_layTold_18 (by decide) ?_
  refine lv_iload_n hx hb dX11_layTold_2 rfl (lv_at hl 0 rfl) ?_
  refine lv_bipush (v := 29) hx hb dX11_layTold_3 (by decide) ?_
  refine cn_ge (X := 17) (Y := 29) hx hb dX11_layTold_5 rfl rfl (by omega) ?_ (tgt := 21) (by decide)
  refine lv_aload_n hx hb dX11_layTold_8 rfl (lv_at hl 1 rfl) ?_
  refine gf_RX11_97 (v := .ref (a 28)) C hO 0 mW_0 rfl dX11_layTold_9 ?_
  refine lv_iload_n hx hb dX11_layTold_12 rfl (lv_at hl 0 rfl) ?_
  refine lv_iconst (v := 0) hx hb dX11_layTold_13 (by decide) ?_
  refine aIs C hO 28 mW_28 (i_in (X := 17) rfl (by omega) (by omega)) mW_s28 dX11_layTold_14 (fun H locs hO => ?_)
  refine lv_iinc (v := 18) (lv' := [(1, .int 18), (0, .ref (a 0))]) hx hb dX11_layTold_15 hl (k := 0) rfl rfl (by decide) rfl (fun ls hl => ?_)
  refine lv_goto (tgt := 2) hx hb dX11_layTold_18 (by decide) ?_
  refine lv_iload_n hx hb dX11_layTold_2 rfl (lv_at hl 0 rfl) ?_
  refine lv_bipush (v := 29) hx hb dX11_layTold_3 (by decide) ?_
  refine cn_ge (X := 18) (Y := 29) hx hb dX11_layTold_5 rfl rfl (by omega) ?_ (tgt := 21) (by decide)
  refine lv_aload_n hx hb dX11_layTold_8 rfl (lv_at hl 1 rfl) ?_
  refine gf_RX11_97 (v := .ref (a 28)) C hO 0 mW_0 rfl dX11_layTold_9 ?_
  refine lv_iload_n hx hb dX11_layTold_12 rfl (lv_at hl 0 rfl) ?_
  refine lv_iconst (v := 0) hx hb dX11_layTold_13 (by decide) ?_
  refine aIs C hO 28 mW_28 (i_in (X := 18) rfl (by omega) (by omega)) mW_s28 dX11_layTold_14 (fun H locs hO => ?_)
  refine lv_iinc (v := 19) (lv' := [(1, .int 19), (0, .ref (a 0))]) hx hb dX11_layTold_15 hl (k := 0) rfl rfl (by decide) rfl (fun ls hl => ?_)
  refine lv_goto (tgt := 2) hx hb dX11_layTold_18 (by decide) ?_
  refine lv_iload_n hx hb dX11_layTold_2 rfl (lv_at hl 0 rfl) ?_
  refine lv_bipush (v := 29) hx hb dX11_layTold_3 (by decide) ?_
  refine cn_ge (X := 19) (Y := 29) hx hb dX11_layTold_5 rfl rfl (by omega) ?_ (tgt := 21) (by decide)
  refine lv_aload_n hx hb dX11_layTold_8 rfl (lv_at hl 1 rfl) ?_
  refine gf_RX11_97 (v := .ref (a 28)) C hO 0 mW_0 rfl dX11_layTold_9 ?_
  refine lv_iload_n hx hb dX11_layTold_12 rfl (lv_at hl 0 rfl) ?_
  refine lv_iconst (v := 0) hx hb dX11_layTold_13 (by decide) ?_
  refine aIs C hO 28 mW_28 (i_in (X := 19) rfl (by omega) (by omega)) mW_s28 dX11_layTold_14 (fun H locs hO => ?_)
  refine lv_iinc (v := 20) (lv' := [(1, .int 20), (0, .ref (a 0))]) hx hb dX11_layTold_15 hl (k := 0) rfl rfl (by decide) rfl (fun ls hl => ?_)
  refine lv_goto (tgt := 2) hx hb dX11_layTold_18 (by decide) ?_
  refine lv_iload_n hx hb dX11_layTold_2 rfl (lv_at hl 0 rfl) ?_
  refine lv_bipush (v := 29) hx hb dX11_layTold_3 (by decide) ?_
  refine cn_ge (X := 20) (Y := 29) hx hb dX11_layTold_5 rfl rfl (by omega) ?_ (tgt := 21) (by decide)
  refine lv_aload_n hx hb dX11_layTold_8 rfl (lv_at hl 1 rfl) ?_
  refine gf_RX11_97 (v := .ref (a 28)) C hO 0 mW_0 rfl dX11_layTold_9 ?_
  refine lv_iload_n hx hb dX11_layTold_12 rfl (lv_at hl 0 rfl) ?_
  refine lv_iconst (v := 0) hx hb dX11_layTold_13 (by decide) ?_
  refine aIs C hO 28 mW_28 (i_in (X := 20) rfl (by omega) (by omega)) mW_s28 dX11_layTold_14 (fun H locs hO => ?_)
  refine lv_iinc (v := 21) (lv' := [(1, .int 21), (0, .ref (a 0))]) hx hb dX11_layTold_15 hl (k := 0) rfl rfl (by decide) rfl (fun ls hl => ?_)
  refine lv_goto (tgt := 2) hx hb dX11_layTold_18 (by decide) ?_
  refine lv_iload_n hx hb dX11_layTold_2 rfl (lv_at hl 0 rfl) ?_
  refine lv_bipush (v := 29) hx hb dX11_layTold_3 (by decide) ?_
  refine cn_ge (X := 21) (Y := 29) hx hb dX11_layTold_5 rfl rfl (by omega) ?_ (tgt := 21) (by decide)
  refine lv_aload_n hx hb dX11_layTold_8 rfl (lv_at hl 1 rfl) ?_
  refine gf_RX11_97 (v := .ref (a 28)) C hO 0 mW_0 rfl dX11_layTold_9 ?_
  refine lv_iload_n hx hb dX11_layTold_12 rfl (lv_at hl 0 rfl) ?_
  refine lv_iconst (v := 0) hx hb dX11_layTold_13 (by decide) ?_
  refine aIs C hO 28 mW_28 (i_in (X := 21) rfl (by omega) (by omega)) mW_s28 dX11_layTold_14 (fun H locs hO => ?_)
  refine lv_iinc (v := 22) (lv' := [(1, .int 22), (0, .ref (a 0))]) hx hb dX11_layTold_15 hl (k := 0) rfl rfl (by decide) rfl (fun ls hl => ?_)
  refine lv_goto (tgt := 2) hx hb dX11_layTold_18 (by decide) ?_
  refine lv_iload_n hx hb dX11_layTold_2 rfl (lv_at hl 0 rfl) ?_
  refine lv_bipush (v := 29) hx hb dX11_layTold_3 (by decide) ?_
  refine cn_ge (X := 22) (Y := 29) hx hb dX11_layTold_5 rfl rfl (by omega) ?_ (tgt := 21) (by decide)
  refine lv_aload_n hx hb dX11_layTold_8 rfl (lv_at hl 1 rfl) ?_
  refine gf_RX11_97 (v := .ref (a 28)) C hO 0 mW_0 rfl dX11_layTold_9 ?_
  refine lv_iload_n hx hb dX11_layTold_12 rfl (lv_at hl 0 rfl) ?_
  refine lv_iconst (v := 0) hx hb dX11_layTold_13 (by decide) ?_
  refine aIs C hO 28 mW_28 (i_in (X := 22) rfl (by omega) (by omega)) mW_s28 dX11_layTold_14 (fun H locs hO => ?_)
  refine lv_iinc (v := 23) (lv' := [(1, .int 23), (0, .ref (a 0))]) hx hb dX11_layTold_15 hl (k := 0) rfl rfl (by decide) rfl (fun ls hl => ?_)
  refine lv_goto (tgt := 2) hx hb dX11_layTold_18 (by decide) ?_
  refine lv_iload_n hx hb dX11_layTold_2 rfl (lv_at hl 0 rfl) ?_
  refine lv_bipush (v := 29) hx hb dX11_layTold_3 (by decide) ?_
  refine cn_ge (X := 23) (Y := 29) hx hb dX11_layTold_5 rfl rfl (by omega) ?_ (tgt := 21) (by decide)
  refine lv_aload_n hx hb dX11_layTold_8 rfl (lv_at hl 1 rfl) ?_
  refine gf_RX11_97 (v := .ref (a 28)) C hO 0 mW_0 rfl dX11_layTold_9 ?_
  refine lv_iload_n hx hb dX11_layTold_12 rfl (lv_at hl 0 rfl) ?_
  refine lv_iconst (v := 0) hx hb dX11_layTold_13 (by decide) ?_
  refine aIs C hO 28 mW_28 (i_in (X := 23) rfl (by omega) (by omega)) mW_s28 dX11_layTold_14 (fun H locs hO => ?_)
  refine lv_iinc (v := 24) (lv' := [(1, .int 24), (0, .ref (a 0))]) hx hb dX11_layTold_15 hl (k := 0) rfl rfl (by decide) rfl (fun ls hl => ?_)
  refine lv_goto (tgt := 2) hx hb dX11_layTold_18 (by decide) ?_
  refine lv_iload_n hx hb dX11_layTold_2 rfl (lv_at hl 0 rfl) ?_
  refine lv_bipush (v := 29) hx hb dX11_layTold_3 (by decide) ?_
  refine cn_ge (X := 24) (Y := 29) hx hb dX11_layTold_5 rfl rfl (by omega) ?_ (tgt := 21) (by decide)
  refine lv_aload_n hx hb dX11_layTold_8 rfl (lv_at hl 1 rfl) ?_
  refine gf_RX11_97 (v := .ref (a 28)) C hO 0 mW_0 rfl dX11_layTold_9 ?_
  refine lv_iload_n hx hb dX11_layTold_12 rfl (lv_at hl 0 rfl) ?_
  refine lv_iconst (v := 0) hx hb dX11_layTold_13 (by decide) ?_
  refine aIs C hO 28 mW_28 (i_in (X := 24) rfl (by omega) (by omega)) mW_s28 dX11_layTold_14 (fun H locs hO => ?_)
  refine lv_iinc (v := 25) (lv' := [(1, .int 25), (0, .ref (a 0))]) hx hb dX11_layTold_15 hl (k := 0) rfl rfl (by decide) rfl (fun ls hl => ?_)
  refine lv_goto (tgt := 2) hx hb dX11_layTold_18 (by decide) ?_
  refine lv_iload_n hx hb dX11_layTold_2 rfl (lv_at hl 0 rfl) ?_
  refine lv_bipush (v := 29) hx hb dX11_layTold_3 (by decide) ?_
  refine cn_ge (X := 25) (Y := 29) hx hb dX11_layTold_5 rfl rfl (by omega) ?_ (tgt := 21) (by decide)
  refine lv_aload_n hx hb dX11_layTold_8 rfl (lv_at hl 1 rfl) ?_
  refine gf_RX11_97 (v := .ref (a 28)) C hO 0 mW_0 rfl dX11_layTold_9 ?_
  refine lv_iload_n hx hb dX11_layTold_12 rfl (lv_at hl 0 rfl) ?_
  refine lv_iconst (v := 0) hx hb dX11_layTold_13 (by decide) ?_
  refine aIs C hO 28 mW_28 (i_in (X := 25) rfl (by omega) (by omega)) mW_s28 dX11_layTold_14 (fun H locs hO => ?_)
  refine lv_iinc (v := 26) (lv' := [(1, .int 26), (0, .ref (a 0))]) hx hb dX11_layTold_15 hl (k := 0) rfl rfl (by decide) rfl (fun ls hl => ?_)
  refine lv_goto (tgt := 2) hx hb dX11_layTold_18 (by decide) ?_
  refine lv_iload_n hx hb dX11_layTold_2 rfl (lv_at hl 0 rfl) ?_
  refine lv_bipush (v := 29) hx hb dX11_layTold_3 (by decide) ?_
  refine cn_ge (X := 26) (Y := 29) hx hb dX11_layTold_5 rfl rfl (by omega) ?_ (tgt := 21) (by decide)
  refine lv_aload_n hx hb dX11_layTold_8 rfl (lv_at hl 1 rfl) ?_
  refine gf_RX11_97 (v := .ref (a 28)) C hO 0 mW_0 rfl dX11_layTold_9 ?_
  refine lv_iload_n hx hb dX11_layTold_12 rfl (lv_at hl 0 rfl) ?_
  refine lv_iconst (v := 0) hx hb dX11_layTold_13 (by decide) ?_
  refine aIs C hO 28 mW_28 (i_in (X := 26) rfl (by omega) (by omega)) mW_s28 dX11_layTold_14 (fun H locs hO => ?_)
  refine lv_iinc (v := 27) (lv' := [(1, .int 27), (0, .ref (a 0))]) hx hb dX11_layTold_15 hl (k := 0) rfl rfl (by decide) rfl (fun ls hl => ?_)
  refine lv_goto (tgt := 2) hx hb dX11_layTold_18 (by decide) ?_
  refine lv_iload_n hx hb dX11_layTold_2 rfl (lv_at hl 0 rfl) ?_
  refine lv_bipush (v := 29) hx hb dX11_layTold_3 (by decide) ?_
  refine cn_ge (X := 27) (Y := 29) hx hb dX11_layTold_5 rfl rfl (by omega) ?_ (tgt := 21) (by decide)
  refine lv_aload_n hx hb dX11_layTold_8 rfl (lv_at hl 1 rfl) ?_
  refine gf_RX11_97 (v := .ref (a 28)) C hO 0 mW_0 rfl dX11_layTold_9 ?_
  refine lv_iload_n hx hb dX11_layTold_12 rfl (lv_at hl 0 rfl) ?_
  refine lv_iconst (v := 0) hx hb dX11_layTold_13 (by decide) ?_
  refine aIs C hO 28 mW_28 (i_in (X := 27) rfl (by omega) (by omega)) mW_s28 dX11_layTold_14 (fun H locs hO => ?_)
  refine lv_iinc (v := 28) (lv' := [(1, .int 28), (0, .ref (a 0))]) hx hb dX11_layTold_15 hl (k := 0) rfl rfl (by decide) rfl (fun ls hl => ?_)
  refine lv_goto (tgt := 2) hx hb dX11_layTold_18 (by decide) ?_
  refine lv_iload_n hx hb dX11_layTold_2 rfl (lv_at hl 0 rfl) ?_
  refine lv_bipush (v := 29) hx hb dX11_layTold_3 (by decide) ?_
  refine cn_ge (X := 28) (Y := 29) hx hb dX11_layTold_5 rfl rfl (by omega) ?_ (tgt := 21) (by decide)
  refine lv_aload_n hx hb dX11_layTold_8 rfl (lv_at hl 1 rfl) ?_
  refine gf_RX11_97 (v := .ref (a 28)) C hO 0 mW_0 rfl dX11_layTold_9 ?_
  refine lv_iload_n hx hb dX11_layTold_12 rfl (lv_at hl 0 rfl) ?_
  refine lv_iconst (v := 0) hx hb dX11_layTold_13 (by decide) ?_
  refine aIs C hO 28 mW_28 (i_in (X := 28) rfl (by omega) (by omega)) mW_s28 dX11_layTold_14 (fun H locs hO => ?_)
  refine lv_iinc (v := 29) (lv' := [(1, .int 29), (0, .ref (a 0))]) hx hb dX11_layTold_15 hl (k := 0) rfl rfl (by decide) rfl (fun ls hl => ?_)
  refine lv_goto (tgt := 2) hx hb dX11_layTold_18 (by decide) ?_
  refine lv_iload_n hx hb dX11_layTold_2 rfl (lv_at hl 0 rfl) ?_
  refine lv_bipush (v := 29) hx hb dX11_layTold_3 (by decide) ?_
  refine ct_ge (tgt := 21) (X := 29) (Y := 29) hx hb dX11_layTold_5 (by decide) rfl rfl (by omega) ?_
  refine lv_iconst (v := 0) hx hb dX11_layTold_21 (by decide) ?_
  refine lv_istore_n (lv' := [(1, .int 0), (0, .ref (a 0))]) hx hb dX11_layTold_22 rfl hl (by decide) rfl (fun ls hl => ?_)
  refine lv_iload_n hx hb dX11_layTold_23 rfl (lv_at hl 0 rfl) ?_
  refine lv_aload_n hx hb dX11_layTold_24 rfl (lv_at hl 1 rfl) ?_
  refine cVi (w := mW cy a) (As := []) (rest := [.int 0]) C hO (T_X11_many_b1 l D cy a _ (by exact hA_6_1) (by exact hI_0_36)) (cwV 0 ht (gV wd_1348 wd_1350 wd_46 wd_121 wd_1351) rfl rfl rfl hd_yX11_many ⟨Nat.le_of_ble_eq_true rfl, Nat.le_of_ble_eq_true rfl⟩) 0 rfl mW_0 rfl rfl hl.1 (Nat.le_of_ble_eq_true rfl) dX11_layTold_25 rfl ⟨Nat.zero_le _, Nat.zero_le _⟩ (fun r1 u2 H locs hp3 hO => ?_)
  obtain ⟨hr1, hu2⟩ := hp3
  subst hr1
  rw [hu2] at hO
  refine ct_ge (tgt := 60) (X := 0) (Y := 0) hx hb dX11_layTold_28 (by decide) rfl rfl (by omega) ?_
  refine lv_aload_n hx hb dX11_layTold_60 rfl (lv_at hl 1 rfl) ?_
  refine gf_RX11_97 (v := .ref (a 28)) C hO 0 mW_0 rfl dX11_layTold_61 ?_
  refine lv_bipush (v := 24) hx hb dX11_layTold_64 (by decide) ?_
  refine lv_aload_n hx hb dX11_layTold_66 rfl (lv_at hl 1 rfl) ?_
  refine cVi (w := mW cy a) (As := []) (rest := [.int 24, .ref (a 28)]) C hO (T_X11_spots_b1 l D cy a _ (by exact hA_3_1) (by exact hI_0_36)) (cwV 0 ht (gV wd_1352 wd_1354 wd_47 wd_121 wd_1355) rfl rfl rfl hd_yX11_spots ⟨Nat.le_of_ble_eq_true rfl, Nat.le_of_ble_eq_true rfl⟩) 0 rfl mW_0 rfl rfl hl.1 (Nat.le_of_ble_eq_true rfl) dX11_layTold_67 rfl ⟨Nat.zero_le _, Nat.zero_le _⟩ (fun r4 u5 H locs hp6 hO => ?_)
  obtain ⟨hr4, hu5⟩ := hp6
  subst hr4
  rw [hu5] at hO
  refine bn_ne (X := 0) hx hb dX11_layTold_70 rfl (by omega) ?_ (tgt := 77) (by decide)
  refine lv_iconst (v := (-1)) hx hb dX11_layTold_73 (by decide) ?_
  refine lv_goto (tgt := 86) hx hb dX11_layTold_74 (by decide) ?_
  refine aIs C hO 28 mW_28 (i_in (X := 24) rfl (by omega) (by omega)) mW_s28 dX11_layTold_86 (fun H locs hO => ?_)
  refine lv_aload_n hx hb dX11_layTold_87 rfl (lv_at hl 1 rfl) ?_
  refine gf_RX11_97 (v := .ref (a 28)) C hO 0 mW_0 rfl dX11_layTold_88 ?_
  refine lv_bipush (v := 27) hx hb dX11_layTold_91 (by decide) ?_
  refine lv_aload_n hx hb dX11_layTold_93 rfl (lv_at hl 1 rfl) ?_
  refine gf_RX11_42 (v := .ref (a 10)) C hO 0 mW_0 rfl dX11_layTold_94 ?_
  refine lv_aload_n hx hb dX11_layTold_97 rfl (lv_at hl 1 rfl) ?_
  refine gf_RX11_255 (v := .int 1) C hO 0 mW_0 (congrArg (fun z : Int32 => some (Value.int z)) hI_0_36) dX11_layTold_98 ?_
  refine aI C hO 10 mW_10 (i_in (X := 1) rfl (by omega) (by omega)) dX11_layTold_101 ?_
  refine tE (y := 0) hA_10_1 ?_
  refine aIs C hO 28 mW_28 (i_in (X := 27) rfl (by omega) (by omega)) mW_s28 dX11_layTold_102 (fun H locs hO => ?_)
  refine lv_aload_n hx hb dX11_layTold_103 rfl (lv_at hl 1 rfl) ?_
  refine gf_RX11_97 (v := .ref (a 28)) C hO 0 mW_0 rfl dX11_layTold_104 ?_
  refine lv_bipush (v := 28) hx hb dX11_layTold_107 (by decide) ?_
  refine lv_aload_n hx hb dX11_layTold_109 rfl (lv_at hl 1 rfl) ?_
  refine gf_RX11_48 (v := .ref (a 12)) C hO 0 mW_0 rfl dX11_layTold_110 ?_
  refine lv_aload_n hx hb dX11_layTold_113 rfl (lv_at hl 1 rfl) ?_
  refine gf_RX11_255 (v := .int 1) C hO 0 mW_0 (congrArg (fun z : Int32 => some (Value.int z)) hI_0_36) dX11_layTold_114 ?_
  refine aI C hO 12 mW_12 (i_in (X := 1) rfl (by omega) (by omega)) dX11_layTold_117 ?_
  refine tE (y := 0) hA_12_1 ?_
  refine aIs C hO 28 mW_28 (i_in (X := 28) rfl (by omega) (by omega)) mW_s28 dX11_layTold_118 (fun H locs hO => ?_)
  refine hret _ _ _ _ _ dX11_layTold_119 ?_ hO
  exact rfl
theorem dX11_startAnew_0 : decode cX11_startAnew 0 = .ok (.aload_n 0, 1) := by decide +kernel
theorem dX11_startAnew_1 : decode cX11_startAnew 1 = .ok (.invokevirtual 386, 3) := by decide +kernel
theorem dX11_startAnew_4 : decode cX11_startAnew 4 = .ok (.aload_n 0, 1) := by decide +kernel
theorem dX11_startAnew_5 : decode cX11_startAnew 5 = .ok (.iconst 0, 1) := by decide +kernel
theorem dX11_startAnew_6 : decode cX11_startAnew 6 = .ok (.putfield 389, 3) := by decide +kernel
theorem dX11_startAnew_9 : decode cX11_startAnew 9 = .ok (.aload_n 0, 1) := by decide +kernel
theorem dX11_startAnew_10 : decode cX11_startAnew 10 = .ok (.iconst 0, 1) := by decide +kernel
theorem dX11_startAnew_11 : decode cX11_startAnew 11 = .ok (.putfield 392, 3) := by decide +kernel
theorem dX11_startAnew_14 : decode cX11_startAnew 14 = .ok (.aload_n 0, 1) := by decide +kernel
theorem dX11_startAnew_15 : decode cX11_startAnew 15 = .ok (.iconst 0, 1) := by decide +kernel
theorem dX11_startAnew_16 : decode cX11_startAnew 16 = .ok (.putfield 395, 3) := by decide +kernel
theorem dX11_startAnew_19 : decode cX11_startAnew 19 = .ok (.aload_n 0, 1) := by decide +kernel
theorem dX11_startAnew_20 : decode cX11_startAnew 20 = .ok (.iconst 0, 1) := by decide +kernel
theorem dX11_startAnew_21 : decode cX11_startAnew 21 = .ok (.putfield 398, 3) := by decide +kernel
theorem dX11_startAnew_24 : decode cX11_startAnew 24 = .ok (.iconst 0, 1) := by decide +kernel
theorem dX11_startAnew_25 : decode cX11_startAnew 25 = .ok (.istore_n 1, 1) := by decide +kernel
theorem dX11_startAnew_26 : decode cX11_startAnew 26 = .ok (.iload_n 1, 1) := by decide +kernel
theorem dX11_startAnew_27 : decode cX11_startAnew 27 = .ok (.iconst 3, 1) := by decide +kernel
theorem dX11_startAnew_28 : decode cX11_startAnew 28 = .ok (.if_icmp .ge 16, 3) := by decide +kernel
theorem dX11_startAnew_31 : decode cX11_startAnew 31 = .ok (.aload_n 0, 1) := by decide +kernel
theorem dX11_startAnew_32 : decode cX11_startAnew 32 = .ok (.getfield 142, 3) := by decide +kernel
theorem dX11_startAnew_35 : decode cX11_startAnew 35 = .ok (.iload_n 1, 1) := by decide +kernel
theorem dX11_startAnew_36 : decode cX11_startAnew 36 = .ok (.iconst 0, 1) := by decide +kernel
theorem dX11_startAnew_37 : decode cX11_startAnew 37 = .ok (.bastore, 1) := by decide +kernel
theorem dX11_startAnew_38 : decode cX11_startAnew 38 = .ok (.iinc 1 1, 3) := by decide +kernel
theorem dX11_startAnew_41 : decode cX11_startAnew 41 = .ok (.goto (-15), 3) := by decide +kernel
theorem dX11_startAnew_44 : decode cX11_startAnew 44 = .ok (.return_, 1) := by decide +kernel
theorem wd_1343 : (Cond.code ⟨"WebCourtModel", "startAnew", "()V"⟩ prog_13_method_54_code (2 : Nat) (Option.none : Option FieldType)) ∈ gtb := gtb_c6 34 (by decide +kernel) rfl
theorem wd_1344 : (Cond.methodLink "WebCourtModel" (386 : Nat) ⟨"WebCourtModel", "layTold", "()V"⟩) ∈ gtb := gtb_c6 35 (by decide +kernel) rfl
theorem wd_1346 : (Cond.instanceMethod ⟨"WebCourtModel", "layTold", "()V"⟩) ∈ gtb := gtb_c6 37 (by decide +kernel) rfl
theorem wd_45 : (Cond.selects "WebCourtModel" ⟨"WebCourtModel", "layTold", "()V"⟩ ⟨"WebCourtModel", "layTold", "()V"⟩) ∈ gtb := gtb_p 45 (by decide +kernel) rfl
theorem hd_yX11_layTold : yX11_layTold.cls = RX11 ∧ yX11_layTold.cls ≠ "java/lang/invoke/MethodHandle" ∧ yX11_layTold.cls ≠ "java/lang/invoke/VarHandle" ∧ (parseMethodDescriptor yX11_layTold.desc).map (fun d => d.parameters.length) = some 0 := by decide +kernel
theorem pf_RX11_389 {p : Program} {l : Launch} {e : Env} {R : Room} {s : State} {m : MethodId} {args : Array Value} {below : List Frame} {meth : Method} {c : Code} {H : Heap} {locs : List Loc} {cells slots : Nat} {Q : State → Prop} {cc : ByteArray} {pc nL : Nat} {ls : Array Slot} {rest : List Value} {D : va_G} {cy : Nat → ClassId} {A : Nat → Prop} {ws : va_W} {b : Nat} {fs : List Value} {v : Int32} {ws' : va_W} (C : Cx p s m args c cc nL RX11 D cy A) (hO : Wo D A ws s.heap H locs) (q0 : Nat) (he : ws[q0]? = some (b, .inr (11, fs))) (hlen : 47 < fs.length) (hw : ws.set q0 (b, .inr (11, fs.set 47 (.int v))) = ws') (hdg : decode cc pc = .ok (.putfield 389, 3)) (kk : ∀ (H : Heap) (locs : List Loc), Wo D A ws' s.heap H locs → W p l e R s m args below meth c H locs cells slots Q (F0 m (pc + 3) ls rest)) : W p l e R s m args below meth c H locs cells slots Q (F0 m pc ls (.int v :: .ref b :: rest)) := pF (k := 47) (ty := .int) C hO q0 he rfl inFX11 (by decide) wd_1403 rfl tyX11 tyX11_ok nmX11 rfl (by decide +kernel) rfl rfl hlen hw hdg kk
theorem pf_RX11_392 {p : Program} {l : Launch} {e : Env} {R : Room} {s : State} {m : MethodId} {args : Array Value} {below : List Frame} {meth : Method} {c : Code} {H : Heap} {locs : List Loc} {cells slots : Nat} {Q : State → Prop} {cc : ByteArray} {pc nL : Nat} {ls : Array Slot} {rest : List Value} {D : va_G} {cy : Nat → ClassId} {A : Nat → Prop} {ws : va_W} {b : Nat} {fs : List Value} {v : Int32} {ws' : va_W} (C : Cx p s m args c cc nL RX11 D cy A) (hO : Wo D A ws s.heap H locs) (q0 : Nat) (he : ws[q0]? = some (b, .inr (11, fs))) (hlen : 48 < fs.length) (hw : ws.set q0 (b, .inr (11, fs.set 48 (.int v))) = ws') (hdg : decode cc pc = .ok (.putfield 392, 3)) (kk : ∀ (H : Heap) (locs : List Loc), Wo D A ws' s.heap H locs → W p l e R s m args below meth c H locs cells slots Q (F0 m (pc + 3) ls rest)) : W p l e R s m args below meth c H locs cells slots Q (F0 m pc ls (.int v :: .ref b :: rest)) := pF (k := 48) (ty := .int) C hO q0 he rfl inFX11 (by decide) wd_1404 rfl tyX11 tyX11_ok nmX11 rfl (by decide +kernel) rfl rfl hlen hw hdg kk
theorem pf_RX11_395 {p : Program} {l : Launch} {e : Env} {R : Room} {s : State} {m : MethodId} {args : Array Value} {below : List Frame} {meth : Method} {c : Code} {H : Heap} {locs : List Loc} {cells slots : Nat} {Q : State → Prop} {cc : ByteArray} {pc nL : Nat} {ls : Array Slot} {rest : List Value} {D : va_G} {cy : Nat → ClassId} {A : Nat → Prop} {ws : va_W} {b : Nat} {fs : List Value} {v : Int32} {ws' : va_W} (C : Cx p s m args c cc nL RX11 D cy A) (hO : Wo D A ws s.heap H locs) (q0 : Nat) (he : ws[q0]? = some (b, .inr (11, fs))) (hlen : 61 < fs.length) (hw : ws.set q0 (b, .inr (11, fs.set 61 (.int v))) = ws') (hdg : decode cc pc = .ok (.putfield 395, 3)) (kk : ∀ (H : Heap) (locs : List Loc), Wo D A ws' s.heap H locs → W p l e R s m args below meth c H locs cells slots Q (F0 m (pc + 3) ls rest)) : W p l e R s m args below meth c H locs cells slots Q (F0 m pc ls (.int v :: .ref b :: rest)) := pF (k := 61) (ty := .int) C hO q0 he rfl inFX11 (by decide) wd_1417 rfl tyX11 tyX11_ok nmX11 rfl (by decide +kernel) rfl rfl hlen hw hdg kk
set_option maxHeartbeats 4000000 in
set_option maxRecDepth 100000 in
theorem T_X11_startAnew (l : Launch) (D : va_G) (cy : Nat → ClassId) (a : Nat → Nat) (u : St) (hA_10_0 : fA u 10 0 = 0) (hA_12_0 : fA u 12 0 = 0) (hA_3_0 : fA u 3 0 = 0) (hA_6_0 : fA u 6 0 = 0) (hI_0_36 : fI u 0 36 = 0)   : Mv l D cy (mW cy a) yX11_startAnew (.code yX11_startAnew cX11_startAnew 2 none) (rmo 2 41) [.ref (a 0)] u (fun (u' : St) => u' = (sAt (sAt (sAt (sI (sI (sI (sI (sAt (sAt (sAt (sAt (sAt (sAt (sAt (sAt (sAt (sAt (sAt (sAt (sAt (sAt (sAt (sAt (sAt (sAt (sAt (sAt (sAt (sAt (sAt (sAt (sAt (sAt (sAt (sAt (sAt (sAt (sAt (sAt u 28 (0 : Int32).toNatClampNeg 0) 28 (1 : Int32).toNatClampNeg 0) 28 (2 : Int32).toNatClampNeg 0) 28 (3 : Int32).toNatClampNeg 0) 28 (4 : Int32).toNatClampNeg 0) 28 (5 : Int32).toNatClampNeg 0) 28 (6 : Int32).toNatClampNeg 0) 28 (7 : Int32).toNatClampNeg 0) 28 (8 : Int32).toNatClampNeg 0) 28 (9 : Int32).toNatClampNeg 0) 28 (10 : Int32).toNatClampNeg 0) 28 (11 : Int32).toNatClampNeg 0) 28 (12 : Int32).toNatClampNeg 0) 28 (13 : Int32).toNatClampNeg 0) 28 (14 : Int32).toNatClampNeg 0) 28 (15 : Int32).toNatClampNeg 0) 28 (16 : Int32).toNatClampNeg 0) 28 (17 : Int32).toNatClampNeg 0) 28 (18 : Int32).toNatClampNeg 0) 28 (19 : Int32).toNatClampNeg 0) 28 (20 : Int32).toNatClampNeg 0) 28 (21 : Int32).toNatClampNeg 0) 28 (22 : Int32).toNatClampNeg 0) 28 (23 : Int32).toNatClampNeg 0) 28 (24 : Int32).toNatClampNeg 0) 28 (25 : Int32).toNatClampNeg 0) 28 (26 : Int32).toNatClampNeg 0) 28 (27 : Int32).toNatClampNeg 0) 28 (28 : Int32).toNatClampNeg 0) 28 (24 : Int32).toNatClampNeg (-1)) 28 (27 : Int32).toNatClampNeg 0) 28 (28 : Int32).toNatClampNeg 0) 0 47 0) 0 48 0) 0 61 0) 0 50 0) 42 (0 : Int32).toNatClampNeg (vp_nar .boolean 0)) 42 (1 : Int32).toNatClampNeg (vp_nar .boolean 0)) 42 (2 : Int32).toNatClampNeg (vp_nar .boolean 0))) := by
  refine Mv.of (own := RX11) rfl (by decide) (Nat.le_of_ble_eq_true rfl) ?_
  intro p e s m below meth c A Q ls C hret hO hl
  obtain ⟨hx, hb, hml, hown, ht, hK, hA⟩ := id C
  have hl : lv_has ls 2 [(0, .ref (a 0))] := hl
  refine lv_aload_n hx hb dX11_startAnew_0 rfl (lv_at hl 0 rfl) ?_
  refine cVv (w := mW cy a) (As := []) (rest := []) C hO (T_X11_layTold l D cy a _ (by exact hA_10_0) (by exact hA_12_0) (by exact hA_3_0) (by exact hA_6_0) (by exact hI_0_36)) (cwV 0 ht (gV wd_1344 wd_1346 wd_45 wd_121 wd_1347) rfl rfl rfl hd_yX11_layTold ⟨Nat.le_of_ble_eq_true rfl, Nat.le_of_ble_eq_true rfl⟩) 0 rfl mW_0 rfl rfl hl.1 (Nat.le_of_ble_eq_true rfl) dX11_startAnew_1 rfl ⟨Nat.zero_le _, Nat.zero_le _⟩ (fun u2 H locs hp3 hO => ?_)
  have hu2 := hp3
  rw [hu2] at hO
  refine lv_aload_n hx hb dX11_startAnew_4 rfl (lv_at hl 0 rfl) ?_
  refine lv_iconst (v := 0) hx hb dX11_startAnew_5 (by decide) ?_
  refine pf_RX11_389 C hO 0 mW_0 (Nat.le_of_ble_eq_true rfl) mW_s0_47 dX11_startAnew_6 (fun H locs hO => ?_)
  refine lv_aload_n hx hb dX11_startAnew_9 rfl (lv_at hl 0 rfl) ?_
  refine lv_iconst (v := 0) hx hb dX11_startAnew_10 (by decide) ?_
  refine pf_RX11_392 C hO 0 mW_0 (Nat.le_of_ble_eq_true rfl) mW_s0_48 dX11_startAnew_11 (fun H locs hO => ?_)
  refine lv_aload_n hx hb dX11_startAnew_14 rfl (lv_at hl 0 rfl) ?_
  refine lv_iconst (v := 0) hx hb dX11_startAnew_15 (by decide) ?_
  refine pf_RX11_395 C hO 0 mW_0 (Nat.le_of_ble_eq_true rfl) mW_s0_61 dX11_startAnew_16 (fun H locs hO => ?_)
  refine lv_aload_n hx hb dX11_startAnew_19 rfl (lv_at hl 0 rfl) ?_
  refine lv_iconst (v := 0) hx hb dX11_startAnew_20 (by decide) ?_
  refine pf_RX11_398 C hO 0 mW_0 (Nat.le_of_ble_eq_true rfl) mW_s0_50 dX11_startAnew_21 (fun H locs hO => ?_)
  refine lv_iconst (v := 0) hx hb dX11_startAnew_24 (by decide) ?_
  refine lv_istore_n (lv' := [(1, .int 0), (0, .ref (a 0))]) hx hb dX11_startAnew_25 rfl hl (by decide) rfl (fun ls hl => ?_)
  refine lv_iload_n hx hb dX11_startAnew_26 rfl (lv_at hl 0 rfl) ?_
  refine lv_iconst (v := 3) hx hb dX11_startAnew_27 (by decide) ?_
  refine cn_ge (X := 0) (Y := 3) hx hb dX11_startAnew_28 rfl rfl (by omega) ?_ (tgt := 44) (by decide)
  refine lv_aload_n hx hb dX11_startAnew_31 rfl (lv_at hl 1 rfl) ?_
  refine gf_RX11_142 (v := .ref (a 42)) C hO 0 mW_0 rfl dX11_startAnew_32 ?_
  refine lv_iload_n hx hb dX11_startAnew_35 rfl (lv_at hl 0 rfl) ?_
  refine lv_iconst (v := 0) hx hb dX11_startAnew_36 (by decide) ?_
  refine aZs C hO 42 mW_42 (i_in (X := 0) rfl (by omega) (by omega)) mW_s42 dX11_startAnew_37 (fun H locs hO => ?_)
  refine lv_iinc (v := 1) (lv' := [(1, .int 1), (0, .ref (a 0))]) hx hb dX11_startAnew_38 hl (k := 0) rfl rfl (by decide) rfl (fun ls hl => ?_)
  refine lv_goto (tgt := 26) hx hb dX11_startAnew_41 (by decide) ?_
  refine lv_iload_n hx hb dX11_startAnew_26 rfl (lv_at hl 0 rfl) ?_
  refine lv_iconst (v := 3) hx hb dX11_startAnew_27 (by decide) ?_
  refine cn_ge (X := 1) (Y := 3) hx hb dX11_startAnew_28 rfl rfl (by omega) ?_ (tgt := 44) (by decide)
  refine lv_aload_n hx hb dX11_startAnew_31 rfl (lv_at hl 1 rfl) ?_
  refine gf_RX11_142 (v := .ref (a 42)) C hO 0 mW_0 rfl dX11_startAnew_32 ?_
  refine lv_iload_n hx hb dX11_startAnew_35 rfl (lv_at hl 0 rfl) ?_
  refine lv_iconst (v := 0) hx hb dX11_startAnew_36 (by decide) ?_
  refine aZs C hO 42 mW_42 (i_in (X := 1) rfl (by omega) (by omega)) mW_s42 dX11_startAnew_37 (fun H locs hO => ?_)
  refine lv_iinc (v := 2) (lv' := [(1, .int 2), (0, .ref (a 0))]) hx hb dX11_startAnew_38 hl (k := 0) rfl rfl (by decide) rfl (fun ls hl => ?_)
  refine lv_goto (tgt := 26) hx hb dX11_startAnew_41 (by decide) ?_
  refine lv_iload_n hx hb dX11_startAnew_26 rfl (lv_at hl 0 rfl) ?_
  refine lv_iconst (v := 3) hx hb dX11_startAnew_27 (by decide) ?_
  refine cn_ge (X := 2) (Y := 3) hx hb dX11_startAnew_28 rfl rfl (by omega) ?_ (tgt := 44) (by decide)
  refine lv_aload_n hx hb dX11_startAnew_31 rfl (lv_at hl 1 rfl) ?_
  refine gf_RX11_142 (v := .ref (a 42)) C hO 0 mW_0 rfl dX11_startAnew_32 ?_
  refine lv_iload_n hx hb dX11_startAnew_35 rfl (lv_at hl 0 rfl) ?_
  refine lv_iconst (v := 0) hx hb dX11_startAnew_36 (by decide) ?_
  refine aZs C hO 42 mW_42 (i_in (X := 2) rfl (by omega) (by omega)) mW_s42 dX11_startAnew_37 (fun H locs hO => ?_)
  refine lv_iinc (v := 3) (lv' := [(1, .int 3), (0, .ref (a 0))]) hx hb dX11_startAnew_38 hl (k := 0) rfl rfl (by decide) rfl (fun ls hl => ?_)
  refine lv_goto (tgt := 26) hx hb dX11_startAnew_41 (by decide) ?_
  refine lv_iload_n hx hb dX11_startAnew_26 rfl (lv_at hl 0 rfl) ?_
  refine lv_iconst (v := 3) hx hb dX11_startAnew_27 (by decide) ?_
  refine ct_ge (tgt := 44) (X := 3) (Y := 3) hx hb dX11_startAnew_28 (by decide) rfl rfl (by omega) ?_
  refine hret _ _ _ _ _ dX11_startAnew_44 ?_ hO
  exact rfl
set_option maxHeartbeats 4000000 in
set_option maxRecDepth 100000 in
theorem T_X11_startAnew_b1 (l : Launch) (D : va_G) (cy : Nat → ClassId) (a : Nat → Nat) (u : St) (hA_10_0 : fA u 10 0 = 0) (hA_10_1 : fA u 10 1 = 0) (hA_12_0 : fA u 12 0 = 0) (hA_12_1 : fA u 12 1 = 0) (hA_3_0 : fA u 3 0 = 0) (hA_3_1 : fA u 3 1 = 0) (hA_6_0 : fA u 6 0 = 0) (hA_6_1 : fA u 6 1 = 0) (hI_0_36 : fI u 0 36 = 1)   : Mv l D cy (mW cy a) yX11_startAnew (.code yX11_startAnew cX11_startAnew 2 none) (rmo 2 41) [.ref (a 0)] u (fun (u' : St) => u' = (sAt (sAt (sAt (sI (sI (sI (sI (sAt (sAt (sAt (sAt (sAt (sAt (sAt (sAt (sAt (sAt (sAt (sAt (sAt (sAt (sAt (sAt (sAt (sAt (sAt (sAt (sAt (sAt (sAt (sAt (sAt (sAt (sAt (sAt (sAt (sAt (sAt (sAt u 28 (0 : Int32).toNatClampNeg 0) 28 (1 : Int32).toNatClampNeg 0) 28 (2 : Int32).toNatClampNeg 0) 28 (3 : Int32).toNatClampNeg 0) 28 (4 : Int32).toNatClampNeg 0) 28 (5 : Int32).toNatClampNeg 0) 28 (6 : Int32).toNatClampNeg 0) 28 (7 : Int32).toNatClampNeg 0) 28 (8 : Int32).toNatClampNeg 0) 28 (9 : Int32).toNatClampNeg 0) 28 (10 : Int32).toNatClampNeg 0) 28 (11 : Int32).toNatClampNeg 0) 28 (12 : Int32).toNatClampNeg 0) 28 (13 : Int32).toNatClampNeg 0) 28 (14 : Int32).toNatClampNeg 0) 28 (15 : Int32).toNatClampNeg 0) 28 (16 : Int32).toNatClampNeg 0) 28 (17 : Int32).toNatClampNeg 0) 28 (18 : Int32).toNatClampNeg 0) 28 (19 : Int32).toNatClampNeg 0) 28 (20 : Int32).toNatClampNeg 0) 28 (21 : Int32).toNatClampNeg 0) 28 (22 : Int32).toNatClampNeg 0) 28 (23 : Int32).toNatClampNeg 0) 28 (24 : Int32).toNatClampNeg 0) 28 (25 : Int32).toNatClampNeg 0) 28 (26 : Int32).toNatClampNeg 0) 28 (27 : Int32).toNatClampNeg 0) 28 (28 : Int32).toNatClampNeg 0) 28 (24 : Int32).toNatClampNeg (-1)) 28 (27 : Int32).toNatClampNeg 0) 28 (28 : Int32).toNatClampNeg 0) 0 47 0) 0 48 0) 0 61 0) 0 50 0) 42 (0 : Int32).toNatClampNeg (vp_nar .boolean 0)) 42 (1 : Int32).toNatClampNeg (vp_nar .boolean 0)) 42 (2 : Int32).toNatClampNeg (vp_nar .boolean 0))) := by
  refine Mv.of (own := RX11) rfl (by decide) (Nat.le_of_ble_eq_true rfl) ?_
  intro p e s m below meth c A Q ls C hret hO hl
  obtain ⟨hx, hb, hml, hown, ht, hK, hA⟩ := id C
  have hl : lv_has ls 2 [(0, .ref (a 0))] := hl
  refine lv_aload_n hx hb dX11_startAnew_0 rfl (lv_at hl 0 rfl) ?_
  refine cVv (w := mW cy a) (As := []) (rest := []) C hO (T_X11_layTold_b1 l D cy a _ (by exact hA_10_1) (by exact hA_12_1) (by exact hA_3_0) (by exact hA_3_1) (by exact hA_6_0) (by exact hA_6_1) (by exact hI_0_36)) (cwV 0 ht (gV wd_1344 wd_1346 wd_45 wd_121 wd_1347) rfl rfl rfl hd_yX11_layTold ⟨Nat.le_of_ble_eq_true rfl, Nat.le_of_ble_eq_true rfl⟩) 0 rfl mW_0 rfl rfl hl.1 (Nat.le_of_ble_eq_true rfl) dX11_startAnew_1 rfl ⟨Nat.zero_le _, Nat.zero_le _⟩ (fun u2 H locs hp3 hO => ?_)
  have hu2 := hp3
  rw [hu2] at hO
  refine lv_aload_n hx hb dX11_startAnew_4 rfl (lv_at hl 0 rfl) ?_
  refine lv_iconst (v := 0) hx hb dX11_startAnew_5 (by decide) ?_
  refine pf_RX11_389 C hO 0 mW_0 (Nat.le_of_ble_eq_true rfl) mW_s0_47 dX11_startAnew_6 (fun H locs hO => ?_)
  refine lv_aload_n hx hb dX11_startAnew_9 rfl (lv_at hl 0 rfl) ?_
  refine lv_iconst (v := 0) hx hb dX11_startAnew_10 (by decide) ?_
  refine pf_RX11_392 C hO 0 mW_0 (Nat.le_of_ble_eq_true rfl) mW_s0_48 dX11_startAnew_11 (fun H locs hO => ?_)
  refine lv_aload_n hx hb dX11_startAnew_14 rfl (lv_at hl 0 rfl) ?_
  refine lv_iconst (v := 0) hx hb dX11_startAnew_15 (by decide) ?_
  refine pf_RX11_395 C hO 0 mW_0 (Nat.le_of_ble_eq_true rfl) mW_s0_61 dX11_startAnew_16 (fun H locs hO => ?_)
  refine lv_aload_n hx hb dX11_startAnew_19 rfl (lv_at hl 0 rfl) ?_
  refine lv_iconst (v := 0) hx hb dX11_startAnew_20 (by decide) ?_
  refine pf_RX11_398 C hO 0 mW_0 (Nat.le_of_ble_eq_true rfl) mW_s0_50 dX11_startAnew_21 (fun H locs hO => ?_)
  refine lv_iconst (v := 0) hx hb dX11_startAnew_24 (by decide) ?_
  refine lv_istore_n (lv' := [(1, .int 0), (0, .ref (a 0))]) hx hb dX11_startAnew_25 rfl hl (by decide) rfl (fun ls hl => ?_)
  refine lv_iload_n hx hb dX11_startAnew_26 rfl (lv_at hl 0 rfl) ?_
  refine lv_iconst (v := 3) hx hb dX11_startAnew_27 (by decide) ?_
  refine cn_ge (X := 0) (Y := 3) hx hb dX11_startAnew_28 rfl rfl (by omega) ?_ (tgt := 44) (by decide)
  refine lv_aload_n hx hb dX11_startAnew_31 rfl (lv_at hl 1 rfl) ?_
  refine gf_RX11_142 (v := .ref (a 42)) C hO 0 mW_0 rfl dX11_startAnew_32 ?_
  refine lv_iload_n hx hb dX11_startAnew_35 rfl (lv_at hl 0 rfl) ?_
  refine lv_iconst (v := 0) hx hb dX11_startAnew_36 (by decide) ?_
  refine aZs C hO 42 mW_42 (i_in (X := 0) rfl (by omega) (by omega)) mW_s42 dX11_startAnew_37 (fun H locs hO => ?_)
  refine lv_iinc (v := 1) (lv' := [(1, .int 1), (0, .ref (a 0))]) hx hb dX11_startAnew_38 hl (k := 0) rfl rfl (by decide) rfl (fun ls hl => ?_)
  refine lv_goto (tgt := 26) hx hb dX11_startAnew_41 (by decide) ?_
  refine lv_iload_n hx hb dX11_startAnew_26 rfl (lv_at hl 0 rfl) ?_
  refine lv_iconst (v := 3) hx hb dX11_startAnew_27 (by decide) ?_
  refine cn_ge (X := 1) (Y := 3) hx hb dX11_startAnew_28 rfl rfl (by omega) ?_ (tgt := 44) (by decide)
  refine lv_aload_n hx hb dX11_startAnew_31 rfl (lv_at hl 1 rfl) ?_
  refine gf_RX11_142 (v := .ref (a 42)) C hO 0 mW_0 rfl dX11_startAnew_32 ?_
  refine lv_iload_n hx hb dX11_startAnew_35 rfl (lv_at hl 0 rfl) ?_
  refine lv_iconst (v := 0) hx hb dX11_startAnew_36 (by decide) ?_
  refine aZs C hO 42 mW_42 (i_in (X := 1) rfl (by omega) (by omega)) mW_s42 dX11_startAnew_37 (fun H locs hO => ?_)
  refine lv_iinc (v := 2) (lv' := [(1, .int 2), (0, .ref (a 0))]) hx hb dX11_startAnew_38 hl (k := 0) rfl rfl (by decide) rfl (fun ls hl => ?_)
  refine lv_goto (tgt := 26) hx hb dX11_startAnew_41 (by decide) ?_
  refine lv_iload_n hx hb dX11_startAnew_26 rfl (lv_at hl 0 rfl) ?_
  refine lv_iconst (v := 3) hx hb dX11_startAnew_27 (by decide) ?_
  refine cn_ge (X := 2) (Y := 3) hx hb dX11_startAnew_28 rfl rfl (by omega) ?_ (tgt := 44) (by decide)
  refine lv_aload_n hx hb dX11_startAnew_31 rfl (lv_at hl 1 rfl) ?_
  refine gf_RX11_142 (v := .ref (a 42)) C hO 0 mW_0 rfl dX11_startAnew_32 ?_
  refine lv_iload_n hx hb dX11_startAnew_35 rfl (lv_at hl 0 rfl) ?_
  refine lv_iconst (v := 0) hx hb dX11_startAnew_36 (by decide) ?_
  refine aZs C hO 42 mW_42 (i_in (X := 2) rfl (by omega) (by omega)) mW_s42 dX11_startAnew_37 (fun H locs hO => ?_)
  refine lv_iinc (v := 3) (lv' := [(1, .int 3), (0, .ref (a 0))]) hx hb dX11_startAnew_38 hl (k := 0) rfl rfl (by decide) rfl (fun ls hl => ?_)
  refine lv_goto (tgt := 26) hx hb dX11_startAnew_41 (by decide) ?_
  refine lv_iload_n hx hb dX11_startAnew_26 rfl (lv_at hl 0 rfl) ?_
  refine lv_iconst (v := 3) hx hb dX11_startAnew_27 (by decide) ?_
  refine ct_ge (tgt := 44) (X := 3) (Y := 3) hx hb dX11_startAnew_28 (by decide) rfl rfl (by omega) ?_
  refine hret _ _ _ _ _ dX11_startAnew_44 ?_ hO
  exact rfl
theorem dX11_web_0 : decode cX11_web 0 = .ok (.aload_n 0, 1) := by decide +kernel
theorem dX11_web_1 : decode cX11_web 1 = .ok (.iconst 0, 1) := by decide +kernel
theorem dX11_web_2 : decode cX11_web 2 = .ok (.putfield 155, 3) := by decide +kernel
theorem dX11_web_5 : decode cX11_web 5 = .ok (.aload_n 0, 1) := by decide +kernel
theorem dX11_web_6 : decode cX11_web 6 = .ok (.iconst (-1), 1) := by decide +kernel
theorem dX11_web_7 : decode cX11_web 7 = .ok (.putfield 16, 3) := by decide +kernel
theorem dX11_web_10 : decode cX11_web 10 = .ok (.aload_n 0, 1) := by decide +kernel
theorem dX11_web_11 : decode cX11_web 11 = .ok (.aload_n 0, 1) := by decide +kernel
theorem dX11_web_12 : decode cX11_web 12 = .ok (.getfield 252, 3) := by decide +kernel
theorem dX11_web_15 : decode cX11_web 15 = .ok (.putfield 152, 3) := by decide +kernel
theorem dX11_web_18 : decode cX11_web 18 = .ok (.iconst 0, 1) := by decide +kernel
theorem dX11_web_19 : decode cX11_web 19 = .ok (.istore_n 1, 1) := by decide +kernel
theorem dX11_web_20 : decode cX11_web 20 = .ok (.iload_n 1, 1) := by decide +kernel
theorem dX11_web_21 : decode cX11_web 21 = .ok (.aload_n 0, 1) := by decide +kernel
theorem dX11_web_22 : decode cX11_web 22 = .ok (.getfield 152, 3) := by decide +kernel
theorem dX11_web_25 : decode cX11_web 25 = .ok (.if_icmp .ge 21, 3) := by decide +kernel
theorem dX11_web_28 : decode cX11_web 28 = .ok (.aload_n 0, 1) := by decide +kernel
theorem dX11_web_29 : decode cX11_web 29 = .ok (.getfield 13, 3) := by decide +kernel
theorem dX11_web_32 : decode cX11_web 32 = .ok (.iload_n 1, 1) := by decide +kernel
theorem dX11_web_33 : decode cX11_web 33 = .ok (.aload_n 0, 1) := by decide +kernel
theorem dX11_web_34 : decode cX11_web 34 = .ok (.getfield 7, 3) := by decide +kernel
theorem dX11_web_37 : decode cX11_web 37 = .ok (.iload_n 1, 1) := by decide +kernel
theorem dX11_web_38 : decode cX11_web 38 = .ok (.baload, 1) := by decide +kernel
theorem dX11_web_39 : decode cX11_web 39 = .ok (.bastore, 1) := by decide +kernel
theorem dX11_web_40 : decode cX11_web 40 = .ok (.iinc 1 1, 3) := by decide +kernel
theorem dX11_web_43 : decode cX11_web 43 = .ok (.goto (-23), 3) := by decide +kernel
theorem dX11_web_46 : decode cX11_web 46 = .ok (.aload_n 0, 1) := by decide +kernel
theorem dX11_web_47 : decode cX11_web 47 = .ok (.iconst 0, 1) := by decide +kernel
theorem dX11_web_48 : decode cX11_web 48 = .ok (.putfield 252, 3) := by decide +kernel
theorem dX11_web_51 : decode cX11_web 51 = .ok (.aload_n 0, 1) := by decide +kernel
theorem dX11_web_52 : decode cX11_web 52 = .ok (.iconst 0, 1) := by decide +kernel
theorem dX11_web_53 : decode cX11_web 53 = .ok (.putfield 198, 3) := by decide +kernel
theorem dX11_web_56 : decode cX11_web 56 = .ok (.aload_n 0, 1) := by decide +kernel
theorem dX11_web_57 : decode cX11_web 57 = .ok (.iconst 1, 1) := by decide +kernel
theorem dX11_web_58 : decode cX11_web 58 = .ok (.aload_n 0, 1) := by decide +kernel
theorem dX11_web_59 : decode cX11_web 59 = .ok (.getfield 255, 3) := by decide +kernel
theorem dX11_web_62 : decode cX11_web 62 = .ok (.isub, 1) := by decide +kernel
theorem dX11_web_63 : decode cX11_web 63 = .ok (.putfield 246, 3) := by decide +kernel
theorem dX11_web_66 : decode cX11_web 66 = .ok (.aload_n 0, 1) := by decide +kernel
theorem dX11_web_67 : decode cX11_web 67 = .ok (.invokevirtual 146, 3) := by decide +kernel
theorem dX11_web_70 : decode cX11_web 70 = .ok (.aload_n 0, 1) := by decide +kernel
theorem dX11_web_71 : decode cX11_web 71 = .ok (.invokevirtual 240, 3) := by decide +kernel
theorem dX11_web_74 : decode cX11_web 74 = .ok (.aload_n 0, 1) := by decide +kernel
theorem dX11_web_75 : decode cX11_web 75 = .ok (.invokevirtual 236, 3) := by decide +kernel
theorem dX11_web_78 : decode cX11_web 78 = .ok (.ifCond .eq 17, 3) := by decide +kernel
theorem dX11_web_81 : decode cX11_web 81 = .ok (.aload_n 0, 1) := by decide +kernel
theorem dX11_web_82 : decode cX11_web 82 = .ok (.getfield 208, 3) := by decide +kernel
theorem dX11_web_85 : decode cX11_web 85 = .ok (.ifCond .eq 10, 3) := by decide +kernel
theorem dX11_web_88 : decode cX11_web 88 = .ok (.aload_n 0, 1) := by decide +kernel
theorem dX11_web_89 : decode cX11_web 89 = .ok (.invokevirtual 258, 3) := by decide +kernel
theorem dX11_web_92 : decode cX11_web 92 = .ok (.goto (-18), 3) := by decide +kernel
theorem dX11_web_95 : decode cX11_web 95 = .ok (.aload_n 0, 1) := by decide +kernel
theorem dX11_web_96 : decode cX11_web 96 = .ok (.invokevirtual 236, 3) := by decide +kernel
theorem dX11_web_99 : decode cX11_web 99 = .ok (.ifCond .ne 5, 3) := by decide +kernel
theorem dX11_web_102 : decode cX11_web 102 = .ok (.iconst (-1), 1) := by decide +kernel
theorem dX11_web_103 : decode cX11_web 103 = .ok (.ireturn, 1) := by decide +kernel
theorem dX11_web_104 : decode cX11_web 104 = .ok (.aload_n 0, 1) := by decide +kernel
theorem dX11_web_105 : decode cX11_web 105 = .ok (.aload_n 0, 1) := by decide +kernel
theorem dX11_web_106 : decode cX11_web 106 = .ok (.getfield 246, 3) := by decide +kernel
theorem dX11_web_109 : decode cX11_web 109 = .ok (.putfield 255, 3) := by decide +kernel
theorem dX11_web_112 : decode cX11_web 112 = .ok (.aload_n 0, 1) := by decide +kernel
theorem dX11_web_113 : decode cX11_web 113 = .ok (.invokevirtual 149, 3) := by decide +kernel
theorem dX11_web_116 : decode cX11_web 116 = .ok (.aload_n 0, 1) := by decide +kernel
theorem dX11_web_117 : decode cX11_web 117 = .ok (.getfield 30, 3) := by decide +kernel
theorem dX11_web_120 : decode cX11_web 120 = .ok (.aload_n 0, 1) := by decide +kernel
theorem dX11_web_121 : decode cX11_web 121 = .ok (.getfield 255, 3) := by decide +kernel
theorem dX11_web_124 : decode cX11_web 124 = .ok (.iaload, 1) := by decide +kernel
theorem dX11_web_125 : decode cX11_web 125 = .ok (.ireturn, 1) := by decide +kernel
theorem wd_1555 : (Cond.code ⟨"WebCourtModel", "web", "()I"⟩ prog_13_method_16_code (2 : Nat) (Option.some FieldType.int)) ∈ gtb := gtb_c7 6 (by decide +kernel) rfl
theorem pf_RX11_155 {p : Program} {l : Launch} {e : Env} {R : Room} {s : State} {m : MethodId} {args : Array Value} {below : List Frame} {meth : Method} {c : Code} {H : Heap} {locs : List Loc} {cells slots : Nat} {Q : State → Prop} {cc : ByteArray} {pc nL : Nat} {ls : Array Slot} {rest : List Value} {D : va_G} {cy : Nat → ClassId} {A : Nat → Prop} {ws : va_W} {b : Nat} {fs : List Value} {v : Int32} {ws' : va_W} (C : Cx p s m args c cc nL RX11 D cy A) (hO : Wo D A ws s.heap H locs) (q0 : Nat) (he : ws[q0]? = some (b, .inr (11, fs))) (hlen : 4 < fs.length) (hw : ws.set q0 (b, .inr (11, fs.set 4 (.int v))) = ws') (hdg : decode cc pc = .ok (.putfield 155, 3)) (kk : ∀ (H : Heap) (locs : List Loc), Wo D A ws' s.heap H locs → W p l e R s m args below meth c H locs cells slots Q (F0 m (pc + 3) ls rest)) : W p l e R s m args below meth c H locs cells slots Q (F0 m pc ls (.int v :: .ref b :: rest)) := pF (k := 4) (ty := .int) C hO q0 he rfl inFX11 (by decide) wd_1360 rfl tyX11 tyX11_ok nmX11 rfl (by decide +kernel) rfl rfl hlen hw hdg kk
theorem pf_RX11_16 {p : Program} {l : Launch} {e : Env} {R : Room} {s : State} {m : MethodId} {args : Array Value} {below : List Frame} {meth : Method} {c : Code} {H : Heap} {locs : List Loc} {cells slots : Nat} {Q : State → Prop} {cc : ByteArray} {pc nL : Nat} {ls : Array Slot} {rest : List Value} {D : va_G} {cy : Nat → ClassId} {A : Nat → Prop} {ws : va_W} {b : Nat} {fs : List Value} {v : Int32} {ws' : va_W} (C : Cx p s m args c cc nL RX11 D cy A) (hO : Wo D A ws s.heap H locs) (q0 : Nat) (he : ws[q0]? = some (b, .inr (11, fs))) (hlen : 5 < fs.length) (hw : ws.set q0 (b, .inr (11, fs.set 5 (.int v))) = ws') (hdg : decode cc pc = .ok (.putfield 16, 3)) (kk : ∀ (H : Heap) (locs : List Loc), Wo D A ws' s.heap H locs → W p l e R s m args below meth c H locs cells slots Q (F0 m (pc + 3) ls rest)) : W p l e R s m args below meth c H locs cells slots Q (F0 m pc ls (.int v :: .ref b :: rest)) := pF (k := 5) (ty := .int) C hO q0 he rfl inFX11 (by decide) wd_1361 rfl tyX11 tyX11_ok nmX11 rfl (by decide +kernel) rfl rfl hlen hw hdg kk
theorem pf_RX11_152 {p : Program} {l : Launch} {e : Env} {R : Room} {s : State} {m : MethodId} {args : Array Value} {below : List Frame} {meth : Method} {c : Code} {H : Heap} {locs : List Loc} {cells slots : Nat} {Q : State → Prop} {cc : ByteArray} {pc nL : Nat} {ls : Array Slot} {rest : List Value} {D : va_G} {cy : Nat → ClassId} {A : Nat → Prop} {ws : va_W} {b : Nat} {fs : List Value} {v : Int32} {ws' : va_W} (C : Cx p s m args c cc nL RX11 D cy A) (hO : Wo D A ws s.heap H locs) (q0 : Nat) (he : ws[q0]? = some (b, .inr (11, fs))) (hlen : 3 < fs.length) (hw : ws.set q0 (b, .inr (11, fs.set 3 (.int v))) = ws') (hdg : decode cc pc = .ok (.putfield 152, 3)) (kk : ∀ (H : Heap) (locs : List Loc), Wo D A ws' s.heap H locs → W p l e R s m args below meth c H locs cells slots Q (F0 m (pc + 3) ls rest)) : W p l e R s m args below meth c H locs cells slots Q (F0 m pc ls (.int v :: .ref b :: rest)) := pF (k := 3) (ty := .int) C hO q0 he rfl inFX11 (by decide) wd_1359 rfl tyX11 tyX11_ok nmX11 rfl (by decide +kernel) rfl rfl hlen hw hdg kk
theorem pf_RX11_246 {p : Program} {l : Launch} {e : Env} {R : Room} {s : State} {m : MethodId} {args : Array Value} {below : List Frame} {meth : Method} {c : Code} {H : Heap} {locs : List Loc} {cells slots : Nat} {Q : State → Prop} {cc : ByteArray} {pc nL : Nat} {ls : Array Slot} {rest : List Value} {D : va_G} {cy : Nat → ClassId} {A : Nat → Prop} {ws : va_W} {b : Nat} {fs : List Value} {v : Int32} {ws' : va_W} (C : Cx p s m args c cc nL RX11 D cy A) (hO : Wo D A ws s.heap H locs) (q0 : Nat) (he : ws[q0]? = some (b, .inr (11, fs))) (hlen : 37 < fs.length) (hw : ws.set q0 (b, .inr (11, fs.set 37 (.int v))) = ws') (hdg : decode cc pc = .ok (.putfield 246, 3)) (kk : ∀ (H : Heap) (locs : List Loc), Wo D A ws' s.heap H locs → W p l e R s m args below meth c H locs cells slots Q (F0 m (pc + 3) ls rest)) : W p l e R s m args below meth c H locs cells slots Q (F0 m pc ls (.int v :: .ref b :: rest)) := pF (k := 37) (ty := .int) C hO q0 he rfl inFX11 (by decide) wd_1393 rfl tyX11 tyX11_ok nmX11 rfl (by decide +kernel) rfl rfl hlen hw hdg kk
theorem wd_1336 : (Cond.methodLink "WebCourtModel" (146 : Nat) ⟨"WebCourtModel", "clearBank", "()V"⟩) ∈ gtb := gtb_c6 27 (by decide +kernel) rfl
theorem wd_1338 : (Cond.instanceMethod ⟨"WebCourtModel", "clearBank", "()V"⟩) ∈ gtb := gtb_c6 29 (by decide +kernel) rfl
theorem wd_43 : (Cond.selects "WebCourtModel" ⟨"WebCourtModel", "clearBank", "()V"⟩ ⟨"WebCourtModel", "clearBank", "()V"⟩) ∈ gtb := gtb_p 43 (by decide +kernel) rfl
theorem hd_yX11_clearBank : yX11_clearBank.cls = RX11 ∧ yX11_clearBank.cls ≠ "java/lang/invoke/MethodHandle" ∧ yX11_clearBank.cls ≠ "java/lang/invoke/VarHandle" ∧ (parseMethodDescriptor yX11_clearBank.desc).map (fun d => d.parameters.length) = some 0 := by decide +kernel
theorem wd_1556 : (Cond.methodLink "WebCourtModel" (240 : Nat) ⟨"WebCourtModel", "goOn", "()V"⟩) ∈ gtb := gtb_c7 7 (by decide +kernel) rfl
theorem wd_1558 : (Cond.instanceMethod ⟨"WebCourtModel", "goOn", "()V"⟩) ∈ gtb := gtb_c7 9 (by decide +kernel) rfl
theorem wd_48 : (Cond.selects "WebCourtModel" ⟨"WebCourtModel", "goOn", "()V"⟩ ⟨"WebCourtModel", "goOn", "()V"⟩) ∈ gtb := gtb_p 48 (by decide +kernel) rfl
theorem hd_yX11_goOn : yX11_goOn.cls = RX11 ∧ yX11_goOn.cls ≠ "java/lang/invoke/MethodHandle" ∧ yX11_goOn.cls ≠ "java/lang/invoke/VarHandle" ∧ (parseMethodDescriptor yX11_goOn.desc).map (fun d => d.parameters.length) = some 0 := by decide +kernel
theorem wd_1596 : (Cond.methodLink "WebCourtModel" (236 : Nat) ⟨"WebCourtModel", "isGood", "()Z"⟩) ∈ gtb := gtb_c7 47 (by decide +kernel) rfl
theorem wd_1598 : (Cond.instanceMethod ⟨"WebCourtModel", "isGood", "()Z"⟩) ∈ gtb := gtb_c7 49 (by decide +kernel) rfl
theorem wd_50 : (Cond.selects "WebCourtModel" ⟨"WebCourtModel", "isGood", "()Z"⟩ ⟨"WebCourtModel", "isGood", "()Z"⟩) ∈ gtb := gtb_p 50 (by decide +kernel) rfl
theorem hd_yX11_isGood : yX11_isGood.cls = RX11 ∧ yX11_isGood.cls ≠ "java/lang/invoke/MethodHandle" ∧ yX11_isGood.cls ≠ "java/lang/invoke/VarHandle" ∧ (parseMethodDescriptor yX11_isGood.desc).map (fun d => d.parameters.length) = some 0 := by decide +kernel
theorem gf_RX11_208 {p : Program} {l : Launch} {e : Env} {R : Room} {s : State} {m : MethodId} {args : Array Value} {below : List Frame} {meth : Method} {c : Code} {H : Heap} {locs : List Loc} {cells slots : Nat} {Q : State → Prop} {cc : ByteArray} {pc nL : Nat} {ls : Array Slot} {rest : List Value} {D : va_G} {cy : Nat → ClassId} {A : Nat → Prop} {ws : va_W} {b : Nat} {fs : List Value} {v : Value} (C : Cx p s m args c cc nL RX11 D cy A) (hO : Wo D A ws s.heap H locs) (q0 : Nat) (he : ws[q0]? = some (b, .inr (11, fs))) (hv : fs[8]? = some v) (hdg : decode cc pc = .ok (.getfield 208, 3)) (kk : W p l e R s m args below meth c H locs cells slots Q (F0 m (pc + 3) ls (v :: rest))) : W p l e R s m args below meth c H locs cells slots Q (F0 m pc ls (.ref b :: rest)) := gF (k := 8) C hO q0 he rfl inFX11 (by decide) wd_1364 rfl hv hdg kk
theorem pf_RX11_255 {p : Program} {l : Launch} {e : Env} {R : Room} {s : State} {m : MethodId} {args : Array Value} {below : List Frame} {meth : Method} {c : Code} {H : Heap} {locs : List Loc} {cells slots : Nat} {Q : State → Prop} {cc : ByteArray} {pc nL : Nat} {ls : Array Slot} {rest : List Value} {D : va_G} {cy : Nat → ClassId} {A : Nat → Prop} {ws : va_W} {b : Nat} {fs : List Value} {v : Int32} {ws' : va_W} (C : Cx p s m args c cc nL RX11 D cy A) (hO : Wo D A ws s.heap H locs) (q0 : Nat) (he : ws[q0]? = some (b, .inr (11, fs))) (hlen : 36 < fs.length) (hw : ws.set q0 (b, .inr (11, fs.set 36 (.int v))) = ws') (hdg : decode cc pc = .ok (.putfield 255, 3)) (kk : ∀ (H : Heap) (locs : List Loc), Wo D A ws' s.heap H locs → W p l e R s m args below meth c H locs cells slots Q (F0 m (pc + 3) ls rest)) : W p l e R s m args below meth c H locs cells slots Q (F0 m pc ls (.int v :: .ref b :: rest)) := pF (k := 36) (ty := .int) C hO q0 he rfl inFX11 (by decide) wd_1392 rfl tyX11 tyX11_ok nmX11 rfl (by decide +kernel) rfl rfl hlen hw hdg kk
theorem wd_1340 : (Cond.methodLink "WebCourtModel" (149 : Nat) ⟨"WebCourtModel", "startAnew", "()V"⟩) ∈ gtb := gtb_c6 31 (by decide +kernel) rfl
theorem wd_1342 : (Cond.instanceMethod ⟨"WebCourtModel", "startAnew", "()V"⟩) ∈ gtb := gtb_c6 33 (by decide +kernel) rfl
theorem wd_44 : (Cond.selects "WebCourtModel" ⟨"WebCourtModel", "startAnew", "()V"⟩ ⟨"WebCourtModel", "startAnew", "()V"⟩) ∈ gtb := gtb_p 44 (by decide +kernel) rfl
theorem hd_yX11_startAnew : yX11_startAnew.cls = RX11 ∧ yX11_startAnew.cls ≠ "java/lang/invoke/MethodHandle" ∧ yX11_startAnew.cls ≠ "java/lang/invoke/VarHandle" ∧ (parseMethodDescriptor yX11_startAnew.desc).map (fun d => d.parameters.length) = some 0 := by decide +kernel
set_option maxHeartbeats 4000000 in
set_option maxRecDepth 100000 in
theorem T_X11_web (l : Launch) (D : va_G) (cy : Nat → ClassId) (a : Nat → Nat) (u : St) (hA_10_0 : fA u 10 0 = 0) (hA_12_0 : fA u 12 0 = 0) (hA_3_0 : fA u 3 0 = 0) (hA_6_0 : fA u 6 0 = 0) (hI_0_2 : fI u 0 2 = 0) (hI_0_36 : fI u 0 36 = 0)   : Mi l D cy (mW cy a) yX11_web (.code yX11_web cX11_web 2 (some .int)) (rmo 3 62) [.ref (a 0)] u (fun (r : Int32) (u' : St) => (r = 0) ∧ (u' = (sAt (sAt (sAt (sI (sI (sI (sI (sAt (sAt (sAt (sAt (sAt (sAt (sAt (sAt (sAt (sAt (sAt (sAt (sAt (sAt (sAt (sAt (sAt (sAt (sAt (sAt (sAt (sAt (sAt (sAt (sAt (sAt (sAt (sAt (sAt (sAt (sAt (sAt (sI (sI (sI (sI (sI (sI (sI (sAt (sAt (sAt (sAt (sAt (sAt (sAt (sAt (sAt (sAt (sI (sI (sI (sI (sI (sI u 0 4 0) 0 5 (-1)) 0 3 0) 0 2 0) 0 7 0) 0 37 1) 3 (1 : Int32).toNatClampNeg 0) 4 (1 : Int32).toNatClampNeg 0) 5 (1 : Int32).toNatClampNeg 0) 6 (1 : Int32).toNatClampNeg 0) 7 (1 : Int32).toNatClampNeg 0) 8 (1 : Int32).toNatClampNeg 0) 9 (1 : Int32).toNatClampNeg 0) 10 (1 : Int32).toNatClampNeg 0) 11 (1 : Int32).toNatClampNeg 0) 12 (1 : Int32).toNatClampNeg 0) 0 38 560) 0 6 0) 0 7 1) 0 8 0) 0 6 0) 0 7 0) 0 36 1) 28 (0 : Int32).toNatClampNeg 0) 28 (1 : Int32).toNatClampNeg 0) 28 (2 : Int32).toNatClampNeg 0) 28 (3 : Int32).toNatClampNeg 0) 28 (4 : Int32).toNatClampNeg 0) 28 (5 : Int32).toNatClampNeg 0) 28 (6 : Int32).toNatClampNeg 0) 28 (7 : Int32).toNatClampNeg 0) 28 (8 : Int32).toNatClampNeg 0) 28 (9 : Int32).toNatClampNeg 0) 28 (10 : Int32).toNatClampNeg 0) 28 (11 : Int32).toNatClampNeg 0) 28 (12 : Int32).toNatClampNeg 0) 28 (13 : Int32).toNatClampNeg 0) 28 (14 : Int32).toNatClampNeg 0) 28 (15 : Int32).toNatClampNeg 0) 28 (16 : Int32).toNatClampNeg 0) 28 (17 : Int32).toNatClampNeg 0) 28 (18 : Int32).toNatClampNeg 0) 28 (19 : Int32).toNatClampNeg 0) 28 (20 : Int32).toNatClampNeg 0) 28 (21 : Int32).toNatClampNeg 0) 28 (22 : Int32).toNatClampNeg 0) 28 (23 : Int32).toNatClampNeg 0) 28 (24 : Int32).toNatClampNeg 0) 28 (25 : Int32).toNatClampNeg 0) 28 (26 : Int32).toNatClampNeg 0) 28 (27 : Int32).toNatClampNeg 0) 28 (28 : Int32).toNatClampNeg 0) 28 (24 : Int32).toNatClampNeg (-1)) 28 (27 : Int32).toNatClampNeg 0) 28 (28 : Int32).toNatClampNeg 0) 0 47 0) 0 48 0) 0 61 0) 0 50 0) 42 (0 : Int32).toNatClampNeg (vp_nar .boolean 0)) 42 (1 : Int32).toNatClampNeg (vp_nar .boolean 0)) 42 (2 : Int32).toNatClampNeg (vp_nar .boolean 0)))) := by
  refine Mi.of (own := RX11) rfl (by decide) (Nat.le_of_ble_eq_true rfl) ?_
  intro p e s m below meth c A Q ls C hret hO hl
  obtain ⟨hx, hb, hml, hown, ht, hK, hA⟩ := id C
  have hl : lv_has ls 2 [(0, .ref (a 0))] := hl
  refine lv_aload_n hx hb dX11_web_0 rfl (lv_at hl 0 rfl) ?_
  refine lv_iconst (v := 0) hx hb dX11_web_1 (by decide) ?_
  refine pf_RX11_155 C hO 0 mW_0 (Nat.le_of_ble_eq_true rfl) mW_s0_4 dX11_web_2 (fun H locs hO => ?_)
  refine lv_aload_n hx hb dX11_web_5 rfl (lv_at hl 0 rfl) ?_
  refine lv_iconst (v := (-1)) hx hb dX11_web_6 (by decide) ?_
  refine pf_RX11_16 C hO 0 mW_0 (Nat.le_of_ble_eq_true rfl) mW_s0_5 dX11_web_7 (fun H locs hO => ?_)
  refine lv_aload_n hx hb dX11_web_10 rfl (lv_at hl 0 rfl) ?_
  refine lv_aload_n hx hb dX11_web_11 rfl (lv_at hl 0 rfl) ?_
  refine gf_RX11_252 (v := .int 0) C hO 0 mW_0 (congrArg (fun z : Int32 => some (Value.int z)) hI_0_2) dX11_web_12 ?_
  refine pf_RX11_152 C hO 0 mW_0 (Nat.le_of_ble_eq_true rfl) mW_s0_3 dX11_web_15 (fun H locs hO => ?_)
  refine lv_iconst (v := 0) hx hb dX11_web_18 (by decide) ?_
  refine lv_istore_n (lv' := [(1, .int 0), (0, .ref (a 0))]) hx hb dX11_web_19 rfl hl (by decide) rfl (fun ls hl => ?_)
  refine lv_iload_n hx hb dX11_web_20 rfl (lv_at hl 0 rfl) ?_
  refine lv_aload_n hx hb dX11_web_21 rfl (lv_at hl 1 rfl) ?_
  refine gf_RX11_152 (v := .int 0) C hO 0 mW_0 rfl dX11_web_22 ?_
  refine ct_ge (tgt := 46) (X := 0) (Y := 0) hx hb dX11_web_25 (by decide) rfl rfl (by omega) ?_
  refine lv_aload_n hx hb dX11_web_46 rfl (lv_at hl 1 rfl) ?_
  refine lv_iconst (v := 0) hx hb dX11_web_47 (by decide) ?_
  refine pf_RX11_252 C hO 0 mW_0 (Nat.le_of_ble_eq_true rfl) mW_s0_2 dX11_web_48 (fun H locs hO => ?_)
  refine lv_aload_n hx hb dX11_web_51 rfl (lv_at hl 1 rfl) ?_
  refine lv_iconst (v := 0) hx hb dX11_web_52 (by decide) ?_
  refine pf_RX11_198 C hO 0 mW_0 (Nat.le_of_ble_eq_true rfl) mW_s0_7 dX11_web_53 (fun H locs hO => ?_)
  refine lv_aload_n hx hb dX11_web_56 rfl (lv_at hl 1 rfl) ?_
  refine lv_iconst (v := 1) hx hb dX11_web_57 (by decide) ?_
  refine lv_aload_n hx hb dX11_web_58 rfl (lv_at hl 1 rfl) ?_
  refine gf_RX11_255 (v := .int 0) C hO 0 mW_0 (congrArg (fun z : Int32 => some (Value.int z)) hI_0_36) dX11_web_59 ?_
  refine lv_isub hx hb dX11_web_62 ?_
  refine tE (y := 1) rfl ?_
  refine pf_RX11_246 C hO 0 mW_0 (Nat.le_of_ble_eq_true rfl) mW_s0_37 dX11_web_63 (fun H locs hO => ?_)
  refine lv_aload_n hx hb dX11_web_66 rfl (lv_at hl 1 rfl) ?_
  refine cVv (w := mW cy a) (As := []) (rest := []) C hO (T_X11_clearBank_r1 l D cy a _ (by exact rfl)) (cwV 0 ht (gV wd_1336 wd_1338 wd_43 wd_121 wd_1339) rfl rfl rfl hd_yX11_clearBank ⟨Nat.le_of_ble_eq_true rfl, Nat.le_of_ble_eq_true rfl⟩) 0 rfl mW_0 rfl rfl hl.1 (Nat.le_of_ble_eq_true rfl) dX11_web_67 rfl ⟨Nat.zero_le _, Nat.zero_le _⟩ (fun u2 H locs hp3 hO => ?_)
  have hu2 := hp3
  rw [hu2] at hO
  refine lv_aload_n hx hb dX11_web_70 rfl (lv_at hl 1 rfl) ?_
  refine cVv (w := mW cy a) (As := []) (rest := []) C hO (T_X11_goOn l D cy a _ (by exact rfl) (by exact rfl)) (cwV 0 ht (gV wd_1556 wd_1558 wd_48 wd_121 wd_1559) rfl rfl rfl hd_yX11_goOn ⟨Nat.le_of_ble_eq_true rfl, Nat.le_of_ble_eq_true rfl⟩) 0 rfl mW_0 rfl rfl hl.1 (Nat.le_of_ble_eq_true rfl) dX11_web_71 rfl ⟨Nat.zero_le _, Nat.zero_le _⟩ (fun u5 H locs hp6 hO => ?_)
  have hu5 := hp6
  rw [hu5] at hO
  refine lv_aload_n hx hb dX11_web_74 rfl (lv_at hl 1 rfl) ?_
  refine cVi (w := mW cy a) (As := []) (rest := []) C hO (T_X11_isGood l D cy a _ (by exact rfl)) (cwV 0 ht (gV wd_1596 wd_1598 wd_50 wd_121 wd_1599) rfl rfl rfl hd_yX11_isGood ⟨Nat.le_of_ble_eq_true rfl, Nat.le_of_ble_eq_true rfl⟩) 0 rfl mW_0 rfl rfl hl.1 (Nat.le_of_ble_eq_true rfl) dX11_web_75 rfl ⟨Nat.zero_le _, Nat.zero_le _⟩ (fun r7 u8 H locs hp9 hO => ?_)
  obtain ⟨hr7, hu8⟩ := hp9
  subst hr7
  rw [hu8] at hO
  refine bn_eq (X := 1) hx hb dX11_web_78 rfl (by omega) ?_ (tgt := 95) (by decide)
  refine lv_aload_n hx hb dX11_web_81 rfl (lv_at hl 1 rfl) ?_
  refine gf_RX11_208 (v := .int 0) C hO 0 mW_0 rfl dX11_web_82 ?_
  refine bt_eq (tgt := 95) (X := 0) hx hb dX11_web_85 (by decide) rfl (by omega) ?_
  refine lv_aload_n hx hb dX11_web_95 rfl (lv_at hl 1 rfl) ?_
  refine cVi (w := mW cy a) (As := []) (rest := []) C hO (T_X11_isGood l D cy a _ (by exact rfl)) (cwV 0 ht (gV wd_1596 wd_1598 wd_50 wd_121 wd_1599) rfl rfl rfl hd_yX11_isGood ⟨Nat.le_of_ble_eq_true rfl, Nat.le_of_ble_eq_true rfl⟩) 0 rfl mW_0 rfl rfl hl.1 (Nat.le_of_ble_eq_true rfl) dX11_web_96 rfl ⟨Nat.zero_le _, Nat.zero_le _⟩ (fun r10 u11 H locs hp12 hO => ?_)
  obtain ⟨hr10, hu11⟩ := hp12
  subst hr10
  rw [hu11] at hO
  refine bt_ne (tgt := 104) (X := 1) hx hb dX11_web_99 (by decide) rfl (by omega) ?_
  refine lv_aload_n hx hb dX11_web_104 rfl (lv_at hl 1 rfl) ?_
  refine lv_aload_n hx hb dX11_web_105 rfl (lv_at hl 1 rfl) ?_
  refine gf_RX11_246 (v := .int 1) C hO 0 mW_0 rfl dX11_web_106 ?_
  refine pf_RX11_255 C hO 0 mW_0 (Nat.le_of_ble_eq_true rfl) mW_s0_36 dX11_web_109 (fun H locs hO => ?_)
  refine lv_aload_n hx hb dX11_web_112 rfl (lv_at hl 1 rfl) ?_
  refine cVv (w := mW cy a) (As := []) (rest := []) C hO (T_X11_startAnew_b1 l D cy a _ (by exact hA_10_0) (by exact rfl) (by exact hA_12_0) (by exact rfl) (by exact hA_3_0) (by exact rfl) (by exact hA_6_0) (by exact rfl) (by exact rfl)) (cwV 0 ht (gV wd_1340 wd_1342 wd_44 wd_121 wd_1343) rfl rfl rfl hd_yX11_startAnew ⟨Nat.le_of_ble_eq_true rfl, Nat.le_of_ble_eq_true rfl⟩) 0 rfl mW_0 rfl rfl hl.1 (Nat.le_of_ble_eq_true rfl) dX11_web_113 rfl ⟨Nat.zero_le _, Nat.zero_le _⟩ (fun u14 H locs hp15 hO => ?_)
  have hu14 := hp15
  rw [hu14] at hO
  refine lv_aload_n hx hb dX11_web_116 rfl (lv_at hl 1 rfl) ?_
  refine gf_RX11_30 (v := .ref (a 6)) C hO 0 mW_0 rfl dX11_web_117 ?_
  refine lv_aload_n hx hb dX11_web_120 rfl (lv_at hl 1 rfl) ?_
  refine gf_RX11_255 (v := .int 1) C hO 0 mW_0 rfl dX11_web_121 ?_
  refine aI C hO 6 mW_6 (i_in (X := 1) rfl (by omega) (by omega)) dX11_web_124 ?_
  refine tE (y := 0) rfl ?_
  refine hret _ _ _ _ _ _ dX11_web_125 rfl ?_ hO
  exact ⟨rfl, rfl⟩
