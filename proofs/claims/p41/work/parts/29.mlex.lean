/-- the sign at a place -/
def sgF (u : St) (k : Int32) : Int32 := if k.toInt < (fI u 0 3).toInt then (fA u 2 k.toNatClampNeg) &&& 255 else 0
theorem sgF_b {u : St} {k : Int32} : (0 ≤ (sgF u k).toInt ∧ (sgF u k).toInt ≤ 255) ∧ ((sgF u k).toInt = 0 ∨ k.toInt < (fI u 0 3).toInt) := by
  unfold sgF
  by_cases h : k.toInt < (fI u 0 3).toInt
  · rw [if_pos h]
    exact ⟨i_andr (y := 255) rfl (by decide), Or.inr h⟩
  · rw [if_neg h]
    exact ⟨by decide, Or.inl rfl⟩
theorem sgF_eq {u v : St} {k : Int32} (h2 : fA v 2 = fA u 2) (h3 : fI v 0 3 = fI u 0 3) : sgF v k = sgF u k := by
  unfold sgF
  rw [h2, h3]
theorem dX11_sign_0 : decode cX11_sign 0 = .ok (.iload_n 1, 1) := by decide +kernel
theorem dX11_sign_1 : decode cX11_sign 1 = .ok (.aload_n 0, 1) := by decide +kernel
theorem dX11_sign_2 : decode cX11_sign 2 = .ok (.getfield 152, 3) := by decide +kernel
theorem dX11_sign_5 : decode cX11_sign 5 = .ok (.if_icmp .ge 16, 3) := by decide +kernel
theorem dX11_sign_8 : decode cX11_sign 8 = .ok (.aload_n 0, 1) := by decide +kernel
theorem dX11_sign_9 : decode cX11_sign 9 = .ok (.getfield 13, 3) := by decide +kernel
theorem dX11_sign_12 : decode cX11_sign 12 = .ok (.iload_n 1, 1) := by decide +kernel
theorem dX11_sign_13 : decode cX11_sign 13 = .ok (.baload, 1) := by decide +kernel
theorem dX11_sign_14 : decode cX11_sign 14 = .ok (.sipush 255, 3) := by decide +kernel
theorem dX11_sign_17 : decode cX11_sign 17 = .ok (.iand, 1) := by decide +kernel
theorem dX11_sign_18 : decode cX11_sign 18 = .ok (.goto 4, 3) := by decide +kernel
theorem dX11_sign_21 : decode cX11_sign 21 = .ok (.iconst 0, 1) := by decide +kernel
theorem dX11_sign_22 : decode cX11_sign 22 = .ok (.ireturn, 1) := by decide +kernel
theorem wd_1563 : (Cond.code ⟨"WebCourtModel", "sign", "(I)I"⟩ prog_13_method_2_code (2 : Nat) (Option.some FieldType.int)) ∈ gtb := gtb_c7 14 (by decide +kernel) rfl
theorem wd_1359 : (Cond.fieldLink "WebCourtModel" (152 : Nat) "WebCourtModel" "size" "I") ∈ gtb := gtb_c6 50 (by decide +kernel) rfl
theorem gf_RX11_152 {p : Program} {l : Launch} {e : Env} {R : Room} {s : State} {m : MethodId} {args : Array Value} {below : List Frame} {meth : Method} {c : Code} {H : Heap} {locs : List Loc} {cells slots : Nat} {Q : State → Prop} {cc : ByteArray} {pc nL : Nat} {ls : Array Slot} {rest : List Value} {D : va_G} {cy : Nat → ClassId} {A : Nat → Prop} {ws : va_W} {b : Nat} {fs : List Value} {v : Value} (C : Cx p s m args c cc nL RX11 D cy A) (hO : Wo D A ws s.heap H locs) (q0 : Nat) (he : ws[q0]? = some (b, .inr (11, fs))) (hv : fs[3]? = some v) (hdg : decode cc pc = .ok (.getfield 152, 3)) (kk : W p l e R s m args below meth c H locs cells slots Q (F0 m (pc + 3) ls (v :: rest))) : W p l e R s m args below meth c H locs cells slots Q (F0 m pc ls (.ref b :: rest)) := gF (k := 3) C hO q0 he rfl inFX11 (by decide) wd_1359 rfl hv hdg kk
theorem wd_1357 : (Cond.fieldLink "WebCourtModel" (13 : Nat) "WebCourtModel" "text" "[B") ∈ gtb := gtb_c6 48 (by decide +kernel) rfl
theorem gf_RX11_13 {p : Program} {l : Launch} {e : Env} {R : Room} {s : State} {m : MethodId} {args : Array Value} {below : List Frame} {meth : Method} {c : Code} {H : Heap} {locs : List Loc} {cells slots : Nat} {Q : State → Prop} {cc : ByteArray} {pc nL : Nat} {ls : Array Slot} {rest : List Value} {D : va_G} {cy : Nat → ClassId} {A : Nat → Prop} {ws : va_W} {b : Nat} {fs : List Value} {v : Value} (C : Cx p s m args c cc nL RX11 D cy A) (hO : Wo D A ws s.heap H locs) (q0 : Nat) (he : ws[q0]? = some (b, .inr (11, fs))) (hv : fs[1]? = some v) (hdg : decode cc pc = .ok (.getfield 13, 3)) (kk : W p l e R s m args below meth c H locs cells slots Q (F0 m (pc + 3) ls (v :: rest))) : W p l e R s m args below meth c H locs cells slots Q (F0 m pc ls (.ref b :: rest)) := gF (k := 1) C hO q0 he rfl inFX11 (by decide) wd_1357 rfl hv hdg kk
set_option maxHeartbeats 4000000 in
set_option maxRecDepth 100000 in
theorem T_X11_sign (l : Launch) (D : va_G) (cy : Nat → ClassId) (a : Nat → Nat) (u : St) (hJ : MI a u) (x1 : Int32) (hx_x1 : 0 ≤ x1.toInt ∧ x1.toInt ≤ 1601) : Mi l D cy (mW cy a) yX11_sign (.code yX11_sign cX11_sign 2 (some .int)) (rmo 0 0) [.ref (a 0), .int x1] u (fun (r : Int32) (u' : St) => (r = sgF u x1) ∧ (u' = u)) := by
  refine Mi.of (own := RX11) rfl (by decide) (Nat.le_of_ble_eq_true rfl) ?_
  have hT : Km0 u u := Km0.rf
  have hJ0 := hJ
  intro p e s m below meth c A Q ls C hret hO hl
  obtain ⟨hx, hb, hml, hown, ht, hK, hA⟩ := id C
  have hl : lv_has ls 2 [(0, .ref (a 0)), (1, .int x1)] := hl
  refine lv_iload_n hx hb dX11_sign_0 rfl (lv_at hl 1 rfl) ?_
  refine lv_aload_n hx hb dX11_sign_1 rfl (lv_at hl 0 rfl) ?_
  have g1 : 0 ≤ (fI u 0 3).toInt ∧ (fI u 0 3).toInt ≤ 1600 := by have h := MI_3 hJ0; exact h
  refine gf_RX11_152 (v := .int (fI u 0 3)) C hO 0 mW_0 rfl dX11_sign_2 ?_
  refine cs_ge (tgt := 21) (X := (x1).toInt) (Y := ((fI u 0 3)).toInt) hx hb dX11_sign_5 (by decide) rfl rfl (fun c2 => ?_) (fun c2 => ?_)
  · refine lv_iconst (v := 0) hx hb dX11_sign_21 (by decide) ?_
    refine hret _ _ _ _ _ _ dX11_sign_22 rfl ?_ hO
    exact ⟨(by unfold sgF; rw [if_neg (by omega)]), rfl⟩
  · refine lv_aload_n hx hb dX11_sign_8 rfl (lv_at hl 0 rfl) ?_
    refine gf_RX11_13 (v := .ref (a 2)) C hO 0 mW_0 rfl dX11_sign_9 ?_
    refine lv_iload_n hx hb dX11_sign_12 rfl (lv_at hl 1 rfl) ?_
    refine aB C hO 2 mW_2 (i_in (X := (x1).toInt) rfl (by omega) (by omega)) dX11_sign_13 ?_
    refine lv_topi (fun w3 ew3 => ?_)
    refine lv_sipush (v := 255) hx hb dX11_sign_14 (by decide) ?_
    refine lv_iand hx hb dX11_sign_17 ?_
    refine lv_topi (fun z4 ez4 => ?_)
    have g5 : 0 ≤ z4.toInt ∧ z4.toInt ≤ 255 := by rw [ez4]; exact i_andr rfl (by omega)
    refine lv_goto (tgt := 22) hx hb dX11_sign_18 (by decide) ?_
    refine hret _ _ _ _ _ _ dX11_sign_22 rfl ?_ hO
    exact ⟨(by unfold sgF; rw [if_pos (by omega), ez4, ew3]), rfl⟩
theorem dX11_isGood_0 : decode cX11_isGood 0 = .ok (.aload_n 0, 1) := by decide +kernel
theorem dX11_isGood_1 : decode cX11_isGood 1 = .ok (.getfield 155, 3) := by decide +kernel
theorem dX11_isGood_4 : decode cX11_isGood 4 = .ok (.ifCond .ne 7, 3) := by decide +kernel
theorem dX11_isGood_7 : decode cX11_isGood 7 = .ok (.iconst 1, 1) := by decide +kernel
theorem dX11_isGood_8 : decode cX11_isGood 8 = .ok (.goto 4, 3) := by decide +kernel
theorem dX11_isGood_11 : decode cX11_isGood 11 = .ok (.iconst 0, 1) := by decide +kernel
theorem dX11_isGood_12 : decode cX11_isGood 12 = .ok (.ireturn, 1) := by decide +kernel
theorem wd_1599 : (Cond.code ⟨"WebCourtModel", "isGood", "()Z"⟩ prog_13_method_6_code (1 : Nat) (Option.some FieldType.boolean)) ∈ gtb := gtb_c7 50 (by decide +kernel) rfl
set_option maxHeartbeats 4000000 in
set_option maxRecDepth 100000 in
theorem T_X11_isGood (l : Launch) (D : va_G) (cy : Nat → ClassId) (a : Nat → Nat) (u : St) (hJ : MI a u) (gf : Int32) (hgf : fI u 0 4 = gf)   : Mi l D cy (mW cy a) yX11_isGood (.code yX11_isGood cX11_isGood 1 (some .boolean)) (rmo 0 0) [.ref (a 0)] u (fun (r : Int32) (u' : St) => (((gf.toInt = 0) ∧ r = 1) ∨ ((¬ gf.toInt = 0) ∧ r = 0)) ∧ (u' = u)) := by
  refine Mi.of (own := RX11) rfl (by decide) (Nat.le_of_ble_eq_true rfl) ?_
  have hT : Km0 u u := Km0.rf
  have hJ0 := hJ
  intro p e s m below meth c A Q ls C hret hO hl
  obtain ⟨hx, hb, hml, hown, ht, hK, hA⟩ := id C
  have hl : lv_has ls 1 [(0, .ref (a 0))] := hl
  refine lv_aload_n hx hb dX11_isGood_0 rfl (lv_at hl 0 rfl) ?_
  have g1 : 0 ≤ gf.toInt ∧ gf.toInt ≤ 5 := by have h := MI_4 hJ0; rw [hgf] at h; exact h
  refine gf_RX11_155 (v := .int gf) C hO 0 mW_0 (congrArg (fun z : Int32 => some (Value.int z)) hgf) dX11_isGood_1 ?_
  refine bs_ne (tgt := 11) (X := (gf).toInt) hx hb dX11_isGood_4 (by decide) rfl (fun c2 => ?_) (fun c2 => ?_)
  · refine lv_iconst (v := 0) hx hb dX11_isGood_11 (by decide) ?_
    refine hret _ _ _ _ _ _ dX11_isGood_12 rfl ?_ hO
    exact ⟨Or.inr ⟨by first | trivial | omega, rfl⟩, rfl⟩
  · refine lv_iconst (v := 1) hx hb dX11_isGood_7 (by decide) ?_
    refine lv_goto (tgt := 12) hx hb dX11_isGood_8 (by decide) ?_
    refine hret _ _ _ _ _ _ dX11_isGood_12 rfl ?_ hO
    exact ⟨Or.inl ⟨by omega, rfl⟩, rfl⟩
theorem dX11_isKept_0 : decode cX11_isKept 0 = .ok (.lload_n 0, 1) := by decide +kernel
theorem dX11_isKept_1 : decode cX11_isKept 1 = .ok (.ldc2_w 158, 3) := by decide +kernel
theorem dX11_isKept_4 : decode cX11_isKept 4 = .ok (.lcmp, 1) := by decide +kernel
theorem dX11_isKept_5 : decode cX11_isKept 5 = .ok (.ifCond .eq 75, 3) := by decide +kernel
theorem dX11_isKept_8 : decode cX11_isKept 8 = .ok (.lload_n 0, 1) := by decide +kernel
theorem dX11_isKept_9 : decode cX11_isKept 9 = .ok (.ldc2_w 160, 3) := by decide +kernel
theorem dX11_isKept_12 : decode cX11_isKept 12 = .ok (.lcmp, 1) := by decide +kernel
theorem dX11_isKept_13 : decode cX11_isKept 13 = .ok (.ifCond .eq 67, 3) := by decide +kernel
theorem dX11_isKept_16 : decode cX11_isKept 16 = .ok (.lload_n 0, 1) := by decide +kernel
theorem dX11_isKept_17 : decode cX11_isKept 17 = .ok (.ldc2_w 162, 3) := by decide +kernel
theorem dX11_isKept_20 : decode cX11_isKept 20 = .ok (.lcmp, 1) := by decide +kernel
theorem dX11_isKept_21 : decode cX11_isKept 21 = .ok (.ifCond .eq 59, 3) := by decide +kernel
theorem dX11_isKept_24 : decode cX11_isKept 24 = .ok (.lload_n 0, 1) := by decide +kernel
theorem dX11_isKept_25 : decode cX11_isKept 25 = .ok (.ldc2_w 164, 3) := by decide +kernel
theorem dX11_isKept_28 : decode cX11_isKept 28 = .ok (.lcmp, 1) := by decide +kernel
theorem dX11_isKept_29 : decode cX11_isKept 29 = .ok (.ifCond .eq 51, 3) := by decide +kernel
theorem dX11_isKept_32 : decode cX11_isKept 32 = .ok (.lload_n 0, 1) := by decide +kernel
theorem dX11_isKept_33 : decode cX11_isKept 33 = .ok (.ldc2_w 166, 3) := by decide +kernel
theorem dX11_isKept_36 : decode cX11_isKept 36 = .ok (.lcmp, 1) := by decide +kernel
theorem dX11_isKept_37 : decode cX11_isKept 37 = .ok (.ifCond .eq 43, 3) := by decide +kernel
theorem dX11_isKept_40 : decode cX11_isKept 40 = .ok (.lload_n 0, 1) := by decide +kernel
theorem dX11_isKept_41 : decode cX11_isKept 41 = .ok (.ldc2_w 168, 3) := by decide +kernel
theorem dX11_isKept_44 : decode cX11_isKept 44 = .ok (.lcmp, 1) := by decide +kernel
theorem dX11_isKept_45 : decode cX11_isKept 45 = .ok (.ifCond .eq 35, 3) := by decide +kernel
theorem dX11_isKept_48 : decode cX11_isKept 48 = .ok (.lload_n 0, 1) := by decide +kernel
theorem dX11_isKept_49 : decode cX11_isKept 49 = .ok (.ldc2_w 170, 3) := by decide +kernel
theorem dX11_isKept_52 : decode cX11_isKept 52 = .ok (.lcmp, 1) := by decide +kernel
theorem dX11_isKept_53 : decode cX11_isKept 53 = .ok (.ifCond .eq 27, 3) := by decide +kernel
theorem dX11_isKept_56 : decode cX11_isKept 56 = .ok (.lload_n 0, 1) := by decide +kernel
theorem dX11_isKept_57 : decode cX11_isKept 57 = .ok (.ldc2_w 172, 3) := by decide +kernel
theorem dX11_isKept_60 : decode cX11_isKept 60 = .ok (.lcmp, 1) := by decide +kernel
theorem dX11_isKept_61 : decode cX11_isKept 61 = .ok (.ifCond .eq 19, 3) := by decide +kernel
theorem dX11_isKept_64 : decode cX11_isKept 64 = .ok (.lload_n 0, 1) := by decide +kernel
theorem dX11_isKept_65 : decode cX11_isKept 65 = .ok (.ldc2_w 174, 3) := by decide +kernel
theorem dX11_isKept_68 : decode cX11_isKept 68 = .ok (.lcmp, 1) := by decide +kernel
theorem dX11_isKept_69 : decode cX11_isKept 69 = .ok (.ifCond .eq 11, 3) := by decide +kernel
theorem dX11_isKept_72 : decode cX11_isKept 72 = .ok (.lload_n 0, 1) := by decide +kernel
theorem dX11_isKept_73 : decode cX11_isKept 73 = .ok (.ldc2_w 176, 3) := by decide +kernel
theorem dX11_isKept_76 : decode cX11_isKept 76 = .ok (.lcmp, 1) := by decide +kernel
theorem dX11_isKept_77 : decode cX11_isKept 77 = .ok (.ifCond .ne 7, 3) := by decide +kernel
theorem dX11_isKept_80 : decode cX11_isKept 80 = .ok (.iconst 1, 1) := by decide +kernel
theorem dX11_isKept_81 : decode cX11_isKept 81 = .ok (.goto 4, 3) := by decide +kernel
theorem dX11_isKept_84 : decode cX11_isKept 84 = .ok (.iconst 0, 1) := by decide +kernel
theorem dX11_isKept_85 : decode cX11_isKept 85 = .ok (.istore_n 2, 1) := by decide +kernel
theorem dX11_isKept_86 : decode cX11_isKept 86 = .ok (.iload_n 2, 1) := by decide +kernel
theorem dX11_isKept_87 : decode cX11_isKept 87 = .ok (.ifCond .ne 83, 3) := by decide +kernel
theorem dX11_isKept_90 : decode cX11_isKept 90 = .ok (.lload_n 0, 1) := by decide +kernel
theorem dX11_isKept_91 : decode cX11_isKept 91 = .ok (.ldc2_w 178, 3) := by decide +kernel
theorem dX11_isKept_94 : decode cX11_isKept 94 = .ok (.lcmp, 1) := by decide +kernel
theorem dX11_isKept_95 : decode cX11_isKept 95 = .ok (.ifCond .eq 75, 3) := by decide +kernel
theorem dX11_isKept_98 : decode cX11_isKept 98 = .ok (.lload_n 0, 1) := by decide +kernel
theorem dX11_isKept_99 : decode cX11_isKept 99 = .ok (.ldc2_w 180, 3) := by decide +kernel
theorem dX11_isKept_102 : decode cX11_isKept 102 = .ok (.lcmp, 1) := by decide +kernel
theorem dX11_isKept_103 : decode cX11_isKept 103 = .ok (.ifCond .eq 67, 3) := by decide +kernel
theorem dX11_isKept_106 : decode cX11_isKept 106 = .ok (.lload_n 0, 1) := by decide +kernel
theorem dX11_isKept_107 : decode cX11_isKept 107 = .ok (.ldc2_w 182, 3) := by decide +kernel
theorem dX11_isKept_110 : decode cX11_isKept 110 = .ok (.lcmp, 1) := by decide +kernel
theorem dX11_isKept_111 : decode cX11_isKept 111 = .ok (.ifCond .eq 59, 3) := by decide +kernel
theorem dX11_isKept_114 : decode cX11_isKept 114 = .ok (.lload_n 0, 1) := by decide +kernel
theorem dX11_isKept_115 : decode cX11_isKept 115 = .ok (.ldc2_w 184, 3) := by decide +kernel
theorem dX11_isKept_118 : decode cX11_isKept 118 = .ok (.lcmp, 1) := by decide +kernel
theorem dX11_isKept_119 : decode cX11_isKept 119 = .ok (.ifCond .eq 51, 3) := by decide +kernel
theorem dX11_isKept_122 : decode cX11_isKept 122 = .ok (.lload_n 0, 1) := by decide +kernel
theorem dX11_isKept_123 : decode cX11_isKept 123 = .ok (.ldc2_w 186, 3) := by decide +kernel
theorem dX11_isKept_126 : decode cX11_isKept 126 = .ok (.lcmp, 1) := by decide +kernel
theorem dX11_isKept_127 : decode cX11_isKept 127 = .ok (.ifCond .eq 43, 3) := by decide +kernel
theorem dX11_isKept_130 : decode cX11_isKept 130 = .ok (.lload_n 0, 1) := by decide +kernel
theorem dX11_isKept_131 : decode cX11_isKept 131 = .ok (.ldc2_w 188, 3) := by decide +kernel
theorem dX11_isKept_134 : decode cX11_isKept 134 = .ok (.lcmp, 1) := by decide +kernel
theorem dX11_isKept_135 : decode cX11_isKept 135 = .ok (.ifCond .eq 35, 3) := by decide +kernel
theorem dX11_isKept_138 : decode cX11_isKept 138 = .ok (.lload_n 0, 1) := by decide +kernel
theorem dX11_isKept_139 : decode cX11_isKept 139 = .ok (.ldc2_w 190, 3) := by decide +kernel
theorem dX11_isKept_142 : decode cX11_isKept 142 = .ok (.lcmp, 1) := by decide +kernel
theorem dX11_isKept_143 : decode cX11_isKept 143 = .ok (.ifCond .eq 27, 3) := by decide +kernel
theorem dX11_isKept_146 : decode cX11_isKept 146 = .ok (.lload_n 0, 1) := by decide +kernel
theorem dX11_isKept_147 : decode cX11_isKept 147 = .ok (.ldc2_w 192, 3) := by decide +kernel
theorem dX11_isKept_150 : decode cX11_isKept 150 = .ok (.lcmp, 1) := by decide +kernel
theorem dX11_isKept_151 : decode cX11_isKept 151 = .ok (.ifCond .eq 19, 3) := by decide +kernel
theorem dX11_isKept_154 : decode cX11_isKept 154 = .ok (.lload_n 0, 1) := by decide +kernel
theorem dX11_isKept_155 : decode cX11_isKept 155 = .ok (.ldc2_w 194, 3) := by decide +kernel
theorem dX11_isKept_158 : decode cX11_isKept 158 = .ok (.lcmp, 1) := by decide +kernel
theorem dX11_isKept_159 : decode cX11_isKept 159 = .ok (.ifCond .eq 11, 3) := by decide +kernel
theorem dX11_isKept_162 : decode cX11_isKept 162 = .ok (.lload_n 0, 1) := by decide +kernel
theorem dX11_isKept_163 : decode cX11_isKept 163 = .ok (.ldc2_w 196, 3) := by decide +kernel
theorem dX11_isKept_166 : decode cX11_isKept 166 = .ok (.lcmp, 1) := by decide +kernel
theorem dX11_isKept_167 : decode cX11_isKept 167 = .ok (.ifCond .ne 7, 3) := by decide +kernel
theorem dX11_isKept_170 : decode cX11_isKept 170 = .ok (.iconst 1, 1) := by decide +kernel
theorem dX11_isKept_171 : decode cX11_isKept 171 = .ok (.goto 4, 3) := by decide +kernel
theorem dX11_isKept_174 : decode cX11_isKept 174 = .ok (.iconst 0, 1) := by decide +kernel
theorem dX11_isKept_175 : decode cX11_isKept 175 = .ok (.ireturn, 1) := by decide +kernel
theorem wd_1569 : (Cond.code ⟨"WebCourtModel", "isKept", "(J)Z"⟩ prog_13_method_7_code (3 : Nat) (Option.some FieldType.boolean)) ∈ gtb := gtb_c7 20 (by decide +kernel) rfl
theorem wd_1570 : (Cond.constantLong "WebCourtModel" (158 : Nat) (1802399604 : Int64)) ∈ gtb := gtb_c7 21 (by decide +kernel) rfl
theorem wd_1571 : (Cond.constantLong "WebCourtModel" (160 : Nat) (1818848869 : Int64)) ∈ gtb := gtb_c7 22 (by decide +kernel) rfl
theorem wd_1572 : (Cond.constantLong "WebCourtModel" (162 : Nat) (126943821523833 : Int64)) ∈ gtb := gtb_c7 23 (by decide +kernel) rfl
theorem wd_1573 : (Cond.constantLong "WebCourtModel" (164 : Nat) (1886152033 : Int64)) ∈ gtb := gtb_c7 24 (by decide +kernel) rfl
theorem wd_1574 : (Cond.constantLong "WebCourtModel" (166 : Nat) (126943973305959 : Int64)) ∈ gtb := gtb_c7 25 (by decide +kernel) rfl
theorem wd_1575 : (Cond.constantLong "WebCourtModel" (168 : Nat) (1667330917 : Int64)) ∈ gtb := gtb_c7 26 (by decide +kernel) rfl
theorem wd_1576 : (Cond.constantLong "WebCourtModel" (170 : Nat) (24948 : Int64)) ∈ gtb := gtb_c7 27 (by decide +kernel) rfl
theorem wd_1577 : (Cond.constantLong "WebCourtModel" (172 : Nat) (123610859660403 : Int64)) ∈ gtb := gtb_c7 28 (by decide +kernel) rfl
theorem wd_1578 : (Cond.constantLong "WebCourtModel" (174 : Nat) (422608528232 : Int64)) ∈ gtb := gtb_c7 29 (by decide +kernel) rfl
theorem wd_1579 : (Cond.constantLong "WebCourtModel" (176 : Nat) (7102839 : Int64)) ∈ gtb := gtb_c7 30 (by decide +kernel) rfl
theorem wd_1580 : (Cond.constantLong "WebCourtModel" (178 : Nat) (1650549611 : Int64)) ∈ gtb := gtb_c7 31 (by decide +kernel) rfl
theorem wd_1581 : (Cond.constantLong "WebCourtModel" (180 : Nat) (1685217655 : Int64)) ∈ gtb := gtb_c7 32 (by decide +kernel) rfl
theorem wd_1582 : (Cond.constantLong "WebCourtModel" (182 : Nat) (1835101817 : Int64)) ∈ gtb := gtb_c7 33 (by decide +kernel) rfl
theorem wd_1583 : (Cond.constantLong "WebCourtModel" (184 : Nat) (108187649798757 : Int64)) ∈ gtb := gtb_c7 34 (by decide +kernel) rfl
theorem wd_1584 : (Cond.constantLong "WebCourtModel" (186 : Nat) (495873784179 : Int64)) ∈ gtb := gtb_c7 35 (by decide +kernel) rfl
theorem wd_1585 : (Cond.constantLong "WebCourtModel" (188 : Nat) (7039342 : Int64)) ∈ gtb := gtb_c7 36 (by decide +kernel) rfl
theorem wd_1586 : (Cond.constantLong "WebCourtModel" (190 : Nat) (1752135026 : Int64)) ∈ gtb := gtb_c7 37 (by decide +kernel) rfl
theorem wd_1587 : (Cond.constantLong "WebCourtModel" (192 : Nat) (28530 : Int64)) ∈ gtb := gtb_c7 38 (by decide +kernel) rfl
theorem wd_1588 : (Cond.constantLong "WebCourtModel" (194 : Nat) (6385252 : Int64)) ∈ gtb := gtb_c7 39 (by decide +kernel) rfl
theorem wd_1589 : (Cond.constantLong "WebCourtModel" (196 : Nat) (7237492 : Int64)) ∈ gtb := gtb_c7 40 (by decide +kernel) rfl
set_option maxHeartbeats 4000000 in
set_option maxRecDepth 100000 in
theorem T_X11_isKept (l : Launch) (D : va_G) (cy : Nat → ClassId) (a : Nat → Nat) (u : St) (hJ : MI a u) (x1 : Int64)  : Mi l D cy (mW cy a) yX11_isKept (.code yX11_isKept cX11_isKept 3 (some .boolean)) (rmo 0 0) [.long x1] u (fun (r : Int32) (u' : St) => (r = 0 ∨ r = 1) ∧ (u' = u)) := by
  refine Mi.of (own := RX11) rfl (by decide) (Nat.le_of_ble_eq_true rfl) ?_
  have hT : Km0 u u := Km0.rf
  have hJ0 := hJ
  intro p e s m below meth c A Q ls C hret hO hl
  obtain ⟨hx, hb, hml, hown, ht, hK, hA⟩ := id C
  have hl : lv_has ls 3 [(0, .long x1)] := hl
  refine lv_lload_n hx hb dX11_isKept_0 rfl (lv_at hl 0 rfl) ?_
  refine lv_ldc2 (v := 1802399604) hx hb hown (ht _ wd_1570) dX11_isKept_1 ?_
  refine W.lcmp hx hb dX11_isKept_4 ?_
  refine lv_topi (fun z1 ez1 => ?_)
  refine bs_eq (tgt := 80) (X := (z1).toInt) hx hb dX11_isKept_5 (by decide) rfl (fun c2 => ?_) (fun c2 => ?_)
  · have hj3 := lc_eq ez1 (by omega)
    refine lv_iconst (v := 1) hx hb dX11_isKept_80 (by decide) ?_
    refine lv_goto (tgt := 85) hx hb dX11_isKept_81 (by decide) ?_
    refine lv_istore_n (lv' := [(2, .int 1), (0, .long x1)]) hx hb dX11_isKept_85 rfl hl (by decide) rfl (fun ls hl => ?_)
    refine lv_iload_n hx hb dX11_isKept_86 rfl (lv_at hl 0 rfl) ?_
    refine bt_ne (tgt := 170) (X := 1) hx hb dX11_isKept_87 (by decide) rfl (by omega) ?_
    refine lv_iconst (v := 1) hx hb dX11_isKept_170 (by decide) ?_
    refine lv_goto (tgt := 175) hx hb dX11_isKept_171 (by decide) ?_
    refine hret _ _ _ _ _ _ dX11_isKept_175 rfl ?_ hO
    exact ⟨Or.inr rfl, rfl⟩
  · have hj4 := lc_ne ez1 (by omega)
    refine lv_lload_n hx hb dX11_isKept_8 rfl (lv_at hl 0 rfl) ?_
    refine lv_ldc2 (v := 1818848869) hx hb hown (ht _ wd_1571) dX11_isKept_9 ?_
    refine W.lcmp hx hb dX11_isKept_12 ?_
    refine lv_topi (fun z5 ez5 => ?_)
    refine bs_eq (tgt := 80) (X := (z5).toInt) hx hb dX11_isKept_13 (by decide) rfl (fun c6 => ?_) (fun c6 => ?_)
    · have hj7 := lc_eq ez5 (by omega)
      refine lv_iconst (v := 1) hx hb dX11_isKept_80 (by decide) ?_
      refine lv_goto (tgt := 85) hx hb dX11_isKept_81 (by decide) ?_
      refine lv_istore_n (lv' := [(2, .int 1), (0, .long x1)]) hx hb dX11_isKept_85 rfl hl (by decide) rfl (fun ls hl => ?_)
      refine lv_iload_n hx hb dX11_isKept_86 rfl (lv_at hl 0 rfl) ?_
      refine bt_ne (tgt := 170) (X := 1) hx hb dX11_isKept_87 (by decide) rfl (by omega) ?_
      refine lv_iconst (v := 1) hx hb dX11_isKept_170 (by decide) ?_
      refine lv_goto (tgt := 175) hx hb dX11_isKept_171 (by decide) ?_
      refine hret _ _ _ _ _ _ dX11_isKept_175 rfl ?_ hO
      exact ⟨Or.inr rfl, rfl⟩
    · have hj8 := lc_ne ez5 (by omega)
      refine lv_lload_n hx hb dX11_isKept_16 rfl (lv_at hl 0 rfl) ?_
      refine lv_ldc2 (v := 126943821523833) hx hb hown (ht _ wd_1572) dX11_isKept_17 ?_
      refine W.lcmp hx hb dX11_isKept_20 ?_
      refine lv_topi (fun z9 ez9 => ?_)
      refine bs_eq (tgt := 80) (X := (z9).toInt) hx hb dX11_isKept_21 (by decide) rfl (fun c10 => ?_) (fun c10 => ?_)
      · have hj11 := lc_eq ez9 (by omega)
        refine lv_iconst (v := 1) hx hb dX11_isKept_80 (by decide) ?_
        refine lv_goto (tgt := 85) hx hb dX11_isKept_81 (by decide) ?_
        refine lv_istore_n (lv' := [(2, .int 1), (0, .long x1)]) hx hb dX11_isKept_85 rfl hl (by decide) rfl (fun ls hl => ?_)
        refine lv_iload_n hx hb dX11_isKept_86 rfl (lv_at hl 0 rfl) ?_
        refine bt_ne (tgt := 170) (X := 1) hx hb dX11_isKept_87 (by decide) rfl (by omega) ?_
        refine lv_iconst (v := 1) hx hb dX11_isKept_170 (by decide) ?_
        refine lv_goto (tgt := 175) hx hb dX11_isKept_171 (by decide) ?_
        refine hret _ _ _ _ _ _ dX11_isKept_175 rfl ?_ hO
        exact ⟨Or.inr rfl, rfl⟩
      · have hj12 := lc_ne ez9 (by omega)
        refine lv_lload_n hx hb dX11_isKept_24 rfl (lv_at hl 0 rfl) ?_
        refine lv_ldc2 (v := 1886152033) hx hb hown (ht _ wd_1573) dX11_isKept_25 ?_
        refine W.lcmp hx hb dX11_isKept_28 ?_
        refine lv_topi (fun z13 ez13 => ?_)
        refine bs_eq (tgt := 80) (X := (z13).toInt) hx hb dX11_isKept_29 (by decide) rfl (fun c14 => ?_) (fun c14 => ?_)
        · have hj15 := lc_eq ez13 (by omega)
          refine lv_iconst (v := 1) hx hb dX11_isKept_80 (by decide) ?_
          refine lv_goto (tgt := 85) hx hb dX11_isKept_81 (by decide) ?_
          refine lv_istore_n (lv' := [(2, .int 1), (0, .long x1)]) hx hb dX11_isKept_85 rfl hl (by decide) rfl (fun ls hl => ?_)
          refine lv_iload_n hx hb dX11_isKept_86 rfl (lv_at hl 0 rfl) ?_
          refine bt_ne (tgt := 170) (X := 1) hx hb dX11_isKept_87 (by decide) rfl (by omega) ?_
          refine lv_iconst (v := 1) hx hb dX11_isKept_170 (by decide) ?_
          refine lv_goto (tgt := 175) hx hb dX11_isKept_171 (by decide) ?_
          refine hret _ _ _ _ _ _ dX11_isKept_175 rfl ?_ hO
          exact ⟨Or.inr rfl, rfl⟩
        · have hj16 := lc_ne ez13 (by omega)
          refine lv_lload_n hx hb dX11_isKept_32 rfl (lv_at hl 0 rfl) ?_
          refine lv_ldc2 (v := 126943973305959) hx hb hown (ht _ wd_1574) dX11_isKept_33 ?_
          refine W.lcmp hx hb dX11_isKept_36 ?_
          refine lv_topi (fun z17 ez17 => ?_)
          refine bs_eq (tgt := 80) (X := (z17).toInt) hx hb dX11_isKept_37 (by decide) rfl (fun c18 => ?_) (fun c18 => ?_)
          · have hj19 := lc_eq ez17 (by omega)
            refine lv_iconst (v := 1) hx hb dX11_isKept_80 (by decide) ?_
            refine lv_goto (tgt := 85) hx hb dX11_isKept_81 (by decide) ?_
            refine lv_istore_n (lv' := [(2, .int 1), (0, .long x1)]) hx hb dX11_isKept_85 rfl hl (by decide) rfl (fun ls hl => ?_)
            refine lv_iload_n hx hb dX11_isKept_86 rfl (lv_at hl 0 rfl) ?_
            refine bt_ne (tgt := 170) (X := 1) hx hb dX11_isKept_87 (by decide) rfl (by omega) ?_
            refine lv_iconst (v := 1) hx hb dX11_isKept_170 (by decide) ?_
            refine lv_goto (tgt := 175) hx hb dX11_isKept_171 (by decide) ?_
            refine hret _ _ _ _ _ _ dX11_isKept_175 rfl ?_ hO
            exact ⟨Or.inr rfl, rfl⟩
          · have hj20 := lc_ne ez17 (by omega)
            refine lv_lload_n hx hb dX11_isKept_40 rfl (lv_at hl 0 rfl) ?_
            refine lv_ldc2 (v := 1667330917) hx hb hown (ht _ wd_1575) dX11_isKept_41 ?_
            refine W.lcmp hx hb dX11_isKept_44 ?_
            refine lv_topi (fun z21 ez21 => ?_)
            refine bs_eq (tgt := 80) (X := (z21).toInt) hx hb dX11_isKept_45 (by decide) rfl (fun c22 => ?_) (fun c22 => ?_)
            · have hj23 := lc_eq ez21 (by omega)
              refine lv_iconst (v := 1) hx hb dX11_isKept_80 (by decide) ?_
              refine lv_goto (tgt := 85) hx hb dX11_isKept_81 (by decide) ?_
              refine lv_istore_n (lv' := [(2, .int 1), (0, .long x1)]) hx hb dX11_isKept_85 rfl hl (by decide) rfl (fun ls hl => ?_)
              refine lv_iload_n hx hb dX11_isKept_86 rfl (lv_at hl 0 rfl) ?_
              refine bt_ne (tgt := 170) (X := 1) hx hb dX11_isKept_87 (by decide) rfl (by omega) ?_
              refine lv_iconst (v := 1) hx hb dX11_isKept_170 (by decide) ?_
              refine lv_goto (tgt := 175) hx hb dX11_isKept_171 (by decide) ?_
              refine hret _ _ _ _ _ _ dX11_isKept_175 rfl ?_ hO
              exact ⟨Or.inr rfl, rfl⟩
            · have hj24 := lc_ne ez21 (by omega)
              refine lv_lload_n hx hb dX11_isKept_48 rfl (lv_at hl 0 rfl) ?_
              refine lv_ldc2 (v := 24948) hx hb hown (ht _ wd_1576) dX11_isKept_49 ?_
              refine W.lcmp hx hb dX11_isKept_52 ?_
              refine lv_topi (fun z25 ez25 => ?_)
              refine bs_eq (tgt := 80) (X := (z25).toInt) hx hb dX11_isKept_53 (by decide) rfl (fun c26 => ?_) (fun c26 => ?_)
              · have hj27 := lc_eq ez25 (by omega)
                refine lv_iconst (v := 1) hx hb dX11_isKept_80 (by decide) ?_
                refine lv_goto (tgt := 85) hx hb dX11_isKept_81 (by decide) ?_
                refine lv_istore_n (lv' := [(2, .int 1), (0, .long x1)]) hx hb dX11_isKept_85 rfl hl (by decide) rfl (fun ls hl => ?_)
                refine lv_iload_n hx hb dX11_isKept_86 rfl (lv_at hl 0 rfl) ?_
                refine bt_ne (tgt := 170) (X := 1) hx hb dX11_isKept_87 (by decide) rfl (by omega) ?_
                refine lv_iconst (v := 1) hx hb dX11_isKept_170 (by decide) ?_
                refine lv_goto (tgt := 175) hx hb dX11_isKept_171 (by decide) ?_
                refine hret _ _ _ _ _ _ dX11_isKept_175 rfl ?_ hO
                exact ⟨Or.inr rfl, rfl⟩
              · have hj28 := lc_ne ez25 (by omega)
                refine lv_lload_n hx hb dX11_isKept_56 rfl (lv_at hl 0 rfl) ?_
                refine lv_ldc2 (v := 123610859660403) hx hb hown (ht _ wd_1577) dX11_isKept_57 ?_
                refine W.lcmp hx hb dX11_isKept_60 ?_
                refine lv_topi (fun z29 ez29 => ?_)
                refine bs_eq (tgt := 80) (X := (z29).toInt) hx hb dX11_isKept_61 (by decide) rfl (fun c30 => ?_) (fun c30 => ?_)
                · have hj31 := lc_eq ez29 (by omega)
                  refine lv_iconst (v := 1) hx hb dX11_isKept_80 (by decide) ?_
                  refine lv_goto (tgt := 85) hx hb dX11_isKept_81 (by decide) ?_
                  refine lv_istore_n (lv' := [(2, .int 1), (0, .long x1)]) hx hb dX11_isKept_85 rfl hl (by decide) rfl (fun ls hl => ?_)
                  refine lv_iload_n hx hb dX11_isKept_86 rfl (lv_at hl 0 rfl) ?_
                  refine bt_ne (tgt := 170) (X := 1) hx hb dX11_isKept_87 (by decide) rfl (by omega) ?_
                  refine lv_iconst (v := 1) hx hb dX11_isKept_170 (by decide) ?_
                  refine lv_goto (tgt := 175) hx hb dX11_isKept_171 (by decide) ?_
                  refine hret _ _ _ _ _ _ dX11_isKept_175 rfl ?_ hO
                  exact ⟨Or.inr rfl, rfl⟩
                · have hj32 := lc_ne ez29 (by omega)
                  refine lv_lload_n hx hb dX11_isKept_64 rfl (lv_at hl 0 rfl) ?_
                  refine lv_ldc2 (v := 422608528232) hx hb hown (ht _ wd_1578) dX11_isKept_65 ?_
                  refine W.lcmp hx hb dX11_isKept_68 ?_
                  refine lv_topi (fun z33 ez33 => ?_)
                  refine bs_eq (tgt := 80) (X := (z33).toInt) hx hb dX11_isKept_69 (by decide) rfl (fun c34 => ?_) (fun c34 => ?_)
                  · have hj35 := lc_eq ez33 (by omega)
                    refine lv_iconst (v := 1) hx hb dX11_isKept_80 (by decide) ?_
                    refine lv_goto (tgt := 85) hx hb dX11_isKept_81 (by decide) ?_
                    refine lv_istore_n (lv' := [(2, .int 1), (0, .long x1)]) hx hb dX11_isKept_85 rfl hl (by decide) rfl (fun ls hl => ?_)
                    refine lv_iload_n hx hb dX11_isKept_86 rfl (lv_at hl 0 rfl) ?_
                    refine bt_ne (tgt := 170) (X := 1) hx hb dX11_isKept_87 (by decide) rfl (by omega) ?_
                    refine lv_iconst (v := 1) hx hb dX11_isKept_170 (by decide) ?_
                    refine lv_goto (tgt := 175) hx hb dX11_isKept_171 (by decide) ?_
                    refine hret _ _ _ _ _ _ dX11_isKept_175 rfl ?_ hO
                    exact ⟨Or.inr rfl, rfl⟩
                  · have hj36 := lc_ne ez33 (by omega)
                    refine lv_lload_n hx hb dX11_isKept_72 rfl (lv_at hl 0 rfl) ?_
                    refine lv_ldc2 (v := 7102839) hx hb hown (ht _ wd_1579) dX11_isKept_73 ?_
                    refine W.lcmp hx hb dX11_isKept_76 ?_
                    refine lv_topi (fun z37 ez37 => ?_)
                    refine bs_ne (tgt := 84) (X := (z37).toInt) hx hb dX11_isKept_77 (by decide) rfl (fun c38 => ?_) (fun c38 => ?_)
                    · have hj39 := lc_ne ez37 (by omega)
                      refine lv_iconst (v := 0) hx hb dX11_isKept_84 (by decide) ?_
                      refine lv_istore_n (lv' := [(2, .int 0), (0, .long x1)]) hx hb dX11_isKept_85 rfl hl (by decide) rfl (fun ls hl => ?_)
                      refine lv_iload_n hx hb dX11_isKept_86 rfl (lv_at hl 0 rfl) ?_
                      refine bn_ne (X := 0) hx hb dX11_isKept_87 rfl (by omega) ?_ (tgt := 170) (by decide)
                      refine lv_lload_n hx hb dX11_isKept_90 rfl (lv_at hl 1 rfl) ?_
                      refine lv_ldc2 (v := 1650549611) hx hb hown (ht _ wd_1580) dX11_isKept_91 ?_
                      refine W.lcmp hx hb dX11_isKept_94 ?_
                      refine lv_topi (fun z40 ez40 => ?_)
                      refine bs_eq (tgt := 170) (X := (z40).toInt) hx hb dX11_isKept_95 (by decide) rfl (fun c41 => ?_) (fun c41 => ?_)
                      · have hj42 := lc_eq ez40 (by omega)
                        refine lv_iconst (v := 1) hx hb dX11_isKept_170 (by decide) ?_
                        refine lv_goto (tgt := 175) hx hb dX11_isKept_171 (by decide) ?_
                        refine hret _ _ _ _ _ _ dX11_isKept_175 rfl ?_ hO
                        exact ⟨Or.inr rfl, rfl⟩
                      · have hj43 := lc_ne ez40 (by omega)
                        refine lv_lload_n hx hb dX11_isKept_98 rfl (lv_at hl 1 rfl) ?_
                        refine lv_ldc2 (v := 1685217655) hx hb hown (ht _ wd_1581) dX11_isKept_99 ?_
                        refine W.lcmp hx hb dX11_isKept_102 ?_
                        refine lv_topi (fun z44 ez44 => ?_)
                        refine bs_eq (tgt := 170) (X := (z44).toInt) hx hb dX11_isKept_103 (by decide) rfl (fun c45 => ?_) (fun c45 => ?_)
                        · have hj46 := lc_eq ez44 (by omega)
                          refine lv_iconst (v := 1) hx hb dX11_isKept_170 (by decide) ?_
                          refine lv_goto (tgt := 175) hx hb dX11_isKept_171 (by decide) ?_
                          refine hret _ _ _ _ _ _ dX11_isKept_175 rfl ?_ hO
                          exact ⟨Or.inr rfl, rfl⟩
                        · have hj47 := lc_ne ez44 (by omega)
                          refine lv_lload_n hx hb dX11_isKept_106 rfl (lv_at hl 1 rfl) ?_
                          refine lv_ldc2 (v := 1835101817) hx hb hown (ht _ wd_1582) dX11_isKept_107 ?_
                          refine W.lcmp hx hb dX11_isKept_110 ?_
                          refine lv_topi (fun z48 ez48 => ?_)
                          refine bs_eq (tgt := 170) (X := (z48).toInt) hx hb dX11_isKept_111 (by decide) rfl (fun c49 => ?_) (fun c49 => ?_)
                          · have hj50 := lc_eq ez48 (by omega)
                            refine lv_iconst (v := 1) hx hb dX11_isKept_170 (by decide) ?_
                            refine lv_goto (tgt := 175) hx hb dX11_isKept_171 (by decide) ?_
                            refine hret _ _ _ _ _ _ dX11_isKept_175 rfl ?_ hO
                            exact ⟨Or.inr rfl, rfl⟩
                          · have hj51 := lc_ne ez48 (by omega)
                            refine lv_lload_n hx hb dX11_isKept_114 rfl (lv_at hl 1 rfl) ?_
                            refine lv_ldc2 (v := 108187649798757) hx hb hown (ht _ wd_1583) dX11_isKept_115 ?_
                            refine W.lcmp hx hb dX11_isKept_118 ?_
                            refine lv_topi (fun z52 ez52 => ?_)
                            refine bs_eq (tgt := 170) (X := (z52).toInt) hx hb dX11_isKept_119 (by decide) rfl (fun c53 => ?_) (fun c53 => ?_)
                            · have hj54 := lc_eq ez52 (by omega)
                              refine lv_iconst (v := 1) hx hb dX11_isKept_170 (by decide) ?_
                              refine lv_goto (tgt := 175) hx hb dX11_isKept_171 (by decide) ?_
                              refine hret _ _ _ _ _ _ dX11_isKept_175 rfl ?_ hO
                              exact ⟨Or.inr rfl, rfl⟩
                            · have hj55 := lc_ne ez52 (by omega)
                              refine lv_lload_n hx hb dX11_isKept_122 rfl (lv_at hl 1 rfl) ?_
                              refine lv_ldc2 (v := 495873784179) hx hb hown (ht _ wd_1584) dX11_isKept_123 ?_
                              refine W.lcmp hx hb dX11_isKept_126 ?_
                              refine lv_topi (fun z56 ez56 => ?_)
                              refine bs_eq (tgt := 170) (X := (z56).toInt) hx hb dX11_isKept_127 (by decide) rfl (fun c57 => ?_) (fun c57 => ?_)
                              · have hj58 := lc_eq ez56 (by omega)
                                refine lv_iconst (v := 1) hx hb dX11_isKept_170 (by decide) ?_
                                refine lv_goto (tgt := 175) hx hb dX11_isKept_171 (by decide) ?_
                                refine hret _ _ _ _ _ _ dX11_isKept_175 rfl ?_ hO
                                exact ⟨Or.inr rfl, rfl⟩
                              · have hj59 := lc_ne ez56 (by omega)
                                refine lv_lload_n hx hb dX11_isKept_130 rfl (lv_at hl 1 rfl) ?_
                                refine lv_ldc2 (v := 7039342) hx hb hown (ht _ wd_1585) dX11_isKept_131 ?_
                                refine W.lcmp hx hb dX11_isKept_134 ?_
                                refine lv_topi (fun z60 ez60 => ?_)
                                refine bs_eq (tgt := 170) (X := (z60).toInt) hx hb dX11_isKept_135 (by decide) rfl (fun c61 => ?_) (fun c61 => ?_)
                                · have hj62 := lc_eq ez60 (by omega)
                                  refine lv_iconst (v := 1) hx hb dX11_isKept_170 (by decide) ?_
                                  refine lv_goto (tgt := 175) hx hb dX11_isKept_171 (by decide) ?_
                                  refine hret _ _ _ _ _ _ dX11_isKept_175 rfl ?_ hO
                                  exact ⟨Or.inr rfl, rfl⟩
                                · have hj63 := lc_ne ez60 (by omega)
                                  refine lv_lload_n hx hb dX11_isKept_138 rfl (lv_at hl 1 rfl) ?_
                                  refine lv_ldc2 (v := 1752135026) hx hb hown (ht _ wd_1586) dX11_isKept_139 ?_
                                  refine W.lcmp hx hb dX11_isKept_142 ?_
                                  refine lv_topi (fun z64 ez64 => ?_)
                                  refine bs_eq (tgt := 170) (X := (z64).toInt) hx hb dX11_isKept_143 (by decide) rfl (fun c65 => ?_) (fun c65 => ?_)
                                  · have hj66 := lc_eq ez64 (by omega)
                                    refine lv_iconst (v := 1) hx hb dX11_isKept_170 (by decide) ?_
                                    refine lv_goto (tgt := 175) hx hb dX11_isKept_171 (by decide) ?_
                                    refine hret _ _ _ _ _ _ dX11_isKept_175 rfl ?_ hO
                                    exact ⟨Or.inr rfl, rfl⟩
                                  · have hj67 := lc_ne ez64 (by omega)
                                    refine lv_lload_n hx hb dX11_isKept_146 rfl (lv_at hl 1 rfl) ?_
                                    refine lv_ldc2 (v := 28530) hx hb hown (ht _ wd_1587) dX11_isKept_147 ?_
                                    refine W.lcmp hx hb dX11_isKept_150 ?_
                                    refine lv_topi (fun z68 ez68 => ?_)
                                    refine bs_eq (tgt := 170) (X := (z68).toInt) hx hb dX11_isKept_151 (by decide) rfl (fun c69 => ?_) (fun c69 => ?_)
                                    · have hj70 := lc_eq ez68 (by omega)
                                      refine lv_iconst (v := 1) hx hb dX11_isKept_170 (by decide) ?_
                                      refine lv_goto (tgt := 175) hx hb dX11_isKept_171 (by decide) ?_
                                      refine hret _ _ _ _ _ _ dX11_isKept_175 rfl ?_ hO
                                      exact ⟨Or.inr rfl, rfl⟩
                                    · have hj71 := lc_ne ez68 (by omega)
                                      refine lv_lload_n hx hb dX11_isKept_154 rfl (lv_at hl 1 rfl) ?_
                                      refine lv_ldc2 (v := 6385252) hx hb hown (ht _ wd_1588) dX11_isKept_155 ?_
                                      refine W.lcmp hx hb dX11_isKept_158 ?_
                                      refine lv_topi (fun z72 ez72 => ?_)
                                      refine bs_eq (tgt := 170) (X := (z72).toInt) hx hb dX11_isKept_159 (by decide) rfl (fun c73 => ?_) (fun c73 => ?_)
                                      · have hj74 := lc_eq ez72 (by omega)
                                        refine lv_iconst (v := 1) hx hb dX11_isKept_170 (by decide) ?_
                                        refine lv_goto (tgt := 175) hx hb dX11_isKept_171 (by decide) ?_
                                        refine hret _ _ _ _ _ _ dX11_isKept_175 rfl ?_ hO
                                        exact ⟨Or.inr rfl, rfl⟩
                                      · have hj75 := lc_ne ez72 (by omega)
                                        refine lv_lload_n hx hb dX11_isKept_162 rfl (lv_at hl 1 rfl) ?_
                                        refine lv_ldc2 (v := 7237492) hx hb hown (ht _ wd_1589) dX11_isKept_163 ?_
                                        refine W.lcmp hx hb dX11_isKept_166 ?_
                                        refine lv_topi (fun z76 ez76 => ?_)
                                        refine bs_ne (tgt := 174) (X := (z76).toInt) hx hb dX11_isKept_167 (by decide) rfl (fun c77 => ?_) (fun c77 => ?_)
                                        · have hj78 := lc_ne ez76 (by omega)
                                          refine lv_iconst (v := 0) hx hb dX11_isKept_174 (by decide) ?_
                                          refine hret _ _ _ _ _ _ dX11_isKept_175 rfl ?_ hO
                                          exact ⟨Or.inl rfl, rfl⟩
                                        · have hj79 := lc_eq ez76 (by omega)
                                          refine lv_iconst (v := 1) hx hb dX11_isKept_170 (by decide) ?_
                                          refine lv_goto (tgt := 175) hx hb dX11_isKept_171 (by decide) ?_
                                          refine hret _ _ _ _ _ _ dX11_isKept_175 rfl ?_ hO
                                          exact ⟨Or.inr rfl, rfl⟩
                    · have hj80 := lc_eq ez37 (by omega)
                      refine lv_iconst (v := 1) hx hb dX11_isKept_80 (by decide) ?_
                      refine lv_goto (tgt := 85) hx hb dX11_isKept_81 (by decide) ?_
                      refine lv_istore_n (lv' := [(2, .int 1), (0, .long x1)]) hx hb dX11_isKept_85 rfl hl (by decide) rfl (fun ls hl => ?_)
                      refine lv_iload_n hx hb dX11_isKept_86 rfl (lv_at hl 0 rfl) ?_
                      refine bt_ne (tgt := 170) (X := 1) hx hb dX11_isKept_87 (by decide) rfl (by omega) ?_
                      refine lv_iconst (v := 1) hx hb dX11_isKept_170 (by decide) ?_
                      refine lv_goto (tgt := 175) hx hb dX11_isKept_171 (by decide) ?_
                      refine hret _ _ _ _ _ _ dX11_isKept_175 rfl ?_ hO
                      exact ⟨Or.inr rfl, rfl⟩
theorem dX11_isSign_0 : decode cX11_isSign 0 = .ok (.iload_n 0, 1) := by decide +kernel
theorem dX11_isSign_1 : decode cX11_isSign 1 = .ok (.bipush 59, 2) := by decide +kernel
theorem dX11_isSign_3 : decode cX11_isSign 3 = .ok (.if_icmp .eq 63, 3) := by decide +kernel
theorem dX11_isSign_6 : decode cX11_isSign 6 = .ok (.iload_n 0, 1) := by decide +kernel
theorem dX11_isSign_7 : decode cX11_isSign 7 = .ok (.bipush 40, 2) := by decide +kernel
theorem dX11_isSign_9 : decode cX11_isSign 9 = .ok (.if_icmp .eq 57, 3) := by decide +kernel
theorem dX11_isSign_12 : decode cX11_isSign 12 = .ok (.iload_n 0, 1) := by decide +kernel
theorem dX11_isSign_13 : decode cX11_isSign 13 = .ok (.bipush 41, 2) := by decide +kernel
theorem dX11_isSign_15 : decode cX11_isSign 15 = .ok (.if_icmp .eq 51, 3) := by decide +kernel
theorem dX11_isSign_18 : decode cX11_isSign 18 = .ok (.iload_n 0, 1) := by decide +kernel
theorem dX11_isSign_19 : decode cX11_isSign 19 = .ok (.bipush 60, 2) := by decide +kernel
theorem dX11_isSign_21 : decode cX11_isSign 21 = .ok (.if_icmp .eq 45, 3) := by decide +kernel
theorem dX11_isSign_24 : decode cX11_isSign 24 = .ok (.iload_n 0, 1) := by decide +kernel
theorem dX11_isSign_25 : decode cX11_isSign 25 = .ok (.bipush 62, 2) := by decide +kernel
theorem dX11_isSign_27 : decode cX11_isSign 27 = .ok (.if_icmp .eq 39, 3) := by decide +kernel
theorem dX11_isSign_30 : decode cX11_isSign 30 = .ok (.iload_n 0, 1) := by decide +kernel
theorem dX11_isSign_31 : decode cX11_isSign 31 = .ok (.bipush 61, 2) := by decide +kernel
theorem dX11_isSign_33 : decode cX11_isSign 33 = .ok (.if_icmp .eq 33, 3) := by decide +kernel
theorem dX11_isSign_36 : decode cX11_isSign 36 = .ok (.iload_n 0, 1) := by decide +kernel
theorem dX11_isSign_37 : decode cX11_isSign 37 = .ok (.bipush 43, 2) := by decide +kernel
theorem dX11_isSign_39 : decode cX11_isSign 39 = .ok (.if_icmp .eq 27, 3) := by decide +kernel
theorem dX11_isSign_42 : decode cX11_isSign 42 = .ok (.iload_n 0, 1) := by decide +kernel
theorem dX11_isSign_43 : decode cX11_isSign 43 = .ok (.bipush 45, 2) := by decide +kernel
theorem dX11_isSign_45 : decode cX11_isSign 45 = .ok (.if_icmp .eq 21, 3) := by decide +kernel
theorem dX11_isSign_48 : decode cX11_isSign 48 = .ok (.iload_n 0, 1) := by decide +kernel
theorem dX11_isSign_49 : decode cX11_isSign 49 = .ok (.bipush 42, 2) := by decide +kernel
theorem dX11_isSign_51 : decode cX11_isSign 51 = .ok (.if_icmp .eq 15, 3) := by decide +kernel
theorem dX11_isSign_54 : decode cX11_isSign 54 = .ok (.iload_n 0, 1) := by decide +kernel
theorem dX11_isSign_55 : decode cX11_isSign 55 = .ok (.bipush 47, 2) := by decide +kernel
theorem dX11_isSign_57 : decode cX11_isSign 57 = .ok (.if_icmp .eq 9, 3) := by decide +kernel
theorem dX11_isSign_60 : decode cX11_isSign 60 = .ok (.iload_n 0, 1) := by decide +kernel
theorem dX11_isSign_61 : decode cX11_isSign 61 = .ok (.bipush 37, 2) := by decide +kernel
theorem dX11_isSign_63 : decode cX11_isSign 63 = .ok (.if_icmp .ne 7, 3) := by decide +kernel
theorem dX11_isSign_66 : decode cX11_isSign 66 = .ok (.iconst 1, 1) := by decide +kernel
theorem dX11_isSign_67 : decode cX11_isSign 67 = .ok (.goto 4, 3) := by decide +kernel
theorem dX11_isSign_70 : decode cX11_isSign 70 = .ok (.iconst 0, 1) := by decide +kernel
theorem dX11_isSign_71 : decode cX11_isSign 71 = .ok (.ireturn, 1) := by decide +kernel
theorem wd_1595 : (Cond.code ⟨"WebCourtModel", "isSign", "(I)Z"⟩ prog_13_method_8_code (1 : Nat) (Option.some FieldType.boolean)) ∈ gtb := gtb_c7 46 (by decide +kernel) rfl
set_option maxHeartbeats 4000000 in
set_option maxRecDepth 100000 in
theorem T_X11_isSign (l : Launch) (D : va_G) (cy : Nat → ClassId) (a : Nat → Nat) (u : St) (hJ : MI a u) (x1 : Int32)  : Mi l D cy (mW cy a) yX11_isSign (.code yX11_isSign cX11_isSign 1 (some .boolean)) (rmo 0 0) [.int x1] u (fun (r : Int32) (u' : St) => (r = 0 ∨ r = 1) ∧ (u' = u)) := by
  refine Mi.of (own := RX11) rfl (by decide) (Nat.le_of_ble_eq_true rfl) ?_
  have hT : Km0 u u := Km0.rf
  have hJ0 := hJ
  intro p e s m below meth c A Q ls C hret hO hl
  obtain ⟨hx, hb, hml, hown, ht, hK, hA⟩ := id C
  have hl : lv_has ls 1 [(0, .int x1)] := hl
  refine lv_iload_n hx hb dX11_isSign_0 rfl (lv_at hl 0 rfl) ?_
  refine lv_bipush (v := 59) hx hb dX11_isSign_1 (by decide) ?_
  refine cs_eq (tgt := 66) (X := (x1).toInt) (Y := 59) hx hb dX11_isSign_3 (by decide) rfl rfl (fun c1 => ?_) (fun c1 => ?_)
  · refine lv_iconst (v := 1) hx hb dX11_isSign_66 (by decide) ?_
    refine lv_goto (tgt := 71) hx hb dX11_isSign_67 (by decide) ?_
    refine hret _ _ _ _ _ _ dX11_isSign_71 rfl ?_ hO
    exact ⟨Or.inr rfl, rfl⟩
  · refine lv_iload_n hx hb dX11_isSign_6 rfl (lv_at hl 0 rfl) ?_
    refine lv_bipush (v := 40) hx hb dX11_isSign_7 (by decide) ?_
    refine cs_eq (tgt := 66) (X := (x1).toInt) (Y := 40) hx hb dX11_isSign_9 (by decide) rfl rfl (fun c2 => ?_) (fun c2 => ?_)
    · refine lv_iconst (v := 1) hx hb dX11_isSign_66 (by decide) ?_
      refine lv_goto (tgt := 71) hx hb dX11_isSign_67 (by decide) ?_
      refine hret _ _ _ _ _ _ dX11_isSign_71 rfl ?_ hO
      exact ⟨Or.inr rfl, rfl⟩
    · refine lv_iload_n hx hb dX11_isSign_12 rfl (lv_at hl 0 rfl) ?_
      refine lv_bipush (v := 41) hx hb dX11_isSign_13 (by decide) ?_
      refine cs_eq (tgt := 66) (X := (x1).toInt) (Y := 41) hx hb dX11_isSign_15 (by decide) rfl rfl (fun c3 => ?_) (fun c3 => ?_)
      · refine lv_iconst (v := 1) hx hb dX11_isSign_66 (by decide) ?_
        refine lv_goto (tgt := 71) hx hb dX11_isSign_67 (by decide) ?_
        refine hret _ _ _ _ _ _ dX11_isSign_71 rfl ?_ hO
        exact ⟨Or.inr rfl, rfl⟩
      · refine lv_iload_n hx hb dX11_isSign_18 rfl (lv_at hl 0 rfl) ?_
        refine lv_bipush (v := 60) hx hb dX11_isSign_19 (by decide) ?_
        refine cs_eq (tgt := 66) (X := (x1).toInt) (Y := 60) hx hb dX11_isSign_21 (by decide) rfl rfl (fun c4 => ?_) (fun c4 => ?_)
        · refine lv_iconst (v := 1) hx hb dX11_isSign_66 (by decide) ?_
          refine lv_goto (tgt := 71) hx hb dX11_isSign_67 (by decide) ?_
          refine hret _ _ _ _ _ _ dX11_isSign_71 rfl ?_ hO
          exact ⟨Or.inr rfl, rfl⟩
        · refine lv_iload_n hx hb dX11_isSign_24 rfl (lv_at hl 0 rfl) ?_
          refine lv_bipush (v := 62) hx hb dX11_isSign_25 (by decide) ?_
          refine cs_eq (tgt := 66) (X := (x1).toInt) (Y := 62) hx hb dX11_isSign_27 (by decide) rfl rfl (fun c5 => ?_) (fun c5 => ?_)
          · refine lv_iconst (v := 1) hx hb dX11_isSign_66 (by decide) ?_
            refine lv_goto (tgt := 71) hx hb dX11_isSign_67 (by decide) ?_
            refine hret _ _ _ _ _ _ dX11_isSign_71 rfl ?_ hO
            exact ⟨Or.inr rfl, rfl⟩
          · refine lv_iload_n hx hb dX11_isSign_30 rfl (lv_at hl 0 rfl) ?_
            refine lv_bipush (v := 61) hx hb dX11_isSign_31 (by decide) ?_
            refine cs_eq (tgt := 66) (X := (x1).toInt) (Y := 61) hx hb dX11_isSign_33 (by decide) rfl rfl (fun c6 => ?_) (fun c6 => ?_)
            · refine lv_iconst (v := 1) hx hb dX11_isSign_66 (by decide) ?_
              refine lv_goto (tgt := 71) hx hb dX11_isSign_67 (by decide) ?_
              refine hret _ _ _ _ _ _ dX11_isSign_71 rfl ?_ hO
              exact ⟨Or.inr rfl, rfl⟩
            · refine lv_iload_n hx hb dX11_isSign_36 rfl (lv_at hl 0 rfl) ?_
              refine lv_bipush (v := 43) hx hb dX11_isSign_37 (by decide) ?_
              refine cs_eq (tgt := 66) (X := (x1).toInt) (Y := 43) hx hb dX11_isSign_39 (by decide) rfl rfl (fun c7 => ?_) (fun c7 => ?_)
              · refine lv_iconst (v := 1) hx hb dX11_isSign_66 (by decide) ?_
                refine lv_goto (tgt := 71) hx hb dX11_isSign_67 (by decide) ?_
                refine hret _ _ _ _ _ _ dX11_isSign_71 rfl ?_ hO
                exact ⟨Or.inr rfl, rfl⟩
              · refine lv_iload_n hx hb dX11_isSign_42 rfl (lv_at hl 0 rfl) ?_
                refine lv_bipush (v := 45) hx hb dX11_isSign_43 (by decide) ?_
                refine cs_eq (tgt := 66) (X := (x1).toInt) (Y := 45) hx hb dX11_isSign_45 (by decide) rfl rfl (fun c8 => ?_) (fun c8 => ?_)
                · refine lv_iconst (v := 1) hx hb dX11_isSign_66 (by decide) ?_
                  refine lv_goto (tgt := 71) hx hb dX11_isSign_67 (by decide) ?_
                  refine hret _ _ _ _ _ _ dX11_isSign_71 rfl ?_ hO
                  exact ⟨Or.inr rfl, rfl⟩
                · refine lv_iload_n hx hb dX11_isSign_48 rfl (lv_at hl 0 rfl) ?_
                  refine lv_bipush (v := 42) hx hb dX11_isSign_49 (by decide) ?_
                  refine cs_eq (tgt := 66) (X := (x1).toInt) (Y := 42) hx hb dX11_isSign_51 (by decide) rfl rfl (fun c9 => ?_) (fun c9 => ?_)
                  · refine lv_iconst (v := 1) hx hb dX11_isSign_66 (by decide) ?_
                    refine lv_goto (tgt := 71) hx hb dX11_isSign_67 (by decide) ?_
                    refine hret _ _ _ _ _ _ dX11_isSign_71 rfl ?_ hO
                    exact ⟨Or.inr rfl, rfl⟩
                  · refine lv_iload_n hx hb dX11_isSign_54 rfl (lv_at hl 0 rfl) ?_
                    refine lv_bipush (v := 47) hx hb dX11_isSign_55 (by decide) ?_
                    refine cs_eq (tgt := 66) (X := (x1).toInt) (Y := 47) hx hb dX11_isSign_57 (by decide) rfl rfl (fun c10 => ?_) (fun c10 => ?_)
                    · refine lv_iconst (v := 1) hx hb dX11_isSign_66 (by decide) ?_
                      refine lv_goto (tgt := 71) hx hb dX11_isSign_67 (by decide) ?_
                      refine hret _ _ _ _ _ _ dX11_isSign_71 rfl ?_ hO
                      exact ⟨Or.inr rfl, rfl⟩
                    · refine lv_iload_n hx hb dX11_isSign_60 rfl (lv_at hl 0 rfl) ?_
                      refine lv_bipush (v := 37) hx hb dX11_isSign_61 (by decide) ?_
                      refine cs_ne (tgt := 70) (X := (x1).toInt) (Y := 37) hx hb dX11_isSign_63 (by decide) rfl rfl (fun c11 => ?_) (fun c11 => ?_)
                      · refine lv_iconst (v := 0) hx hb dX11_isSign_70 (by decide) ?_
                        refine hret _ _ _ _ _ _ dX11_isSign_71 rfl ?_ hO
                        exact ⟨Or.inl rfl, rfl⟩
                      · refine lv_iconst (v := 1) hx hb dX11_isSign_66 (by decide) ?_
                        refine lv_goto (tgt := 71) hx hb dX11_isSign_67 (by decide) ?_
                        refine hret _ _ _ _ _ _ dX11_isSign_71 rfl ?_ hO
                        exact ⟨Or.inr rfl, rfl⟩
def Km25 (u v : St) : Prop := fI v 0 2 = fI u 0 2 ∧ fI v 0 3 = fI u 0 3 ∧ fI v 0 6 = fI u 0 6 ∧ fI v 0 7 = fI u 0 7 ∧ fI v 0 8 = fI u 0 8 ∧ fI v 0 9 = fI u 0 9 ∧ fL v 0 10 = fL u 0 10 ∧ fI v 0 36 = fI u 0 36 ∧ fI v 0 37 = fI u 0 37 ∧ fI v 0 38 = fI u 0 38 ∧ fI v 0 39 = fI u 0 39 ∧ fI v 0 40 = fI u 0 40 ∧ fI v 0 41 = fI u 0 41 ∧ fI v 0 42 = fI u 0 42 ∧ fI v 0 43 = fI u 0 43 ∧ fI v 0 45 = fI u 0 45 ∧ fI v 0 47 = fI u 0 47 ∧ fI v 0 48 = fI u 0 48 ∧ fI v 0 50 = fI u 0 50 ∧ fI v 0 61 = fI u 0 61 ∧ fI v 0 62 = fI u 0 62 ∧ fA v 1 = fA u 1 ∧ fA v 2 = fA u 2 ∧ fA v 3 = fA u 3 ∧ fA v 4 = fA u 4 ∧ fA v 5 = fA u 5 ∧ fA v 6 = fA u 6 ∧ fA v 7 = fA u 7 ∧ fA v 8 = fA u 8 ∧ fA v 9 = fA u 9 ∧ fA v 10 = fA u 10 ∧ fA v 11 = fA u 11 ∧ fA v 12 = fA u 12 ∧ fA v 13 = fA u 13 ∧ fA v 14 = fA u 14 ∧ fA v 15 = fA u 15 ∧ fA v 16 = fA u 16 ∧ fA v 17 = fA u 17 ∧ fA v 18 = fA u 18 ∧ fA v 19 = fA u 19 ∧ fJ v 20 = fJ u 20 ∧ fJ v 21 = fJ u 21 ∧ fJ v 22 = fJ u 22 ∧ fA v 23 = fA u 23 ∧ fA v 24 = fA u 24 ∧ fA v 25 = fA u 25 ∧ fA v 26 = fA u 26 ∧ fA v 27 = fA u 27 ∧ fA v 28 = fA u 28 ∧ fA v 29 = fA u 29 ∧ fA v 30 = fA u 30 ∧ fA v 31 = fA u 31 ∧ fA v 32 = fA u 32 ∧ fA v 33 = fA u 33 ∧ fA v 34 = fA u 34 ∧ fA v 35 = fA u 35 ∧ fA v 36 = fA u 36 ∧ fA v 37 = fA u 37 ∧ fA v 38 = fA u 38 ∧ fA v 39 = fA u 39 ∧ fA v 40 = fA u 40 ∧ fA v 41 = fA u 41 ∧ fA v 42 = fA u 42
theorem Km25.rf {u : St} : Km25 u u := ⟨rfl, rfl, rfl, rfl, rfl, rfl, rfl, rfl, rfl, rfl, rfl, rfl, rfl, rfl, rfl, rfl, rfl, rfl, rfl, rfl, rfl, rfl, rfl, rfl, rfl, rfl, rfl, rfl, rfl, rfl, rfl, rfl, rfl, rfl, rfl, rfl, rfl, rfl, rfl, rfl, rfl, rfl, rfl, rfl, rfl, rfl, rfl, rfl, rfl, rfl, rfl, rfl, rfl, rfl, rfl, rfl, rfl, rfl, rfl, rfl, rfl, rfl, rfl⟩
theorem Km25.tr {u v w : St} (h1 : Km25 u v) (h2 : Km25 v w) : Km25 u w := ⟨(h2.1).trans h1.1, (h2.2.1).trans h1.2.1, (h2.2.2.1).trans h1.2.2.1, (h2.2.2.2.1).trans h1.2.2.2.1, (h2.2.2.2.2.1).trans h1.2.2.2.2.1, (h2.2.2.2.2.2.1).trans h1.2.2.2.2.2.1, (h2.2.2.2.2.2.2.1).trans h1.2.2.2.2.2.2.1, (h2.2.2.2.2.2.2.2.1).trans h1.2.2.2.2.2.2.2.1, (h2.2.2.2.2.2.2.2.2.1).trans h1.2.2.2.2.2.2.2.2.1, (h2.2.2.2.2.2.2.2.2.2.1).trans h1.2.2.2.2.2.2.2.2.2.1, (h2.2.2.2.2.2.2.2.2.2.2.1).trans h1.2.2.2.2.2.2.2.2.2.2.1, (h2.2.2.2.2.2.2.2.2.2.2.2.1).trans h1.2.2.2.2.2.2.2.2.2.2.2.1, (h2.2.2.2.2.2.2.2.2.2.2.2.2.1).trans h1.2.2.2.2.2.2.2.2.2.2.2.2.1, (h2.2.2.2.2.2.2.2.2.2.2.2.2.2.1).trans h1.2.2.2.2.2.2.2.2.2.2.2.2.2.1, (h2.2.2.2.2.2.2.2.2.2.2.2.2.2.2.1).trans h1.2.2.2.2.2.2.2.2.2.2.2.2.2.2.1, (h2.2.2.2.2.2.2.2.2.2.2.2.2.2.2.2.1).trans h1.2.2.2.2.2.2.2.2.2.2.2.2.2.2.2.1, (h2.2.2.2.2.2.2.2.2.2.2.2.2.2.2.2.2.1).trans h1.2.2.2.2.2.2.2.2.2.2.2.2.2.2.2.2.1, (h2.2.2.2.2.2.2.2.2.2.2.2.2.2.2.2.2.2.1).trans h1.2.2.2.2.2.2.2.2.2.2.2.2.2.2.2.2.2.1, (h2.2.2.2.2.2.2.2.2.2.2.2.2.2.2.2.2.2.2.1).trans h1.2.2.2.2.2.2.2.2.2.2.2.2.2.2.2.2.2.2.1, (h2.2.2.2.2.2.2.2.2.2.2.2.2.2.2.2.2.2.2.2.1).trans h1.2.2.2.2.2.2.2.2.2.2.2.2.2.2.2.2.2.2.2.1, (h2.2.2.2.2.2.2.2.2.2.2.2.2.2.2.2.2.2.2.2.2.1).trans h1.2.2.2.2.2.2.2.2.2.2.2.2.2.2.2.2.2.2.2.2.1, (h2.2.2.2.2.2.2.2.2.2.2.2.2.2.2.2.2.2.2.2.2.2.1).trans h1.2.2.2.2.2.2.2.2.2.2.2.2.2.2.2.2.2.2.2.2.2.1, (h2.2.2.2.2.2.2.2.2.2.2.2.2.2.2.2.2.2.2.2.2.2.2.1).trans h1.2.2.2.2.2.2.2.2.2.2.2.2.2.2.2.2.2.2.2.2.2.2.1, (h2.2.2.2.2.2.2.2.2.2.2.2.2.2.2.2.2.2.2.2.2.2.2.2.1).trans h1.2.2.2.2.2.2.2.2.2.2.2.2.2.2.2.2.2.2.2.2.2.2.2.1, (h2.2.2.2.2.2.2.2.2.2.2.2.2.2.2.2.2.2.2.2.2.2.2.2.2.1).trans h1.2.2.2.2.2.2.2.2.2.2.2.2.2.2.2.2.2.2.2.2.2.2.2.2.1, (h2.2.2.2.2.2.2.2.2.2.2.2.2.2.2.2.2.2.2.2.2.2.2.2.2.2.1).trans h1.2.2.2.2.2.2.2.2.2.2.2.2.2.2.2.2.2.2.2.2.2.2.2.2.2.1, (h2.2.2.2.2.2.2.2.2.2.2.2.2.2.2.2.2.2.2.2.2.2.2.2.2.2.2.1).trans h1.2.2.2.2.2.2.2.2.2.2.2.2.2.2.2.2.2.2.2.2.2.2.2.2.2.2.1, (h2.2.2.2.2.2.2.2.2.2.2.2.2.2.2.2.2.2.2.2.2.2.2.2.2.2.2.2.1).trans h1.2.2.2.2.2.2.2.2.2.2.2.2.2.2.2.2.2.2.2.2.2.2.2.2.2.2.2.1, (h2.2.2.2.2.2.2.2.2.2.2.2.2.2.2.2.2.2.2.2.2.2.2.2.2.2.2.2.2.1).trans h1.2.2.2.2.2.2.2.2.2.2.2.2.2.2.2.2.2.2.2.2.2.2.2.2.2.2.2.2.1, (h2.2.2.2.2.2.2.2.2.2.2.2.2.2.2.2.2.2.2.2.2.2.2.2.2.2.2.2.2.2.1).trans h1.2.2.2.2.2.2.2.2.2.2.2.2.2.2.2.2.2.2.2.2.2.2.2.2.2.2.2.2.2.1, (h2.2.2.2.2.2.2.2.2.2.2.2.2.2.2.2.2.2.2.2.2.2.2.2.2.2.2.2.2.2.2.1).trans h1.2.2.2.2.2.2.2.2.2.2.2.2.2.2.2.2.2.2.2.2.2.2.2.2.2.2.2.2.2.2.1, (h2.2.2.2.2.2.2.2.2.2.2.2.2.2.2.2.2.2.2.2.2.2.2.2.2.2.2.2.2.2.2.2.1).trans h1.2.2.2.2.2.2.2.2.2.2.2.2.2.2.2.2.2.2.2.2.2.2.2.2.2.2.2.2.2.2.2.1, (h2.2.2.2.2.2.2.2.2.2.2.2.2.2.2.2.2.2.2.2.2.2.2.2.2.2.2.2.2.2.2.2.2.1).trans h1.2.2.2.2.2.2.2.2.2.2.2.2.2.2.2.2.2.2.2.2.2.2.2.2.2.2.2.2.2.2.2.2.1, (h2.2.2.2.2.2.2.2.2.2.2.2.2.2.2.2.2.2.2.2.2.2.2.2.2.2.2.2.2.2.2.2.2.2.1).trans h1.2.2.2.2.2.2.2.2.2.2.2.2.2.2.2.2.2.2.2.2.2.2.2.2.2.2.2.2.2.2.2.2.2.1, (h2.2.2.2.2.2.2.2.2.2.2.2.2.2.2.2.2.2.2.2.2.2.2.2.2.2.2.2.2.2.2.2.2.2.2.1).trans h1.2.2.2.2.2.2.2.2.2.2.2.2.2.2.2.2.2.2.2.2.2.2.2.2.2.2.2.2.2.2.2.2.2.2.1, (h2.2.2.2.2.2.2.2.2.2.2.2.2.2.2.2.2.2.2.2.2.2.2.2.2.2.2.2.2.2.2.2.2.2.2.2.1).trans h1.2.2.2.2.2.2.2.2.2.2.2.2.2.2.2.2.2.2.2.2.2.2.2.2.2.2.2.2.2.2.2.2.2.2.2.1, (h2.2.2.2.2.2.2.2.2.2.2.2.2.2.2.2.2.2.2.2.2.2.2.2.2.2.2.2.2.2.2.2.2.2.2.2.2.1).trans h1.2.2.2.2.2.2.2.2.2.2.2.2.2.2.2.2.2.2.2.2.2.2.2.2.2.2.2.2.2.2.2.2.2.2.2.2.1, (h2.2.2.2.2.2.2.2.2.2.2.2.2.2.2.2.2.2.2.2.2.2.2.2.2.2.2.2.2.2.2.2.2.2.2.2.2.2.1).trans h1.2.2.2.2.2.2.2.2.2.2.2.2.2.2.2.2.2.2.2.2.2.2.2.2.2.2.2.2.2.2.2.2.2.2.2.2.2.1, (h2.2.2.2.2.2.2.2.2.2.2.2.2.2.2.2.2.2.2.2.2.2.2.2.2.2.2.2.2.2.2.2.2.2.2.2.2.2.2.1).trans h1.2.2.2.2.2.2.2.2.2.2.2.2.2.2.2.2.2.2.2.2.2.2.2.2.2.2.2.2.2.2.2.2.2.2.2.2.2.2.1, (h2.2.2.2.2.2.2.2.2.2.2.2.2.2.2.2.2.2.2.2.2.2.2.2.2.2.2.2.2.2.2.2.2.2.2.2.2.2.2.2.1).trans h1.2.2.2.2.2.2.2.2.2.2.2.2.2.2.2.2.2.2.2.2.2.2.2.2.2.2.2.2.2.2.2.2.2.2.2.2.2.2.2.1, (h2.2.2.2.2.2.2.2.2.2.2.2.2.2.2.2.2.2.2.2.2.2.2.2.2.2.2.2.2.2.2.2.2.2.2.2.2.2.2.2.2.1).trans h1.2.2.2.2.2.2.2.2.2.2.2.2.2.2.2.2.2.2.2.2.2.2.2.2.2.2.2.2.2.2.2.2.2.2.2.2.2.2.2.2.1, (h2.2.2.2.2.2.2.2.2.2.2.2.2.2.2.2.2.2.2.2.2.2.2.2.2.2.2.2.2.2.2.2.2.2.2.2.2.2.2.2.2.2.1).trans h1.2.2.2.2.2.2.2.2.2.2.2.2.2.2.2.2.2.2.2.2.2.2.2.2.2.2.2.2.2.2.2.2.2.2.2.2.2.2.2.2.2.1, (h2.2.2.2.2.2.2.2.2.2.2.2.2.2.2.2.2.2.2.2.2.2.2.2.2.2.2.2.2.2.2.2.2.2.2.2.2.2.2.2.2.2.2.1).trans h1.2.2.2.2.2.2.2.2.2.2.2.2.2.2.2.2.2.2.2.2.2.2.2.2.2.2.2.2.2.2.2.2.2.2.2.2.2.2.2.2.2.2.1, (h2.2.2.2.2.2.2.2.2.2.2.2.2.2.2.2.2.2.2.2.2.2.2.2.2.2.2.2.2.2.2.2.2.2.2.2.2.2.2.2.2.2.2.2.1).trans h1.2.2.2.2.2.2.2.2.2.2.2.2.2.2.2.2.2.2.2.2.2.2.2.2.2.2.2.2.2.2.2.2.2.2.2.2.2.2.2.2.2.2.2.1, (h2.2.2.2.2.2.2.2.2.2.2.2.2.2.2.2.2.2.2.2.2.2.2.2.2.2.2.2.2.2.2.2.2.2.2.2.2.2.2.2.2.2.2.2.2.1).trans h1.2.2.2.2.2.2.2.2.2.2.2.2.2.2.2.2.2.2.2.2.2.2.2.2.2.2.2.2.2.2.2.2.2.2.2.2.2.2.2.2.2.2.2.2.1, (h2.2.2.2.2.2.2.2.2.2.2.2.2.2.2.2.2.2.2.2.2.2.2.2.2.2.2.2.2.2.2.2.2.2.2.2.2.2.2.2.2.2.2.2.2.2.1).trans h1.2.2.2.2.2.2.2.2.2.2.2.2.2.2.2.2.2.2.2.2.2.2.2.2.2.2.2.2.2.2.2.2.2.2.2.2.2.2.2.2.2.2.2.2.2.1, (h2.2.2.2.2.2.2.2.2.2.2.2.2.2.2.2.2.2.2.2.2.2.2.2.2.2.2.2.2.2.2.2.2.2.2.2.2.2.2.2.2.2.2.2.2.2.2.1).trans h1.2.2.2.2.2.2.2.2.2.2.2.2.2.2.2.2.2.2.2.2.2.2.2.2.2.2.2.2.2.2.2.2.2.2.2.2.2.2.2.2.2.2.2.2.2.2.1, (h2.2.2.2.2.2.2.2.2.2.2.2.2.2.2.2.2.2.2.2.2.2.2.2.2.2.2.2.2.2.2.2.2.2.2.2.2.2.2.2.2.2.2.2.2.2.2.2.1).trans h1.2.2.2.2.2.2.2.2.2.2.2.2.2.2.2.2.2.2.2.2.2.2.2.2.2.2.2.2.2.2.2.2.2.2.2.2.2.2.2.2.2.2.2.2.2.2.2.1, (h2.2.2.2.2.2.2.2.2.2.2.2.2.2.2.2.2.2.2.2.2.2.2.2.2.2.2.2.2.2.2.2.2.2.2.2.2.2.2.2.2.2.2.2.2.2.2.2.2.1).trans h1.2.2.2.2.2.2.2.2.2.2.2.2.2.2.2.2.2.2.2.2.2.2.2.2.2.2.2.2.2.2.2.2.2.2.2.2.2.2.2.2.2.2.2.2.2.2.2.2.1, (h2.2.2.2.2.2.2.2.2.2.2.2.2.2.2.2.2.2.2.2.2.2.2.2.2.2.2.2.2.2.2.2.2.2.2.2.2.2.2.2.2.2.2.2.2.2.2.2.2.2.1).trans h1.2.2.2.2.2.2.2.2.2.2.2.2.2.2.2.2.2.2.2.2.2.2.2.2.2.2.2.2.2.2.2.2.2.2.2.2.2.2.2.2.2.2.2.2.2.2.2.2.2.1, (h2.2.2.2.2.2.2.2.2.2.2.2.2.2.2.2.2.2.2.2.2.2.2.2.2.2.2.2.2.2.2.2.2.2.2.2.2.2.2.2.2.2.2.2.2.2.2.2.2.2.2.1).trans h1.2.2.2.2.2.2.2.2.2.2.2.2.2.2.2.2.2.2.2.2.2.2.2.2.2.2.2.2.2.2.2.2.2.2.2.2.2.2.2.2.2.2.2.2.2.2.2.2.2.2.1, (h2.2.2.2.2.2.2.2.2.2.2.2.2.2.2.2.2.2.2.2.2.2.2.2.2.2.2.2.2.2.2.2.2.2.2.2.2.2.2.2.2.2.2.2.2.2.2.2.2.2.2.2.1).trans h1.2.2.2.2.2.2.2.2.2.2.2.2.2.2.2.2.2.2.2.2.2.2.2.2.2.2.2.2.2.2.2.2.2.2.2.2.2.2.2.2.2.2.2.2.2.2.2.2.2.2.2.1, (h2.2.2.2.2.2.2.2.2.2.2.2.2.2.2.2.2.2.2.2.2.2.2.2.2.2.2.2.2.2.2.2.2.2.2.2.2.2.2.2.2.2.2.2.2.2.2.2.2.2.2.2.2.1).trans h1.2.2.2.2.2.2.2.2.2.2.2.2.2.2.2.2.2.2.2.2.2.2.2.2.2.2.2.2.2.2.2.2.2.2.2.2.2.2.2.2.2.2.2.2.2.2.2.2.2.2.2.2.1, (h2.2.2.2.2.2.2.2.2.2.2.2.2.2.2.2.2.2.2.2.2.2.2.2.2.2.2.2.2.2.2.2.2.2.2.2.2.2.2.2.2.2.2.2.2.2.2.2.2.2.2.2.2.2.1).trans h1.2.2.2.2.2.2.2.2.2.2.2.2.2.2.2.2.2.2.2.2.2.2.2.2.2.2.2.2.2.2.2.2.2.2.2.2.2.2.2.2.2.2.2.2.2.2.2.2.2.2.2.2.2.1, (h2.2.2.2.2.2.2.2.2.2.2.2.2.2.2.2.2.2.2.2.2.2.2.2.2.2.2.2.2.2.2.2.2.2.2.2.2.2.2.2.2.2.2.2.2.2.2.2.2.2.2.2.2.2.2.1).trans h1.2.2.2.2.2.2.2.2.2.2.2.2.2.2.2.2.2.2.2.2.2.2.2.2.2.2.2.2.2.2.2.2.2.2.2.2.2.2.2.2.2.2.2.2.2.2.2.2.2.2.2.2.2.2.1, (h2.2.2.2.2.2.2.2.2.2.2.2.2.2.2.2.2.2.2.2.2.2.2.2.2.2.2.2.2.2.2.2.2.2.2.2.2.2.2.2.2.2.2.2.2.2.2.2.2.2.2.2.2.2.2.2.1).trans h1.2.2.2.2.2.2.2.2.2.2.2.2.2.2.2.2.2.2.2.2.2.2.2.2.2.2.2.2.2.2.2.2.2.2.2.2.2.2.2.2.2.2.2.2.2.2.2.2.2.2.2.2.2.2.2.1, (h2.2.2.2.2.2.2.2.2.2.2.2.2.2.2.2.2.2.2.2.2.2.2.2.2.2.2.2.2.2.2.2.2.2.2.2.2.2.2.2.2.2.2.2.2.2.2.2.2.2.2.2.2.2.2.2.2.1).trans h1.2.2.2.2.2.2.2.2.2.2.2.2.2.2.2.2.2.2.2.2.2.2.2.2.2.2.2.2.2.2.2.2.2.2.2.2.2.2.2.2.2.2.2.2.2.2.2.2.2.2.2.2.2.2.2.2.1, (h2.2.2.2.2.2.2.2.2.2.2.2.2.2.2.2.2.2.2.2.2.2.2.2.2.2.2.2.2.2.2.2.2.2.2.2.2.2.2.2.2.2.2.2.2.2.2.2.2.2.2.2.2.2.2.2.2.2.1).trans h1.2.2.2.2.2.2.2.2.2.2.2.2.2.2.2.2.2.2.2.2.2.2.2.2.2.2.2.2.2.2.2.2.2.2.2.2.2.2.2.2.2.2.2.2.2.2.2.2.2.2.2.2.2.2.2.2.2.1, (h2.2.2.2.2.2.2.2.2.2.2.2.2.2.2.2.2.2.2.2.2.2.2.2.2.2.2.2.2.2.2.2.2.2.2.2.2.2.2.2.2.2.2.2.2.2.2.2.2.2.2.2.2.2.2.2.2.2.2.1).trans h1.2.2.2.2.2.2.2.2.2.2.2.2.2.2.2.2.2.2.2.2.2.2.2.2.2.2.2.2.2.2.2.2.2.2.2.2.2.2.2.2.2.2.2.2.2.2.2.2.2.2.2.2.2.2.2.2.2.2.1, (h2.2.2.2.2.2.2.2.2.2.2.2.2.2.2.2.2.2.2.2.2.2.2.2.2.2.2.2.2.2.2.2.2.2.2.2.2.2.2.2.2.2.2.2.2.2.2.2.2.2.2.2.2.2.2.2.2.2.2.2.1).trans h1.2.2.2.2.2.2.2.2.2.2.2.2.2.2.2.2.2.2.2.2.2.2.2.2.2.2.2.2.2.2.2.2.2.2.2.2.2.2.2.2.2.2.2.2.2.2.2.2.2.2.2.2.2.2.2.2.2.2.2.1, (h2.2.2.2.2.2.2.2.2.2.2.2.2.2.2.2.2.2.2.2.2.2.2.2.2.2.2.2.2.2.2.2.2.2.2.2.2.2.2.2.2.2.2.2.2.2.2.2.2.2.2.2.2.2.2.2.2.2.2.2.2.1).trans h1.2.2.2.2.2.2.2.2.2.2.2.2.2.2.2.2.2.2.2.2.2.2.2.2.2.2.2.2.2.2.2.2.2.2.2.2.2.2.2.2.2.2.2.2.2.2.2.2.2.2.2.2.2.2.2.2.2.2.2.2.1, (h2.2.2.2.2.2.2.2.2.2.2.2.2.2.2.2.2.2.2.2.2.2.2.2.2.2.2.2.2.2.2.2.2.2.2.2.2.2.2.2.2.2.2.2.2.2.2.2.2.2.2.2.2.2.2.2.2.2.2.2.2.2.1).trans h1.2.2.2.2.2.2.2.2.2.2.2.2.2.2.2.2.2.2.2.2.2.2.2.2.2.2.2.2.2.2.2.2.2.2.2.2.2.2.2.2.2.2.2.2.2.2.2.2.2.2.2.2.2.2.2.2.2.2.2.2.2.1, (h2.2.2.2.2.2.2.2.2.2.2.2.2.2.2.2.2.2.2.2.2.2.2.2.2.2.2.2.2.2.2.2.2.2.2.2.2.2.2.2.2.2.2.2.2.2.2.2.2.2.2.2.2.2.2.2.2.2.2.2.2.2.2).trans h1.2.2.2.2.2.2.2.2.2.2.2.2.2.2.2.2.2.2.2.2.2.2.2.2.2.2.2.2.2.2.2.2.2.2.2.2.2.2.2.2.2.2.2.2.2.2.2.2.2.2.2.2.2.2.2.2.2.2.2.2.2.2⟩
theorem dX11_fails_0 : decode cX11_fails 0 = .ok (.aload_n 0, 1) := by decide +kernel
theorem dX11_fails_1 : decode cX11_fails 1 = .ok (.getfield 155, 3) := by decide +kernel
theorem dX11_fails_4 : decode cX11_fails 4 = .ok (.ifCond .le 4, 3) := by decide +kernel
theorem dX11_fails_7 : decode cX11_fails 7 = .ok (.return_, 1) := by decide +kernel
theorem dX11_fails_8 : decode cX11_fails 8 = .ok (.aload_n 0, 1) := by decide +kernel
theorem dX11_fails_9 : decode cX11_fails 9 = .ok (.iload_n 1, 1) := by decide +kernel
theorem dX11_fails_10 : decode cX11_fails 10 = .ok (.putfield 155, 3) := by decide +kernel
theorem dX11_fails_13 : decode cX11_fails 13 = .ok (.aload_n 0, 1) := by decide +kernel
theorem dX11_fails_14 : decode cX11_fails 14 = .ok (.iload_n 2, 1) := by decide +kernel
theorem dX11_fails_15 : decode cX11_fails 15 = .ok (.putfield 16, 3) := by decide +kernel
theorem dX11_fails_18 : decode cX11_fails 18 = .ok (.return_, 1) := by decide +kernel
theorem wd_1622 : (Cond.code ⟨"WebCourtModel", "fails", "(II)V"⟩ prog_13_method_5_code (3 : Nat) (Option.none : Option FieldType)) ∈ gtb := gtb_c7 73 (by decide +kernel) rfl
theorem pf_RX11_155 {p : Program} {l : Launch} {e : Env} {R : Room} {s : State} {m : MethodId} {args : Array Value} {below : List Frame} {meth : Method} {c : Code} {H : Heap} {locs : List Loc} {cells slots : Nat} {Q : State → Prop} {cc : ByteArray} {pc nL : Nat} {ls : Array Slot} {rest : List Value} {D : va_G} {cy : Nat → ClassId} {A : Nat → Prop} {ws : va_W} {b : Nat} {fs : List Value} {v : Int32} {ws' : va_W} (C : Cx p s m args c cc nL RX11 D cy A) (hO : Wo D A ws s.heap H locs) (q0 : Nat) (he : ws[q0]? = some (b, .inr (11, fs))) (hlen : 4 < fs.length) (hw : ws.set q0 (b, .inr (11, fs.set 4 (.int v))) = ws') (hdg : decode cc pc = .ok (.putfield 155, 3)) (kk : ∀ (H : Heap) (locs : List Loc), Wo D A ws' s.heap H locs → W p l e R s m args below meth c H locs cells slots Q (F0 m (pc + 3) ls rest)) : W p l e R s m args below meth c H locs cells slots Q (F0 m pc ls (.int v :: .ref b :: rest)) := pF (k := 4) (ty := .int) C hO q0 he rfl inFX11 (by decide) wd_1360 rfl tyX11 tyX11_ok nmX11 rfl (by decide +kernel) rfl rfl hlen hw hdg kk
theorem pf_RX11_16 {p : Program} {l : Launch} {e : Env} {R : Room} {s : State} {m : MethodId} {args : Array Value} {below : List Frame} {meth : Method} {c : Code} {H : Heap} {locs : List Loc} {cells slots : Nat} {Q : State → Prop} {cc : ByteArray} {pc nL : Nat} {ls : Array Slot} {rest : List Value} {D : va_G} {cy : Nat → ClassId} {A : Nat → Prop} {ws : va_W} {b : Nat} {fs : List Value} {v : Int32} {ws' : va_W} (C : Cx p s m args c cc nL RX11 D cy A) (hO : Wo D A ws s.heap H locs) (q0 : Nat) (he : ws[q0]? = some (b, .inr (11, fs))) (hlen : 5 < fs.length) (hw : ws.set q0 (b, .inr (11, fs.set 5 (.int v))) = ws') (hdg : decode cc pc = .ok (.putfield 16, 3)) (kk : ∀ (H : Heap) (locs : List Loc), Wo D A ws' s.heap H locs → W p l e R s m args below meth c H locs cells slots Q (F0 m (pc + 3) ls rest)) : W p l e R s m args below meth c H locs cells slots Q (F0 m pc ls (.int v :: .ref b :: rest)) := pF (k := 5) (ty := .int) C hO q0 he rfl inFX11 (by decide) wd_1361 rfl tyX11 tyX11_ok nmX11 rfl (by decide +kernel) rfl rfl hlen hw hdg kk
set_option maxHeartbeats 4000000 in
set_option maxRecDepth 100000 in
theorem T_X11_fails (l : Launch) (D : va_G) (cy : Nat → ClassId) (a : Nat → Nat) (u : St) (hJ : MI a u) (x1 : Int32) (x2 : Int32) (hx_x1 : 1 ≤ x1.toInt ∧ x1.toInt ≤ 5) : Mv l D cy (mW cy a) yX11_fails (.code yX11_fails cX11_fails 3 none) (rmo 0 0) [.ref (a 0), .int x1, .int x2] u (fun (u' : St) => (MI a u') ∧ (Km25 u u') ∧ (¬ (fI u' 0 4).toInt = 0)) := by
  refine Mv.of (own := RX11) rfl (by decide) (Nat.le_of_ble_eq_true rfl) ?_
  have hT : Km25 u u := Km25.rf
  have hJ0 := hJ
  intro p e s m below meth c A Q ls C hret hO hl
  obtain ⟨hx, hb, hml, hown, ht, hK, hA⟩ := id C
  have hl : lv_has ls 3 [(0, .ref (a 0)), (1, .int x1), (2, .int x2)] := hl
  refine lv_aload_n hx hb dX11_fails_0 rfl (lv_at hl 0 rfl) ?_
  have g1 : 0 ≤ (fI u 0 4).toInt ∧ (fI u 0 4).toInt ≤ 5 := by have h := MI_4 hJ0; exact h
  refine gf_RX11_155 (v := .int (fI u 0 4)) C hO 0 mW_0 rfl dX11_fails_1 ?_
  refine bs_le (tgt := 8) (X := ((fI u 0 4)).toInt) hx hb dX11_fails_4 (by decide) rfl (fun c2 => ?_) (fun c2 => ?_)
  · refine lv_aload_n hx hb dX11_fails_8 rfl (lv_at hl 0 rfl) ?_
    refine lv_iload_n hx hb dX11_fails_9 rfl (lv_at hl 1 rfl) ?_
    refine pf_RX11_155 C hO 0 mW_0 (Nat.le_of_ble_eq_true rfl) mW_s0_4 dX11_fails_10 (fun H locs hO => ?_)
    have hJ := MIs_4 (v := x1) hJ (by first | decide | omega)
    refine lv_aload_n hx hb dX11_fails_13 rfl (lv_at hl 0 rfl) ?_
    refine lv_iload_n hx hb dX11_fails_14 rfl (lv_at hl 2 rfl) ?_
    refine pf_RX11_16 C hO 0 mW_0 (Nat.le_of_ble_eq_true rfl) mW_s0_5 dX11_fails_15 (fun H locs hO => ?_)
    have hJ := MIs_5 (v := x2) hJ
    have q3 : ¬ (x1 : Int32).toInt = 0 := by first | omega | decide
    refine hret _ _ _ _ _ dX11_fails_18 ?_ hO
    exact ⟨hJ, hT, q3⟩
  · have q4 : ¬ ((fI u 0 4) : Int32).toInt = 0 := by first | omega | decide
    refine hret _ _ _ _ _ dX11_fails_7 ?_ hO
    exact ⟨hJ, hT, q4⟩
theorem dX11_misplaced_0 : decode cX11_misplaced 0 = .ok (.aload_n 0, 1) := by decide +kernel
theorem dX11_misplaced_1 : decode cX11_misplaced 1 = .ok (.aload_n 0, 1) := by decide +kernel
theorem dX11_misplaced_2 : decode cX11_misplaced 2 = .ok (.getfield 208, 3) := by decide +kernel
theorem dX11_misplaced_5 : decode cX11_misplaced 5 = .ok (.iconst 1, 1) := by decide +kernel
theorem dX11_misplaced_6 : decode cX11_misplaced 6 = .ok (.if_icmp .ne 7, 3) := by decide +kernel
theorem dX11_misplaced_9 : decode cX11_misplaced 9 = .ok (.iconst 1, 1) := by decide +kernel
theorem dX11_misplaced_10 : decode cX11_misplaced 10 = .ok (.goto 4, 3) := by decide +kernel
theorem dX11_misplaced_13 : decode cX11_misplaced 13 = .ok (.iconst 2, 1) := by decide +kernel
theorem dX11_misplaced_14 : decode cX11_misplaced 14 = .ok (.aload_n 0, 1) := by decide +kernel
theorem dX11_misplaced_15 : decode cX11_misplaced 15 = .ok (.getfield 201, 3) := by decide +kernel
theorem dX11_misplaced_18 : decode cX11_misplaced 18 = .ok (.invokevirtual 232, 3) := by decide +kernel
theorem dX11_misplaced_21 : decode cX11_misplaced 21 = .ok (.return_, 1) := by decide +kernel
theorem wd_1618 : (Cond.code ⟨"WebCourtModel", "misplaced", "()V"⟩ prog_13_method_12_code (1 : Nat) (Option.none : Option FieldType)) ∈ gtb := gtb_c7 69 (by decide +kernel) rfl
theorem wd_1364 : (Cond.fieldLink "WebCourtModel" (208 : Nat) "WebCourtModel" "token" "I") ∈ gtb := gtb_c6 55 (by decide +kernel) rfl
theorem gf_RX11_208 {p : Program} {l : Launch} {e : Env} {R : Room} {s : State} {m : MethodId} {args : Array Value} {below : List Frame} {meth : Method} {c : Code} {H : Heap} {locs : List Loc} {cells slots : Nat} {Q : State → Prop} {cc : ByteArray} {pc nL : Nat} {ls : Array Slot} {rest : List Value} {D : va_G} {cy : Nat → ClassId} {A : Nat → Prop} {ws : va_W} {b : Nat} {fs : List Value} {v : Value} (C : Cx p s m args c cc nL RX11 D cy A) (hO : Wo D A ws s.heap H locs) (q0 : Nat) (he : ws[q0]? = some (b, .inr (11, fs))) (hv : fs[8]? = some v) (hdg : decode cc pc = .ok (.getfield 208, 3)) (kk : W p l e R s m args below meth c H locs cells slots Q (F0 m (pc + 3) ls (v :: rest))) : W p l e R s m args below meth c H locs cells slots Q (F0 m pc ls (.ref b :: rest)) := gF (k := 8) C hO q0 he rfl inFX11 (by decide) wd_1364 rfl hv hdg kk
theorem wd_1362 : (Cond.fieldLink "WebCourtModel" (201 : Nat) "WebCourtModel" "at" "I") ∈ gtb := gtb_c6 53 (by decide +kernel) rfl
theorem gf_RX11_201 {p : Program} {l : Launch} {e : Env} {R : Room} {s : State} {m : MethodId} {args : Array Value} {below : List Frame} {meth : Method} {c : Code} {H : Heap} {locs : List Loc} {cells slots : Nat} {Q : State → Prop} {cc : ByteArray} {pc nL : Nat} {ls : Array Slot} {rest : List Value} {D : va_G} {cy : Nat → ClassId} {A : Nat → Prop} {ws : va_W} {b : Nat} {fs : List Value} {v : Value} (C : Cx p s m args c cc nL RX11 D cy A) (hO : Wo D A ws s.heap H locs) (q0 : Nat) (he : ws[q0]? = some (b, .inr (11, fs))) (hv : fs[6]? = some v) (hdg : decode cc pc = .ok (.getfield 201, 3)) (kk : W p l e R s m args below meth c H locs cells slots Q (F0 m (pc + 3) ls (v :: rest))) : W p l e R s m args below meth c H locs cells slots Q (F0 m pc ls (.ref b :: rest)) := gF (k := 6) C hO q0 he rfl inFX11 (by decide) wd_1362 rfl hv hdg kk
theorem wd_1619 : (Cond.methodLink "WebCourtModel" (232 : Nat) ⟨"WebCourtModel", "fails", "(II)V"⟩) ∈ gtb := gtb_c7 70 (by decide +kernel) rfl
theorem wd_1621 : (Cond.instanceMethod ⟨"WebCourtModel", "fails", "(II)V"⟩) ∈ gtb := gtb_c7 72 (by decide +kernel) rfl
theorem wd_55 : (Cond.selects "WebCourtModel" ⟨"WebCourtModel", "fails", "(II)V"⟩ ⟨"WebCourtModel", "fails", "(II)V"⟩) ∈ gtb := gtb_p 55 (by decide +kernel) rfl
theorem hd_yX11_fails : yX11_fails.cls = RX11 ∧ yX11_fails.cls ≠ "java/lang/invoke/MethodHandle" ∧ yX11_fails.cls ≠ "java/lang/invoke/VarHandle" ∧ (parseMethodDescriptor yX11_fails.desc).map (fun d => d.parameters.length) = some 2 := by decide +kernel
set_option maxHeartbeats 4000000 in
set_option maxRecDepth 100000 in
theorem T_X11_misplaced (l : Launch) (D : va_G) (cy : Nat → ClassId) (a : Nat → Nat) (u : St) (hJ : MI a u)   : Mv l D cy (mW cy a) yX11_misplaced (.code yX11_misplaced cX11_misplaced 1 none) (rmo 1 22) [.ref (a 0)] u (fun (u' : St) => (MI a u') ∧ (Km25 u u') ∧ (¬ (fI u' 0 4).toInt = 0)) := by
  refine Mv.of (own := RX11) rfl (by decide) (Nat.le_of_ble_eq_true rfl) ?_
  have hT : Km25 u u := Km25.rf
  have hJ0 := hJ
  intro p e s m below meth c A Q ls C hret hO hl
  obtain ⟨hx, hb, hml, hown, ht, hK, hA⟩ := id C
  have hl : lv_has ls 1 [(0, .ref (a 0))] := hl
  refine lv_aload_n hx hb dX11_misplaced_0 rfl (lv_at hl 0 rfl) ?_
  refine lv_aload_n hx hb dX11_misplaced_1 rfl (lv_at hl 0 rfl) ?_
  have g1 : 0 ≤ (fI u 0 8).toInt ∧ (fI u 0 8).toInt ≤ 5 := by have h := MI_8 hJ0; exact h
  refine gf_RX11_208 (v := .int (fI u 0 8)) C hO 0 mW_0 rfl dX11_misplaced_2 ?_
  refine lv_iconst (v := 1) hx hb dX11_misplaced_5 (by decide) ?_
  refine cs_ne (tgt := 13) (X := ((fI u 0 8)).toInt) (Y := 1) hx hb dX11_misplaced_6 (by decide) rfl rfl (fun c2 => ?_) (fun c2 => ?_)
  · refine lv_iconst (v := 2) hx hb dX11_misplaced_13 (by decide) ?_
    refine lv_aload_n hx hb dX11_misplaced_14 rfl (lv_at hl 0 rfl) ?_
    have g3 : 0 ≤ (fI u 0 6).toInt ∧ (fI u 0 6).toInt ≤ 1600 := by have h := MI_6 hJ0; exact h
    refine gf_RX11_201 (v := .int (fI u 0 6)) C hO 0 mW_0 rfl dX11_misplaced_15 ?_
    refine cVv (w := mW cy a) (As := [.int 2, .int (fI u 0 6)]) (rest := []) C hO (T_X11_fails l D cy a _ (by exact hJ) (2) ((fI u 0 6)) (by first | omega | decide)) (cwV 2 ht (gV wd_1619 wd_1621 wd_55 wd_121 wd_1622) rfl rfl rfl hd_yX11_fails ⟨Nat.le_of_ble_eq_true rfl, Nat.le_of_ble_eq_true rfl⟩) 0 rfl mW_0 rfl rfl hl.1 (Nat.le_of_ble_eq_true rfl) dX11_misplaced_18 rfl ⟨Nat.zero_le _, Nat.zero_le _⟩ (fun u5 H locs hp6 hO => ?_)
    have g7 : 0 ≤ (fI u 0 3).toInt ∧ (fI u 0 3).toInt ≤ 1600 := by have h := MI_3 hJ0; exact h
    have g8 : 0 ≤ (fI u 0 7).toInt ∧ (fI u 0 7).toInt ≤ 1601 := by have h := MI_7 hJ0; exact h
    have g9 : 0 ≤ (fI u 0 36).toInt ∧ (fI u 0 36).toInt ≤ 1 := by have h := MI_36 hJ0; exact h
    have g10 : 0 ≤ (fI u 0 37).toInt ∧ (fI u 0 37).toInt ≤ 1 := by have h := MI_37 hJ0; exact h
    have g11 : 0 ≤ (fI u 0 42).toInt ∧ (fI u 0 42).toInt ≤ 5 := by have h := MI_42 hJ0; exact h
    have g12 : 0 ≤ (fI u 0 47).toInt ∧ (fI u 0 47).toInt ≤ 40 := by have h := MI_47 hJ0; exact h
    have g13 : 0 ≤ (fI u 0 48).toInt ∧ (fI u 0 48).toInt ≤ 40 := by have h := MI_48 hJ0; exact h
    have g14 : 0 ≤ (fI u 0 50).toInt ∧ (fI u 0 50).toInt ≤ 8 := by have h := MI_50 hJ0; exact h
    have g15 : 0 ≤ (fI u 0 61).toInt ∧ (fI u 0 61).toInt ≤ 30 := by have h := MI_61 hJ0; exact h
    have g16 : 0 ≤ (fI u 0 62).toInt ∧ (fI u 0 62).toInt ≤ 100000 := by have h := MI_62 hJ0; exact h
    obtain ⟨hJ, hTu5, hx0u5⟩ := hp6
    have hT : Km25 u u5 := Km25.tr (by exact hT) hTu5
    have hI_0_3_u5 : fI u5 0 3 = (fI u 0 3) := hTu5.2.1
    have hI_0_6_u5 : fI u5 0 6 = (fI u 0 6) := hTu5.2.2.1
    have hI_0_7_u5 : fI u5 0 7 = (fI u 0 7) := hTu5.2.2.2.1
    have hI_0_8_u5 : fI u5 0 8 = (fI u 0 8) := hTu5.2.2.2.2.1
    have hI_0_36_u5 : fI u5 0 36 = (fI u 0 36) := hTu5.2.2.2.2.2.2.2.1
    have hI_0_37_u5 : fI u5 0 37 = (fI u 0 37) := hTu5.2.2.2.2.2.2.2.2.1
    have hI_0_42_u5 : fI u5 0 42 = (fI u 0 42) := hTu5.2.2.2.2.2.2.2.2.2.2.2.2.2.1
    have hI_0_47_u5 : fI u5 0 47 = (fI u 0 47) := hTu5.2.2.2.2.2.2.2.2.2.2.2.2.2.2.2.2.1
    have hI_0_48_u5 : fI u5 0 48 = (fI u 0 48) := hTu5.2.2.2.2.2.2.2.2.2.2.2.2.2.2.2.2.2.1
    have hI_0_50_u5 : fI u5 0 50 = (fI u 0 50) := hTu5.2.2.2.2.2.2.2.2.2.2.2.2.2.2.2.2.2.2.1
    have hI_0_61_u5 : fI u5 0 61 = (fI u 0 61) := hTu5.2.2.2.2.2.2.2.2.2.2.2.2.2.2.2.2.2.2.2.1
    have hI_0_62_u5 : fI u5 0 62 = (fI u 0 62) := hTu5.2.2.2.2.2.2.2.2.2.2.2.2.2.2.2.2.2.2.2.2.1
    have g17 : 0 ≤ (fI u5 0 4).toInt ∧ (fI u5 0 4).toInt ≤ 5 := by have h := MI_4 hJ; exact h
    have y0u5 : ¬ ((fI u5 0 4) : Int32).toInt = 0 := by exact hx0u5
    have q18 : ¬ ((fI u5 0 4) : Int32).toInt = 0 := by first | omega | decide
    refine hret _ _ _ _ _ dX11_misplaced_21 ?_ hO
    exact ⟨hJ, hT, q18⟩
  · refine lv_iconst (v := 1) hx hb dX11_misplaced_9 (by decide) ?_
    refine lv_goto (tgt := 14) hx hb dX11_misplaced_10 (by decide) ?_
    refine lv_aload_n hx hb dX11_misplaced_14 rfl (lv_at hl 0 rfl) ?_
    have g19 : 0 ≤ (fI u 0 6).toInt ∧ (fI u 0 6).toInt ≤ 1600 := by have h := MI_6 hJ0; exact h
    refine gf_RX11_201 (v := .int (fI u 0 6)) C hO 0 mW_0 rfl dX11_misplaced_15 ?_
    refine cVv (w := mW cy a) (As := [.int 1, .int (fI u 0 6)]) (rest := []) C hO (T_X11_fails l D cy a _ (by exact hJ) (1) ((fI u 0 6)) (by first | omega | decide)) (cwV 2 ht (gV wd_1619 wd_1621 wd_55 wd_121 wd_1622) rfl rfl rfl hd_yX11_fails ⟨Nat.le_of_ble_eq_true rfl, Nat.le_of_ble_eq_true rfl⟩) 0 rfl mW_0 rfl rfl hl.1 (Nat.le_of_ble_eq_true rfl) dX11_misplaced_18 rfl ⟨Nat.zero_le _, Nat.zero_le _⟩ (fun u21 H locs hp22 hO => ?_)
    have g23 : 0 ≤ (fI u 0 3).toInt ∧ (fI u 0 3).toInt ≤ 1600 := by have h := MI_3 hJ0; exact h
    have g24 : 0 ≤ (fI u 0 7).toInt ∧ (fI u 0 7).toInt ≤ 1601 := by have h := MI_7 hJ0; exact h
    have g25 : 0 ≤ (fI u 0 36).toInt ∧ (fI u 0 36).toInt ≤ 1 := by have h := MI_36 hJ0; exact h
    have g26 : 0 ≤ (fI u 0 37).toInt ∧ (fI u 0 37).toInt ≤ 1 := by have h := MI_37 hJ0; exact h
    have g27 : 0 ≤ (fI u 0 42).toInt ∧ (fI u 0 42).toInt ≤ 5 := by have h := MI_42 hJ0; exact h
    have g28 : 0 ≤ (fI u 0 47).toInt ∧ (fI u 0 47).toInt ≤ 40 := by have h := MI_47 hJ0; exact h
    have g29 : 0 ≤ (fI u 0 48).toInt ∧ (fI u 0 48).toInt ≤ 40 := by have h := MI_48 hJ0; exact h
    have g30 : 0 ≤ (fI u 0 50).toInt ∧ (fI u 0 50).toInt ≤ 8 := by have h := MI_50 hJ0; exact h
    have g31 : 0 ≤ (fI u 0 61).toInt ∧ (fI u 0 61).toInt ≤ 30 := by have h := MI_61 hJ0; exact h
    have g32 : 0 ≤ (fI u 0 62).toInt ∧ (fI u 0 62).toInt ≤ 100000 := by have h := MI_62 hJ0; exact h
    obtain ⟨hJ, hTu21, hx0u21⟩ := hp22
    have hT : Km25 u u21 := Km25.tr (by exact hT) hTu21
    have hI_0_3_u21 : fI u21 0 3 = (fI u 0 3) := hTu21.2.1
    have hI_0_6_u21 : fI u21 0 6 = (fI u 0 6) := hTu21.2.2.1
    have hI_0_7_u21 : fI u21 0 7 = (fI u 0 7) := hTu21.2.2.2.1
    have hI_0_8_u21 : fI u21 0 8 = (fI u 0 8) := hTu21.2.2.2.2.1
    have hI_0_36_u21 : fI u21 0 36 = (fI u 0 36) := hTu21.2.2.2.2.2.2.2.1
    have hI_0_37_u21 : fI u21 0 37 = (fI u 0 37) := hTu21.2.2.2.2.2.2.2.2.1
    have hI_0_42_u21 : fI u21 0 42 = (fI u 0 42) := hTu21.2.2.2.2.2.2.2.2.2.2.2.2.2.1
    have hI_0_47_u21 : fI u21 0 47 = (fI u 0 47) := hTu21.2.2.2.2.2.2.2.2.2.2.2.2.2.2.2.2.1
    have hI_0_48_u21 : fI u21 0 48 = (fI u 0 48) := hTu21.2.2.2.2.2.2.2.2.2.2.2.2.2.2.2.2.2.1
    have hI_0_50_u21 : fI u21 0 50 = (fI u 0 50) := hTu21.2.2.2.2.2.2.2.2.2.2.2.2.2.2.2.2.2.2.1
    have hI_0_61_u21 : fI u21 0 61 = (fI u 0 61) := hTu21.2.2.2.2.2.2.2.2.2.2.2.2.2.2.2.2.2.2.2.1
    have hI_0_62_u21 : fI u21 0 62 = (fI u 0 62) := hTu21.2.2.2.2.2.2.2.2.2.2.2.2.2.2.2.2.2.2.2.2.1
    have g33 : 0 ≤ (fI u21 0 4).toInt ∧ (fI u21 0 4).toInt ≤ 5 := by have h := MI_4 hJ; exact h
    have y0u21 : ¬ ((fI u21 0 4) : Int32).toInt = 0 := by exact hx0u21
    have q34 : ¬ ((fI u21 0 4) : Int32).toInt = 0 := by first | omega | decide
    refine hret _ _ _ _ _ dX11_misplaced_21 ?_ hO
    exact ⟨hJ, hT, q34⟩
def Km26 (u v : St) : Prop := fI v 0 2 = fI u 0 2 ∧ fI v 0 3 = fI u 0 3 ∧ fI v 0 4 = fI u 0 4 ∧ fI v 0 5 = fI u 0 5 ∧ fI v 0 36 = fI u 0 36 ∧ fI v 0 37 = fI u 0 37 ∧ fI v 0 38 = fI u 0 38 ∧ fI v 0 39 = fI u 0 39 ∧ fI v 0 40 = fI u 0 40 ∧ fI v 0 41 = fI u 0 41 ∧ fI v 0 42 = fI u 0 42 ∧ fI v 0 43 = fI u 0 43 ∧ fI v 0 45 = fI u 0 45 ∧ fI v 0 47 = fI u 0 47 ∧ fI v 0 48 = fI u 0 48 ∧ fI v 0 50 = fI u 0 50 ∧ fI v 0 61 = fI u 0 61 ∧ fI v 0 62 = fI u 0 62 ∧ fA v 1 = fA u 1 ∧ fA v 2 = fA u 2 ∧ fA v 3 = fA u 3 ∧ fA v 4 = fA u 4 ∧ fA v 5 = fA u 5 ∧ fA v 6 = fA u 6 ∧ fA v 7 = fA u 7 ∧ fA v 8 = fA u 8 ∧ fA v 9 = fA u 9 ∧ fA v 10 = fA u 10 ∧ fA v 11 = fA u 11 ∧ fA v 12 = fA u 12 ∧ fA v 13 = fA u 13 ∧ fA v 14 = fA u 14 ∧ fA v 15 = fA u 15 ∧ fA v 16 = fA u 16 ∧ fA v 17 = fA u 17 ∧ fA v 18 = fA u 18 ∧ fA v 19 = fA u 19 ∧ fJ v 20 = fJ u 20 ∧ fJ v 21 = fJ u 21 ∧ fJ v 22 = fJ u 22 ∧ fA v 23 = fA u 23 ∧ fA v 24 = fA u 24 ∧ fA v 25 = fA u 25 ∧ fA v 26 = fA u 26 ∧ fA v 27 = fA u 27 ∧ fA v 28 = fA u 28 ∧ fA v 29 = fA u 29 ∧ fA v 30 = fA u 30 ∧ fA v 31 = fA u 31 ∧ fA v 32 = fA u 32 ∧ fA v 33 = fA u 33 ∧ fA v 34 = fA u 34 ∧ fA v 35 = fA u 35 ∧ fA v 36 = fA u 36 ∧ fA v 37 = fA u 37 ∧ fA v 38 = fA u 38 ∧ fA v 39 = fA u 39 ∧ fA v 40 = fA u 40 ∧ fA v 41 = fA u 41 ∧ fA v 42 = fA u 42
theorem Km26.rf {u : St} : Km26 u u := ⟨rfl, rfl, rfl, rfl, rfl, rfl, rfl, rfl, rfl, rfl, rfl, rfl, rfl, rfl, rfl, rfl, rfl, rfl, rfl, rfl, rfl, rfl, rfl, rfl, rfl, rfl, rfl, rfl, rfl, rfl, rfl, rfl, rfl, rfl, rfl, rfl, rfl, rfl, rfl, rfl, rfl, rfl, rfl, rfl, rfl, rfl, rfl, rfl, rfl, rfl, rfl, rfl, rfl, rfl, rfl, rfl, rfl, rfl, rfl, rfl⟩
theorem Km26.tr {u v w : St} (h1 : Km26 u v) (h2 : Km26 v w) : Km26 u w := ⟨(h2.1).trans h1.1, (h2.2.1).trans h1.2.1, (h2.2.2.1).trans h1.2.2.1, (h2.2.2.2.1).trans h1.2.2.2.1, (h2.2.2.2.2.1).trans h1.2.2.2.2.1, (h2.2.2.2.2.2.1).trans h1.2.2.2.2.2.1, (h2.2.2.2.2.2.2.1).trans h1.2.2.2.2.2.2.1, (h2.2.2.2.2.2.2.2.1).trans h1.2.2.2.2.2.2.2.1, (h2.2.2.2.2.2.2.2.2.1).trans h1.2.2.2.2.2.2.2.2.1, (h2.2.2.2.2.2.2.2.2.2.1).trans h1.2.2.2.2.2.2.2.2.2.1, (h2.2.2.2.2.2.2.2.2.2.2.1).trans h1.2.2.2.2.2.2.2.2.2.2.1, (h2.2.2.2.2.2.2.2.2.2.2.2.1).trans h1.2.2.2.2.2.2.2.2.2.2.2.1, (h2.2.2.2.2.2.2.2.2.2.2.2.2.1).trans h1.2.2.2.2.2.2.2.2.2.2.2.2.1, (h2.2.2.2.2.2.2.2.2.2.2.2.2.2.1).trans h1.2.2.2.2.2.2.2.2.2.2.2.2.2.1, (h2.2.2.2.2.2.2.2.2.2.2.2.2.2.2.1).trans h1.2.2.2.2.2.2.2.2.2.2.2.2.2.2.1, (h2.2.2.2.2.2.2.2.2.2.2.2.2.2.2.2.1).trans h1.2.2.2.2.2.2.2.2.2.2.2.2.2.2.2.1, (h2.2.2.2.2.2.2.2.2.2.2.2.2.2.2.2.2.1).trans h1.2.2.2.2.2.2.2.2.2.2.2.2.2.2.2.2.1, (h2.2.2.2.2.2.2.2.2.2.2.2.2.2.2.2.2.2.1).trans h1.2.2.2.2.2.2.2.2.2.2.2.2.2.2.2.2.2.1, (h2.2.2.2.2.2.2.2.2.2.2.2.2.2.2.2.2.2.2.1).trans h1.2.2.2.2.2.2.2.2.2.2.2.2.2.2.2.2.2.2.1, (h2.2.2.2.2.2.2.2.2.2.2.2.2.2.2.2.2.2.2.2.1).trans h1.2.2.2.2.2.2.2.2.2.2.2.2.2.2.2.2.2.2.2.1, (h2.2.2.2.2.2.2.2.2.2.2.2.2.2.2.2.2.2.2.2.2.1).trans h1.2.2.2.2.2.2.2.2.2.2.2.2.2.2.2.2.2.2.2.2.1, (h2.2.2.2.2.2.2.2.2.2.2.2.2.2.2.2.2.2.2.2.2.2.1).trans h1.2.2.2.2.2.2.2.2.2.2.2.2.2.2.2.2.2.2.2.2.2.1, (h2.2.2.2.2.2.2.2.2.2.2.2.2.2.2.2.2.2.2.2.2.2.2.1).trans h1.2.2.2.2.2.2.2.2.2.2.2.2.2.2.2.2.2.2.2.2.2.2.1, (h2.2.2.2.2.2.2.2.2.2.2.2.2.2.2.2.2.2.2.2.2.2.2.2.1).trans h1.2.2.2.2.2.2.2.2.2.2.2.2.2.2.2.2.2.2.2.2.2.2.2.1, (h2.2.2.2.2.2.2.2.2.2.2.2.2.2.2.2.2.2.2.2.2.2.2.2.2.1).trans h1.2.2.2.2.2.2.2.2.2.2.2.2.2.2.2.2.2.2.2.2.2.2.2.2.1, (h2.2.2.2.2.2.2.2.2.2.2.2.2.2.2.2.2.2.2.2.2.2.2.2.2.2.1).trans h1.2.2.2.2.2.2.2.2.2.2.2.2.2.2.2.2.2.2.2.2.2.2.2.2.2.1, (h2.2.2.2.2.2.2.2.2.2.2.2.2.2.2.2.2.2.2.2.2.2.2.2.2.2.2.1).trans h1.2.2.2.2.2.2.2.2.2.2.2.2.2.2.2.2.2.2.2.2.2.2.2.2.2.2.1, (h2.2.2.2.2.2.2.2.2.2.2.2.2.2.2.2.2.2.2.2.2.2.2.2.2.2.2.2.1).trans h1.2.2.2.2.2.2.2.2.2.2.2.2.2.2.2.2.2.2.2.2.2.2.2.2.2.2.2.1, (h2.2.2.2.2.2.2.2.2.2.2.2.2.2.2.2.2.2.2.2.2.2.2.2.2.2.2.2.2.1).trans h1.2.2.2.2.2.2.2.2.2.2.2.2.2.2.2.2.2.2.2.2.2.2.2.2.2.2.2.2.1, (h2.2.2.2.2.2.2.2.2.2.2.2.2.2.2.2.2.2.2.2.2.2.2.2.2.2.2.2.2.2.1).trans h1.2.2.2.2.2.2.2.2.2.2.2.2.2.2.2.2.2.2.2.2.2.2.2.2.2.2.2.2.2.1, (h2.2.2.2.2.2.2.2.2.2.2.2.2.2.2.2.2.2.2.2.2.2.2.2.2.2.2.2.2.2.2.1).trans h1.2.2.2.2.2.2.2.2.2.2.2.2.2.2.2.2.2.2.2.2.2.2.2.2.2.2.2.2.2.2.1, (h2.2.2.2.2.2.2.2.2.2.2.2.2.2.2.2.2.2.2.2.2.2.2.2.2.2.2.2.2.2.2.2.1).trans h1.2.2.2.2.2.2.2.2.2.2.2.2.2.2.2.2.2.2.2.2.2.2.2.2.2.2.2.2.2.2.2.1, (h2.2.2.2.2.2.2.2.2.2.2.2.2.2.2.2.2.2.2.2.2.2.2.2.2.2.2.2.2.2.2.2.2.1).trans h1.2.2.2.2.2.2.2.2.2.2.2.2.2.2.2.2.2.2.2.2.2.2.2.2.2.2.2.2.2.2.2.2.1, (h2.2.2.2.2.2.2.2.2.2.2.2.2.2.2.2.2.2.2.2.2.2.2.2.2.2.2.2.2.2.2.2.2.2.1).trans h1.2.2.2.2.2.2.2.2.2.2.2.2.2.2.2.2.2.2.2.2.2.2.2.2.2.2.2.2.2.2.2.2.2.1, (h2.2.2.2.2.2.2.2.2.2.2.2.2.2.2.2.2.2.2.2.2.2.2.2.2.2.2.2.2.2.2.2.2.2.2.1).trans h1.2.2.2.2.2.2.2.2.2.2.2.2.2.2.2.2.2.2.2.2.2.2.2.2.2.2.2.2.2.2.2.2.2.2.1, (h2.2.2.2.2.2.2.2.2.2.2.2.2.2.2.2.2.2.2.2.2.2.2.2.2.2.2.2.2.2.2.2.2.2.2.2.1).trans h1.2.2.2.2.2.2.2.2.2.2.2.2.2.2.2.2.2.2.2.2.2.2.2.2.2.2.2.2.2.2.2.2.2.2.2.1, (h2.2.2.2.2.2.2.2.2.2.2.2.2.2.2.2.2.2.2.2.2.2.2.2.2.2.2.2.2.2.2.2.2.2.2.2.2.1).trans h1.2.2.2.2.2.2.2.2.2.2.2.2.2.2.2.2.2.2.2.2.2.2.2.2.2.2.2.2.2.2.2.2.2.2.2.2.1, (h2.2.2.2.2.2.2.2.2.2.2.2.2.2.2.2.2.2.2.2.2.2.2.2.2.2.2.2.2.2.2.2.2.2.2.2.2.2.1).trans h1.2.2.2.2.2.2.2.2.2.2.2.2.2.2.2.2.2.2.2.2.2.2.2.2.2.2.2.2.2.2.2.2.2.2.2.2.2.1, (h2.2.2.2.2.2.2.2.2.2.2.2.2.2.2.2.2.2.2.2.2.2.2.2.2.2.2.2.2.2.2.2.2.2.2.2.2.2.2.1).trans h1.2.2.2.2.2.2.2.2.2.2.2.2.2.2.2.2.2.2.2.2.2.2.2.2.2.2.2.2.2.2.2.2.2.2.2.2.2.2.1, (h2.2.2.2.2.2.2.2.2.2.2.2.2.2.2.2.2.2.2.2.2.2.2.2.2.2.2.2.2.2.2.2.2.2.2.2.2.2.2.2.1).trans h1.2.2.2.2.2.2.2.2.2.2.2.2.2.2.2.2.2.2.2.2.2.2.2.2.2.2.2.2.2.2.2.2.2.2.2.2.2.2.2.1, (h2.2.2.2.2.2.2.2.2.2.2.2.2.2.2.2.2.2.2.2.2.2.2.2.2.2.2.2.2.2.2.2.2.2.2.2.2.2.2.2.2.1).trans h1.2.2.2.2.2.2.2.2.2.2.2.2.2.2.2.2.2.2.2.2.2.2.2.2.2.2.2.2.2.2.2.2.2.2.2.2.2.2.2.2.1, (h2.2.2.2.2.2.2.2.2.2.2.2.2.2.2.2.2.2.2.2.2.2.2.2.2.2.2.2.2.2.2.2.2.2.2.2.2.2.2.2.2.2.1).trans h1.2.2.2.2.2.2.2.2.2.2.2.2.2.2.2.2.2.2.2.2.2.2.2.2.2.2.2.2.2.2.2.2.2.2.2.2.2.2.2.2.2.1, (h2.2.2.2.2.2.2.2.2.2.2.2.2.2.2.2.2.2.2.2.2.2.2.2.2.2.2.2.2.2.2.2.2.2.2.2.2.2.2.2.2.2.2.1).trans h1.2.2.2.2.2.2.2.2.2.2.2.2.2.2.2.2.2.2.2.2.2.2.2.2.2.2.2.2.2.2.2.2.2.2.2.2.2.2.2.2.2.2.1, (h2.2.2.2.2.2.2.2.2.2.2.2.2.2.2.2.2.2.2.2.2.2.2.2.2.2.2.2.2.2.2.2.2.2.2.2.2.2.2.2.2.2.2.2.1).trans h1.2.2.2.2.2.2.2.2.2.2.2.2.2.2.2.2.2.2.2.2.2.2.2.2.2.2.2.2.2.2.2.2.2.2.2.2.2.2.2.2.2.2.2.1, (h2.2.2.2.2.2.2.2.2.2.2.2.2.2.2.2.2.2.2.2.2.2.2.2.2.2.2.2.2.2.2.2.2.2.2.2.2.2.2.2.2.2.2.2.2.1).trans h1.2.2.2.2.2.2.2.2.2.2.2.2.2.2.2.2.2.2.2.2.2.2.2.2.2.2.2.2.2.2.2.2.2.2.2.2.2.2.2.2.2.2.2.2.1, (h2.2.2.2.2.2.2.2.2.2.2.2.2.2.2.2.2.2.2.2.2.2.2.2.2.2.2.2.2.2.2.2.2.2.2.2.2.2.2.2.2.2.2.2.2.2.1).trans h1.2.2.2.2.2.2.2.2.2.2.2.2.2.2.2.2.2.2.2.2.2.2.2.2.2.2.2.2.2.2.2.2.2.2.2.2.2.2.2.2.2.2.2.2.2.1, (h2.2.2.2.2.2.2.2.2.2.2.2.2.2.2.2.2.2.2.2.2.2.2.2.2.2.2.2.2.2.2.2.2.2.2.2.2.2.2.2.2.2.2.2.2.2.2.1).trans h1.2.2.2.2.2.2.2.2.2.2.2.2.2.2.2.2.2.2.2.2.2.2.2.2.2.2.2.2.2.2.2.2.2.2.2.2.2.2.2.2.2.2.2.2.2.2.1, (h2.2.2.2.2.2.2.2.2.2.2.2.2.2.2.2.2.2.2.2.2.2.2.2.2.2.2.2.2.2.2.2.2.2.2.2.2.2.2.2.2.2.2.2.2.2.2.2.1).trans h1.2.2.2.2.2.2.2.2.2.2.2.2.2.2.2.2.2.2.2.2.2.2.2.2.2.2.2.2.2.2.2.2.2.2.2.2.2.2.2.2.2.2.2.2.2.2.2.1, (h2.2.2.2.2.2.2.2.2.2.2.2.2.2.2.2.2.2.2.2.2.2.2.2.2.2.2.2.2.2.2.2.2.2.2.2.2.2.2.2.2.2.2.2.2.2.2.2.2.1).trans h1.2.2.2.2.2.2.2.2.2.2.2.2.2.2.2.2.2.2.2.2.2.2.2.2.2.2.2.2.2.2.2.2.2.2.2.2.2.2.2.2.2.2.2.2.2.2.2.2.1, (h2.2.2.2.2.2.2.2.2.2.2.2.2.2.2.2.2.2.2.2.2.2.2.2.2.2.2.2.2.2.2.2.2.2.2.2.2.2.2.2.2.2.2.2.2.2.2.2.2.2.1).trans h1.2.2.2.2.2.2.2.2.2.2.2.2.2.2.2.2.2.2.2.2.2.2.2.2.2.2.2.2.2.2.2.2.2.2.2.2.2.2.2.2.2.2.2.2.2.2.2.2.2.1, (h2.2.2.2.2.2.2.2.2.2.2.2.2.2.2.2.2.2.2.2.2.2.2.2.2.2.2.2.2.2.2.2.2.2.2.2.2.2.2.2.2.2.2.2.2.2.2.2.2.2.2.1).trans h1.2.2.2.2.2.2.2.2.2.2.2.2.2.2.2.2.2.2.2.2.2.2.2.2.2.2.2.2.2.2.2.2.2.2.2.2.2.2.2.2.2.2.2.2.2.2.2.2.2.2.1, (h2.2.2.2.2.2.2.2.2.2.2.2.2.2.2.2.2.2.2.2.2.2.2.2.2.2.2.2.2.2.2.2.2.2.2.2.2.2.2.2.2.2.2.2.2.2.2.2.2.2.2.2.1).trans h1.2.2.2.2.2.2.2.2.2.2.2.2.2.2.2.2.2.2.2.2.2.2.2.2.2.2.2.2.2.2.2.2.2.2.2.2.2.2.2.2.2.2.2.2.2.2.2.2.2.2.2.1, (h2.2.2.2.2.2.2.2.2.2.2.2.2.2.2.2.2.2.2.2.2.2.2.2.2.2.2.2.2.2.2.2.2.2.2.2.2.2.2.2.2.2.2.2.2.2.2.2.2.2.2.2.2.1).trans h1.2.2.2.2.2.2.2.2.2.2.2.2.2.2.2.2.2.2.2.2.2.2.2.2.2.2.2.2.2.2.2.2.2.2.2.2.2.2.2.2.2.2.2.2.2.2.2.2.2.2.2.2.1, (h2.2.2.2.2.2.2.2.2.2.2.2.2.2.2.2.2.2.2.2.2.2.2.2.2.2.2.2.2.2.2.2.2.2.2.2.2.2.2.2.2.2.2.2.2.2.2.2.2.2.2.2.2.2.1).trans h1.2.2.2.2.2.2.2.2.2.2.2.2.2.2.2.2.2.2.2.2.2.2.2.2.2.2.2.2.2.2.2.2.2.2.2.2.2.2.2.2.2.2.2.2.2.2.2.2.2.2.2.2.2.1, (h2.2.2.2.2.2.2.2.2.2.2.2.2.2.2.2.2.2.2.2.2.2.2.2.2.2.2.2.2.2.2.2.2.2.2.2.2.2.2.2.2.2.2.2.2.2.2.2.2.2.2.2.2.2.2.1).trans h1.2.2.2.2.2.2.2.2.2.2.2.2.2.2.2.2.2.2.2.2.2.2.2.2.2.2.2.2.2.2.2.2.2.2.2.2.2.2.2.2.2.2.2.2.2.2.2.2.2.2.2.2.2.2.1, (h2.2.2.2.2.2.2.2.2.2.2.2.2.2.2.2.2.2.2.2.2.2.2.2.2.2.2.2.2.2.2.2.2.2.2.2.2.2.2.2.2.2.2.2.2.2.2.2.2.2.2.2.2.2.2.2.1).trans h1.2.2.2.2.2.2.2.2.2.2.2.2.2.2.2.2.2.2.2.2.2.2.2.2.2.2.2.2.2.2.2.2.2.2.2.2.2.2.2.2.2.2.2.2.2.2.2.2.2.2.2.2.2.2.2.1, (h2.2.2.2.2.2.2.2.2.2.2.2.2.2.2.2.2.2.2.2.2.2.2.2.2.2.2.2.2.2.2.2.2.2.2.2.2.2.2.2.2.2.2.2.2.2.2.2.2.2.2.2.2.2.2.2.2.1).trans h1.2.2.2.2.2.2.2.2.2.2.2.2.2.2.2.2.2.2.2.2.2.2.2.2.2.2.2.2.2.2.2.2.2.2.2.2.2.2.2.2.2.2.2.2.2.2.2.2.2.2.2.2.2.2.2.2.1, (h2.2.2.2.2.2.2.2.2.2.2.2.2.2.2.2.2.2.2.2.2.2.2.2.2.2.2.2.2.2.2.2.2.2.2.2.2.2.2.2.2.2.2.2.2.2.2.2.2.2.2.2.2.2.2.2.2.2.1).trans h1.2.2.2.2.2.2.2.2.2.2.2.2.2.2.2.2.2.2.2.2.2.2.2.2.2.2.2.2.2.2.2.2.2.2.2.2.2.2.2.2.2.2.2.2.2.2.2.2.2.2.2.2.2.2.2.2.2.1, (h2.2.2.2.2.2.2.2.2.2.2.2.2.2.2.2.2.2.2.2.2.2.2.2.2.2.2.2.2.2.2.2.2.2.2.2.2.2.2.2.2.2.2.2.2.2.2.2.2.2.2.2.2.2.2.2.2.2.2.1).trans h1.2.2.2.2.2.2.2.2.2.2.2.2.2.2.2.2.2.2.2.2.2.2.2.2.2.2.2.2.2.2.2.2.2.2.2.2.2.2.2.2.2.2.2.2.2.2.2.2.2.2.2.2.2.2.2.2.2.2.1, (h2.2.2.2.2.2.2.2.2.2.2.2.2.2.2.2.2.2.2.2.2.2.2.2.2.2.2.2.2.2.2.2.2.2.2.2.2.2.2.2.2.2.2.2.2.2.2.2.2.2.2.2.2.2.2.2.2.2.2.2).trans h1.2.2.2.2.2.2.2.2.2.2.2.2.2.2.2.2.2.2.2.2.2.2.2.2.2.2.2.2.2.2.2.2.2.2.2.2.2.2.2.2.2.2.2.2.2.2.2.2.2.2.2.2.2.2.2.2.2.2.2⟩
theorem dX11_goOn_0 : decode cX11_goOn 0 = .ok (.aload_n 0, 1) := by decide +kernel
theorem dX11_goOn_1 : decode cX11_goOn 1 = .ok (.aload_n 0, 1) := by decide +kernel
theorem dX11_goOn_2 : decode cX11_goOn 2 = .ok (.getfield 198, 3) := by decide +kernel
theorem dX11_goOn_5 : decode cX11_goOn 5 = .ok (.putfield 201, 3) := by decide +kernel
theorem dX11_goOn_8 : decode cX11_goOn 8 = .ok (.aload_n 0, 1) := by decide +kernel
theorem dX11_goOn_9 : decode cX11_goOn 9 = .ok (.getfield 201, 3) := by decide +kernel
theorem dX11_goOn_12 : decode cX11_goOn 12 = .ok (.aload_n 0, 1) := by decide +kernel
theorem dX11_goOn_13 : decode cX11_goOn 13 = .ok (.getfield 152, 3) := by decide +kernel
theorem dX11_goOn_16 : decode cX11_goOn 16 = .ok (.if_icmp .ge 42, 3) := by decide +kernel
theorem dX11_goOn_19 : decode cX11_goOn 19 = .ok (.aload_n 0, 1) := by decide +kernel
theorem dX11_goOn_20 : decode cX11_goOn 20 = .ok (.aload_n 0, 1) := by decide +kernel
theorem dX11_goOn_21 : decode cX11_goOn 21 = .ok (.getfield 201, 3) := by decide +kernel
theorem dX11_goOn_24 : decode cX11_goOn 24 = .ok (.invokevirtual 204, 3) := by decide +kernel
theorem dX11_goOn_27 : decode cX11_goOn 27 = .ok (.bipush 32, 2) := by decide +kernel
theorem dX11_goOn_29 : decode cX11_goOn 29 = .ok (.if_icmp .eq 16, 3) := by decide +kernel
theorem dX11_goOn_32 : decode cX11_goOn 32 = .ok (.aload_n 0, 1) := by decide +kernel
theorem dX11_goOn_33 : decode cX11_goOn 33 = .ok (.aload_n 0, 1) := by decide +kernel
theorem dX11_goOn_34 : decode cX11_goOn 34 = .ok (.getfield 201, 3) := by decide +kernel
theorem dX11_goOn_37 : decode cX11_goOn 37 = .ok (.invokevirtual 204, 3) := by decide +kernel
theorem dX11_goOn_40 : decode cX11_goOn 40 = .ok (.bipush 10, 2) := by decide +kernel
theorem dX11_goOn_42 : decode cX11_goOn 42 = .ok (.if_icmp .ne 16, 3) := by decide +kernel
theorem dX11_goOn_45 : decode cX11_goOn 45 = .ok (.aload_n 0, 1) := by decide +kernel
theorem dX11_goOn_46 : decode cX11_goOn 46 = .ok (.dup, 1) := by decide +kernel
theorem dX11_goOn_47 : decode cX11_goOn 47 = .ok (.getfield 201, 3) := by decide +kernel
theorem dX11_goOn_50 : decode cX11_goOn 50 = .ok (.iconst 1, 1) := by decide +kernel
theorem dX11_goOn_51 : decode cX11_goOn 51 = .ok (.iadd, 1) := by decide +kernel
theorem dX11_goOn_52 : decode cX11_goOn 52 = .ok (.putfield 201, 3) := by decide +kernel
theorem dX11_goOn_55 : decode cX11_goOn 55 = .ok (.goto (-47), 3) := by decide +kernel
theorem dX11_goOn_58 : decode cX11_goOn 58 = .ok (.aload_n 0, 1) := by decide +kernel
theorem dX11_goOn_59 : decode cX11_goOn 59 = .ok (.aload_n 0, 1) := by decide +kernel
theorem dX11_goOn_60 : decode cX11_goOn 60 = .ok (.getfield 201, 3) := by decide +kernel
theorem dX11_goOn_63 : decode cX11_goOn 63 = .ok (.invokevirtual 204, 3) := by decide +kernel
theorem dX11_goOn_66 : decode cX11_goOn 66 = .ok (.istore_n 1, 1) := by decide +kernel
theorem dX11_goOn_67 : decode cX11_goOn 67 = .ok (.aload_n 0, 1) := by decide +kernel
theorem dX11_goOn_68 : decode cX11_goOn 68 = .ok (.aload_n 0, 1) := by decide +kernel
theorem dX11_goOn_69 : decode cX11_goOn 69 = .ok (.getfield 201, 3) := by decide +kernel
theorem dX11_goOn_72 : decode cX11_goOn 72 = .ok (.iconst 1, 1) := by decide +kernel
theorem dX11_goOn_73 : decode cX11_goOn 73 = .ok (.iadd, 1) := by decide +kernel
theorem dX11_goOn_74 : decode cX11_goOn 74 = .ok (.putfield 198, 3) := by decide +kernel
theorem dX11_goOn_77 : decode cX11_goOn 77 = .ok (.aload_n 0, 1) := by decide +kernel
theorem dX11_goOn_78 : decode cX11_goOn 78 = .ok (.getfield 201, 3) := by decide +kernel
theorem dX11_goOn_81 : decode cX11_goOn 81 = .ok (.aload_n 0, 1) := by decide +kernel
theorem dX11_goOn_82 : decode cX11_goOn 82 = .ok (.getfield 152, 3) := by decide +kernel
theorem dX11_goOn_85 : decode cX11_goOn 85 = .ok (.if_icmp .lt 27, 3) := by decide +kernel
theorem dX11_goOn_88 : decode cX11_goOn 88 = .ok (.aload_n 0, 1) := by decide +kernel
theorem dX11_goOn_89 : decode cX11_goOn 89 = .ok (.iconst 0, 1) := by decide +kernel
theorem dX11_goOn_90 : decode cX11_goOn 90 = .ok (.putfield 208, 3) := by decide +kernel
theorem dX11_goOn_93 : decode cX11_goOn 93 = .ok (.aload_n 0, 1) := by decide +kernel
theorem dX11_goOn_94 : decode cX11_goOn 94 = .ok (.aload_n 0, 1) := by decide +kernel
theorem dX11_goOn_95 : decode cX11_goOn 95 = .ok (.getfield 152, 3) := by decide +kernel
theorem dX11_goOn_98 : decode cX11_goOn 98 = .ok (.putfield 201, 3) := by decide +kernel
theorem dX11_goOn_101 : decode cX11_goOn 101 = .ok (.aload_n 0, 1) := by decide +kernel
theorem dX11_goOn_102 : decode cX11_goOn 102 = .ok (.aload_n 0, 1) := by decide +kernel
theorem dX11_goOn_103 : decode cX11_goOn 103 = .ok (.getfield 152, 3) := by decide +kernel
theorem dX11_goOn_106 : decode cX11_goOn 106 = .ok (.putfield 198, 3) := by decide +kernel
theorem dX11_goOn_109 : decode cX11_goOn 109 = .ok (.goto 268, 3) := by decide +kernel
theorem dX11_goOn_112 : decode cX11_goOn 112 = .ok (.iload_n 1, 1) := by decide +kernel
theorem dX11_goOn_113 : decode cX11_goOn 113 = .ok (.invokestatic 211, 3) := by decide +kernel
theorem dX11_goOn_116 : decode cX11_goOn 116 = .ok (.ifCond .eq 123, 3) := by decide +kernel
theorem dX11_goOn_119 : decode cX11_goOn 119 = .ok (.aload_n 0, 1) := by decide +kernel
theorem dX11_goOn_120 : decode cX11_goOn 120 = .ok (.aload_n 0, 1) := by decide +kernel
theorem dX11_goOn_121 : decode cX11_goOn 121 = .ok (.getfield 198, 3) := by decide +kernel
theorem dX11_goOn_124 : decode cX11_goOn 124 = .ok (.invokevirtual 204, 3) := by decide +kernel
theorem dX11_goOn_127 : decode cX11_goOn 127 = .ok (.invokestatic 211, 3) := by decide +kernel
theorem dX11_goOn_130 : decode cX11_goOn 130 = .ok (.ifCond .eq 16, 3) := by decide +kernel
theorem dX11_goOn_133 : decode cX11_goOn 133 = .ok (.aload_n 0, 1) := by decide +kernel
theorem dX11_goOn_134 : decode cX11_goOn 134 = .ok (.dup, 1) := by decide +kernel
theorem dX11_goOn_135 : decode cX11_goOn 135 = .ok (.getfield 198, 3) := by decide +kernel
theorem dX11_goOn_138 : decode cX11_goOn 138 = .ok (.iconst 1, 1) := by decide +kernel
theorem dX11_goOn_139 : decode cX11_goOn 139 = .ok (.iadd, 1) := by decide +kernel
theorem dX11_goOn_140 : decode cX11_goOn 140 = .ok (.putfield 198, 3) := by decide +kernel
theorem dX11_goOn_143 : decode cX11_goOn 143 = .ok (.goto (-24), 3) := by decide +kernel
theorem dX11_goOn_146 : decode cX11_goOn 146 = .ok (.aload_n 0, 1) := by decide +kernel
theorem dX11_goOn_147 : decode cX11_goOn 147 = .ok (.lconst 0, 1) := by decide +kernel
theorem dX11_goOn_148 : decode cX11_goOn 148 = .ok (.putfield 215, 3) := by decide +kernel
theorem dX11_goOn_151 : decode cX11_goOn 151 = .ok (.aload_n 0, 1) := by decide +kernel
theorem dX11_goOn_152 : decode cX11_goOn 152 = .ok (.getfield 201, 3) := by decide +kernel
theorem dX11_goOn_155 : decode cX11_goOn 155 = .ok (.istore_n 2, 1) := by decide +kernel
theorem dX11_goOn_156 : decode cX11_goOn 156 = .ok (.iload_n 2, 1) := by decide +kernel
theorem dX11_goOn_157 : decode cX11_goOn 157 = .ok (.aload_n 0, 1) := by decide +kernel
theorem dX11_goOn_158 : decode cX11_goOn 158 = .ok (.getfield 198, 3) := by decide +kernel
theorem dX11_goOn_161 : decode cX11_goOn 161 = .ok (.if_icmp .ge 38, 3) := by decide +kernel
theorem dX11_goOn_164 : decode cX11_goOn 164 = .ok (.iload_n 2, 1) := by decide +kernel
theorem dX11_goOn_165 : decode cX11_goOn 165 = .ok (.aload_n 0, 1) := by decide +kernel
theorem dX11_goOn_166 : decode cX11_goOn 166 = .ok (.getfield 201, 3) := by decide +kernel
theorem dX11_goOn_169 : decode cX11_goOn 169 = .ok (.bipush 8, 2) := by decide +kernel
theorem dX11_goOn_171 : decode cX11_goOn 171 = .ok (.iadd, 1) := by decide +kernel
theorem dX11_goOn_172 : decode cX11_goOn 172 = .ok (.if_icmp .ge 27, 3) := by decide +kernel
theorem dX11_goOn_175 : decode cX11_goOn 175 = .ok (.aload_n 0, 1) := by decide +kernel
theorem dX11_goOn_176 : decode cX11_goOn 176 = .ok (.aload_n 0, 1) := by decide +kernel
theorem dX11_goOn_177 : decode cX11_goOn 177 = .ok (.getfield 215, 3) := by decide +kernel
theorem dX11_goOn_180 : decode cX11_goOn 180 = .ok (.bipush 8, 2) := by decide +kernel
theorem dX11_goOn_182 : decode cX11_goOn 182 = .ok (.lshl, 1) := by decide +kernel
theorem dX11_goOn_183 : decode cX11_goOn 183 = .ok (.aload_n 0, 1) := by decide +kernel
theorem dX11_goOn_184 : decode cX11_goOn 184 = .ok (.iload_n 2, 1) := by decide +kernel
theorem dX11_goOn_185 : decode cX11_goOn 185 = .ok (.invokevirtual 204, 3) := by decide +kernel
theorem dX11_goOn_188 : decode cX11_goOn 188 = .ok (.i2l, 1) := by decide +kernel
theorem dX11_goOn_189 : decode cX11_goOn 189 = .ok (.lor, 1) := by decide +kernel
theorem dX11_goOn_190 : decode cX11_goOn 190 = .ok (.putfield 215, 3) := by decide +kernel
theorem dX11_goOn_193 : decode cX11_goOn 193 = .ok (.iinc 2 1, 3) := by decide +kernel
theorem dX11_goOn_196 : decode cX11_goOn 196 = .ok (.goto (-40), 3) := by decide +kernel
theorem dX11_goOn_199 : decode cX11_goOn 199 = .ok (.aload_n 0, 1) := by decide +kernel
theorem dX11_goOn_200 : decode cX11_goOn 200 = .ok (.aload_n 0, 1) := by decide +kernel
theorem dX11_goOn_201 : decode cX11_goOn 201 = .ok (.getfield 198, 3) := by decide +kernel
theorem dX11_goOn_204 : decode cX11_goOn 204 = .ok (.aload_n 0, 1) := by decide +kernel
theorem dX11_goOn_205 : decode cX11_goOn 205 = .ok (.getfield 201, 3) := by decide +kernel
theorem dX11_goOn_208 : decode cX11_goOn 208 = .ok (.isub, 1) := by decide +kernel
theorem dX11_goOn_209 : decode cX11_goOn 209 = .ok (.bipush 8, 2) := by decide +kernel
theorem dX11_goOn_211 : decode cX11_goOn 211 = .ok (.if_icmp .le 7, 3) := by decide +kernel
theorem dX11_goOn_214 : decode cX11_goOn 214 = .ok (.iconst 1, 1) := by decide +kernel
theorem dX11_goOn_215 : decode cX11_goOn 215 = .ok (.goto 18, 3) := by decide +kernel
theorem dX11_goOn_218 : decode cX11_goOn 218 = .ok (.aload_n 0, 1) := by decide +kernel
theorem dX11_goOn_219 : decode cX11_goOn 219 = .ok (.getfield 215, 3) := by decide +kernel
theorem dX11_goOn_222 : decode cX11_goOn 222 = .ok (.invokestatic 219, 3) := by decide +kernel
theorem dX11_goOn_225 : decode cX11_goOn 225 = .ok (.ifCond .eq 7, 3) := by decide +kernel
theorem dX11_goOn_228 : decode cX11_goOn 228 = .ok (.iconst 3, 1) := by decide +kernel
theorem dX11_goOn_229 : decode cX11_goOn 229 = .ok (.goto 4, 3) := by decide +kernel
theorem dX11_goOn_232 : decode cX11_goOn 232 = .ok (.iconst 2, 1) := by decide +kernel
theorem dX11_goOn_233 : decode cX11_goOn 233 = .ok (.putfield 208, 3) := by decide +kernel
theorem dX11_goOn_236 : decode cX11_goOn 236 = .ok (.goto 141, 3) := by decide +kernel
theorem dX11_goOn_239 : decode cX11_goOn 239 = .ok (.iload_n 1, 1) := by decide +kernel
theorem dX11_goOn_240 : decode cX11_goOn 240 = .ok (.invokestatic 223, 3) := by decide +kernel
theorem dX11_goOn_243 : decode cX11_goOn 243 = .ok (.ifCond .eq 118, 3) := by decide +kernel
theorem dX11_goOn_246 : decode cX11_goOn 246 = .ok (.aload_n 0, 1) := by decide +kernel
theorem dX11_goOn_247 : decode cX11_goOn 247 = .ok (.iconst 0, 1) := by decide +kernel
theorem dX11_goOn_248 : decode cX11_goOn 248 = .ok (.putfield 226, 3) := by decide +kernel
theorem dX11_goOn_251 : decode cX11_goOn 251 = .ok (.aload_n 0, 1) := by decide +kernel
theorem dX11_goOn_252 : decode cX11_goOn 252 = .ok (.aload_n 0, 1) := by decide +kernel
theorem dX11_goOn_253 : decode cX11_goOn 253 = .ok (.getfield 201, 3) := by decide +kernel
theorem dX11_goOn_256 : decode cX11_goOn 256 = .ok (.putfield 198, 3) := by decide +kernel
theorem dX11_goOn_259 : decode cX11_goOn 259 = .ok (.aload_n 0, 1) := by decide +kernel
theorem dX11_goOn_260 : decode cX11_goOn 260 = .ok (.aload_n 0, 1) := by decide +kernel
theorem dX11_goOn_261 : decode cX11_goOn 261 = .ok (.getfield 198, 3) := by decide +kernel
theorem dX11_goOn_264 : decode cX11_goOn 264 = .ok (.invokevirtual 204, 3) := by decide +kernel
theorem dX11_goOn_267 : decode cX11_goOn 267 = .ok (.invokestatic 223, 3) := by decide +kernel
theorem dX11_goOn_270 : decode cX11_goOn 270 = .ok (.ifCond .eq 52, 3) := by decide +kernel
theorem dX11_goOn_273 : decode cX11_goOn 273 = .ok (.aload_n 0, 1) := by decide +kernel
theorem dX11_goOn_274 : decode cX11_goOn 274 = .ok (.getfield 198, 3) := by decide +kernel
theorem dX11_goOn_277 : decode cX11_goOn 277 = .ok (.aload_n 0, 1) := by decide +kernel
theorem dX11_goOn_278 : decode cX11_goOn 278 = .ok (.getfield 201, 3) := by decide +kernel
theorem dX11_goOn_281 : decode cX11_goOn 281 = .ok (.isub, 1) := by decide +kernel
theorem dX11_goOn_282 : decode cX11_goOn 282 = .ok (.iconst 4, 1) := by decide +kernel
theorem dX11_goOn_283 : decode cX11_goOn 283 = .ok (.if_icmp .ge 26, 3) := by decide +kernel
theorem dX11_goOn_286 : decode cX11_goOn 286 = .ok (.aload_n 0, 1) := by decide +kernel
theorem dX11_goOn_287 : decode cX11_goOn 287 = .ok (.bipush 10, 2) := by decide +kernel
theorem dX11_goOn_289 : decode cX11_goOn 289 = .ok (.aload_n 0, 1) := by decide +kernel
theorem dX11_goOn_290 : decode cX11_goOn 290 = .ok (.getfield 226, 3) := by decide +kernel
theorem dX11_goOn_293 : decode cX11_goOn 293 = .ok (.imul, 1) := by decide +kernel
theorem dX11_goOn_294 : decode cX11_goOn 294 = .ok (.aload_n 0, 1) := by decide +kernel
theorem dX11_goOn_295 : decode cX11_goOn 295 = .ok (.aload_n 0, 1) := by decide +kernel
theorem dX11_goOn_296 : decode cX11_goOn 296 = .ok (.getfield 198, 3) := by decide +kernel
theorem dX11_goOn_299 : decode cX11_goOn 299 = .ok (.invokevirtual 204, 3) := by decide +kernel
theorem dX11_goOn_302 : decode cX11_goOn 302 = .ok (.iadd, 1) := by decide +kernel
theorem dX11_goOn_303 : decode cX11_goOn 303 = .ok (.bipush 48, 2) := by decide +kernel
theorem dX11_goOn_305 : decode cX11_goOn 305 = .ok (.isub, 1) := by decide +kernel
theorem dX11_goOn_306 : decode cX11_goOn 306 = .ok (.putfield 226, 3) := by decide +kernel
theorem dX11_goOn_309 : decode cX11_goOn 309 = .ok (.aload_n 0, 1) := by decide +kernel
theorem dX11_goOn_310 : decode cX11_goOn 310 = .ok (.dup, 1) := by decide +kernel
theorem dX11_goOn_311 : decode cX11_goOn 311 = .ok (.getfield 198, 3) := by decide +kernel
theorem dX11_goOn_314 : decode cX11_goOn 314 = .ok (.iconst 1, 1) := by decide +kernel
theorem dX11_goOn_315 : decode cX11_goOn 315 = .ok (.iadd, 1) := by decide +kernel
theorem dX11_goOn_316 : decode cX11_goOn 316 = .ok (.putfield 198, 3) := by decide +kernel
theorem dX11_goOn_319 : decode cX11_goOn 319 = .ok (.goto (-60), 3) := by decide +kernel
theorem dX11_goOn_322 : decode cX11_goOn 322 = .ok (.aload_n 0, 1) := by decide +kernel
theorem dX11_goOn_323 : decode cX11_goOn 323 = .ok (.aload_n 0, 1) := by decide +kernel
theorem dX11_goOn_324 : decode cX11_goOn 324 = .ok (.getfield 198, 3) := by decide +kernel
theorem dX11_goOn_327 : decode cX11_goOn 327 = .ok (.aload_n 0, 1) := by decide +kernel
theorem dX11_goOn_328 : decode cX11_goOn 328 = .ok (.getfield 201, 3) := by decide +kernel
theorem dX11_goOn_331 : decode cX11_goOn 331 = .ok (.isub, 1) := by decide +kernel
theorem dX11_goOn_332 : decode cX11_goOn 332 = .ok (.iconst 4, 1) := by decide +kernel
theorem dX11_goOn_333 : decode cX11_goOn 333 = .ok (.if_icmp .gt 17, 3) := by decide +kernel
theorem dX11_goOn_336 : decode cX11_goOn 336 = .ok (.aload_n 0, 1) := by decide +kernel
theorem dX11_goOn_337 : decode cX11_goOn 337 = .ok (.aload_n 0, 1) := by decide +kernel
theorem dX11_goOn_338 : decode cX11_goOn 338 = .ok (.getfield 198, 3) := by decide +kernel
theorem dX11_goOn_341 : decode cX11_goOn 341 = .ok (.invokevirtual 204, 3) := by decide +kernel
theorem dX11_goOn_344 : decode cX11_goOn 344 = .ok (.invokestatic 211, 3) := by decide +kernel
theorem dX11_goOn_347 : decode cX11_goOn 347 = .ok (.ifCond .eq 7, 3) := by decide +kernel
theorem dX11_goOn_350 : decode cX11_goOn 350 = .ok (.iconst 1, 1) := by decide +kernel
theorem dX11_goOn_351 : decode cX11_goOn 351 = .ok (.goto 4, 3) := by decide +kernel
theorem dX11_goOn_354 : decode cX11_goOn 354 = .ok (.iconst 4, 1) := by decide +kernel
theorem dX11_goOn_355 : decode cX11_goOn 355 = .ok (.putfield 208, 3) := by decide +kernel
theorem dX11_goOn_358 : decode cX11_goOn 358 = .ok (.goto 19, 3) := by decide +kernel
theorem dX11_goOn_361 : decode cX11_goOn 361 = .ok (.aload_n 0, 1) := by decide +kernel
theorem dX11_goOn_362 : decode cX11_goOn 362 = .ok (.iload_n 1, 1) := by decide +kernel
theorem dX11_goOn_363 : decode cX11_goOn 363 = .ok (.invokestatic 229, 3) := by decide +kernel
theorem dX11_goOn_366 : decode cX11_goOn 366 = .ok (.ifCond .eq 7, 3) := by decide +kernel
theorem dX11_goOn_369 : decode cX11_goOn 369 = .ok (.iconst 5, 1) := by decide +kernel
theorem dX11_goOn_370 : decode cX11_goOn 370 = .ok (.goto 4, 3) := by decide +kernel
theorem dX11_goOn_373 : decode cX11_goOn 373 = .ok (.iconst 1, 1) := by decide +kernel
theorem dX11_goOn_374 : decode cX11_goOn 374 = .ok (.putfield 208, 3) := by decide +kernel
theorem dX11_goOn_377 : decode cX11_goOn 377 = .ok (.return_, 1) := by decide +kernel
theorem wd_1559 : (Cond.code ⟨"WebCourtModel", "goOn", "()V"⟩ prog_13_method_9_code (3 : Nat) (Option.none : Option FieldType)) ∈ gtb := gtb_c7 10 (by decide +kernel) rfl
theorem wd_1363 : (Cond.fieldLink "WebCourtModel" (198 : Nat) "WebCourtModel" "end" "I") ∈ gtb := gtb_c6 54 (by decide +kernel) rfl
theorem gf_RX11_198 {p : Program} {l : Launch} {e : Env} {R : Room} {s : State} {m : MethodId} {args : Array Value} {below : List Frame} {meth : Method} {c : Code} {H : Heap} {locs : List Loc} {cells slots : Nat} {Q : State → Prop} {cc : ByteArray} {pc nL : Nat} {ls : Array Slot} {rest : List Value} {D : va_G} {cy : Nat → ClassId} {A : Nat → Prop} {ws : va_W} {b : Nat} {fs : List Value} {v : Value} (C : Cx p s m args c cc nL RX11 D cy A) (hO : Wo D A ws s.heap H locs) (q0 : Nat) (he : ws[q0]? = some (b, .inr (11, fs))) (hv : fs[7]? = some v) (hdg : decode cc pc = .ok (.getfield 198, 3)) (kk : W p l e R s m args below meth c H locs cells slots Q (F0 m (pc + 3) ls (v :: rest))) : W p l e R s m args below meth c H locs cells slots Q (F0 m pc ls (.ref b :: rest)) := gF (k := 7) C hO q0 he rfl inFX11 (by decide) wd_1363 rfl hv hdg kk
theorem pf_RX11_201 {p : Program} {l : Launch} {e : Env} {R : Room} {s : State} {m : MethodId} {args : Array Value} {below : List Frame} {meth : Method} {c : Code} {H : Heap} {locs : List Loc} {cells slots : Nat} {Q : State → Prop} {cc : ByteArray} {pc nL : Nat} {ls : Array Slot} {rest : List Value} {D : va_G} {cy : Nat → ClassId} {A : Nat → Prop} {ws : va_W} {b : Nat} {fs : List Value} {v : Int32} {ws' : va_W} (C : Cx p s m args c cc nL RX11 D cy A) (hO : Wo D A ws s.heap H locs) (q0 : Nat) (he : ws[q0]? = some (b, .inr (11, fs))) (hlen : 6 < fs.length) (hw : ws.set q0 (b, .inr (11, fs.set 6 (.int v))) = ws') (hdg : decode cc pc = .ok (.putfield 201, 3)) (kk : ∀ (H : Heap) (locs : List Loc), Wo D A ws' s.heap H locs → W p l e R s m args below meth c H locs cells slots Q (F0 m (pc + 3) ls rest)) : W p l e R s m args below meth c H locs cells slots Q (F0 m pc ls (.int v :: .ref b :: rest)) := pF (k := 6) (ty := .int) C hO q0 he rfl inFX11 (by decide) wd_1362 rfl tyX11 tyX11_ok nmX11 rfl (by decide +kernel) rfl rfl hlen hw hdg kk
theorem Km26_I3 {u v : St} (h : Km26 u v) : fI v 0 3 = fI u 0 3 := h.2.1
theorem wd_1560 : (Cond.methodLink "WebCourtModel" (204 : Nat) ⟨"WebCourtModel", "sign", "(I)I"⟩) ∈ gtb := gtb_c7 11 (by decide +kernel) rfl
theorem wd_1562 : (Cond.instanceMethod ⟨"WebCourtModel", "sign", "(I)I"⟩) ∈ gtb := gtb_c7 13 (by decide +kernel) rfl
theorem wd_49 : (Cond.selects "WebCourtModel" ⟨"WebCourtModel", "sign", "(I)I"⟩ ⟨"WebCourtModel", "sign", "(I)I"⟩) ∈ gtb := gtb_p 49 (by decide +kernel) rfl
theorem hd_yX11_sign : yX11_sign.cls = RX11 ∧ yX11_sign.cls ≠ "java/lang/invoke/MethodHandle" ∧ yX11_sign.cls ≠ "java/lang/invoke/VarHandle" ∧ (parseMethodDescriptor yX11_sign.desc).map (fun d => d.parameters.length) = some 1 := by decide +kernel
theorem Km26_A2 {u v : St} (h : Km26 u v) : fA v 2 = fA u 2 := h.2.2.2.2.2.2.2.2.2.2.2.2.2.2.2.2.2.2.2.1
theorem pf_RX11_198 {p : Program} {l : Launch} {e : Env} {R : Room} {s : State} {m : MethodId} {args : Array Value} {below : List Frame} {meth : Method} {c : Code} {H : Heap} {locs : List Loc} {cells slots : Nat} {Q : State → Prop} {cc : ByteArray} {pc nL : Nat} {ls : Array Slot} {rest : List Value} {D : va_G} {cy : Nat → ClassId} {A : Nat → Prop} {ws : va_W} {b : Nat} {fs : List Value} {v : Int32} {ws' : va_W} (C : Cx p s m args c cc nL RX11 D cy A) (hO : Wo D A ws s.heap H locs) (q0 : Nat) (he : ws[q0]? = some (b, .inr (11, fs))) (hlen : 7 < fs.length) (hw : ws.set q0 (b, .inr (11, fs.set 7 (.int v))) = ws') (hdg : decode cc pc = .ok (.putfield 198, 3)) (kk : ∀ (H : Heap) (locs : List Loc), Wo D A ws' s.heap H locs → W p l e R s m args below meth c H locs cells slots Q (F0 m (pc + 3) ls rest)) : W p l e R s m args below meth c H locs cells slots Q (F0 m pc ls (.int v :: .ref b :: rest)) := pF (k := 7) (ty := .int) C hO q0 he rfl inFX11 (by decide) wd_1363 rfl tyX11 tyX11_ok nmX11 rfl (by decide +kernel) rfl rfl hlen hw hdg kk
theorem wd_1366 : (Cond.fieldLink "WebCourtModel" (215 : Nat) "WebCourtModel" "name" "J") ∈ gtb := gtb_c6 57 (by decide +kernel) rfl
theorem pf_RX11_215 {p : Program} {l : Launch} {e : Env} {R : Room} {s : State} {m : MethodId} {args : Array Value} {below : List Frame} {meth : Method} {c : Code} {H : Heap} {locs : List Loc} {cells slots : Nat} {Q : State → Prop} {cc : ByteArray} {pc nL : Nat} {ls : Array Slot} {rest : List Value} {D : va_G} {cy : Nat → ClassId} {A : Nat → Prop} {ws : va_W} {b : Nat} {fs : List Value} {v : Int64} {ws' : va_W} (C : Cx p s m args c cc nL RX11 D cy A) (hO : Wo D A ws s.heap H locs) (q0 : Nat) (he : ws[q0]? = some (b, .inr (11, fs))) (hlen : 10 < fs.length) (hw : ws.set q0 (b, .inr (11, fs.set 10 (.long v))) = ws') (hdg : decode cc pc = .ok (.putfield 215, 3)) (kk : ∀ (H : Heap) (locs : List Loc), Wo D A ws' s.heap H locs → W p l e R s m args below meth c H locs cells slots Q (F0 m (pc + 3) ls rest)) : W p l e R s m args below meth c H locs cells slots Q (F0 m pc ls (.long v :: .ref b :: rest)) := pF (k := 10) (ty := .long) C hO q0 he rfl inFX11 (by decide) wd_1366 rfl tyX11 tyX11_ok nmX11 rfl (by decide +kernel) rfl rfl hlen hw hdg kk
theorem gf_RX11_215 {p : Program} {l : Launch} {e : Env} {R : Room} {s : State} {m : MethodId} {args : Array Value} {below : List Frame} {meth : Method} {c : Code} {H : Heap} {locs : List Loc} {cells slots : Nat} {Q : State → Prop} {cc : ByteArray} {pc nL : Nat} {ls : Array Slot} {rest : List Value} {D : va_G} {cy : Nat → ClassId} {A : Nat → Prop} {ws : va_W} {b : Nat} {fs : List Value} {v : Value} (C : Cx p s m args c cc nL RX11 D cy A) (hO : Wo D A ws s.heap H locs) (q0 : Nat) (he : ws[q0]? = some (b, .inr (11, fs))) (hv : fs[10]? = some v) (hdg : decode cc pc = .ok (.getfield 215, 3)) (kk : W p l e R s m args below meth c H locs cells slots Q (F0 m (pc + 3) ls (v :: rest))) : W p l e R s m args below meth c H locs cells slots Q (F0 m pc ls (.ref b :: rest)) := gF (k := 10) C hO q0 he rfl inFX11 (by decide) wd_1366 rfl hv hdg kk
theorem wd_1567 : (Cond.methodLink "WebCourtModel" (219 : Nat) ⟨"WebCourtModel", "isKept", "(J)Z"⟩) ∈ gtb := gtb_c7 18 (by decide +kernel) rfl
theorem wd_1568 : (Cond.static ⟨"WebCourtModel", "isKept", "(J)Z"⟩) ∈ gtb := gtb_c7 19 (by decide +kernel) rfl
theorem hd_yX11_isKept : yX11_isKept.cls ≠ "java/lang/invoke/MethodHandle" ∧ yX11_isKept.cls ≠ "java/lang/invoke/VarHandle" ∧ (parseMethodDescriptor yX11_isKept.desc).map (fun d => d.parameters.length) = some 1 := by decide +kernel
theorem pf_RX11_208 {p : Program} {l : Launch} {e : Env} {R : Room} {s : State} {m : MethodId} {args : Array Value} {below : List Frame} {meth : Method} {c : Code} {H : Heap} {locs : List Loc} {cells slots : Nat} {Q : State → Prop} {cc : ByteArray} {pc nL : Nat} {ls : Array Slot} {rest : List Value} {D : va_G} {cy : Nat → ClassId} {A : Nat → Prop} {ws : va_W} {b : Nat} {fs : List Value} {v : Int32} {ws' : va_W} (C : Cx p s m args c cc nL RX11 D cy A) (hO : Wo D A ws s.heap H locs) (q0 : Nat) (he : ws[q0]? = some (b, .inr (11, fs))) (hlen : 8 < fs.length) (hw : ws.set q0 (b, .inr (11, fs.set 8 (.int v))) = ws') (hdg : decode cc pc = .ok (.putfield 208, 3)) (kk : ∀ (H : Heap) (locs : List Loc), Wo D A ws' s.heap H locs → W p l e R s m args below meth c H locs cells slots Q (F0 m (pc + 3) ls rest)) : W p l e R s m args below meth c H locs cells slots Q (F0 m pc ls (.int v :: .ref b :: rest)) := pF (k := 8) (ty := .int) C hO q0 he rfl inFX11 (by decide) wd_1364 rfl tyX11 tyX11_ok nmX11 rfl (by decide +kernel) rfl rfl hlen hw hdg kk
theorem wd_1590 : (Cond.methodLink "WebCourtModel" (223 : Nat) ⟨"WebCourtModel", "isDigit", "(I)Z"⟩) ∈ gtb := gtb_c7 41 (by decide +kernel) rfl
theorem wd_1591 : (Cond.static ⟨"WebCourtModel", "isDigit", "(I)Z"⟩) ∈ gtb := gtb_c7 42 (by decide +kernel) rfl
theorem hd_yX11_isDigit : yX11_isDigit.cls ≠ "java/lang/invoke/MethodHandle" ∧ yX11_isDigit.cls ≠ "java/lang/invoke/VarHandle" ∧ (parseMethodDescriptor yX11_isDigit.desc).map (fun d => d.parameters.length) = some 1 := by decide +kernel
theorem wd_1365 : (Cond.fieldLink "WebCourtModel" (226 : Nat) "WebCourtModel" "number" "I") ∈ gtb := gtb_c6 56 (by decide +kernel) rfl
theorem pf_RX11_226 {p : Program} {l : Launch} {e : Env} {R : Room} {s : State} {m : MethodId} {args : Array Value} {below : List Frame} {meth : Method} {c : Code} {H : Heap} {locs : List Loc} {cells slots : Nat} {Q : State → Prop} {cc : ByteArray} {pc nL : Nat} {ls : Array Slot} {rest : List Value} {D : va_G} {cy : Nat → ClassId} {A : Nat → Prop} {ws : va_W} {b : Nat} {fs : List Value} {v : Int32} {ws' : va_W} (C : Cx p s m args c cc nL RX11 D cy A) (hO : Wo D A ws s.heap H locs) (q0 : Nat) (he : ws[q0]? = some (b, .inr (11, fs))) (hlen : 9 < fs.length) (hw : ws.set q0 (b, .inr (11, fs.set 9 (.int v))) = ws') (hdg : decode cc pc = .ok (.putfield 226, 3)) (kk : ∀ (H : Heap) (locs : List Loc), Wo D A ws' s.heap H locs → W p l e R s m args below meth c H locs cells slots Q (F0 m (pc + 3) ls rest)) : W p l e R s m args below meth c H locs cells slots Q (F0 m pc ls (.int v :: .ref b :: rest)) := pF (k := 9) (ty := .int) C hO q0 he rfl inFX11 (by decide) wd_1365 rfl tyX11 tyX11_ok nmX11 rfl (by decide +kernel) rfl rfl hlen hw hdg kk
theorem gf_RX11_226 {p : Program} {l : Launch} {e : Env} {R : Room} {s : State} {m : MethodId} {args : Array Value} {below : List Frame} {meth : Method} {c : Code} {H : Heap} {locs : List Loc} {cells slots : Nat} {Q : State → Prop} {cc : ByteArray} {pc nL : Nat} {ls : Array Slot} {rest : List Value} {D : va_G} {cy : Nat → ClassId} {A : Nat → Prop} {ws : va_W} {b : Nat} {fs : List Value} {v : Value} (C : Cx p s m args c cc nL RX11 D cy A) (hO : Wo D A ws s.heap H locs) (q0 : Nat) (he : ws[q0]? = some (b, .inr (11, fs))) (hv : fs[9]? = some v) (hdg : decode cc pc = .ok (.getfield 226, 3)) (kk : W p l e R s m args below meth c H locs cells slots Q (F0 m (pc + 3) ls (v :: rest))) : W p l e R s m args below meth c H locs cells slots Q (F0 m pc ls (.ref b :: rest)) := gF (k := 9) C hO q0 he rfl inFX11 (by decide) wd_1365 rfl hv hdg kk
theorem wd_1593 : (Cond.methodLink "WebCourtModel" (229 : Nat) ⟨"WebCourtModel", "isSign", "(I)Z"⟩) ∈ gtb := gtb_c7 44 (by decide +kernel) rfl
theorem wd_1594 : (Cond.static ⟨"WebCourtModel", "isSign", "(I)Z"⟩) ∈ gtb := gtb_c7 45 (by decide +kernel) rfl
theorem hd_yX11_isSign : yX11_isSign.cls ≠ "java/lang/invoke/MethodHandle" ∧ yX11_isSign.cls ≠ "java/lang/invoke/VarHandle" ∧ (parseMethodDescriptor yX11_isSign.desc).map (fun d => d.parameters.length) = some 1 := by decide +kernel
set_option maxHeartbeats 4000000 in
set_option maxRecDepth 100000 in
theorem T_X11_goOn (l : Launch) (D : va_G) (cy : Nat → ClassId) (a : Nat → Nat) (u : St) (hJ : MI a u) (hp0 : (fI u 0 7).toInt ≤ (fI u 0 3).toInt)   : Mv l D cy (mW cy a) yX11_goOn (.code yX11_goOn cX11_goOn 3 none) (rmo 1 22) [.ref (a 0)] u (fun (u' : St) => (MI a u') ∧ (Km26 u u') ∧ ((fI u' 0 7).toInt ≤ (fI u' 0 3).toInt) ∧ ((fI u' 0 6).toInt ≤ (fI u' 0 7).toInt) ∧ ((fI u' 0 8).toInt = 0 ∨ (fI u' 0 6).toInt < (fI u' 0 7).toInt) ∧ ((fI u 0 7).toInt ≤ (fI u' 0 6).toInt)) := by
  refine Mv.of (own := RX11) rfl (by decide) (Nat.le_of_ble_eq_true rfl) ?_
  have hT : Km26 u u := Km26.rf
  have hJ0 := hJ
  intro p e s m below meth c A Q ls C hret hO hl
  obtain ⟨hx, hb, hml, hown, ht, hK, hA⟩ := id C
  have hl : lv_has ls 3 [(0, .ref (a 0))] := hl
  refine lv_aload_n hx hb dX11_goOn_0 rfl (lv_at hl 0 rfl) ?_
  refine lv_aload_n hx hb dX11_goOn_1 rfl (lv_at hl 0 rfl) ?_
  have g1 : 0 ≤ (fI u 0 7).toInt ∧ (fI u 0 7).toInt ≤ 1601 := by have h := MI_7 hJ0; exact h
  refine gf_RX11_198 (v := .int (fI u 0 7)) C hO 0 mW_0 rfl dX11_goOn_2 ?_
  refine pf_RX11_201 C hO 0 mW_0 (Nat.le_of_ble_eq_true rfl) mW_s0_6 dX11_goOn_5 (fun H locs hO => ?_)
  have hJ := MIs_6 (v := (fI u 0 7)) hJ (by first | decide | omega)
  have LP_8_k3 : ∀ (n : Nat) (u2 : St) (H : Heap) (locs : List Loc) (ls : Array Slot) (at_k3 : Int32) (en_k3 : Int32), Wo D A (mW cy a u2) s.heap H locs → lv_has ls 3 [(0, .ref (a 0))] → MI a u2 → Km26 u u2 → fI u2 0 6 = at_k3 → fI u2 0 7 = en_k3 → at_k3.toInt ≤ (fI u 0 3).toInt → (fI u 0 7).toInt ≤ at_k3.toInt → 0 ≤ at_k3.toInt ∧ at_k3.toInt ≤ 1600 → 0 ≤ en_k3.toInt ∧ en_k3.toInt ≤ 1601 → 1600 - at_k3.toInt < (n : Int) → W p l e (rmo 1 22) s m [.ref (a 0)].toArray below meth c H locs 0 0 Q (F0 m 8 ls []) := by
    intro n
    induction n with
    | zero =>
      intro u2 H locs ls at_k3 en_k3 hO hl hJ hT hat_k3 hen_k3 iv0_k3 iv1_k3 iv2_k3 iv3_k3 hm_k3
      exact absurd hm_k3 (by omega)
    | succ n ih_k3 =>
      intro u2 H locs ls at_k3 en_k3 hO hl hJ hT hat_k3 hen_k3 iv0_k3 iv1_k3 iv2_k3 iv3_k3 hm_k3
      refine lv_aload_n hx hb dX11_goOn_8 rfl (lv_at hl 0 rfl) ?_
      refine gf_RX11_201 (v := .int at_k3) C hO 0 mW_0 (congrArg (fun z : Int32 => some (Value.int z)) hat_k3) dX11_goOn_9 ?_
      refine lv_aload_n hx hb dX11_goOn_12 rfl (lv_at hl 0 rfl) ?_
      have g4 : 0 ≤ (fI u 0 3).toInt ∧ (fI u 0 3).toInt ≤ 1600 := by have h := MI_3 hJ0; exact h
      refine gf_RX11_152 (v := .int (fI u 0 3)) C hO 0 mW_0 (congrArg (fun z : Int32 => some (Value.int z)) (Km26_I3 hT)) dX11_goOn_13 ?_
      refine cs_ge (tgt := 58) (X := (at_k3).toInt) (Y := ((fI u 0 3)).toInt) hx hb dX11_goOn_16 (by decide) rfl rfl (fun c5 => ?_) (fun c5 => ?_)
      · refine lv_aload_n hx hb dX11_goOn_58 rfl (lv_at hl 0 rfl) ?_
        refine lv_aload_n hx hb dX11_goOn_59 rfl (lv_at hl 0 rfl) ?_
        refine gf_RX11_201 (v := .int at_k3) C hO 0 mW_0 (congrArg (fun z : Int32 => some (Value.int z)) hat_k3) dX11_goOn_60 ?_
        refine cVi (w := mW cy a) (As := [.int at_k3]) (rest := []) C hO (T_X11_sign l D cy a _ (by exact hJ) (at_k3) (by first | omega | decide)) (cwV 1 ht (gV wd_1560 wd_1562 wd_49 wd_121 wd_1563) rfl rfl rfl hd_yX11_sign ⟨Nat.le_of_ble_eq_true rfl, Nat.le_of_ble_eq_true rfl⟩) 0 rfl mW_0 rfl rfl hl.1 (Nat.le_of_ble_eq_true rfl) dX11_goOn_63 rfl ⟨Nat.zero_le _, Nat.zero_le _⟩ (fun r6 u7 H locs hp8 hO => ?_)
        obtain ⟨hr6, hu7⟩ := hp8
        rw [hu7] at hO
        have gr6 : (0 ≤ r6.toInt ∧ r6.toInt ≤ 255) ∧ (r6.toInt = 0 ∨ (at_k3 : Int32).toInt < ((fI u 0 3)).toInt) := by have h := sgF_b (u := _) (k := at_k3); rw [← hr6] at h; rw [(Km26_I3 hT)] at h; exact h
        have hr6 : r6 = sgF u at_k3 := hr6.trans (sgF_eq (Km26_A2 hT) (Km26_I3 hT))
        refine lv_istore_n (lv' := [(1, .int r6), (0, .ref (a 0))]) hx hb dX11_goOn_66 rfl hl (by decide) rfl (fun ls hl => ?_)
        refine lv_aload_n hx hb dX11_goOn_67 rfl (lv_at hl 1 rfl) ?_
        refine lv_aload_n hx hb dX11_goOn_68 rfl (lv_at hl 1 rfl) ?_
        refine gf_RX11_201 (v := .int at_k3) C hO 0 mW_0 (congrArg (fun z : Int32 => some (Value.int z)) hat_k3) dX11_goOn_69 ?_
        refine lv_iconst (v := 1) hx hb dX11_goOn_72 (by decide) ?_
        have e9 : ((at_k3 + 1)).toInt = (at_k3).toInt + 1 := i_add rfl rfl (by omega)
        refine lv_iadd hx hb dX11_goOn_73 ?_
        refine pf_RX11_198 C hO 0 mW_0 (Nat.le_of_ble_eq_true rfl) mW_s0_7 dX11_goOn_74 (fun H locs hO => ?_)
        have hJ := MIs_7 (v := (at_k3 + 1)) hJ (by first | decide | omega)
        refine lv_aload_n hx hb dX11_goOn_77 rfl (lv_at hl 1 rfl) ?_
        refine gf_RX11_201 (v := .int at_k3) C hO 0 mW_0 (congrArg (fun z : Int32 => some (Value.int z)) hat_k3) dX11_goOn_78 ?_
        refine lv_aload_n hx hb dX11_goOn_81 rfl (lv_at hl 1 rfl) ?_
        refine gf_RX11_152 (v := .int (fI u 0 3)) C hO 0 mW_0 (congrArg (fun z : Int32 => some (Value.int z)) (Km26_I3 hT)) dX11_goOn_82 ?_
        refine cs_lt (tgt := 112) (X := (at_k3).toInt) (Y := ((fI u 0 3)).toInt) hx hb dX11_goOn_85 (by decide) rfl rfl (fun c10 => ?_) (fun c10 => ?_)
        · refine lv_iload_n hx hb dX11_goOn_112 rfl (lv_at hl 0 rfl) ?_
          refine cSi (w := mW cy a) (As := [.int r6]) (rest := []) C hO (T_X11_isLetter l D cy a _ (by exact hJ) (r6)) (va_cwS 1 ht (gSS wd_1564 wd_1565 wd_121 wd_1566) rfl rfl rfl hd_yX11_isLetter ⟨Nat.le_of_ble_eq_true rfl, Nat.le_of_ble_eq_true rfl⟩)  rfl hl.1 (Nat.le_of_ble_eq_true rfl) dX11_goOn_113 rfl ⟨Nat.zero_le _, Nat.zero_le _⟩ (fun r11 u12 H locs hp13 hO => ?_)
          obtain ⟨hr11, hu12⟩ := hp13
          rw [hu12] at hO
          rcases hr11 with ⟨hcr11, hvr11⟩ | ⟨hcr11, hvr11⟩
          · subst hvr11
            refine bn_eq (X := 1) hx hb dX11_goOn_116 rfl (by omega) ?_ (tgt := 239) (by decide)
            have LP_119_k15 : ∀ (n : Nat) (u14 : St) (H : Heap) (locs : List Loc) (ls : Array Slot) (at_k15 : Int32) (en_k15 : Int32), Wo D A (mW cy a u14) s.heap H locs → lv_has ls 3 [(1, .int r6), (0, .ref (a 0))] → MI a u14 → Km26 u u14 → fI u14 0 6 = at_k15 → fI u14 0 7 = en_k15 → at_k15.toInt < en_k15.toInt → en_k15.toInt ≤ (fI u 0 3).toInt → (fI u 0 7).toInt ≤ at_k15.toInt → 0 ≤ at_k15.toInt ∧ at_k15.toInt ≤ 1600 → 0 ≤ en_k15.toInt ∧ en_k15.toInt ≤ 1601 → 1601 - en_k15.toInt < (n : Int) → W p l e (rmo 1 22) s m [.ref (a 0)].toArray below meth c H locs 0 0 Q (F0 m 119 ls []) := by
              intro n
              induction n with
              | zero =>
                intro u14 H locs ls at_k15 en_k15 hO hl hJ hT hat_k15 hen_k15 iv0_k15 iv1_k15 iv2_k15 iv3_k15 iv4_k15 hm_k15
                exact absurd hm_k15 (by omega)
              | succ n ih_k15 =>
                intro u14 H locs ls at_k15 en_k15 hO hl hJ hT hat_k15 hen_k15 iv0_k15 iv1_k15 iv2_k15 iv3_k15 iv4_k15 hm_k15
                refine lv_aload_n hx hb dX11_goOn_119 rfl (lv_at hl 1 rfl) ?_
                refine lv_aload_n hx hb dX11_goOn_120 rfl (lv_at hl 1 rfl) ?_
                refine gf_RX11_198 (v := .int en_k15) C hO 0 mW_0 (congrArg (fun z : Int32 => some (Value.int z)) hen_k15) dX11_goOn_121 ?_
                refine cVi (w := mW cy a) (As := [.int en_k15]) (rest := []) C hO (T_X11_sign l D cy a _ (by exact hJ) (en_k15) (by first | omega | decide)) (cwV 1 ht (gV wd_1560 wd_1562 wd_49 wd_121 wd_1563) rfl rfl rfl hd_yX11_sign ⟨Nat.le_of_ble_eq_true rfl, Nat.le_of_ble_eq_true rfl⟩) 0 rfl mW_0 rfl rfl hl.1 (Nat.le_of_ble_eq_true rfl) dX11_goOn_124 rfl ⟨Nat.zero_le _, Nat.zero_le _⟩ (fun r16 u17 H locs hp18 hO => ?_)
                obtain ⟨hr16, hu17⟩ := hp18
                rw [hu17] at hO
                have g19 : 0 ≤ (fI u 0 3).toInt ∧ (fI u 0 3).toInt ≤ 1600 := by have h := MI_3 hJ0; exact h
                have gr16 : (0 ≤ r16.toInt ∧ r16.toInt ≤ 255) ∧ (r16.toInt = 0 ∨ (en_k15 : Int32).toInt < ((fI u 0 3)).toInt) := by have h := sgF_b (u := _) (k := en_k15); rw [← hr16] at h; rw [(Km26_I3 hT)] at h; exact h
                have hr16 : r16 = sgF u en_k15 := hr16.trans (sgF_eq (Km26_A2 hT) (Km26_I3 hT))
                refine cSi (w := mW cy a) (As := [.int r16]) (rest := []) C hO (T_X11_isLetter l D cy a _ (by exact hJ) (r16)) (va_cwS 1 ht (gSS wd_1564 wd_1565 wd_121 wd_1566) rfl rfl rfl hd_yX11_isLetter ⟨Nat.le_of_ble_eq_true rfl, Nat.le_of_ble_eq_true rfl⟩)  rfl hl.1 (Nat.le_of_ble_eq_true rfl) dX11_goOn_127 rfl ⟨Nat.zero_le _, Nat.zero_le _⟩ (fun r20 u21 H locs hp22 hO => ?_)
                obtain ⟨hr20, hu21⟩ := hp22
                rw [hu21] at hO
                rcases hr20 with ⟨hcr20, hvr20⟩ | ⟨hcr20, hvr20⟩
                · subst hvr20
                  refine bn_eq (X := 1) hx hb dX11_goOn_130 rfl (by omega) ?_ (tgt := 146) (by decide)
                  refine lv_aload_n hx hb dX11_goOn_133 rfl (lv_at hl 1 rfl) ?_
                  refine lv_dup hx hb dX11_goOn_134 rfl ?_
                  refine gf_RX11_198 (v := .int en_k15) C hO 0 mW_0 (congrArg (fun z : Int32 => some (Value.int z)) hen_k15) dX11_goOn_135 ?_
                  refine lv_iconst (v := 1) hx hb dX11_goOn_138 (by decide) ?_
                  have e23 : ((en_k15 + 1)).toInt = (en_k15).toInt + 1 := i_add rfl rfl (by omega)
                  refine lv_iadd hx hb dX11_goOn_139 ?_
                  refine pf_RX11_198 C hO 0 mW_0 (Nat.le_of_ble_eq_true rfl) mW_s0_7 dX11_goOn_140 (fun H locs hO => ?_)
                  have hJ := MIs_7 (v := (en_k15 + 1)) hJ (by first | decide | omega)
                  refine lv_goto (tgt := 119) hx hb dX11_goOn_143 (by decide) ?_
                  exact ih_k15 _ _ _ _ (at_k15) ((en_k15 + 1)) hO (lv_sub hl [0, 1] rfl) (by exact hJ) (by exact hT) (by exact hat_k15) (by exact rfl) (by first | decide | omega) (by first | decide | omega) (by first | decide | omega) (by first | decide | omega) (by first | decide | omega) (by first | decide | omega)
                · subst hvr20
                  refine bt_eq (tgt := 146) (X := 0) hx hb dX11_goOn_130 (by decide) rfl (by omega) ?_
                  refine lv_aload_n hx hb dX11_goOn_146 rfl (lv_at hl 1 rfl) ?_
                  refine lv_lconst (v := 0) hx hb dX11_goOn_147 rfl ?_
                  refine pf_RX11_215 C hO 0 mW_0 (Nat.le_of_ble_eq_true rfl) mW_s0_10 dX11_goOn_148 (fun H locs hO => ?_)
                  have hJ := MIs_10 (v := 0) hJ
                  refine lv_aload_n hx hb dX11_goOn_151 rfl (lv_at hl 1 rfl) ?_
                  refine gf_RX11_201 (v := .int at_k15) C hO 0 mW_0 (congrArg (fun z : Int32 => some (Value.int z)) hat_k15) dX11_goOn_152 ?_
                  refine lv_istore_n (lv' := [(2, .int at_k15), (1, .int r6), (0, .ref (a 0))]) hx hb dX11_goOn_155 rfl hl (by decide) rfl (fun ls hl => ?_)
                  have LP_156_k25 : ∀ (n : Nat) (u24 : St) (H : Heap) (locs : List Loc) (ls : Array Slot) (k_k25 : Int32) (at_k25 : Int32) (en_k25 : Int32), Wo D A (mW cy a u24) s.heap H locs → lv_has ls 3 [(2, .int k_k25), (1, .int r6), (0, .ref (a 0))] → MI a u24 → Km26 u u24 → fI u24 0 6 = at_k25 → fI u24 0 7 = en_k25 → at_k25.toInt < en_k25.toInt → en_k25.toInt ≤ (fI u 0 3).toInt → (fI u 0 7).toInt ≤ at_k25.toInt → 0 ≤ k_k25.toInt ∧ k_k25.toInt ≤ 1601 → 0 ≤ at_k25.toInt ∧ at_k25.toInt ≤ 1600 → 0 ≤ en_k25.toInt ∧ en_k25.toInt ≤ 1601 → 1601 - k_k25.toInt < (n : Int) → W p l e (rmo 1 22) s m [.ref (a 0)].toArray below meth c H locs 0 0 Q (F0 m 156 ls []) := by
                    intro n
                    induction n with
                    | zero =>
                      intro u24 H locs ls k_k25 at_k25 en_k25 hO hl hJ hT hat_k25 hen_k25 iv0_k25 iv1_k25 iv2_k25 iv3_k25 iv4_k25 iv5_k25 hm_k25
                      exact absurd hm_k25 (by omega)
                    | succ n ih_k25 =>
                      intro u24 H locs ls k_k25 at_k25 en_k25 hO hl hJ hT hat_k25 hen_k25 iv0_k25 iv1_k25 iv2_k25 iv3_k25 iv4_k25 iv5_k25 hm_k25
                      refine lv_iload_n hx hb dX11_goOn_156 rfl (lv_at hl 0 rfl) ?_
                      refine lv_aload_n hx hb dX11_goOn_157 rfl (lv_at hl 2 rfl) ?_
                      refine gf_RX11_198 (v := .int en_k25) C hO 0 mW_0 (congrArg (fun z : Int32 => some (Value.int z)) hen_k25) dX11_goOn_158 ?_
                      refine cs_ge (tgt := 199) (X := (k_k25).toInt) (Y := (en_k25).toInt) hx hb dX11_goOn_161 (by decide) rfl rfl (fun c26 => ?_) (fun c26 => ?_)
                      · refine lv_aload_n hx hb dX11_goOn_199 rfl (lv_at hl 2 rfl) ?_
                        refine lv_aload_n hx hb dX11_goOn_200 rfl (lv_at hl 2 rfl) ?_
                        refine gf_RX11_198 (v := .int en_k25) C hO 0 mW_0 (congrArg (fun z : Int32 => some (Value.int z)) hen_k25) dX11_goOn_201 ?_
                        refine lv_aload_n hx hb dX11_goOn_204 rfl (lv_at hl 2 rfl) ?_
                        refine gf_RX11_201 (v := .int at_k25) C hO 0 mW_0 (congrArg (fun z : Int32 => some (Value.int z)) hat_k25) dX11_goOn_205 ?_
                        have e27 : ((en_k25 - at_k25)).toInt = (en_k25).toInt - (at_k25).toInt := i_sub rfl rfl (by omega)
                        refine lv_isub hx hb dX11_goOn_208 ?_
                        refine lv_bipush (v := 8) hx hb dX11_goOn_209 (by decide) ?_
                        refine cs_le (tgt := 218) (X := ((en_k25).toInt - (at_k25).toInt)) (Y := 8) hx hb dX11_goOn_211 (by decide) e27 rfl (fun c28 => ?_) (fun c28 => ?_)
                        · refine lv_aload_n hx hb dX11_goOn_218 rfl (lv_at hl 2 rfl) ?_
                          refine gf_RX11_215 (v := .long ((fL u24 0 10))) C hO 0 mW_0 rfl dX11_goOn_219 ?_
                          refine cSi (w := mW cy a) (As := [.long ((fL u24 0 10))]) (rest := [.ref (a 0)]) C hO (T_X11_isKept l D cy a _ (by exact hJ) ((fL u24 0 10))) (va_cwS 1 ht (gSS wd_1567 wd_1568 wd_121 wd_1569) rfl rfl rfl hd_yX11_isKept ⟨Nat.le_of_ble_eq_true rfl, Nat.le_of_ble_eq_true rfl⟩)  rfl hl.1 (Nat.le_of_ble_eq_true rfl) dX11_goOn_222 rfl ⟨Nat.zero_le _, Nat.zero_le _⟩ (fun r29 u30 H locs hp31 hO => ?_)
                          obtain ⟨hr29, hu30⟩ := hp31
                          have gr29 : 0 ≤ r29.toInt ∧ r29.toInt ≤ 1 := by rcases hr29 with h | h <;> rw [h] <;> decide
                          rw [hu30] at hO
                          refine bs_eq (tgt := 232) (X := (r29).toInt) hx hb dX11_goOn_225 (by decide) rfl (fun c32 => ?_) (fun c32 => ?_)
                          · refine lv_iconst (v := 2) hx hb dX11_goOn_232 (by decide) ?_
                            refine pf_RX11_208 C hO 0 mW_0 (Nat.le_of_ble_eq_true rfl) mW_s0_8 dX11_goOn_233 (fun H locs hO => ?_)
                            have hJ := MIs_8 (v := 2) hJ (by first | decide | omega)
                            refine lv_goto (tgt := 377) hx hb dX11_goOn_236 (by decide) ?_
                            have g33 : 0 ≤ (fI u 0 3).toInt ∧ (fI u 0 3).toInt ≤ 1600 := by have h := MI_3 hJ0; exact h
                            have q34 : (en_k25 : Int32).toInt ≤ ((fI u 0 3) : Int32).toInt := by first | omega | decide
                            have q35 : (at_k25 : Int32).toInt ≤ (en_k25 : Int32).toInt := by first | omega | decide
                            have q36 : (2 : Int32).toInt = 0 ∨ (at_k25 : Int32).toInt < (en_k25 : Int32).toInt := by first | omega | decide
                            have g37 : 0 ≤ (fI u 0 7).toInt ∧ (fI u 0 7).toInt ≤ 1601 := by have h := MI_7 hJ0; exact h
                            have q38 : ((fI u 0 7) : Int32).toInt ≤ (at_k25 : Int32).toInt := by first | omega | decide
                            refine hret _ _ _ _ _ dX11_goOn_377 ?_ hO
                            exact ⟨hJ, hT, q34, q35, q36, q38⟩
                          · refine lv_iconst (v := 3) hx hb dX11_goOn_228 (by decide) ?_
                            refine lv_goto (tgt := 233) hx hb dX11_goOn_229 (by decide) ?_
                            refine pf_RX11_208 C hO 0 mW_0 (Nat.le_of_ble_eq_true rfl) mW_s0_8 dX11_goOn_233 (fun H locs hO => ?_)
                            have hJ := MIs_8 (v := 3) hJ (by first | decide | omega)
                            refine lv_goto (tgt := 377) hx hb dX11_goOn_236 (by decide) ?_
                            have g39 : 0 ≤ (fI u 0 3).toInt ∧ (fI u 0 3).toInt ≤ 1600 := by have h := MI_3 hJ0; exact h
                            have q40 : (en_k25 : Int32).toInt ≤ ((fI u 0 3) : Int32).toInt := by first | omega | decide
                            have q41 : (at_k25 : Int32).toInt ≤ (en_k25 : Int32).toInt := by first | omega | decide
                            have q42 : (3 : Int32).toInt = 0 ∨ (at_k25 : Int32).toInt < (en_k25 : Int32).toInt := by first | omega | decide
                            have g43 : 0 ≤ (fI u 0 7).toInt ∧ (fI u 0 7).toInt ≤ 1601 := by have h := MI_7 hJ0; exact h
                            have q44 : ((fI u 0 7) : Int32).toInt ≤ (at_k25 : Int32).toInt := by first | omega | decide
                            refine hret _ _ _ _ _ dX11_goOn_377 ?_ hO
                            exact ⟨hJ, hT, q40, q41, q42, q44⟩
                        · refine lv_iconst (v := 1) hx hb dX11_goOn_214 (by decide) ?_
                          refine lv_goto (tgt := 233) hx hb dX11_goOn_215 (by decide) ?_
                          refine pf_RX11_208 C hO 0 mW_0 (Nat.le_of_ble_eq_true rfl) mW_s0_8 dX11_goOn_233 (fun H locs hO => ?_)
                          have hJ := MIs_8 (v := 1) hJ (by first | decide | omega)
                          refine lv_goto (tgt := 377) hx hb dX11_goOn_236 (by decide) ?_
                          have g45 : 0 ≤ (fI u 0 3).toInt ∧ (fI u 0 3).toInt ≤ 1600 := by have h := MI_3 hJ0; exact h
                          have q46 : (en_k25 : Int32).toInt ≤ ((fI u 0 3) : Int32).toInt := by first | omega | decide
                          have q47 : (at_k25 : Int32).toInt ≤ (en_k25 : Int32).toInt := by first | omega | decide
                          have q48 : (1 : Int32).toInt = 0 ∨ (at_k25 : Int32).toInt < (en_k25 : Int32).toInt := by first | omega | decide
                          have g49 : 0 ≤ (fI u 0 7).toInt ∧ (fI u 0 7).toInt ≤ 1601 := by have h := MI_7 hJ0; exact h
                          have q50 : ((fI u 0 7) : Int32).toInt ≤ (at_k25 : Int32).toInt := by first | omega | decide
                          refine hret _ _ _ _ _ dX11_goOn_377 ?_ hO
                          exact ⟨hJ, hT, q46, q47, q48, q50⟩
                      · refine lv_iload_n hx hb dX11_goOn_164 rfl (lv_at hl 0 rfl) ?_
                        refine lv_aload_n hx hb dX11_goOn_165 rfl (lv_at hl 2 rfl) ?_
                        refine gf_RX11_201 (v := .int at_k25) C hO 0 mW_0 (congrArg (fun z : Int32 => some (Value.int z)) hat_k25) dX11_goOn_166 ?_
                        refine lv_bipush (v := 8) hx hb dX11_goOn_169 (by decide) ?_
                        have e51 : ((at_k25 + 8)).toInt = (at_k25).toInt + 8 := i_add rfl rfl (by omega)
                        refine lv_iadd hx hb dX11_goOn_171 ?_
                        refine cs_ge (tgt := 199) (X := (k_k25).toInt) (Y := ((at_k25).toInt + 8)) hx hb dX11_goOn_172 (by decide) rfl e51 (fun c52 => ?_) (fun c52 => ?_)
                        · refine lv_aload_n hx hb dX11_goOn_199 rfl (lv_at hl 2 rfl) ?_
                          refine lv_aload_n hx hb dX11_goOn_200 rfl (lv_at hl 2 rfl) ?_
                          refine gf_RX11_198 (v := .int en_k25) C hO 0 mW_0 (congrArg (fun z : Int32 => some (Value.int z)) hen_k25) dX11_goOn_201 ?_
                          refine lv_aload_n hx hb dX11_goOn_204 rfl (lv_at hl 2 rfl) ?_
                          refine gf_RX11_201 (v := .int at_k25) C hO 0 mW_0 (congrArg (fun z : Int32 => some (Value.int z)) hat_k25) dX11_goOn_205 ?_
                          have e53 : ((en_k25 - at_k25)).toInt = (en_k25).toInt - (at_k25).toInt := i_sub rfl rfl (by omega)
                          refine lv_isub hx hb dX11_goOn_208 ?_
                          refine lv_bipush (v := 8) hx hb dX11_goOn_209 (by decide) ?_
                          refine cs_le (tgt := 218) (X := ((en_k25).toInt - (at_k25).toInt)) (Y := 8) hx hb dX11_goOn_211 (by decide) e53 rfl (fun c54 => ?_) (fun c54 => ?_)
                          · refine lv_aload_n hx hb dX11_goOn_218 rfl (lv_at hl 2 rfl) ?_
                            refine gf_RX11_215 (v := .long ((fL u24 0 10))) C hO 0 mW_0 rfl dX11_goOn_219 ?_
                            refine cSi (w := mW cy a) (As := [.long ((fL u24 0 10))]) (rest := [.ref (a 0)]) C hO (T_X11_isKept l D cy a _ (by exact hJ) ((fL u24 0 10))) (va_cwS 1 ht (gSS wd_1567 wd_1568 wd_121 wd_1569) rfl rfl rfl hd_yX11_isKept ⟨Nat.le_of_ble_eq_true rfl, Nat.le_of_ble_eq_true rfl⟩)  rfl hl.1 (Nat.le_of_ble_eq_true rfl) dX11_goOn_222 rfl ⟨Nat.zero_le _, Nat.zero_le _⟩ (fun r55 u56 H locs hp57 hO => ?_)
                            obtain ⟨hr55, hu56⟩ := hp57
                            have gr55 : 0 ≤ r55.toInt ∧ r55.toInt ≤ 1 := by rcases hr55 with h | h <;> rw [h] <;> decide
                            rw [hu56] at hO
                            refine bs_eq (tgt := 232) (X := (r55).toInt) hx hb dX11_goOn_225 (by decide) rfl (fun c58 => ?_) (fun c58 => ?_)
                            · refine lv_iconst (v := 2) hx hb dX11_goOn_232 (by decide) ?_
                              refine pf_RX11_208 C hO 0 mW_0 (Nat.le_of_ble_eq_true rfl) mW_s0_8 dX11_goOn_233 (fun H locs hO => ?_)
                              have hJ := MIs_8 (v := 2) hJ (by first | decide | omega)
                              refine lv_goto (tgt := 377) hx hb dX11_goOn_236 (by decide) ?_
                              have g59 : 0 ≤ (fI u 0 3).toInt ∧ (fI u 0 3).toInt ≤ 1600 := by have h := MI_3 hJ0; exact h
                              have q60 : (en_k25 : Int32).toInt ≤ ((fI u 0 3) : Int32).toInt := by first | omega | decide
                              have q61 : (at_k25 : Int32).toInt ≤ (en_k25 : Int32).toInt := by first | omega | decide
                              have q62 : (2 : Int32).toInt = 0 ∨ (at_k25 : Int32).toInt < (en_k25 : Int32).toInt := by first | omega | decide
                              have g63 : 0 ≤ (fI u 0 7).toInt ∧ (fI u 0 7).toInt ≤ 1601 := by have h := MI_7 hJ0; exact h
                              have q64 : ((fI u 0 7) : Int32).toInt ≤ (at_k25 : Int32).toInt := by first | omega | decide
                              refine hret _ _ _ _ _ dX11_goOn_377 ?_ hO
                              exact ⟨hJ, hT, q60, q61, q62, q64⟩
                            · refine lv_iconst (v := 3) hx hb dX11_goOn_228 (by decide) ?_
                              refine lv_goto (tgt := 233) hx hb dX11_goOn_229 (by decide) ?_
                              refine pf_RX11_208 C hO 0 mW_0 (Nat.le_of_ble_eq_true rfl) mW_s0_8 dX11_goOn_233 (fun H locs hO => ?_)
                              have hJ := MIs_8 (v := 3) hJ (by first | decide | omega)
                              refine lv_goto (tgt := 377) hx hb dX11_goOn_236 (by decide) ?_
                              have g65 : 0 ≤ (fI u 0 3).toInt ∧ (fI u 0 3).toInt ≤ 1600 := by have h := MI_3 hJ0; exact h
                              have q66 : (en_k25 : Int32).toInt ≤ ((fI u 0 3) : Int32).toInt := by first | omega | decide
                              have q67 : (at_k25 : Int32).toInt ≤ (en_k25 : Int32).toInt := by first | omega | decide
                              have q68 : (3 : Int32).toInt = 0 ∨ (at_k25 : Int32).toInt < (en_k25 : Int32).toInt := by first | omega | decide
                              have g69 : 0 ≤ (fI u 0 7).toInt ∧ (fI u 0 7).toInt ≤ 1601 := by have h := MI_7 hJ0; exact h
                              have q70 : ((fI u 0 7) : Int32).toInt ≤ (at_k25 : Int32).toInt := by first | omega | decide
                              refine hret _ _ _ _ _ dX11_goOn_377 ?_ hO
                              exact ⟨hJ, hT, q66, q67, q68, q70⟩
                          · refine lv_iconst (v := 1) hx hb dX11_goOn_214 (by decide) ?_
                            refine lv_goto (tgt := 233) hx hb dX11_goOn_215 (by decide) ?_
                            refine pf_RX11_208 C hO 0 mW_0 (Nat.le_of_ble_eq_true rfl) mW_s0_8 dX11_goOn_233 (fun H locs hO => ?_)
                            have hJ := MIs_8 (v := 1) hJ (by first | decide | omega)
                            refine lv_goto (tgt := 377) hx hb dX11_goOn_236 (by decide) ?_
                            have g71 : 0 ≤ (fI u 0 3).toInt ∧ (fI u 0 3).toInt ≤ 1600 := by have h := MI_3 hJ0; exact h
                            have q72 : (en_k25 : Int32).toInt ≤ ((fI u 0 3) : Int32).toInt := by first | omega | decide
                            have q73 : (at_k25 : Int32).toInt ≤ (en_k25 : Int32).toInt := by first | omega | decide
                            have q74 : (1 : Int32).toInt = 0 ∨ (at_k25 : Int32).toInt < (en_k25 : Int32).toInt := by first | omega | decide
                            have g75 : 0 ≤ (fI u 0 7).toInt ∧ (fI u 0 7).toInt ≤ 1601 := by have h := MI_7 hJ0; exact h
                            have q76 : ((fI u 0 7) : Int32).toInt ≤ (at_k25 : Int32).toInt := by first | omega | decide
                            refine hret _ _ _ _ _ dX11_goOn_377 ?_ hO
                            exact ⟨hJ, hT, q72, q73, q74, q76⟩
                        · refine lv_aload_n hx hb dX11_goOn_175 rfl (lv_at hl 2 rfl) ?_
                          refine lv_aload_n hx hb dX11_goOn_176 rfl (lv_at hl 2 rfl) ?_
                          refine gf_RX11_215 (v := .long ((fL u24 0 10))) C hO 0 mW_0 rfl dX11_goOn_177 ?_
                          refine lv_bipush (v := 8) hx hb dX11_goOn_180 (by decide) ?_
                          refine lv_lshl hx hb dX11_goOn_182 rfl ?_
                          refine lv_topl (fun w77 ew77 => ?_)
                          refine lv_aload_n hx hb dX11_goOn_183 rfl (lv_at hl 2 rfl) ?_
                          refine lv_iload_n hx hb dX11_goOn_184 rfl (lv_at hl 0 rfl) ?_
                          refine cVi (w := mW cy a) (As := [.int k_k25]) (rest := [.long w77, .ref (a 0)]) C hO (T_X11_sign l D cy a _ (by exact hJ) (k_k25) (by first | omega | decide)) (cwV 1 ht (gV wd_1560 wd_1562 wd_49 wd_121 wd_1563) rfl rfl rfl hd_yX11_sign ⟨Nat.le_of_ble_eq_true rfl, Nat.le_of_ble_eq_true rfl⟩) 0 rfl mW_0 rfl rfl hl.1 (Nat.le_of_ble_eq_true rfl) dX11_goOn_185 rfl ⟨Nat.zero_le _, Nat.zero_le _⟩ (fun r78 u79 H locs hp80 hO => ?_)
                          obtain ⟨hr78, hu79⟩ := hp80
                          rw [hu79] at hO
                          have g81 : 0 ≤ (fI u 0 3).toInt ∧ (fI u 0 3).toInt ≤ 1600 := by have h := MI_3 hJ0; exact h
                          have gr78 : (0 ≤ r78.toInt ∧ r78.toInt ≤ 255) ∧ (r78.toInt = 0 ∨ (k_k25 : Int32).toInt < ((fI u 0 3)).toInt) := by have h := sgF_b (u := _) (k := k_k25); rw [← hr78] at h; rw [(Km26_I3 hT)] at h; exact h
                          have hr78 : r78 = sgF u k_k25 := hr78.trans (sgF_eq (Km26_A2 hT) (Km26_I3 hT))
                          refine lv_i2l hx hb dX11_goOn_188 rfl ?_
                          refine lv_topl (fun w82 ew82 => ?_)
                          refine lv_lor hx hb dX11_goOn_189 ?_
                          refine lv_topl (fun w83 ew83 => ?_)
                          refine pf_RX11_215 C hO 0 mW_0 (Nat.le_of_ble_eq_true rfl) mW_s0_10 dX11_goOn_190 (fun H locs hO => ?_)
                          have hJ := MIs_10 (v := w83) hJ
                          have e84 : ((k_k25 + 1)).toInt = (k_k25).toInt + 1 := i_add rfl rfl (by omega)
                          refine lv_iinc (v := (k_k25 + 1)) (lv' := [(2, .int (k_k25 + 1)), (1, .int r6), (0, .ref (a 0))]) hx hb dX11_goOn_193 hl (k := 0) rfl rfl (by decide) rfl (fun ls hl => ?_)
                          refine lv_goto (tgt := 156) hx hb dX11_goOn_196 (by decide) ?_
                          exact ih_k25 _ _ _ _ ((k_k25 + 1)) (at_k25) (en_k25) hO (lv_sub hl [0, 1, 2] rfl) (by exact hJ) (by exact hT) (by exact hat_k25) (by exact hen_k25) (by first | decide | omega) (by first | decide | omega) (by first | decide | omega) (by first | decide | omega) (by first | decide | omega) (by first | decide | omega) (by first | decide | omega)
                  exact LP_156_k25 4000 _ _ _ _ (at_k15) (at_k15) (en_k15) hO (lv_sub hl [0, 1, 2] rfl) (by exact hJ) (by exact hT) (by exact hat_k15) (by exact hen_k15) (by first | decide | omega) (by first | decide | omega) (by first | decide | omega) (by first | decide | omega) (by first | decide | omega) (by first | decide | omega) (by first | decide | omega)
            exact LP_119_k15 4000 _ _ _ _ (at_k3) ((at_k3 + 1)) hO (lv_sub hl [0, 1] rfl) (by exact hJ) (by exact hT) (by exact hat_k3) (by exact rfl) (by first | decide | omega) (by first | decide | omega) (by first | decide | omega) (by first | decide | omega) (by first | decide | omega) (by first | decide | omega)
          · subst hvr11
            refine bt_eq (tgt := 239) (X := 0) hx hb dX11_goOn_116 (by decide) rfl (by omega) ?_
            refine lv_iload_n hx hb dX11_goOn_239 rfl (lv_at hl 0 rfl) ?_
            refine cSi (w := mW cy a) (As := [.int r6]) (rest := []) C hO (T_X11_isDigit l D cy a _ (by exact hJ) (r6)) (va_cwS 1 ht (gSS wd_1590 wd_1591 wd_121 wd_1592) rfl rfl rfl hd_yX11_isDigit ⟨Nat.le_of_ble_eq_true rfl, Nat.le_of_ble_eq_true rfl⟩)  rfl hl.1 (Nat.le_of_ble_eq_true rfl) dX11_goOn_240 rfl ⟨Nat.zero_le _, Nat.zero_le _⟩ (fun r85 u86 H locs hp87 hO => ?_)
            obtain ⟨hr85, hu86⟩ := hp87
            rw [hu86] at hO
            rcases hr85 with ⟨hcr85, hvr85⟩ | ⟨hcr85, hvr85⟩
            · subst hvr85
              refine bn_eq (X := 1) hx hb dX11_goOn_243 rfl (by omega) ?_ (tgt := 361) (by decide)
              refine lv_aload_n hx hb dX11_goOn_246 rfl (lv_at hl 1 rfl) ?_
              refine lv_iconst (v := 0) hx hb dX11_goOn_247 (by decide) ?_
              refine pf_RX11_226 C hO 0 mW_0 (Nat.le_of_ble_eq_true rfl) mW_s0_9 dX11_goOn_248 (fun H locs hO => ?_)
              have hJ := MIs_9 (v := 0) hJ
              refine lv_aload_n hx hb dX11_goOn_251 rfl (lv_at hl 1 rfl) ?_
              refine lv_aload_n hx hb dX11_goOn_252 rfl (lv_at hl 1 rfl) ?_
              refine gf_RX11_201 (v := .int at_k3) C hO 0 mW_0 (congrArg (fun z : Int32 => some (Value.int z)) hat_k3) dX11_goOn_253 ?_
              refine pf_RX11_198 C hO 0 mW_0 (Nat.le_of_ble_eq_true rfl) mW_s0_7 dX11_goOn_256 (fun H locs hO => ?_)
              have hJ := MIs_7 (v := at_k3) hJ (by first | decide | omega)
              have LP_259_k89 : ∀ (n : Nat) (u88 : St) (H : Heap) (locs : List Loc) (ls : Array Slot) (at_k89 : Int32) (en_k89 : Int32), Wo D A (mW cy a u88) s.heap H locs → lv_has ls 3 [(1, .int r6), (0, .ref (a 0))] → MI a u88 → Km26 u u88 → fI u88 0 6 = at_k89 → fI u88 0 7 = en_k89 → at_k89.toInt ≤ en_k89.toInt → en_k89.toInt ≤ (fI u 0 3).toInt → (fI u 0 7).toInt ≤ at_k89.toInt → at_k89.toInt < (fI u 0 3).toInt → 0 ≤ at_k89.toInt ∧ at_k89.toInt ≤ 1600 → 0 ≤ en_k89.toInt ∧ en_k89.toInt ≤ 1601 → (r6 = sgF u at_k89) → 1601 - en_k89.toInt < (n : Int) → W p l e (rmo 1 22) s m [.ref (a 0)].toArray below meth c H locs 0 0 Q (F0 m 259 ls []) := by
                intro n
                induction n with
                | zero =>
                  intro u88 H locs ls at_k89 en_k89 hO hl hJ hT hat_k89 hen_k89 iv0_k89 iv1_k89 iv2_k89 iv3_k89 iv4_k89 iv5_k89 cv0_k89 hm_k89
                  exact absurd hm_k89 (by omega)
                | succ n ih_k89 =>
                  intro u88 H locs ls at_k89 en_k89 hO hl hJ hT hat_k89 hen_k89 iv0_k89 iv1_k89 iv2_k89 iv3_k89 iv4_k89 iv5_k89 cv0_k89 hm_k89
                  refine lv_aload_n hx hb dX11_goOn_259 rfl (lv_at hl 1 rfl) ?_
                  refine lv_aload_n hx hb dX11_goOn_260 rfl (lv_at hl 1 rfl) ?_
                  refine gf_RX11_198 (v := .int en_k89) C hO 0 mW_0 (congrArg (fun z : Int32 => some (Value.int z)) hen_k89) dX11_goOn_261 ?_
                  refine cVi (w := mW cy a) (As := [.int en_k89]) (rest := []) C hO (T_X11_sign l D cy a _ (by exact hJ) (en_k89) (by first | omega | decide)) (cwV 1 ht (gV wd_1560 wd_1562 wd_49 wd_121 wd_1563) rfl rfl rfl hd_yX11_sign ⟨Nat.le_of_ble_eq_true rfl, Nat.le_of_ble_eq_true rfl⟩) 0 rfl mW_0 rfl rfl hl.1 (Nat.le_of_ble_eq_true rfl) dX11_goOn_264 rfl ⟨Nat.zero_le _, Nat.zero_le _⟩ (fun r90 u91 H locs hp92 hO => ?_)
                  obtain ⟨hr90, hu91⟩ := hp92
                  rw [hu91] at hO
                  have g93 : 0 ≤ (fI u 0 3).toInt ∧ (fI u 0 3).toInt ≤ 1600 := by have h := MI_3 hJ0; exact h
                  have gr90 : (0 ≤ r90.toInt ∧ r90.toInt ≤ 255) ∧ (r90.toInt = 0 ∨ (en_k89 : Int32).toInt < ((fI u 0 3)).toInt) := by have h := sgF_b (u := _) (k := en_k89); rw [← hr90] at h; rw [(Km26_I3 hT)] at h; exact h
                  have hr90 : r90 = sgF u en_k89 := hr90.trans (sgF_eq (Km26_A2 hT) (Km26_I3 hT))
                  refine cSi (w := mW cy a) (As := [.int r90]) (rest := []) C hO (T_X11_isDigit l D cy a _ (by exact hJ) (r90)) (va_cwS 1 ht (gSS wd_1590 wd_1591 wd_121 wd_1592) rfl rfl rfl hd_yX11_isDigit ⟨Nat.le_of_ble_eq_true rfl, Nat.le_of_ble_eq_true rfl⟩)  rfl hl.1 (Nat.le_of_ble_eq_true rfl) dX11_goOn_267 rfl ⟨Nat.zero_le _, Nat.zero_le _⟩ (fun r94 u95 H locs hp96 hO => ?_)
                  obtain ⟨hr94, hu95⟩ := hp96
                  rw [hu95] at hO
                  rcases hr94 with ⟨hcr94, hvr94⟩ | ⟨hcr94, hvr94⟩
                  · subst hvr94
                    refine bn_eq (X := 1) hx hb dX11_goOn_270 rfl (by omega) ?_ (tgt := 322) (by decide)
                    refine lv_aload_n hx hb dX11_goOn_273 rfl (lv_at hl 1 rfl) ?_
                    refine gf_RX11_198 (v := .int en_k89) C hO 0 mW_0 (congrArg (fun z : Int32 => some (Value.int z)) hen_k89) dX11_goOn_274 ?_
                    refine lv_aload_n hx hb dX11_goOn_277 rfl (lv_at hl 1 rfl) ?_
                    refine gf_RX11_201 (v := .int at_k89) C hO 0 mW_0 (congrArg (fun z : Int32 => some (Value.int z)) hat_k89) dX11_goOn_278 ?_
                    have e97 : ((en_k89 - at_k89)).toInt = (en_k89).toInt - (at_k89).toInt := i_sub rfl rfl (by omega)
                    refine lv_isub hx hb dX11_goOn_281 ?_
                    refine lv_iconst (v := 4) hx hb dX11_goOn_282 (by decide) ?_
                    refine cs_ge (tgt := 309) (X := ((en_k89).toInt - (at_k89).toInt)) (Y := 4) hx hb dX11_goOn_283 (by decide) e97 rfl (fun c98 => ?_) (fun c98 => ?_)
                    · refine lv_aload_n hx hb dX11_goOn_309 rfl (lv_at hl 1 rfl) ?_
                      refine lv_dup hx hb dX11_goOn_310 rfl ?_
                      refine gf_RX11_198 (v := .int en_k89) C hO 0 mW_0 (congrArg (fun z : Int32 => some (Value.int z)) hen_k89) dX11_goOn_311 ?_
                      refine lv_iconst (v := 1) hx hb dX11_goOn_314 (by decide) ?_
                      have e99 : ((en_k89 + 1)).toInt = (en_k89).toInt + 1 := i_add rfl rfl (by omega)
                      refine lv_iadd hx hb dX11_goOn_315 ?_
                      refine pf_RX11_198 C hO 0 mW_0 (Nat.le_of_ble_eq_true rfl) mW_s0_7 dX11_goOn_316 (fun H locs hO => ?_)
                      have hJ := MIs_7 (v := (en_k89 + 1)) hJ (by first | decide | omega)
                      refine lv_goto (tgt := 259) hx hb dX11_goOn_319 (by decide) ?_
                      exact ih_k89 _ _ _ _ (at_k89) ((en_k89 + 1)) hO (lv_sub hl [0, 1] rfl) (by exact hJ) (by exact hT) (by exact hat_k89) (by exact rfl) (by first | decide | omega) (by first | decide | omega) (by first | decide | omega) (by first | decide | omega) (by first | decide | omega) (by first | decide | omega) (by exact cv0_k89) (by first | decide | omega)
                    · refine lv_aload_n hx hb dX11_goOn_286 rfl (lv_at hl 1 rfl) ?_
                      refine lv_bipush (v := 10) hx hb dX11_goOn_287 (by decide) ?_
                      refine lv_aload_n hx hb dX11_goOn_289 rfl (lv_at hl 1 rfl) ?_
                      refine gf_RX11_226 (v := .int (fI u88 0 9)) C hO 0 mW_0 rfl dX11_goOn_290 ?_
                      refine lv_imul hx hb dX11_goOn_293 ?_
                      refine lv_aload_n hx hb dX11_goOn_294 rfl (lv_at hl 1 rfl) ?_
                      refine lv_aload_n hx hb dX11_goOn_295 rfl (lv_at hl 1 rfl) ?_
                      refine gf_RX11_198 (v := .int en_k89) C hO 0 mW_0 (congrArg (fun z : Int32 => some (Value.int z)) hen_k89) dX11_goOn_296 ?_
                      refine cVi (w := mW cy a) (As := [.int en_k89]) (rest := [.int (10 * (fI u88 0 9)), .ref (a 0)]) C hO (T_X11_sign l D cy a _ (by exact hJ) (en_k89) (by first | omega | decide)) (cwV 1 ht (gV wd_1560 wd_1562 wd_49 wd_121 wd_1563) rfl rfl rfl hd_yX11_sign ⟨Nat.le_of_ble_eq_true rfl, Nat.le_of_ble_eq_true rfl⟩) 0 rfl mW_0 rfl rfl hl.1 (Nat.le_of_ble_eq_true rfl) dX11_goOn_299 rfl ⟨Nat.zero_le _, Nat.zero_le _⟩ (fun r100 u101 H locs hp102 hO => ?_)
                      obtain ⟨hr100, hu101⟩ := hp102
                      rw [hu101] at hO
                      have gr100 : (0 ≤ r100.toInt ∧ r100.toInt ≤ 255) ∧ (r100.toInt = 0 ∨ (en_k89 : Int32).toInt < ((fI u 0 3)).toInt) := by have h := sgF_b (u := _) (k := en_k89); rw [← hr100] at h; rw [(Km26_I3 hT)] at h; exact h
                      have hr100 : r100 = sgF u en_k89 := hr100.trans (sgF_eq (Km26_A2 hT) (Km26_I3 hT))
                      refine lv_iadd hx hb dX11_goOn_302 ?_
                      refine lv_bipush (v := 48) hx hb dX11_goOn_303 (by decide) ?_
                      refine lv_isub hx hb dX11_goOn_305 ?_
                      refine pf_RX11_226 C hO 0 mW_0 (Nat.le_of_ble_eq_true rfl) mW_s0_9 dX11_goOn_306 (fun H locs hO => ?_)
                      have hJ := MIs_9 (v := (((10 * (fI u88 0 9)) + r100) - 48)) hJ
                      refine lv_aload_n hx hb dX11_goOn_309 rfl (lv_at hl 1 rfl) ?_
                      refine lv_dup hx hb dX11_goOn_310 rfl ?_
                      refine gf_RX11_198 (v := .int en_k89) C hO 0 mW_0 (congrArg (fun z : Int32 => some (Value.int z)) hen_k89) dX11_goOn_311 ?_
                      refine lv_iconst (v := 1) hx hb dX11_goOn_314 (by decide) ?_
                      have e103 : ((en_k89 + 1)).toInt = (en_k89).toInt + 1 := i_add rfl rfl (by omega)
                      refine lv_iadd hx hb dX11_goOn_315 ?_
                      refine pf_RX11_198 C hO 0 mW_0 (Nat.le_of_ble_eq_true rfl) mW_s0_7 dX11_goOn_316 (fun H locs hO => ?_)
                      have hJ := MIs_7 (v := (en_k89 + 1)) hJ (by first | decide | omega)
                      refine lv_goto (tgt := 259) hx hb dX11_goOn_319 (by decide) ?_
                      exact ih_k89 _ _ _ _ (at_k89) ((en_k89 + 1)) hO (lv_sub hl [0, 1] rfl) (by exact hJ) (by exact hT) (by exact hat_k89) (by exact rfl) (by first | decide | omega) (by first | decide | omega) (by first | decide | omega) (by first | decide | omega) (by first | decide | omega) (by first | decide | omega) (by exact cv0_k89) (by first | decide | omega)
                  · subst hvr94
                    refine bt_eq (tgt := 322) (X := 0) hx hb dX11_goOn_270 (by decide) rfl (by omega) ?_
                    have hlt104 : at_k89.toInt < en_k89.toInt := by
                      by_cases q : en_k89.toInt = at_k89.toInt
                      · exfalso
                        have e1 : en_k89 = at_k89 := i32_eq.mpr q
                        rw [e1, ← cv0_k89] at hr90
                        have e2 := congrArg Int32.toInt hr90
                        omega
                      · omega
                    refine lv_aload_n hx hb dX11_goOn_322 rfl (lv_at hl 1 rfl) ?_
                    refine lv_aload_n hx hb dX11_goOn_323 rfl (lv_at hl 1 rfl) ?_
                    refine gf_RX11_198 (v := .int en_k89) C hO 0 mW_0 (congrArg (fun z : Int32 => some (Value.int z)) hen_k89) dX11_goOn_324 ?_
                    refine lv_aload_n hx hb dX11_goOn_327 rfl (lv_at hl 1 rfl) ?_
                    refine gf_RX11_201 (v := .int at_k89) C hO 0 mW_0 (congrArg (fun z : Int32 => some (Value.int z)) hat_k89) dX11_goOn_328 ?_
                    have e105 : ((en_k89 - at_k89)).toInt = (en_k89).toInt - (at_k89).toInt := i_sub rfl rfl (by omega)
                    refine lv_isub hx hb dX11_goOn_331 ?_
                    refine lv_iconst (v := 4) hx hb dX11_goOn_332 (by decide) ?_
                    refine cs_gt (tgt := 350) (X := ((en_k89).toInt - (at_k89).toInt)) (Y := 4) hx hb dX11_goOn_333 (by decide) e105 rfl (fun c106 => ?_) (fun c106 => ?_)
                    · refine lv_iconst (v := 1) hx hb dX11_goOn_350 (by decide) ?_
                      refine lv_goto (tgt := 355) hx hb dX11_goOn_351 (by decide) ?_
                      refine pf_RX11_208 C hO 0 mW_0 (Nat.le_of_ble_eq_true rfl) mW_s0_8 dX11_goOn_355 (fun H locs hO => ?_)
                      have hJ := MIs_8 (v := 1) hJ (by first | decide | omega)
                      refine lv_goto (tgt := 377) hx hb dX11_goOn_358 (by decide) ?_
                      have q107 : (en_k89 : Int32).toInt ≤ ((fI u 0 3) : Int32).toInt := by first | omega | decide
                      have q108 : (at_k89 : Int32).toInt ≤ (en_k89 : Int32).toInt := by first | omega | decide
                      have q109 : (1 : Int32).toInt = 0 ∨ (at_k89 : Int32).toInt < (en_k89 : Int32).toInt := by first | omega | decide
                      have g110 : 0 ≤ (fI u 0 7).toInt ∧ (fI u 0 7).toInt ≤ 1601 := by have h := MI_7 hJ0; exact h
                      have q111 : ((fI u 0 7) : Int32).toInt ≤ (at_k89 : Int32).toInt := by first | omega | decide
                      refine hret _ _ _ _ _ dX11_goOn_377 ?_ hO
                      exact ⟨hJ, hT, q107, q108, q109, q111⟩
                    · refine lv_aload_n hx hb dX11_goOn_336 rfl (lv_at hl 1 rfl) ?_
                      refine lv_aload_n hx hb dX11_goOn_337 rfl (lv_at hl 1 rfl) ?_
                      refine gf_RX11_198 (v := .int en_k89) C hO 0 mW_0 (congrArg (fun z : Int32 => some (Value.int z)) hen_k89) dX11_goOn_338 ?_
                      refine cVi (w := mW cy a) (As := [.int en_k89]) (rest := [.ref (a 0)]) C hO (T_X11_sign l D cy a _ (by exact hJ) (en_k89) (by first | omega | decide)) (cwV 1 ht (gV wd_1560 wd_1562 wd_49 wd_121 wd_1563) rfl rfl rfl hd_yX11_sign ⟨Nat.le_of_ble_eq_true rfl, Nat.le_of_ble_eq_true rfl⟩) 0 rfl mW_0 rfl rfl hl.1 (Nat.le_of_ble_eq_true rfl) dX11_goOn_341 rfl ⟨Nat.zero_le _, Nat.zero_le _⟩ (fun r112 u113 H locs hp114 hO => ?_)
                      obtain ⟨hr112, hu113⟩ := hp114
                      rw [hu113] at hO
                      have gr112 : (0 ≤ r112.toInt ∧ r112.toInt ≤ 255) ∧ (r112.toInt = 0 ∨ (en_k89 : Int32).toInt < ((fI u 0 3)).toInt) := by have h := sgF_b (u := _) (k := en_k89); rw [← hr112] at h; rw [(Km26_I3 hT)] at h; exact h
                      have hr112 : r112 = sgF u en_k89 := hr112.trans (sgF_eq (Km26_A2 hT) (Km26_I3 hT))
                      refine cSi (w := mW cy a) (As := [.int r112]) (rest := [.ref (a 0)]) C hO (T_X11_isLetter l D cy a _ (by exact hJ) (r112)) (va_cwS 1 ht (gSS wd_1564 wd_1565 wd_121 wd_1566) rfl rfl rfl hd_yX11_isLetter ⟨Nat.le_of_ble_eq_true rfl, Nat.le_of_ble_eq_true rfl⟩)  rfl hl.1 (Nat.le_of_ble_eq_true rfl) dX11_goOn_344 rfl ⟨Nat.zero_le _, Nat.zero_le _⟩ (fun r115 u116 H locs hp117 hO => ?_)
                      obtain ⟨hr115, hu116⟩ := hp117
                      rw [hu116] at hO
                      rcases hr115 with ⟨hcr115, hvr115⟩ | ⟨hcr115, hvr115⟩
                      · subst hvr115
                        refine bn_eq (X := 1) hx hb dX11_goOn_347 rfl (by omega) ?_ (tgt := 354) (by decide)
                        refine lv_iconst (v := 1) hx hb dX11_goOn_350 (by decide) ?_
                        refine lv_goto (tgt := 355) hx hb dX11_goOn_351 (by decide) ?_
                        refine pf_RX11_208 C hO 0 mW_0 (Nat.le_of_ble_eq_true rfl) mW_s0_8 dX11_goOn_355 (fun H locs hO => ?_)
                        have hJ := MIs_8 (v := 1) hJ (by first | decide | omega)
                        refine lv_goto (tgt := 377) hx hb dX11_goOn_358 (by decide) ?_
                        have q118 : (en_k89 : Int32).toInt ≤ ((fI u 0 3) : Int32).toInt := by first | omega | decide
                        have q119 : (at_k89 : Int32).toInt ≤ (en_k89 : Int32).toInt := by first | omega | decide
                        have q120 : (1 : Int32).toInt = 0 ∨ (at_k89 : Int32).toInt < (en_k89 : Int32).toInt := by first | omega | decide
                        have g121 : 0 ≤ (fI u 0 7).toInt ∧ (fI u 0 7).toInt ≤ 1601 := by have h := MI_7 hJ0; exact h
                        have q122 : ((fI u 0 7) : Int32).toInt ≤ (at_k89 : Int32).toInt := by first | omega | decide
                        refine hret _ _ _ _ _ dX11_goOn_377 ?_ hO
                        exact ⟨hJ, hT, q118, q119, q120, q122⟩
                      · subst hvr115
                        refine bt_eq (tgt := 354) (X := 0) hx hb dX11_goOn_347 (by decide) rfl (by omega) ?_
                        refine lv_iconst (v := 4) hx hb dX11_goOn_354 (by decide) ?_
                        refine pf_RX11_208 C hO 0 mW_0 (Nat.le_of_ble_eq_true rfl) mW_s0_8 dX11_goOn_355 (fun H locs hO => ?_)
                        have hJ := MIs_8 (v := 4) hJ (by first | decide | omega)
                        refine lv_goto (tgt := 377) hx hb dX11_goOn_358 (by decide) ?_
                        have q123 : (en_k89 : Int32).toInt ≤ ((fI u 0 3) : Int32).toInt := by first | omega | decide
                        have q124 : (at_k89 : Int32).toInt ≤ (en_k89 : Int32).toInt := by first | omega | decide
                        have q125 : (4 : Int32).toInt = 0 ∨ (at_k89 : Int32).toInt < (en_k89 : Int32).toInt := by first | omega | decide
                        have g126 : 0 ≤ (fI u 0 7).toInt ∧ (fI u 0 7).toInt ≤ 1601 := by have h := MI_7 hJ0; exact h
                        have q127 : ((fI u 0 7) : Int32).toInt ≤ (at_k89 : Int32).toInt := by first | omega | decide
                        refine hret _ _ _ _ _ dX11_goOn_377 ?_ hO
                        exact ⟨hJ, hT, q123, q124, q125, q127⟩
              exact LP_259_k89 4000 _ _ _ _ (at_k3) (at_k3) hO (lv_sub hl [0, 1] rfl) (by exact hJ) (by exact hT) (by exact hat_k3) (by exact rfl) (by first | decide | omega) (by first | decide | omega) (by first | decide | omega) (by first | decide | omega) (by first | decide | omega) (by first | decide | omega) (by exact hr6) (by first | decide | omega)
            · subst hvr85
              refine bt_eq (tgt := 361) (X := 0) hx hb dX11_goOn_243 (by decide) rfl (by omega) ?_
              refine lv_aload_n hx hb dX11_goOn_361 rfl (lv_at hl 1 rfl) ?_
              refine lv_iload_n hx hb dX11_goOn_362 rfl (lv_at hl 0 rfl) ?_
              refine cSi (w := mW cy a) (As := [.int r6]) (rest := [.ref (a 0)]) C hO (T_X11_isSign l D cy a _ (by exact hJ) (r6)) (va_cwS 1 ht (gSS wd_1593 wd_1594 wd_121 wd_1595) rfl rfl rfl hd_yX11_isSign ⟨Nat.le_of_ble_eq_true rfl, Nat.le_of_ble_eq_true rfl⟩)  rfl hl.1 (Nat.le_of_ble_eq_true rfl) dX11_goOn_363 rfl ⟨Nat.zero_le _, Nat.zero_le _⟩ (fun r128 u129 H locs hp130 hO => ?_)
              obtain ⟨hr128, hu129⟩ := hp130
              have gr128 : 0 ≤ r128.toInt ∧ r128.toInt ≤ 1 := by rcases hr128 with h | h <;> rw [h] <;> decide
              rw [hu129] at hO
              refine bs_eq (tgt := 373) (X := (r128).toInt) hx hb dX11_goOn_366 (by decide) rfl (fun c131 => ?_) (fun c131 => ?_)
              · refine lv_iconst (v := 1) hx hb dX11_goOn_373 (by decide) ?_
                refine pf_RX11_208 C hO 0 mW_0 (Nat.le_of_ble_eq_true rfl) mW_s0_8 dX11_goOn_374 (fun H locs hO => ?_)
                have hJ := MIs_8 (v := 1) hJ (by first | decide | omega)
                have q132 : ((at_k3 + 1) : Int32).toInt ≤ ((fI u 0 3) : Int32).toInt := by first | omega | decide
                have q133 : (at_k3 : Int32).toInt ≤ ((at_k3 + 1) : Int32).toInt := by first | omega | decide
                have q134 : (1 : Int32).toInt = 0 ∨ (at_k3 : Int32).toInt < ((at_k3 + 1) : Int32).toInt := by first | omega | decide
                have g135 : 0 ≤ (fI u 0 7).toInt ∧ (fI u 0 7).toInt ≤ 1601 := by have h := MI_7 hJ0; exact h
                have q136 : ((fI u 0 7) : Int32).toInt ≤ (at_k3 : Int32).toInt := by first | omega | decide
                refine hret _ _ _ _ _ dX11_goOn_377 ?_ hO
                exact ⟨hJ, hT, q132, q133, q134, q136⟩
              · refine lv_iconst (v := 5) hx hb dX11_goOn_369 (by decide) ?_
                refine lv_goto (tgt := 374) hx hb dX11_goOn_370 (by decide) ?_
                refine pf_RX11_208 C hO 0 mW_0 (Nat.le_of_ble_eq_true rfl) mW_s0_8 dX11_goOn_374 (fun H locs hO => ?_)
                have hJ := MIs_8 (v := 5) hJ (by first | decide | omega)
                have q137 : ((at_k3 + 1) : Int32).toInt ≤ ((fI u 0 3) : Int32).toInt := by first | omega | decide
                have q138 : (at_k3 : Int32).toInt ≤ ((at_k3 + 1) : Int32).toInt := by first | omega | decide
                have q139 : (5 : Int32).toInt = 0 ∨ (at_k3 : Int32).toInt < ((at_k3 + 1) : Int32).toInt := by first | omega | decide
                have g140 : 0 ≤ (fI u 0 7).toInt ∧ (fI u 0 7).toInt ≤ 1601 := by have h := MI_7 hJ0; exact h
                have q141 : ((fI u 0 7) : Int32).toInt ≤ (at_k3 : Int32).toInt := by first | omega | decide
                refine hret _ _ _ _ _ dX11_goOn_377 ?_ hO
                exact ⟨hJ, hT, q137, q138, q139, q141⟩
        · refine lv_aload_n hx hb dX11_goOn_88 rfl (lv_at hl 1 rfl) ?_
          refine lv_iconst (v := 0) hx hb dX11_goOn_89 (by decide) ?_
          refine pf_RX11_208 C hO 0 mW_0 (Nat.le_of_ble_eq_true rfl) mW_s0_8 dX11_goOn_90 (fun H locs hO => ?_)
          have hJ := MIs_8 (v := 0) hJ (by first | decide | omega)
          refine lv_aload_n hx hb dX11_goOn_93 rfl (lv_at hl 1 rfl) ?_
          refine lv_aload_n hx hb dX11_goOn_94 rfl (lv_at hl 1 rfl) ?_
          refine gf_RX11_152 (v := .int (fI u 0 3)) C hO 0 mW_0 (congrArg (fun z : Int32 => some (Value.int z)) (Km26_I3 hT)) dX11_goOn_95 ?_
          refine pf_RX11_201 C hO 0 mW_0 (Nat.le_of_ble_eq_true rfl) mW_s0_6 dX11_goOn_98 (fun H locs hO => ?_)
          have hJ := MIs_6 (v := (fI u 0 3)) hJ (by first | decide | omega)
          refine lv_aload_n hx hb dX11_goOn_101 rfl (lv_at hl 1 rfl) ?_
          refine lv_aload_n hx hb dX11_goOn_102 rfl (lv_at hl 1 rfl) ?_
          refine gf_RX11_152 (v := .int (fI u 0 3)) C hO 0 mW_0 (congrArg (fun z : Int32 => some (Value.int z)) (Km26_I3 hT)) dX11_goOn_103 ?_
          refine pf_RX11_198 C hO 0 mW_0 (Nat.le_of_ble_eq_true rfl) mW_s0_7 dX11_goOn_106 (fun H locs hO => ?_)
          have hJ := MIs_7 (v := (fI u 0 3)) hJ (by first | decide | omega)
          refine lv_goto (tgt := 377) hx hb dX11_goOn_109 (by decide) ?_
          have q142 : ((fI u 0 3) : Int32).toInt ≤ ((fI u 0 3) : Int32).toInt := by first | omega | decide
          have q143 : ((fI u 0 3) : Int32).toInt ≤ ((fI u 0 3) : Int32).toInt := by first | omega | decide
          have q144 : (0 : Int32).toInt = 0 ∨ ((fI u 0 3) : Int32).toInt < ((fI u 0 3) : Int32).toInt := by first | omega | decide
          have g145 : 0 ≤ (fI u 0 7).toInt ∧ (fI u 0 7).toInt ≤ 1601 := by have h := MI_7 hJ0; exact h
          have q146 : ((fI u 0 7) : Int32).toInt ≤ ((fI u 0 3) : Int32).toInt := by first | omega | decide
          refine hret _ _ _ _ _ dX11_goOn_377 ?_ hO
          exact ⟨hJ, hT, q142, q143, q144, q146⟩
      · refine lv_aload_n hx hb dX11_goOn_19 rfl (lv_at hl 0 rfl) ?_
        refine lv_aload_n hx hb dX11_goOn_20 rfl (lv_at hl 0 rfl) ?_
        refine gf_RX11_201 (v := .int at_k3) C hO 0 mW_0 (congrArg (fun z : Int32 => some (Value.int z)) hat_k3) dX11_goOn_21 ?_
        refine cVi (w := mW cy a) (As := [.int at_k3]) (rest := []) C hO (T_X11_sign l D cy a _ (by exact hJ) (at_k3) (by first | omega | decide)) (cwV 1 ht (gV wd_1560 wd_1562 wd_49 wd_121 wd_1563) rfl rfl rfl hd_yX11_sign ⟨Nat.le_of_ble_eq_true rfl, Nat.le_of_ble_eq_true rfl⟩) 0 rfl mW_0 rfl rfl hl.1 (Nat.le_of_ble_eq_true rfl) dX11_goOn_24 rfl ⟨Nat.zero_le _, Nat.zero_le _⟩ (fun r147 u148 H locs hp149 hO => ?_)
        obtain ⟨hr147, hu148⟩ := hp149
        rw [hu148] at hO
        have gr147 : (0 ≤ r147.toInt ∧ r147.toInt ≤ 255) ∧ (r147.toInt = 0 ∨ (at_k3 : Int32).toInt < ((fI u 0 3)).toInt) := by have h := sgF_b (u := _) (k := at_k3); rw [← hr147] at h; rw [(Km26_I3 hT)] at h; exact h
        have hr147 : r147 = sgF u at_k3 := hr147.trans (sgF_eq (Km26_A2 hT) (Km26_I3 hT))
        refine lv_bipush (v := 32) hx hb dX11_goOn_27 (by decide) ?_
        refine cs_eq (tgt := 45) (X := (r147).toInt) (Y := 32) hx hb dX11_goOn_29 (by decide) rfl rfl (fun c150 => ?_) (fun c150 => ?_)
        · refine lv_aload_n hx hb dX11_goOn_45 rfl (lv_at hl 0 rfl) ?_
          refine lv_dup hx hb dX11_goOn_46 rfl ?_
          refine gf_RX11_201 (v := .int at_k3) C hO 0 mW_0 (congrArg (fun z : Int32 => some (Value.int z)) hat_k3) dX11_goOn_47 ?_
          refine lv_iconst (v := 1) hx hb dX11_goOn_50 (by decide) ?_
          have e151 : ((at_k3 + 1)).toInt = (at_k3).toInt + 1 := i_add rfl rfl (by omega)
          refine lv_iadd hx hb dX11_goOn_51 ?_
          refine pf_RX11_201 C hO 0 mW_0 (Nat.le_of_ble_eq_true rfl) mW_s0_6 dX11_goOn_52 (fun H locs hO => ?_)
          have hJ := MIs_6 (v := (at_k3 + 1)) hJ (by first | decide | omega)
          refine lv_goto (tgt := 8) hx hb dX11_goOn_55 (by decide) ?_
          exact ih_k3 _ _ _ _ ((at_k3 + 1)) (en_k3) hO (lv_sub hl [0] rfl) (by exact hJ) (by exact hT) (by exact rfl) (by exact hen_k3) (by first | decide | omega) (by first | decide | omega) (by first | decide | omega) (by first | decide | omega) (by first | decide | omega)
        · refine lv_aload_n hx hb dX11_goOn_32 rfl (lv_at hl 0 rfl) ?_
          refine lv_aload_n hx hb dX11_goOn_33 rfl (lv_at hl 0 rfl) ?_
          refine gf_RX11_201 (v := .int at_k3) C hO 0 mW_0 (congrArg (fun z : Int32 => some (Value.int z)) hat_k3) dX11_goOn_34 ?_
          refine cVi (w := mW cy a) (As := [.int at_k3]) (rest := []) C hO (T_X11_sign l D cy a _ (by exact hJ) (at_k3) (by first | omega | decide)) (cwV 1 ht (gV wd_1560 wd_1562 wd_49 wd_121 wd_1563) rfl rfl rfl hd_yX11_sign ⟨Nat.le_of_ble_eq_true rfl, Nat.le_of_ble_eq_true rfl⟩) 0 rfl mW_0 rfl rfl hl.1 (Nat.le_of_ble_eq_true rfl) dX11_goOn_37 rfl ⟨Nat.zero_le _, Nat.zero_le _⟩ (fun r152 u153 H locs hp154 hO => ?_)
          obtain ⟨hr152, hu153⟩ := hp154
          rw [hu153] at hO
          have gr152 : (0 ≤ r152.toInt ∧ r152.toInt ≤ 255) ∧ (r152.toInt = 0 ∨ (at_k3 : Int32).toInt < ((fI u 0 3)).toInt) := by have h := sgF_b (u := _) (k := at_k3); rw [← hr152] at h; rw [(Km26_I3 hT)] at h; exact h
          have hr152 : r152 = sgF u at_k3 := hr152.trans (sgF_eq (Km26_A2 hT) (Km26_I3 hT))
          refine lv_bipush (v := 10) hx hb dX11_goOn_40 (by decide) ?_
          refine cs_ne (tgt := 58) (X := (r152).toInt) (Y := 10) hx hb dX11_goOn_42 (by decide) rfl rfl (fun c155 => ?_) (fun c155 => ?_)
          · refine lv_aload_n hx hb dX11_goOn_58 rfl (lv_at hl 0 rfl) ?_
            refine lv_aload_n hx hb dX11_goOn_59 rfl (lv_at hl 0 rfl) ?_
            refine gf_RX11_201 (v := .int at_k3) C hO 0 mW_0 (congrArg (fun z : Int32 => some (Value.int z)) hat_k3) dX11_goOn_60 ?_
            refine cVi (w := mW cy a) (As := [.int at_k3]) (rest := []) C hO (T_X11_sign l D cy a _ (by exact hJ) (at_k3) (by first | omega | decide)) (cwV 1 ht (gV wd_1560 wd_1562 wd_49 wd_121 wd_1563) rfl rfl rfl hd_yX11_sign ⟨Nat.le_of_ble_eq_true rfl, Nat.le_of_ble_eq_true rfl⟩) 0 rfl mW_0 rfl rfl hl.1 (Nat.le_of_ble_eq_true rfl) dX11_goOn_63 rfl ⟨Nat.zero_le _, Nat.zero_le _⟩ (fun r156 u157 H locs hp158 hO => ?_)
            obtain ⟨hr156, hu157⟩ := hp158
            rw [hu157] at hO
            have gr156 : (0 ≤ r156.toInt ∧ r156.toInt ≤ 255) ∧ (r156.toInt = 0 ∨ (at_k3 : Int32).toInt < ((fI u 0 3)).toInt) := by have h := sgF_b (u := _) (k := at_k3); rw [← hr156] at h; rw [(Km26_I3 hT)] at h; exact h
            have hr156 : r156 = sgF u at_k3 := hr156.trans (sgF_eq (Km26_A2 hT) (Km26_I3 hT))
            refine lv_istore_n (lv' := [(1, .int r156), (0, .ref (a 0))]) hx hb dX11_goOn_66 rfl hl (by decide) rfl (fun ls hl => ?_)
            refine lv_aload_n hx hb dX11_goOn_67 rfl (lv_at hl 1 rfl) ?_
            refine lv_aload_n hx hb dX11_goOn_68 rfl (lv_at hl 1 rfl) ?_
            refine gf_RX11_201 (v := .int at_k3) C hO 0 mW_0 (congrArg (fun z : Int32 => some (Value.int z)) hat_k3) dX11_goOn_69 ?_
            refine lv_iconst (v := 1) hx hb dX11_goOn_72 (by decide) ?_
            have e159 : ((at_k3 + 1)).toInt = (at_k3).toInt + 1 := i_add rfl rfl (by omega)
            refine lv_iadd hx hb dX11_goOn_73 ?_
            refine pf_RX11_198 C hO 0 mW_0 (Nat.le_of_ble_eq_true rfl) mW_s0_7 dX11_goOn_74 (fun H locs hO => ?_)
            have hJ := MIs_7 (v := (at_k3 + 1)) hJ (by first | decide | omega)
            refine lv_aload_n hx hb dX11_goOn_77 rfl (lv_at hl 1 rfl) ?_
            refine gf_RX11_201 (v := .int at_k3) C hO 0 mW_0 (congrArg (fun z : Int32 => some (Value.int z)) hat_k3) dX11_goOn_78 ?_
            refine lv_aload_n hx hb dX11_goOn_81 rfl (lv_at hl 1 rfl) ?_
            refine gf_RX11_152 (v := .int (fI u 0 3)) C hO 0 mW_0 (congrArg (fun z : Int32 => some (Value.int z)) (Km26_I3 hT)) dX11_goOn_82 ?_
            refine cs_lt (tgt := 112) (X := (at_k3).toInt) (Y := ((fI u 0 3)).toInt) hx hb dX11_goOn_85 (by decide) rfl rfl (fun c160 => ?_) (fun c160 => ?_)
            · refine lv_iload_n hx hb dX11_goOn_112 rfl (lv_at hl 0 rfl) ?_
              refine cSi (w := mW cy a) (As := [.int r156]) (rest := []) C hO (T_X11_isLetter l D cy a _ (by exact hJ) (r156)) (va_cwS 1 ht (gSS wd_1564 wd_1565 wd_121 wd_1566) rfl rfl rfl hd_yX11_isLetter ⟨Nat.le_of_ble_eq_true rfl, Nat.le_of_ble_eq_true rfl⟩)  rfl hl.1 (Nat.le_of_ble_eq_true rfl) dX11_goOn_113 rfl ⟨Nat.zero_le _, Nat.zero_le _⟩ (fun r161 u162 H locs hp163 hO => ?_)
              obtain ⟨hr161, hu162⟩ := hp163
              rw [hu162] at hO
              rcases hr161 with ⟨hcr161, hvr161⟩ | ⟨hcr161, hvr161⟩
              · subst hvr161
                refine bn_eq (X := 1) hx hb dX11_goOn_116 rfl (by omega) ?_ (tgt := 239) (by decide)
                have LP_119_k165 : ∀ (n : Nat) (u164 : St) (H : Heap) (locs : List Loc) (ls : Array Slot) (at_k165 : Int32) (en_k165 : Int32), Wo D A (mW cy a u164) s.heap H locs → lv_has ls 3 [(1, .int r156), (0, .ref (a 0))] → MI a u164 → Km26 u u164 → fI u164 0 6 = at_k165 → fI u164 0 7 = en_k165 → at_k165.toInt < en_k165.toInt → en_k165.toInt ≤ (fI u 0 3).toInt → (fI u 0 7).toInt ≤ at_k165.toInt → 0 ≤ at_k165.toInt ∧ at_k165.toInt ≤ 1600 → 0 ≤ en_k165.toInt ∧ en_k165.toInt ≤ 1601 → 1601 - en_k165.toInt < (n : Int) → W p l e (rmo 1 22) s m [.ref (a 0)].toArray below meth c H locs 0 0 Q (F0 m 119 ls []) := by
                  intro n
                  induction n with
                  | zero =>
                    intro u164 H locs ls at_k165 en_k165 hO hl hJ hT hat_k165 hen_k165 iv0_k165 iv1_k165 iv2_k165 iv3_k165 iv4_k165 hm_k165
                    exact absurd hm_k165 (by omega)
                  | succ n ih_k165 =>
                    intro u164 H locs ls at_k165 en_k165 hO hl hJ hT hat_k165 hen_k165 iv0_k165 iv1_k165 iv2_k165 iv3_k165 iv4_k165 hm_k165
                    refine lv_aload_n hx hb dX11_goOn_119 rfl (lv_at hl 1 rfl) ?_
                    refine lv_aload_n hx hb dX11_goOn_120 rfl (lv_at hl 1 rfl) ?_
                    refine gf_RX11_198 (v := .int en_k165) C hO 0 mW_0 (congrArg (fun z : Int32 => some (Value.int z)) hen_k165) dX11_goOn_121 ?_
                    refine cVi (w := mW cy a) (As := [.int en_k165]) (rest := []) C hO (T_X11_sign l D cy a _ (by exact hJ) (en_k165) (by first | omega | decide)) (cwV 1 ht (gV wd_1560 wd_1562 wd_49 wd_121 wd_1563) rfl rfl rfl hd_yX11_sign ⟨Nat.le_of_ble_eq_true rfl, Nat.le_of_ble_eq_true rfl⟩) 0 rfl mW_0 rfl rfl hl.1 (Nat.le_of_ble_eq_true rfl) dX11_goOn_124 rfl ⟨Nat.zero_le _, Nat.zero_le _⟩ (fun r166 u167 H locs hp168 hO => ?_)
                    obtain ⟨hr166, hu167⟩ := hp168
                    rw [hu167] at hO
                    have g169 : 0 ≤ (fI u 0 3).toInt ∧ (fI u 0 3).toInt ≤ 1600 := by have h := MI_3 hJ0; exact h
                    have gr166 : (0 ≤ r166.toInt ∧ r166.toInt ≤ 255) ∧ (r166.toInt = 0 ∨ (en_k165 : Int32).toInt < ((fI u 0 3)).toInt) := by have h := sgF_b (u := _) (k := en_k165); rw [← hr166] at h; rw [(Km26_I3 hT)] at h; exact h
                    have hr166 : r166 = sgF u en_k165 := hr166.trans (sgF_eq (Km26_A2 hT) (Km26_I3 hT))
                    refine cSi (w := mW cy a) (As := [.int r166]) (rest := []) C hO (T_X11_isLetter l D cy a _ (by exact hJ) (r166)) (va_cwS 1 ht (gSS wd_1564 wd_1565 wd_121 wd_1566) rfl rfl rfl hd_yX11_isLetter ⟨Nat.le_of_ble_eq_true rfl, Nat.le_of_ble_eq_true rfl⟩)  rfl hl.1 (Nat.le_of_ble_eq_true rfl) dX11_goOn_127 rfl ⟨Nat.zero_le _, Nat.zero_le _⟩ (fun r170 u171 H locs hp172 hO => ?_)
                    obtain ⟨hr170, hu171⟩ := hp172
                    rw [hu171] at hO
                    rcases hr170 with ⟨hcr170, hvr170⟩ | ⟨hcr170, hvr170⟩
                    · subst hvr170
                      refine bn_eq (X := 1) hx hb dX11_goOn_130 rfl (by omega) ?_ (tgt := 146) (by decide)
                      refine lv_aload_n hx hb dX11_goOn_133 rfl (lv_at hl 1 rfl) ?_
                      refine lv_dup hx hb dX11_goOn_134 rfl ?_
                      refine gf_RX11_198 (v := .int en_k165) C hO 0 mW_0 (congrArg (fun z : Int32 => some (Value.int z)) hen_k165) dX11_goOn_135 ?_
                      refine lv_iconst (v := 1) hx hb dX11_goOn_138 (by decide) ?_
                      have e173 : ((en_k165 + 1)).toInt = (en_k165).toInt + 1 := i_add rfl rfl (by omega)
                      refine lv_iadd hx hb dX11_goOn_139 ?_
                      refine pf_RX11_198 C hO 0 mW_0 (Nat.le_of_ble_eq_true rfl) mW_s0_7 dX11_goOn_140 (fun H locs hO => ?_)
                      have hJ := MIs_7 (v := (en_k165 + 1)) hJ (by first | decide | omega)
                      refine lv_goto (tgt := 119) hx hb dX11_goOn_143 (by decide) ?_
                      exact ih_k165 _ _ _ _ (at_k165) ((en_k165 + 1)) hO (lv_sub hl [0, 1] rfl) (by exact hJ) (by exact hT) (by exact hat_k165) (by exact rfl) (by first | decide | omega) (by first | decide | omega) (by first | decide | omega) (by first | decide | omega) (by first | decide | omega) (by first | decide | omega)
                    · subst hvr170
                      refine bt_eq (tgt := 146) (X := 0) hx hb dX11_goOn_130 (by decide) rfl (by omega) ?_
                      refine lv_aload_n hx hb dX11_goOn_146 rfl (lv_at hl 1 rfl) ?_
                      refine lv_lconst (v := 0) hx hb dX11_goOn_147 rfl ?_
                      refine pf_RX11_215 C hO 0 mW_0 (Nat.le_of_ble_eq_true rfl) mW_s0_10 dX11_goOn_148 (fun H locs hO => ?_)
                      have hJ := MIs_10 (v := 0) hJ
                      refine lv_aload_n hx hb dX11_goOn_151 rfl (lv_at hl 1 rfl) ?_
                      refine gf_RX11_201 (v := .int at_k165) C hO 0 mW_0 (congrArg (fun z : Int32 => some (Value.int z)) hat_k165) dX11_goOn_152 ?_
                      refine lv_istore_n (lv' := [(2, .int at_k165), (1, .int r156), (0, .ref (a 0))]) hx hb dX11_goOn_155 rfl hl (by decide) rfl (fun ls hl => ?_)
                      have LP_156_k175 : ∀ (n : Nat) (u174 : St) (H : Heap) (locs : List Loc) (ls : Array Slot) (k_k175 : Int32) (at_k175 : Int32) (en_k175 : Int32), Wo D A (mW cy a u174) s.heap H locs → lv_has ls 3 [(2, .int k_k175), (1, .int r156), (0, .ref (a 0))] → MI a u174 → Km26 u u174 → fI u174 0 6 = at_k175 → fI u174 0 7 = en_k175 → at_k175.toInt < en_k175.toInt → en_k175.toInt ≤ (fI u 0 3).toInt → (fI u 0 7).toInt ≤ at_k175.toInt → 0 ≤ k_k175.toInt ∧ k_k175.toInt ≤ 1601 → 0 ≤ at_k175.toInt ∧ at_k175.toInt ≤ 1600 → 0 ≤ en_k175.toInt ∧ en_k175.toInt ≤ 1601 → 1601 - k_k175.toInt < (n : Int) → W p l e (rmo 1 22) s m [.ref (a 0)].toArray below meth c H locs 0 0 Q (F0 m 156 ls []) := by
                        intro n
                        induction n with
                        | zero =>
                          intro u174 H locs ls k_k175 at_k175 en_k175 hO hl hJ hT hat_k175 hen_k175 iv0_k175 iv1_k175 iv2_k175 iv3_k175 iv4_k175 iv5_k175 hm_k175
                          exact absurd hm_k175 (by omega)
                        | succ n ih_k175 =>
                          intro u174 H locs ls k_k175 at_k175 en_k175 hO hl hJ hT hat_k175 hen_k175 iv0_k175 iv1_k175 iv2_k175 iv3_k175 iv4_k175 iv5_k175 hm_k175
                          refine lv_iload_n hx hb dX11_goOn_156 rfl (lv_at hl 0 rfl) ?_
                          refine lv_aload_n hx hb dX11_goOn_157 rfl (lv_at hl 2 rfl) ?_
                          refine gf_RX11_198 (v := .int en_k175) C hO 0 mW_0 (congrArg (fun z : Int32 => some (Value.int z)) hen_k175) dX11_goOn_158 ?_
                          refine cs_ge (tgt := 199) (X := (k_k175).toInt) (Y := (en_k175).toInt) hx hb dX11_goOn_161 (by decide) rfl rfl (fun c176 => ?_) (fun c176 => ?_)
                          · refine lv_aload_n hx hb dX11_goOn_199 rfl (lv_at hl 2 rfl) ?_
                            refine lv_aload_n hx hb dX11_goOn_200 rfl (lv_at hl 2 rfl) ?_
                            refine gf_RX11_198 (v := .int en_k175) C hO 0 mW_0 (congrArg (fun z : Int32 => some (Value.int z)) hen_k175) dX11_goOn_201 ?_
                            refine lv_aload_n hx hb dX11_goOn_204 rfl (lv_at hl 2 rfl) ?_
                            refine gf_RX11_201 (v := .int at_k175) C hO 0 mW_0 (congrArg (fun z : Int32 => some (Value.int z)) hat_k175) dX11_goOn_205 ?_
                            have e177 : ((en_k175 - at_k175)).toInt = (en_k175).toInt - (at_k175).toInt := i_sub rfl rfl (by omega)
                            refine lv_isub hx hb dX11_goOn_208 ?_
                            refine lv_bipush (v := 8) hx hb dX11_goOn_209 (by decide) ?_
                            refine cs_le (tgt := 218) (X := ((en_k175).toInt - (at_k175).toInt)) (Y := 8) hx hb dX11_goOn_211 (by decide) e177 rfl (fun c178 => ?_) (fun c178 => ?_)
                            · refine lv_aload_n hx hb dX11_goOn_218 rfl (lv_at hl 2 rfl) ?_
                              refine gf_RX11_215 (v := .long ((fL u174 0 10))) C hO 0 mW_0 rfl dX11_goOn_219 ?_
                              refine cSi (w := mW cy a) (As := [.long ((fL u174 0 10))]) (rest := [.ref (a 0)]) C hO (T_X11_isKept l D cy a _ (by exact hJ) ((fL u174 0 10))) (va_cwS 1 ht (gSS wd_1567 wd_1568 wd_121 wd_1569) rfl rfl rfl hd_yX11_isKept ⟨Nat.le_of_ble_eq_true rfl, Nat.le_of_ble_eq_true rfl⟩)  rfl hl.1 (Nat.le_of_ble_eq_true rfl) dX11_goOn_222 rfl ⟨Nat.zero_le _, Nat.zero_le _⟩ (fun r179 u180 H locs hp181 hO => ?_)
                              obtain ⟨hr179, hu180⟩ := hp181
                              have gr179 : 0 ≤ r179.toInt ∧ r179.toInt ≤ 1 := by rcases hr179 with h | h <;> rw [h] <;> decide
                              rw [hu180] at hO
                              refine bs_eq (tgt := 232) (X := (r179).toInt) hx hb dX11_goOn_225 (by decide) rfl (fun c182 => ?_) (fun c182 => ?_)
                              · refine lv_iconst (v := 2) hx hb dX11_goOn_232 (by decide) ?_
                                refine pf_RX11_208 C hO 0 mW_0 (Nat.le_of_ble_eq_true rfl) mW_s0_8 dX11_goOn_233 (fun H locs hO => ?_)
                                have hJ := MIs_8 (v := 2) hJ (by first | decide | omega)
                                refine lv_goto (tgt := 377) hx hb dX11_goOn_236 (by decide) ?_
                                have g183 : 0 ≤ (fI u 0 3).toInt ∧ (fI u 0 3).toInt ≤ 1600 := by have h := MI_3 hJ0; exact h
                                have q184 : (en_k175 : Int32).toInt ≤ ((fI u 0 3) : Int32).toInt := by first | omega | decide
                                have q185 : (at_k175 : Int32).toInt ≤ (en_k175 : Int32).toInt := by first | omega | decide
                                have q186 : (2 : Int32).toInt = 0 ∨ (at_k175 : Int32).toInt < (en_k175 : Int32).toInt := by first | omega | decide
                                have g187 : 0 ≤ (fI u 0 7).toInt ∧ (fI u 0 7).toInt ≤ 1601 := by have h := MI_7 hJ0; exact h
                                have q188 : ((fI u 0 7) : Int32).toInt ≤ (at_k175 : Int32).toInt := by first | omega | decide
                                refine hret _ _ _ _ _ dX11_goOn_377 ?_ hO
                                exact ⟨hJ, hT, q184, q185, q186, q188⟩
                              · refine lv_iconst (v := 3) hx hb dX11_goOn_228 (by decide) ?_
                                refine lv_goto (tgt := 233) hx hb dX11_goOn_229 (by decide) ?_
                                refine pf_RX11_208 C hO 0 mW_0 (Nat.le_of_ble_eq_true rfl) mW_s0_8 dX11_goOn_233 (fun H locs hO => ?_)
                                have hJ := MIs_8 (v := 3) hJ (by first | decide | omega)
                                refine lv_goto (tgt := 377) hx hb dX11_goOn_236 (by decide) ?_
                                have g189 : 0 ≤ (fI u 0 3).toInt ∧ (fI u 0 3).toInt ≤ 1600 := by have h := MI_3 hJ0; exact h
                                have q190 : (en_k175 : Int32).toInt ≤ ((fI u 0 3) : Int32).toInt := by first | omega | decide
                                have q191 : (at_k175 : Int32).toInt ≤ (en_k175 : Int32).toInt := by first | omega | decide
                                have q192 : (3 : Int32).toInt = 0 ∨ (at_k175 : Int32).toInt < (en_k175 : Int32).toInt := by first | omega | decide
                                have g193 : 0 ≤ (fI u 0 7).toInt ∧ (fI u 0 7).toInt ≤ 1601 := by have h := MI_7 hJ0; exact h
                                have q194 : ((fI u 0 7) : Int32).toInt ≤ (at_k175 : Int32).toInt := by first | omega | decide
                                refine hret _ _ _ _ _ dX11_goOn_377 ?_ hO
                                exact ⟨hJ, hT, q190, q191, q192, q194⟩
                            · refine lv_iconst (v := 1) hx hb dX11_goOn_214 (by decide) ?_
                              refine lv_goto (tgt := 233) hx hb dX11_goOn_215 (by decide) ?_
                              refine pf_RX11_208 C hO 0 mW_0 (Nat.le_of_ble_eq_true rfl) mW_s0_8 dX11_goOn_233 (fun H locs hO => ?_)
                              have hJ := MIs_8 (v := 1) hJ (by first | decide | omega)
                              refine lv_goto (tgt := 377) hx hb dX11_goOn_236 (by decide) ?_
                              have g195 : 0 ≤ (fI u 0 3).toInt ∧ (fI u 0 3).toInt ≤ 1600 := by have h := MI_3 hJ0; exact h
                              have q196 : (en_k175 : Int32).toInt ≤ ((fI u 0 3) : Int32).toInt := by first | omega | decide
                              have q197 : (at_k175 : Int32).toInt ≤ (en_k175 : Int32).toInt := by first | omega | decide
                              have q198 : (1 : Int32).toInt = 0 ∨ (at_k175 : Int32).toInt < (en_k175 : Int32).toInt := by first | omega | decide
                              have g199 : 0 ≤ (fI u 0 7).toInt ∧ (fI u 0 7).toInt ≤ 1601 := by have h := MI_7 hJ0; exact h
                              have q200 : ((fI u 0 7) : Int32).toInt ≤ (at_k175 : Int32).toInt := by first | omega | decide
                              refine hret _ _ _ _ _ dX11_goOn_377 ?_ hO
                              exact ⟨hJ, hT, q196, q197, q198, q200⟩
                          · refine lv_iload_n hx hb dX11_goOn_164 rfl (lv_at hl 0 rfl) ?_
                            refine lv_aload_n hx hb dX11_goOn_165 rfl (lv_at hl 2 rfl) ?_
                            refine gf_RX11_201 (v := .int at_k175) C hO 0 mW_0 (congrArg (fun z : Int32 => some (Value.int z)) hat_k175) dX11_goOn_166 ?_
                            refine lv_bipush (v := 8) hx hb dX11_goOn_169 (by decide) ?_
                            have e201 : ((at_k175 + 8)).toInt = (at_k175).toInt + 8 := i_add rfl rfl (by omega)
                            refine lv_iadd hx hb dX11_goOn_171 ?_
                            refine cs_ge (tgt := 199) (X := (k_k175).toInt) (Y := ((at_k175).toInt + 8)) hx hb dX11_goOn_172 (by decide) rfl e201 (fun c202 => ?_) (fun c202 => ?_)
                            · refine lv_aload_n hx hb dX11_goOn_199 rfl (lv_at hl 2 rfl) ?_
                              refine lv_aload_n hx hb dX11_goOn_200 rfl (lv_at hl 2 rfl) ?_
                              refine gf_RX11_198 (v := .int en_k175) C hO 0 mW_0 (congrArg (fun z : Int32 => some (Value.int z)) hen_k175) dX11_goOn_201 ?_
                              refine lv_aload_n hx hb dX11_goOn_204 rfl (lv_at hl 2 rfl) ?_
                              refine gf_RX11_201 (v := .int at_k175) C hO 0 mW_0 (congrArg (fun z : Int32 => some (Value.int z)) hat_k175) dX11_goOn_205 ?_
                              have e203 : ((en_k175 - at_k175)).toInt = (en_k175).toInt - (at_k175).toInt := i_sub rfl rfl (by omega)
                              refine lv_isub hx hb dX11_goOn_208 ?_
                              refine lv_bipush (v := 8) hx hb dX11_goOn_209 (by decide) ?_
                              refine cs_le (tgt := 218) (X := ((en_k175).toInt - (at_k175).toInt)) (Y := 8) hx hb dX11_goOn_211 (by decide) e203 rfl (fun c204 => ?_) (fun c204 => ?_)
                              · refine lv_aload_n hx hb dX11_goOn_218 rfl (lv_at hl 2 rfl) ?_
                                refine gf_RX11_215 (v := .long ((fL u174 0 10))) C hO 0 mW_0 rfl dX11_goOn_219 ?_
                                refine cSi (w := mW cy a) (As := [.long ((fL u174 0 10))]) (rest := [.ref (a 0)]) C hO (T_X11_isKept l D cy a _ (by exact hJ) ((fL u174 0 10))) (va_cwS 1 ht (gSS wd_1567 wd_1568 wd_121 wd_1569) rfl rfl rfl hd_yX11_isKept ⟨Nat.le_of_ble_eq_true rfl, Nat.le_of_ble_eq_true rfl⟩)  rfl hl.1 (Nat.le_of_ble_eq_true rfl) dX11_goOn_222 rfl ⟨Nat.zero_le _, Nat.zero_le _⟩ (fun r205 u206 H locs hp207 hO => ?_)
                                obtain ⟨hr205, hu206⟩ := hp207
                                have gr205 : 0 ≤ r205.toInt ∧ r205.toInt ≤ 1 := by rcases hr205 with h | h <;> rw [h] <;> decide
                                rw [hu206] at hO
                                refine bs_eq (tgt := 232) (X := (r205).toInt) hx hb dX11_goOn_225 (by decide) rfl (fun c208 => ?_) (fun c208 => ?_)
                                · refine lv_iconst (v := 2) hx hb dX11_goOn_232 (by decide) ?_
                                  refine pf_RX11_208 C hO 0 mW_0 (Nat.le_of_ble_eq_true rfl) mW_s0_8 dX11_goOn_233 (fun H locs hO => ?_)
                                  have hJ := MIs_8 (v := 2) hJ (by first | decide | omega)
                                  refine lv_goto (tgt := 377) hx hb dX11_goOn_236 (by decide) ?_
                                  have g209 : 0 ≤ (fI u 0 3).toInt ∧ (fI u 0 3).toInt ≤ 1600 := by have h := MI_3 hJ0; exact h
                                  have q210 : (en_k175 : Int32).toInt ≤ ((fI u 0 3) : Int32).toInt := by first | omega | decide
                                  have q211 : (at_k175 : Int32).toInt ≤ (en_k175 : Int32).toInt := by first | omega | decide
                                  have q212 : (2 : Int32).toInt = 0 ∨ (at_k175 : Int32).toInt < (en_k175 : Int32).toInt := by first | omega | decide
                                  have g213 : 0 ≤ (fI u 0 7).toInt ∧ (fI u 0 7).toInt ≤ 1601 := by have h := MI_7 hJ0; exact h
                                  have q214 : ((fI u 0 7) : Int32).toInt ≤ (at_k175 : Int32).toInt := by first | omega | decide
                                  refine hret _ _ _ _ _ dX11_goOn_377 ?_ hO
                                  exact ⟨hJ, hT, q210, q211, q212, q214⟩
                                · refine lv_iconst (v := 3) hx hb dX11_goOn_228 (by decide) ?_
                                  refine lv_goto (tgt := 233) hx hb dX11_goOn_229 (by decide) ?_
                                  refine pf_RX11_208 C hO 0 mW_0 (Nat.le_of_ble_eq_true rfl) mW_s0_8 dX11_goOn_233 (fun H locs hO => ?_)
                                  have hJ := MIs_8 (v := 3) hJ (by first | decide | omega)
                                  refine lv_goto (tgt := 377) hx hb dX11_goOn_236 (by decide) ?_
                                  have g215 : 0 ≤ (fI u 0 3).toInt ∧ (fI u 0 3).toInt ≤ 1600 := by have h := MI_3 hJ0; exact h
                                  have q216 : (en_k175 : Int32).toInt ≤ ((fI u 0 3) : Int32).toInt := by first | omega | decide
                                  have q217 : (at_k175 : Int32).toInt ≤ (en_k175 : Int32).toInt := by first | omega | decide
                                  have q218 : (3 : Int32).toInt = 0 ∨ (at_k175 : Int32).toInt < (en_k175 : Int32).toInt := by first | omega | decide
                                  have g219 : 0 ≤ (fI u 0 7).toInt ∧ (fI u 0 7).toInt ≤ 1601 := by have h := MI_7 hJ0; exact h
                                  have q220 : ((fI u 0 7) : Int32).toInt ≤ (at_k175 : Int32).toInt := by first | omega | decide
                                  refine hret _ _ _ _ _ dX11_goOn_377 ?_ hO
                                  exact ⟨hJ, hT, q216, q217, q218, q220⟩
                              · refine lv_iconst (v := 1) hx hb dX11_goOn_214 (by decide) ?_
                                refine lv_goto (tgt := 233) hx hb dX11_goOn_215 (by decide) ?_
                                refine pf_RX11_208 C hO 0 mW_0 (Nat.le_of_ble_eq_true rfl) mW_s0_8 dX11_goOn_233 (fun H locs hO => ?_)
                                have hJ := MIs_8 (v := 1) hJ (by first | decide | omega)
                                refine lv_goto (tgt := 377) hx hb dX11_goOn_236 (by decide) ?_
                                have g221 : 0 ≤ (fI u 0 3).toInt ∧ (fI u 0 3).toInt ≤ 1600 := by have h := MI_3 hJ0; exact h
                                have q222 : (en_k175 : Int32).toInt ≤ ((fI u 0 3) : Int32).toInt := by first | omega | decide
                                have q223 : (at_k175 : Int32).toInt ≤ (en_k175 : Int32).toInt := by first | omega | decide
                                have q224 : (1 : Int32).toInt = 0 ∨ (at_k175 : Int32).toInt < (en_k175 : Int32).toInt := by first | omega | decide
                                have g225 : 0 ≤ (fI u 0 7).toInt ∧ (fI u 0 7).toInt ≤ 1601 := by have h := MI_7 hJ0; exact h
                                have q226 : ((fI u 0 7) : Int32).toInt ≤ (at_k175 : Int32).toInt := by first | omega | decide
                                refine hret _ _ _ _ _ dX11_goOn_377 ?_ hO
                                exact ⟨hJ, hT, q222, q223, q224, q226⟩
                            · refine lv_aload_n hx hb dX11_goOn_175 rfl (lv_at hl 2 rfl) ?_
                              refine lv_aload_n hx hb dX11_goOn_176 rfl (lv_at hl 2 rfl) ?_
                              refine gf_RX11_215 (v := .long ((fL u174 0 10))) C hO 0 mW_0 rfl dX11_goOn_177 ?_
                              refine lv_bipush (v := 8) hx hb dX11_goOn_180 (by decide) ?_
                              refine lv_lshl hx hb dX11_goOn_182 rfl ?_
                              refine lv_topl (fun w227 ew227 => ?_)
                              refine lv_aload_n hx hb dX11_goOn_183 rfl (lv_at hl 2 rfl) ?_
                              refine lv_iload_n hx hb dX11_goOn_184 rfl (lv_at hl 0 rfl) ?_
                              refine cVi (w := mW cy a) (As := [.int k_k175]) (rest := [.long w227, .ref (a 0)]) C hO (T_X11_sign l D cy a _ (by exact hJ) (k_k175) (by first | omega | decide)) (cwV 1 ht (gV wd_1560 wd_1562 wd_49 wd_121 wd_1563) rfl rfl rfl hd_yX11_sign ⟨Nat.le_of_ble_eq_true rfl, Nat.le_of_ble_eq_true rfl⟩) 0 rfl mW_0 rfl rfl hl.1 (Nat.le_of_ble_eq_true rfl) dX11_goOn_185 rfl ⟨Nat.zero_le _, Nat.zero_le _⟩ (fun r228 u229 H locs hp230 hO => ?_)
                              obtain ⟨hr228, hu229⟩ := hp230
                              rw [hu229] at hO
                              have g231 : 0 ≤ (fI u 0 3).toInt ∧ (fI u 0 3).toInt ≤ 1600 := by have h := MI_3 hJ0; exact h
                              have gr228 : (0 ≤ r228.toInt ∧ r228.toInt ≤ 255) ∧ (r228.toInt = 0 ∨ (k_k175 : Int32).toInt < ((fI u 0 3)).toInt) := by have h := sgF_b (u := _) (k := k_k175); rw [← hr228] at h; rw [(Km26_I3 hT)] at h; exact h
                              have hr228 : r228 = sgF u k_k175 := hr228.trans (sgF_eq (Km26_A2 hT) (Km26_I3 hT))
                              refine lv_i2l hx hb dX11_goOn_188 rfl ?_
                              refine lv_topl (fun w232 ew232 => ?_)
                              refine lv_lor hx hb dX11_goOn_189 ?_
                              refine lv_topl (fun w233 ew233 => ?_)
                              refine pf_RX11_215 C hO 0 mW_0 (Nat.le_of_ble_eq_true rfl) mW_s0_10 dX11_goOn_190 (fun H locs hO => ?_)
                              have hJ := MIs_10 (v := w233) hJ
                              have e234 : ((k_k175 + 1)).toInt = (k_k175).toInt + 1 := i_add rfl rfl (by omega)
                              refine lv_iinc (v := (k_k175 + 1)) (lv' := [(2, .int (k_k175 + 1)), (1, .int r156), (0, .ref (a 0))]) hx hb dX11_goOn_193 hl (k := 0) rfl rfl (by decide) rfl (fun ls hl => ?_)
                              refine lv_goto (tgt := 156) hx hb dX11_goOn_196 (by decide) ?_
                              exact ih_k175 _ _ _ _ ((k_k175 + 1)) (at_k175) (en_k175) hO (lv_sub hl [0, 1, 2] rfl) (by exact hJ) (by exact hT) (by exact hat_k175) (by exact hen_k175) (by first | decide | omega) (by first | decide | omega) (by first | decide | omega) (by first | decide | omega) (by first | decide | omega) (by first | decide | omega) (by first | decide | omega)
                      exact LP_156_k175 4000 _ _ _ _ (at_k165) (at_k165) (en_k165) hO (lv_sub hl [0, 1, 2] rfl) (by exact hJ) (by exact hT) (by exact hat_k165) (by exact hen_k165) (by first | decide | omega) (by first | decide | omega) (by first | decide | omega) (by first | decide | omega) (by first | decide | omega) (by first | decide | omega) (by first | decide | omega)
                exact LP_119_k165 4000 _ _ _ _ (at_k3) ((at_k3 + 1)) hO (lv_sub hl [0, 1] rfl) (by exact hJ) (by exact hT) (by exact hat_k3) (by exact rfl) (by first | decide | omega) (by first | decide | omega) (by first | decide | omega) (by first | decide | omega) (by first | decide | omega) (by first | decide | omega)
              · subst hvr161
                refine bt_eq (tgt := 239) (X := 0) hx hb dX11_goOn_116 (by decide) rfl (by omega) ?_
                refine lv_iload_n hx hb dX11_goOn_239 rfl (lv_at hl 0 rfl) ?_
                refine cSi (w := mW cy a) (As := [.int r156]) (rest := []) C hO (T_X11_isDigit l D cy a _ (by exact hJ) (r156)) (va_cwS 1 ht (gSS wd_1590 wd_1591 wd_121 wd_1592) rfl rfl rfl hd_yX11_isDigit ⟨Nat.le_of_ble_eq_true rfl, Nat.le_of_ble_eq_true rfl⟩)  rfl hl.1 (Nat.le_of_ble_eq_true rfl) dX11_goOn_240 rfl ⟨Nat.zero_le _, Nat.zero_le _⟩ (fun r235 u236 H locs hp237 hO => ?_)
                obtain ⟨hr235, hu236⟩ := hp237
                rw [hu236] at hO
                rcases hr235 with ⟨hcr235, hvr235⟩ | ⟨hcr235, hvr235⟩
                · subst hvr235
                  refine bn_eq (X := 1) hx hb dX11_goOn_243 rfl (by omega) ?_ (tgt := 361) (by decide)
                  refine lv_aload_n hx hb dX11_goOn_246 rfl (lv_at hl 1 rfl) ?_
                  refine lv_iconst (v := 0) hx hb dX11_goOn_247 (by decide) ?_
                  refine pf_RX11_226 C hO 0 mW_0 (Nat.le_of_ble_eq_true rfl) mW_s0_9 dX11_goOn_248 (fun H locs hO => ?_)
                  have hJ := MIs_9 (v := 0) hJ
                  refine lv_aload_n hx hb dX11_goOn_251 rfl (lv_at hl 1 rfl) ?_
                  refine lv_aload_n hx hb dX11_goOn_252 rfl (lv_at hl 1 rfl) ?_
                  refine gf_RX11_201 (v := .int at_k3) C hO 0 mW_0 (congrArg (fun z : Int32 => some (Value.int z)) hat_k3) dX11_goOn_253 ?_
                  refine pf_RX11_198 C hO 0 mW_0 (Nat.le_of_ble_eq_true rfl) mW_s0_7 dX11_goOn_256 (fun H locs hO => ?_)
                  have hJ := MIs_7 (v := at_k3) hJ (by first | decide | omega)
                  have LP_259_k239 : ∀ (n : Nat) (u238 : St) (H : Heap) (locs : List Loc) (ls : Array Slot) (at_k239 : Int32) (en_k239 : Int32), Wo D A (mW cy a u238) s.heap H locs → lv_has ls 3 [(1, .int r156), (0, .ref (a 0))] → MI a u238 → Km26 u u238 → fI u238 0 6 = at_k239 → fI u238 0 7 = en_k239 → at_k239.toInt ≤ en_k239.toInt → en_k239.toInt ≤ (fI u 0 3).toInt → (fI u 0 7).toInt ≤ at_k239.toInt → at_k239.toInt < (fI u 0 3).toInt → 0 ≤ at_k239.toInt ∧ at_k239.toInt ≤ 1600 → 0 ≤ en_k239.toInt ∧ en_k239.toInt ≤ 1601 → (r156 = sgF u at_k239) → 1601 - en_k239.toInt < (n : Int) → W p l e (rmo 1 22) s m [.ref (a 0)].toArray below meth c H locs 0 0 Q (F0 m 259 ls []) := by
                    intro n
                    induction n with
                    | zero =>
                      intro u238 H locs ls at_k239 en_k239 hO hl hJ hT hat_k239 hen_k239 iv0_k239 iv1_k239 iv2_k239 iv3_k239 iv4_k239 iv5_k239 cv0_k239 hm_k239
                      exact absurd hm_k239 (by omega)
                    | succ n ih_k239 =>
                      intro u238 H locs ls at_k239 en_k239 hO hl hJ hT hat_k239 hen_k239 iv0_k239 iv1_k239 iv2_k239 iv3_k239 iv4_k239 iv5_k239 cv0_k239 hm_k239
                      refine lv_aload_n hx hb dX11_goOn_259 rfl (lv_at hl 1 rfl) ?_
                      refine lv_aload_n hx hb dX11_goOn_260 rfl (lv_at hl 1 rfl) ?_
                      refine gf_RX11_198 (v := .int en_k239) C hO 0 mW_0 (congrArg (fun z : Int32 => some (Value.int z)) hen_k239) dX11_goOn_261 ?_
                      refine cVi (w := mW cy a) (As := [.int en_k239]) (rest := []) C hO (T_X11_sign l D cy a _ (by exact hJ) (en_k239) (by first | omega | decide)) (cwV 1 ht (gV wd_1560 wd_1562 wd_49 wd_121 wd_1563) rfl rfl rfl hd_yX11_sign ⟨Nat.le_of_ble_eq_true rfl, Nat.le_of_ble_eq_true rfl⟩) 0 rfl mW_0 rfl rfl hl.1 (Nat.le_of_ble_eq_true rfl) dX11_goOn_264 rfl ⟨Nat.zero_le _, Nat.zero_le _⟩ (fun r240 u241 H locs hp242 hO => ?_)
                      obtain ⟨hr240, hu241⟩ := hp242
                      rw [hu241] at hO
                      have g243 : 0 ≤ (fI u 0 3).toInt ∧ (fI u 0 3).toInt ≤ 1600 := by have h := MI_3 hJ0; exact h
                      have gr240 : (0 ≤ r240.toInt ∧ r240.toInt ≤ 255) ∧ (r240.toInt = 0 ∨ (en_k239 : Int32).toInt < ((fI u 0 3)).toInt) := by have h := sgF_b (u := _) (k := en_k239); rw [← hr240] at h; rw [(Km26_I3 hT)] at h; exact h
                      have hr240 : r240 = sgF u en_k239 := hr240.trans (sgF_eq (Km26_A2 hT) (Km26_I3 hT))
                      refine cSi (w := mW cy a) (As := [.int r240]) (rest := []) C hO (T_X11_isDigit l D cy a _ (by exact hJ) (r240)) (va_cwS 1 ht (gSS wd_1590 wd_1591 wd_121 wd_1592) rfl rfl rfl hd_yX11_isDigit ⟨Nat.le_of_ble_eq_true rfl, Nat.le_of_ble_eq_true rfl⟩)  rfl hl.1 (Nat.le_of_ble_eq_true rfl) dX11_goOn_267 rfl ⟨Nat.zero_le _, Nat.zero_le _⟩ (fun r244 u245 H locs hp246 hO => ?_)
                      obtain ⟨hr244, hu245⟩ := hp246
                      rw [hu245] at hO
                      rcases hr244 with ⟨hcr244, hvr244⟩ | ⟨hcr244, hvr244⟩
                      · subst hvr244
                        refine bn_eq (X := 1) hx hb dX11_goOn_270 rfl (by omega) ?_ (tgt := 322) (by decide)
                        refine lv_aload_n hx hb dX11_goOn_273 rfl (lv_at hl 1 rfl) ?_
                        refine gf_RX11_198 (v := .int en_k239) C hO 0 mW_0 (congrArg (fun z : Int32 => some (Value.int z)) hen_k239) dX11_goOn_274 ?_
                        refine lv_aload_n hx hb dX11_goOn_277 rfl (lv_at hl 1 rfl) ?_
                        refine gf_RX11_201 (v := .int at_k239) C hO 0 mW_0 (congrArg (fun z : Int32 => some (Value.int z)) hat_k239) dX11_goOn_278 ?_
                        have e247 : ((en_k239 - at_k239)).toInt = (en_k239).toInt - (at_k239).toInt := i_sub rfl rfl (by omega)
                        refine lv_isub hx hb dX11_goOn_281 ?_
                        refine lv_iconst (v := 4) hx hb dX11_goOn_282 (by decide) ?_
                        refine cs_ge (tgt := 309) (X := ((en_k239).toInt - (at_k239).toInt)) (Y := 4) hx hb dX11_goOn_283 (by decide) e247 rfl (fun c248 => ?_) (fun c248 => ?_)
                        · refine lv_aload_n hx hb dX11_goOn_309 rfl (lv_at hl 1 rfl) ?_
                          refine lv_dup hx hb dX11_goOn_310 rfl ?_
                          refine gf_RX11_198 (v := .int en_k239) C hO 0 mW_0 (congrArg (fun z : Int32 => some (Value.int z)) hen_k239) dX11_goOn_311 ?_
                          refine lv_iconst (v := 1) hx hb dX11_goOn_314 (by decide) ?_
                          have e249 : ((en_k239 + 1)).toInt = (en_k239).toInt + 1 := i_add rfl rfl (by omega)
                          refine lv_iadd hx hb dX11_goOn_315 ?_
                          refine pf_RX11_198 C hO 0 mW_0 (Nat.le_of_ble_eq_true rfl) mW_s0_7 dX11_goOn_316 (fun H locs hO => ?_)
                          have hJ := MIs_7 (v := (en_k239 + 1)) hJ (by first | decide | omega)
                          refine lv_goto (tgt := 259) hx hb dX11_goOn_319 (by decide) ?_
                          exact ih_k239 _ _ _ _ (at_k239) ((en_k239 + 1)) hO (lv_sub hl [0, 1] rfl) (by exact hJ) (by exact hT) (by exact hat_k239) (by exact rfl) (by first | decide | omega) (by first | decide | omega) (by first | decide | omega) (by first | decide | omega) (by first | decide | omega) (by first | decide | omega) (by exact cv0_k239) (by first | decide | omega)
                        · refine lv_aload_n hx hb dX11_goOn_286 rfl (lv_at hl 1 rfl) ?_
                          refine lv_bipush (v := 10) hx hb dX11_goOn_287 (by decide) ?_
                          refine lv_aload_n hx hb dX11_goOn_289 rfl (lv_at hl 1 rfl) ?_
                          refine gf_RX11_226 (v := .int (fI u238 0 9)) C hO 0 mW_0 rfl dX11_goOn_290 ?_
                          refine lv_imul hx hb dX11_goOn_293 ?_
                          refine lv_aload_n hx hb dX11_goOn_294 rfl (lv_at hl 1 rfl) ?_
                          refine lv_aload_n hx hb dX11_goOn_295 rfl (lv_at hl 1 rfl) ?_
                          refine gf_RX11_198 (v := .int en_k239) C hO 0 mW_0 (congrArg (fun z : Int32 => some (Value.int z)) hen_k239) dX11_goOn_296 ?_
                          refine cVi (w := mW cy a) (As := [.int en_k239]) (rest := [.int (10 * (fI u238 0 9)), .ref (a 0)]) C hO (T_X11_sign l D cy a _ (by exact hJ) (en_k239) (by first | omega | decide)) (cwV 1 ht (gV wd_1560 wd_1562 wd_49 wd_121 wd_1563) rfl rfl rfl hd_yX11_sign ⟨Nat.le_of_ble_eq_true rfl, Nat.le_of_ble_eq_true rfl⟩) 0 rfl mW_0 rfl rfl hl.1 (Nat.le_of_ble_eq_true rfl) dX11_goOn_299 rfl ⟨Nat.zero_le _, Nat.zero_le _⟩ (fun r250 u251 H locs hp252 hO => ?_)
                          obtain ⟨hr250, hu251⟩ := hp252
                          rw [hu251] at hO
                          have gr250 : (0 ≤ r250.toInt ∧ r250.toInt ≤ 255) ∧ (r250.toInt = 0 ∨ (en_k239 : Int32).toInt < ((fI u 0 3)).toInt) := by have h := sgF_b (u := _) (k := en_k239); rw [← hr250] at h; rw [(Km26_I3 hT)] at h; exact h
                          have hr250 : r250 = sgF u en_k239 := hr250.trans (sgF_eq (Km26_A2 hT) (Km26_I3 hT))
                          refine lv_iadd hx hb dX11_goOn_302 ?_
                          refine lv_bipush (v := 48) hx hb dX11_goOn_303 (by decide) ?_
                          refine lv_isub hx hb dX11_goOn_305 ?_
                          refine pf_RX11_226 C hO 0 mW_0 (Nat.le_of_ble_eq_true rfl) mW_s0_9 dX11_goOn_306 (fun H locs hO => ?_)
                          have hJ := MIs_9 (v := (((10 * (fI u238 0 9)) + r250) - 48)) hJ
                          refine lv_aload_n hx hb dX11_goOn_309 rfl (lv_at hl 1 rfl) ?_
                          refine lv_dup hx hb dX11_goOn_310 rfl ?_
                          refine gf_RX11_198 (v := .int en_k239) C hO 0 mW_0 (congrArg (fun z : Int32 => some (Value.int z)) hen_k239) dX11_goOn_311 ?_
                          refine lv_iconst (v := 1) hx hb dX11_goOn_314 (by decide) ?_
                          have e253 : ((en_k239 + 1)).toInt = (en_k239).toInt + 1 := i_add rfl rfl (by omega)
                          refine lv_iadd hx hb dX11_goOn_315 ?_
                          refine pf_RX11_198 C hO 0 mW_0 (Nat.le_of_ble_eq_true rfl) mW_s0_7 dX11_goOn_316 (fun H locs hO => ?_)
                          have hJ := MIs_7 (v := (en_k239 + 1)) hJ (by first | decide | omega)
                          refine lv_goto (tgt := 259) hx hb dX11_goOn_319 (by decide) ?_
                          exact ih_k239 _ _ _ _ (at_k239) ((en_k239 + 1)) hO (lv_sub hl [0, 1] rfl) (by exact hJ) (by exact hT) (by exact hat_k239) (by exact rfl) (by first | decide | omega) (by first | decide | omega) (by first | decide | omega) (by first | decide | omega) (by first | decide | omega) (by first | decide | omega) (by exact cv0_k239) (by first | decide | omega)
                      · subst hvr244
                        refine bt_eq (tgt := 322) (X := 0) hx hb dX11_goOn_270 (by decide) rfl (by omega) ?_
                        have hlt254 : at_k239.toInt < en_k239.toInt := by
                          by_cases q : en_k239.toInt = at_k239.toInt
                          · exfalso
                            have e1 : en_k239 = at_k239 := i32_eq.mpr q
                            rw [e1, ← cv0_k239] at hr240
                            have e2 := congrArg Int32.toInt hr240
                            omega
                          · omega
                        refine lv_aload_n hx hb dX11_goOn_322 rfl (lv_at hl 1 rfl) ?_
                        refine lv_aload_n hx hb dX11_goOn_323 rfl (lv_at hl 1 rfl) ?_
                        refine gf_RX11_198 (v := .int en_k239) C hO 0 mW_0 (congrArg (fun z : Int32 => some (Value.int z)) hen_k239) dX11_goOn_324 ?_
                        refine lv_aload_n hx hb dX11_goOn_327 rfl (lv_at hl 1 rfl) ?_
                        refine gf_RX11_201 (v := .int at_k239) C hO 0 mW_0 (congrArg (fun z : Int32 => some (Value.int z)) hat_k239) dX11_goOn_328 ?_
                        have e255 : ((en_k239 - at_k239)).toInt = (en_k239).toInt - (at_k239).toInt := i_sub rfl rfl (by omega)
                        refine lv_isub hx hb dX11_goOn_331 ?_
                        refine lv_iconst (v := 4) hx hb dX11_goOn_332 (by decide) ?_
                        refine cs_gt (tgt := 350) (X := ((en_k239).toInt - (at_k239).toInt)) (Y := 4) hx hb dX11_goOn_333 (by decide) e255 rfl (fun c256 => ?_) (fun c256 => ?_)
                        · refine lv_iconst (v := 1) hx hb dX11_goOn_350 (by decide) ?_
                          refine lv_goto (tgt := 355) hx hb dX11_goOn_351 (by decide) ?_
                          refine pf_RX11_208 C hO 0 mW_0 (Nat.le_of_ble_eq_true rfl) mW_s0_8 dX11_goOn_355 (fun H locs hO => ?_)
                          have hJ := MIs_8 (v := 1) hJ (by first | decide | omega)
                          refine lv_goto (tgt := 377) hx hb dX11_goOn_358 (by decide) ?_
                          have q257 : (en_k239 : Int32).toInt ≤ ((fI u 0 3) : Int32).toInt := by first | omega | decide
                          have q258 : (at_k239 : Int32).toInt ≤ (en_k239 : Int32).toInt := by first | omega | decide
                          have q259 : (1 : Int32).toInt = 0 ∨ (at_k239 : Int32).toInt < (en_k239 : Int32).toInt := by first | omega | decide
                          have g260 : 0 ≤ (fI u 0 7).toInt ∧ (fI u 0 7).toInt ≤ 1601 := by have h := MI_7 hJ0; exact h
                          have q261 : ((fI u 0 7) : Int32).toInt ≤ (at_k239 : Int32).toInt := by first | omega | decide
                          refine hret _ _ _ _ _ dX11_goOn_377 ?_ hO
                          exact ⟨hJ, hT, q257, q258, q259, q261⟩
                        · refine lv_aload_n hx hb dX11_goOn_336 rfl (lv_at hl 1 rfl) ?_
                          refine lv_aload_n hx hb dX11_goOn_337 rfl (lv_at hl 1 rfl) ?_
                          refine gf_RX11_198 (v := .int en_k239) C hO 0 mW_0 (congrArg (fun z : Int32 => some (Value.int z)) hen_k239) dX11_goOn_338 ?_
                          refine cVi (w := mW cy a) (As := [.int en_k239]) (rest := [.ref (a 0)]) C hO (T_X11_sign l D cy a _ (by exact hJ) (en_k239) (by first | omega | decide)) (cwV 1 ht (gV wd_1560 wd_1562 wd_49 wd_121 wd_1563) rfl rfl rfl hd_yX11_sign ⟨Nat.le_of_ble_eq_true rfl, Nat.le_of_ble_eq_true rfl⟩) 0 rfl mW_0 rfl rfl hl.1 (Nat.le_of_ble_eq_true rfl) dX11_goOn_341 rfl ⟨Nat.zero_le _, Nat.zero_le _⟩ (fun r262 u263 H locs hp264 hO => ?_)
                          obtain ⟨hr262, hu263⟩ := hp264
                          rw [hu263] at hO
                          have gr262 : (0 ≤ r262.toInt ∧ r262.toInt ≤ 255) ∧ (r262.toInt = 0 ∨ (en_k239 : Int32).toInt < ((fI u 0 3)).toInt) := by have h := sgF_b (u := _) (k := en_k239); rw [← hr262] at h; rw [(Km26_I3 hT)] at h; exact h
                          have hr262 : r262 = sgF u en_k239 := hr262.trans (sgF_eq (Km26_A2 hT) (Km26_I3 hT))
                          refine cSi (w := mW cy a) (As := [.int r262]) (rest := [.ref (a 0)]) C hO (T_X11_isLetter l D cy a _ (by exact hJ) (r262)) (va_cwS 1 ht (gSS wd_1564 wd_1565 wd_121 wd_1566) rfl rfl rfl hd_yX11_isLetter ⟨Nat.le_of_ble_eq_true rfl, Nat.le_of_ble_eq_true rfl⟩)  rfl hl.1 (Nat.le_of_ble_eq_true rfl) dX11_goOn_344 rfl ⟨Nat.zero_le _, Nat.zero_le _⟩ (fun r265 u266 H locs hp267 hO => ?_)
                          obtain ⟨hr265, hu266⟩ := hp267
                          rw [hu266] at hO
                          rcases hr265 with ⟨hcr265, hvr265⟩ | ⟨hcr265, hvr265⟩
                          · subst hvr265
                            refine bn_eq (X := 1) hx hb dX11_goOn_347 rfl (by omega) ?_ (tgt := 354) (by decide)
                            refine lv_iconst (v := 1) hx hb dX11_goOn_350 (by decide) ?_
                            refine lv_goto (tgt := 355) hx hb dX11_goOn_351 (by decide) ?_
                            refine pf_RX11_208 C hO 0 mW_0 (Nat.le_of_ble_eq_true rfl) mW_s0_8 dX11_goOn_355 (fun H locs hO => ?_)
                            have hJ := MIs_8 (v := 1) hJ (by first | decide | omega)
                            refine lv_goto (tgt := 377) hx hb dX11_goOn_358 (by decide) ?_
                            have q268 : (en_k239 : Int32).toInt ≤ ((fI u 0 3) : Int32).toInt := by first | omega | decide
                            have q269 : (at_k239 : Int32).toInt ≤ (en_k239 : Int32).toInt := by first | omega | decide
                            have q270 : (1 : Int32).toInt = 0 ∨ (at_k239 : Int32).toInt < (en_k239 : Int32).toInt := by first | omega | decide
                            have g271 : 0 ≤ (fI u 0 7).toInt ∧ (fI u 0 7).toInt ≤ 1601 := by have h := MI_7 hJ0; exact h
                            have q272 : ((fI u 0 7) : Int32).toInt ≤ (at_k239 : Int32).toInt := by first | omega | decide
                            refine hret _ _ _ _ _ dX11_goOn_377 ?_ hO
                            exact ⟨hJ, hT, q268, q269, q270, q272⟩
                          · subst hvr265
                            refine bt_eq (tgt := 354) (X := 0) hx hb dX11_goOn_347 (by decide) rfl (by omega) ?_
                            refine lv_iconst (v := 4) hx hb dX11_goOn_354 (by decide) ?_
                            refine pf_RX11_208 C hO 0 mW_0 (Nat.le_of_ble_eq_true rfl) mW_s0_8 dX11_goOn_355 (fun H locs hO => ?_)
                            have hJ := MIs_8 (v := 4) hJ (by first | decide | omega)
                            refine lv_goto (tgt := 377) hx hb dX11_goOn_358 (by decide) ?_
                            have q273 : (en_k239 : Int32).toInt ≤ ((fI u 0 3) : Int32).toInt := by first | omega | decide
                            have q274 : (at_k239 : Int32).toInt ≤ (en_k239 : Int32).toInt := by first | omega | decide
                            have q275 : (4 : Int32).toInt = 0 ∨ (at_k239 : Int32).toInt < (en_k239 : Int32).toInt := by first | omega | decide
                            have g276 : 0 ≤ (fI u 0 7).toInt ∧ (fI u 0 7).toInt ≤ 1601 := by have h := MI_7 hJ0; exact h
                            have q277 : ((fI u 0 7) : Int32).toInt ≤ (at_k239 : Int32).toInt := by first | omega | decide
                            refine hret _ _ _ _ _ dX11_goOn_377 ?_ hO
                            exact ⟨hJ, hT, q273, q274, q275, q277⟩
                  exact LP_259_k239 4000 _ _ _ _ (at_k3) (at_k3) hO (lv_sub hl [0, 1] rfl) (by exact hJ) (by exact hT) (by exact hat_k3) (by exact rfl) (by first | decide | omega) (by first | decide | omega) (by first | decide | omega) (by first | decide | omega) (by first | decide | omega) (by first | decide | omega) (by exact hr156) (by first | decide | omega)
                · subst hvr235
                  refine bt_eq (tgt := 361) (X := 0) hx hb dX11_goOn_243 (by decide) rfl (by omega) ?_
                  refine lv_aload_n hx hb dX11_goOn_361 rfl (lv_at hl 1 rfl) ?_
                  refine lv_iload_n hx hb dX11_goOn_362 rfl (lv_at hl 0 rfl) ?_
                  refine cSi (w := mW cy a) (As := [.int r156]) (rest := [.ref (a 0)]) C hO (T_X11_isSign l D cy a _ (by exact hJ) (r156)) (va_cwS 1 ht (gSS wd_1593 wd_1594 wd_121 wd_1595) rfl rfl rfl hd_yX11_isSign ⟨Nat.le_of_ble_eq_true rfl, Nat.le_of_ble_eq_true rfl⟩)  rfl hl.1 (Nat.le_of_ble_eq_true rfl) dX11_goOn_363 rfl ⟨Nat.zero_le _, Nat.zero_le _⟩ (fun r278 u279 H locs hp280 hO => ?_)
                  obtain ⟨hr278, hu279⟩ := hp280
                  have gr278 : 0 ≤ r278.toInt ∧ r278.toInt ≤ 1 := by rcases hr278 with h | h <;> rw [h] <;> decide
                  rw [hu279] at hO
                  refine bs_eq (tgt := 373) (X := (r278).toInt) hx hb dX11_goOn_366 (by decide) rfl (fun c281 => ?_) (fun c281 => ?_)
                  · refine lv_iconst (v := 1) hx hb dX11_goOn_373 (by decide) ?_
                    refine pf_RX11_208 C hO 0 mW_0 (Nat.le_of_ble_eq_true rfl) mW_s0_8 dX11_goOn_374 (fun H locs hO => ?_)
                    have hJ := MIs_8 (v := 1) hJ (by first | decide | omega)
                    have q282 : ((at_k3 + 1) : Int32).toInt ≤ ((fI u 0 3) : Int32).toInt := by first | omega | decide
                    have q283 : (at_k3 : Int32).toInt ≤ ((at_k3 + 1) : Int32).toInt := by first | omega | decide
                    have q284 : (1 : Int32).toInt = 0 ∨ (at_k3 : Int32).toInt < ((at_k3 + 1) : Int32).toInt := by first | omega | decide
                    have g285 : 0 ≤ (fI u 0 7).toInt ∧ (fI u 0 7).toInt ≤ 1601 := by have h := MI_7 hJ0; exact h
                    have q286 : ((fI u 0 7) : Int32).toInt ≤ (at_k3 : Int32).toInt := by first | omega | decide
                    refine hret _ _ _ _ _ dX11_goOn_377 ?_ hO
                    exact ⟨hJ, hT, q282, q283, q284, q286⟩
                  · refine lv_iconst (v := 5) hx hb dX11_goOn_369 (by decide) ?_
                    refine lv_goto (tgt := 374) hx hb dX11_goOn_370 (by decide) ?_
                    refine pf_RX11_208 C hO 0 mW_0 (Nat.le_of_ble_eq_true rfl) mW_s0_8 dX11_goOn_374 (fun H locs hO => ?_)
                    have hJ := MIs_8 (v := 5) hJ (by first | decide | omega)
                    have q287 : ((at_k3 + 1) : Int32).toInt ≤ ((fI u 0 3) : Int32).toInt := by first | omega | decide
                    have q288 : (at_k3 : Int32).toInt ≤ ((at_k3 + 1) : Int32).toInt := by first | omega | decide
                    have q289 : (5 : Int32).toInt = 0 ∨ (at_k3 : Int32).toInt < ((at_k3 + 1) : Int32).toInt := by first | omega | decide
                    have g290 : 0 ≤ (fI u 0 7).toInt ∧ (fI u 0 7).toInt ≤ 1601 := by have h := MI_7 hJ0; exact h
                    have q291 : ((fI u 0 7) : Int32).toInt ≤ (at_k3 : Int32).toInt := by first | omega | decide
                    refine hret _ _ _ _ _ dX11_goOn_377 ?_ hO
                    exact ⟨hJ, hT, q287, q288, q289, q291⟩
            · refine lv_aload_n hx hb dX11_goOn_88 rfl (lv_at hl 1 rfl) ?_
              refine lv_iconst (v := 0) hx hb dX11_goOn_89 (by decide) ?_
              refine pf_RX11_208 C hO 0 mW_0 (Nat.le_of_ble_eq_true rfl) mW_s0_8 dX11_goOn_90 (fun H locs hO => ?_)
              have hJ := MIs_8 (v := 0) hJ (by first | decide | omega)
              refine lv_aload_n hx hb dX11_goOn_93 rfl (lv_at hl 1 rfl) ?_
              refine lv_aload_n hx hb dX11_goOn_94 rfl (lv_at hl 1 rfl) ?_
              refine gf_RX11_152 (v := .int (fI u 0 3)) C hO 0 mW_0 (congrArg (fun z : Int32 => some (Value.int z)) (Km26_I3 hT)) dX11_goOn_95 ?_
              refine pf_RX11_201 C hO 0 mW_0 (Nat.le_of_ble_eq_true rfl) mW_s0_6 dX11_goOn_98 (fun H locs hO => ?_)
              have hJ := MIs_6 (v := (fI u 0 3)) hJ (by first | decide | omega)
              refine lv_aload_n hx hb dX11_goOn_101 rfl (lv_at hl 1 rfl) ?_
              refine lv_aload_n hx hb dX11_goOn_102 rfl (lv_at hl 1 rfl) ?_
              refine gf_RX11_152 (v := .int (fI u 0 3)) C hO 0 mW_0 (congrArg (fun z : Int32 => some (Value.int z)) (Km26_I3 hT)) dX11_goOn_103 ?_
              refine pf_RX11_198 C hO 0 mW_0 (Nat.le_of_ble_eq_true rfl) mW_s0_7 dX11_goOn_106 (fun H locs hO => ?_)
              have hJ := MIs_7 (v := (fI u 0 3)) hJ (by first | decide | omega)
              refine lv_goto (tgt := 377) hx hb dX11_goOn_109 (by decide) ?_
              have q292 : ((fI u 0 3) : Int32).toInt ≤ ((fI u 0 3) : Int32).toInt := by first | omega | decide
              have q293 : ((fI u 0 3) : Int32).toInt ≤ ((fI u 0 3) : Int32).toInt := by first | omega | decide
              have q294 : (0 : Int32).toInt = 0 ∨ ((fI u 0 3) : Int32).toInt < ((fI u 0 3) : Int32).toInt := by first | omega | decide
              have g295 : 0 ≤ (fI u 0 7).toInt ∧ (fI u 0 7).toInt ≤ 1601 := by have h := MI_7 hJ0; exact h
              have q296 : ((fI u 0 7) : Int32).toInt ≤ ((fI u 0 3) : Int32).toInt := by first | omega | decide
              refine hret _ _ _ _ _ dX11_goOn_377 ?_ hO
              exact ⟨hJ, hT, q292, q293, q294, q296⟩
          · refine lv_aload_n hx hb dX11_goOn_45 rfl (lv_at hl 0 rfl) ?_
            refine lv_dup hx hb dX11_goOn_46 rfl ?_
            refine gf_RX11_201 (v := .int at_k3) C hO 0 mW_0 (congrArg (fun z : Int32 => some (Value.int z)) hat_k3) dX11_goOn_47 ?_
            refine lv_iconst (v := 1) hx hb dX11_goOn_50 (by decide) ?_
            have e297 : ((at_k3 + 1)).toInt = (at_k3).toInt + 1 := i_add rfl rfl (by omega)
            refine lv_iadd hx hb dX11_goOn_51 ?_
            refine pf_RX11_201 C hO 0 mW_0 (Nat.le_of_ble_eq_true rfl) mW_s0_6 dX11_goOn_52 (fun H locs hO => ?_)
            have hJ := MIs_6 (v := (at_k3 + 1)) hJ (by first | decide | omega)
            refine lv_goto (tgt := 8) hx hb dX11_goOn_55 (by decide) ?_
            exact ih_k3 _ _ _ _ ((at_k3 + 1)) (en_k3) hO (lv_sub hl [0] rfl) (by exact hJ) (by exact hT) (by exact rfl) (by exact hen_k3) (by first | decide | omega) (by first | decide | omega) (by first | decide | omega) (by first | decide | omega) (by first | decide | omega)
  exact LP_8_k3 4000 _ _ _ _ ((fI u 0 7)) ((fI u 0 7)) hO (lv_sub hl [0] rfl) (by exact hJ) (by exact hT) (by exact rfl) (by exact rfl) (by first | decide | omega) (by first | decide | omega) (by first | decide | omega) (by first | decide | omega) (by first | decide | omega)
def Km27 (u v : St) : Prop := fI v 0 2 = fI u 0 2 ∧ fI v 0 3 = fI u 0 3 ∧ fI v 0 36 = fI u 0 36 ∧ fI v 0 37 = fI u 0 37 ∧ fI v 0 38 = fI u 0 38 ∧ fI v 0 39 = fI u 0 39 ∧ fI v 0 40 = fI u 0 40 ∧ fI v 0 41 = fI u 0 41 ∧ fI v 0 42 = fI u 0 42 ∧ fI v 0 43 = fI u 0 43 ∧ fI v 0 45 = fI u 0 45 ∧ fI v 0 47 = fI u 0 47 ∧ fI v 0 48 = fI u 0 48 ∧ fI v 0 50 = fI u 0 50 ∧ fI v 0 61 = fI u 0 61 ∧ fI v 0 62 = fI u 0 62 ∧ fA v 1 = fA u 1 ∧ fA v 2 = fA u 2 ∧ fA v 3 = fA u 3 ∧ fA v 4 = fA u 4 ∧ fA v 5 = fA u 5 ∧ fA v 6 = fA u 6 ∧ fA v 7 = fA u 7 ∧ fA v 8 = fA u 8 ∧ fA v 9 = fA u 9 ∧ fA v 10 = fA u 10 ∧ fA v 11 = fA u 11 ∧ fA v 12 = fA u 12 ∧ fA v 13 = fA u 13 ∧ fA v 14 = fA u 14 ∧ fA v 15 = fA u 15 ∧ fA v 16 = fA u 16 ∧ fA v 17 = fA u 17 ∧ fA v 18 = fA u 18 ∧ fA v 19 = fA u 19 ∧ fJ v 20 = fJ u 20 ∧ fJ v 21 = fJ u 21 ∧ fJ v 22 = fJ u 22 ∧ fA v 23 = fA u 23 ∧ fA v 24 = fA u 24 ∧ fA v 25 = fA u 25 ∧ fA v 26 = fA u 26 ∧ fA v 27 = fA u 27 ∧ fA v 28 = fA u 28 ∧ fA v 29 = fA u 29 ∧ fA v 30 = fA u 30 ∧ fA v 31 = fA u 31 ∧ fA v 32 = fA u 32 ∧ fA v 33 = fA u 33 ∧ fA v 34 = fA u 34 ∧ fA v 35 = fA u 35 ∧ fA v 36 = fA u 36 ∧ fA v 37 = fA u 37 ∧ fA v 38 = fA u 38 ∧ fA v 39 = fA u 39 ∧ fA v 40 = fA u 40 ∧ fA v 41 = fA u 41 ∧ fA v 42 = fA u 42
theorem Km27.rf {u : St} : Km27 u u := ⟨rfl, rfl, rfl, rfl, rfl, rfl, rfl, rfl, rfl, rfl, rfl, rfl, rfl, rfl, rfl, rfl, rfl, rfl, rfl, rfl, rfl, rfl, rfl, rfl, rfl, rfl, rfl, rfl, rfl, rfl, rfl, rfl, rfl, rfl, rfl, rfl, rfl, rfl, rfl, rfl, rfl, rfl, rfl, rfl, rfl, rfl, rfl, rfl, rfl, rfl, rfl, rfl, rfl, rfl, rfl, rfl, rfl, rfl⟩
theorem Km27.tr {u v w : St} (h1 : Km27 u v) (h2 : Km27 v w) : Km27 u w := ⟨(h2.1).trans h1.1, (h2.2.1).trans h1.2.1, (h2.2.2.1).trans h1.2.2.1, (h2.2.2.2.1).trans h1.2.2.2.1, (h2.2.2.2.2.1).trans h1.2.2.2.2.1, (h2.2.2.2.2.2.1).trans h1.2.2.2.2.2.1, (h2.2.2.2.2.2.2.1).trans h1.2.2.2.2.2.2.1, (h2.2.2.2.2.2.2.2.1).trans h1.2.2.2.2.2.2.2.1, (h2.2.2.2.2.2.2.2.2.1).trans h1.2.2.2.2.2.2.2.2.1, (h2.2.2.2.2.2.2.2.2.2.1).trans h1.2.2.2.2.2.2.2.2.2.1, (h2.2.2.2.2.2.2.2.2.2.2.1).trans h1.2.2.2.2.2.2.2.2.2.2.1, (h2.2.2.2.2.2.2.2.2.2.2.2.1).trans h1.2.2.2.2.2.2.2.2.2.2.2.1, (h2.2.2.2.2.2.2.2.2.2.2.2.2.1).trans h1.2.2.2.2.2.2.2.2.2.2.2.2.1, (h2.2.2.2.2.2.2.2.2.2.2.2.2.2.1).trans h1.2.2.2.2.2.2.2.2.2.2.2.2.2.1, (h2.2.2.2.2.2.2.2.2.2.2.2.2.2.2.1).trans h1.2.2.2.2.2.2.2.2.2.2.2.2.2.2.1, (h2.2.2.2.2.2.2.2.2.2.2.2.2.2.2.2.1).trans h1.2.2.2.2.2.2.2.2.2.2.2.2.2.2.2.1, (h2.2.2.2.2.2.2.2.2.2.2.2.2.2.2.2.2.1).trans h1.2.2.2.2.2.2.2.2.2.2.2.2.2.2.2.2.1, (h2.2.2.2.2.2.2.2.2.2.2.2.2.2.2.2.2.2.1).trans h1.2.2.2.2.2.2.2.2.2.2.2.2.2.2.2.2.2.1, (h2.2.2.2.2.2.2.2.2.2.2.2.2.2.2.2.2.2.2.1).trans h1.2.2.2.2.2.2.2.2.2.2.2.2.2.2.2.2.2.2.1, (h2.2.2.2.2.2.2.2.2.2.2.2.2.2.2.2.2.2.2.2.1).trans h1.2.2.2.2.2.2.2.2.2.2.2.2.2.2.2.2.2.2.2.1, (h2.2.2.2.2.2.2.2.2.2.2.2.2.2.2.2.2.2.2.2.2.1).trans h1.2.2.2.2.2.2.2.2.2.2.2.2.2.2.2.2.2.2.2.2.1, (h2.2.2.2.2.2.2.2.2.2.2.2.2.2.2.2.2.2.2.2.2.2.1).trans h1.2.2.2.2.2.2.2.2.2.2.2.2.2.2.2.2.2.2.2.2.2.1, (h2.2.2.2.2.2.2.2.2.2.2.2.2.2.2.2.2.2.2.2.2.2.2.1).trans h1.2.2.2.2.2.2.2.2.2.2.2.2.2.2.2.2.2.2.2.2.2.2.1, (h2.2.2.2.2.2.2.2.2.2.2.2.2.2.2.2.2.2.2.2.2.2.2.2.1).trans h1.2.2.2.2.2.2.2.2.2.2.2.2.2.2.2.2.2.2.2.2.2.2.2.1, (h2.2.2.2.2.2.2.2.2.2.2.2.2.2.2.2.2.2.2.2.2.2.2.2.2.1).trans h1.2.2.2.2.2.2.2.2.2.2.2.2.2.2.2.2.2.2.2.2.2.2.2.2.1, (h2.2.2.2.2.2.2.2.2.2.2.2.2.2.2.2.2.2.2.2.2.2.2.2.2.2.1).trans h1.2.2.2.2.2.2.2.2.2.2.2.2.2.2.2.2.2.2.2.2.2.2.2.2.2.1, (h2.2.2.2.2.2.2.2.2.2.2.2.2.2.2.2.2.2.2.2.2.2.2.2.2.2.2.1).trans h1.2.2.2.2.2.2.2.2.2.2.2.2.2.2.2.2.2.2.2.2.2.2.2.2.2.2.1, (h2.2.2.2.2.2.2.2.2.2.2.2.2.2.2.2.2.2.2.2.2.2.2.2.2.2.2.2.1).trans h1.2.2.2.2.2.2.2.2.2.2.2.2.2.2.2.2.2.2.2.2.2.2.2.2.2.2.2.1, (h2.2.2.2.2.2.2.2.2.2.2.2.2.2.2.2.2.2.2.2.2.2.2.2.2.2.2.2.2.1).trans h1.2.2.2.2.2.2.2.2.2.2.2.2.2.2.2.2.2.2.2.2.2.2.2.2.2.2.2.2.1, (h2.2.2.2.2.2.2.2.2.2.2.2.2.2.2.2.2.2.2.2.2.2.2.2.2.2.2.2.2.2.1).trans h1.2.2.2.2.2.2.2.2.2.2.2.2.2.2.2.2.2.2.2.2.2.2.2.2.2.2.2.2.2.1, (h2.2.2.2.2.2.2.2.2.2.2.2.2.2.2.2.2.2.2.2.2.2.2.2.2.2.2.2.2.2.2.1).trans h1.2.2.2.2.2.2.2.2.2.2.2.2.2.2.2.2.2.2.2.2.2.2.2.2.2.2.2.2.2.2.1, (h2.2.2.2.2.2.2.2.2.2.2.2.2.2.2.2.2.2.2.2.2.2.2.2.2.2.2.2.2.2.2.2.1).trans h1.2.2.2.2.2.2.2.2.2.2.2.2.2.2.2.2.2.2.2.2.2.2.2.2.2.2.2.2.2.2.2.1, (h2.2.2.2.2.2.2.2.2.2.2.2.2.2.2.2.2.2.2.2.2.2.2.2.2.2.2.2.2.2.2.2.2.1).trans h1.2.2.2.2.2.2.2.2.2.2.2.2.2.2.2.2.2.2.2.2.2.2.2.2.2.2.2.2.2.2.2.2.1, (h2.2.2.2.2.2.2.2.2.2.2.2.2.2.2.2.2.2.2.2.2.2.2.2.2.2.2.2.2.2.2.2.2.2.1).trans h1.2.2.2.2.2.2.2.2.2.2.2.2.2.2.2.2.2.2.2.2.2.2.2.2.2.2.2.2.2.2.2.2.2.1, (h2.2.2.2.2.2.2.2.2.2.2.2.2.2.2.2.2.2.2.2.2.2.2.2.2.2.2.2.2.2.2.2.2.2.2.1).trans h1.2.2.2.2.2.2.2.2.2.2.2.2.2.2.2.2.2.2.2.2.2.2.2.2.2.2.2.2.2.2.2.2.2.2.1, (h2.2.2.2.2.2.2.2.2.2.2.2.2.2.2.2.2.2.2.2.2.2.2.2.2.2.2.2.2.2.2.2.2.2.2.2.1).trans h1.2.2.2.2.2.2.2.2.2.2.2.2.2.2.2.2.2.2.2.2.2.2.2.2.2.2.2.2.2.2.2.2.2.2.2.1, (h2.2.2.2.2.2.2.2.2.2.2.2.2.2.2.2.2.2.2.2.2.2.2.2.2.2.2.2.2.2.2.2.2.2.2.2.2.1).trans h1.2.2.2.2.2.2.2.2.2.2.2.2.2.2.2.2.2.2.2.2.2.2.2.2.2.2.2.2.2.2.2.2.2.2.2.2.1, (h2.2.2.2.2.2.2.2.2.2.2.2.2.2.2.2.2.2.2.2.2.2.2.2.2.2.2.2.2.2.2.2.2.2.2.2.2.2.1).trans h1.2.2.2.2.2.2.2.2.2.2.2.2.2.2.2.2.2.2.2.2.2.2.2.2.2.2.2.2.2.2.2.2.2.2.2.2.2.1, (h2.2.2.2.2.2.2.2.2.2.2.2.2.2.2.2.2.2.2.2.2.2.2.2.2.2.2.2.2.2.2.2.2.2.2.2.2.2.2.1).trans h1.2.2.2.2.2.2.2.2.2.2.2.2.2.2.2.2.2.2.2.2.2.2.2.2.2.2.2.2.2.2.2.2.2.2.2.2.2.2.1, (h2.2.2.2.2.2.2.2.2.2.2.2.2.2.2.2.2.2.2.2.2.2.2.2.2.2.2.2.2.2.2.2.2.2.2.2.2.2.2.2.1).trans h1.2.2.2.2.2.2.2.2.2.2.2.2.2.2.2.2.2.2.2.2.2.2.2.2.2.2.2.2.2.2.2.2.2.2.2.2.2.2.2.1, (h2.2.2.2.2.2.2.2.2.2.2.2.2.2.2.2.2.2.2.2.2.2.2.2.2.2.2.2.2.2.2.2.2.2.2.2.2.2.2.2.2.1).trans h1.2.2.2.2.2.2.2.2.2.2.2.2.2.2.2.2.2.2.2.2.2.2.2.2.2.2.2.2.2.2.2.2.2.2.2.2.2.2.2.2.1, (h2.2.2.2.2.2.2.2.2.2.2.2.2.2.2.2.2.2.2.2.2.2.2.2.2.2.2.2.2.2.2.2.2.2.2.2.2.2.2.2.2.2.1).trans h1.2.2.2.2.2.2.2.2.2.2.2.2.2.2.2.2.2.2.2.2.2.2.2.2.2.2.2.2.2.2.2.2.2.2.2.2.2.2.2.2.2.1, (h2.2.2.2.2.2.2.2.2.2.2.2.2.2.2.2.2.2.2.2.2.2.2.2.2.2.2.2.2.2.2.2.2.2.2.2.2.2.2.2.2.2.2.1).trans h1.2.2.2.2.2.2.2.2.2.2.2.2.2.2.2.2.2.2.2.2.2.2.2.2.2.2.2.2.2.2.2.2.2.2.2.2.2.2.2.2.2.2.1, (h2.2.2.2.2.2.2.2.2.2.2.2.2.2.2.2.2.2.2.2.2.2.2.2.2.2.2.2.2.2.2.2.2.2.2.2.2.2.2.2.2.2.2.2.1).trans h1.2.2.2.2.2.2.2.2.2.2.2.2.2.2.2.2.2.2.2.2.2.2.2.2.2.2.2.2.2.2.2.2.2.2.2.2.2.2.2.2.2.2.2.1, (h2.2.2.2.2.2.2.2.2.2.2.2.2.2.2.2.2.2.2.2.2.2.2.2.2.2.2.2.2.2.2.2.2.2.2.2.2.2.2.2.2.2.2.2.2.1).trans h1.2.2.2.2.2.2.2.2.2.2.2.2.2.2.2.2.2.2.2.2.2.2.2.2.2.2.2.2.2.2.2.2.2.2.2.2.2.2.2.2.2.2.2.2.1, (h2.2.2.2.2.2.2.2.2.2.2.2.2.2.2.2.2.2.2.2.2.2.2.2.2.2.2.2.2.2.2.2.2.2.2.2.2.2.2.2.2.2.2.2.2.2.1).trans h1.2.2.2.2.2.2.2.2.2.2.2.2.2.2.2.2.2.2.2.2.2.2.2.2.2.2.2.2.2.2.2.2.2.2.2.2.2.2.2.2.2.2.2.2.2.1, (h2.2.2.2.2.2.2.2.2.2.2.2.2.2.2.2.2.2.2.2.2.2.2.2.2.2.2.2.2.2.2.2.2.2.2.2.2.2.2.2.2.2.2.2.2.2.2.1).trans h1.2.2.2.2.2.2.2.2.2.2.2.2.2.2.2.2.2.2.2.2.2.2.2.2.2.2.2.2.2.2.2.2.2.2.2.2.2.2.2.2.2.2.2.2.2.2.1, (h2.2.2.2.2.2.2.2.2.2.2.2.2.2.2.2.2.2.2.2.2.2.2.2.2.2.2.2.2.2.2.2.2.2.2.2.2.2.2.2.2.2.2.2.2.2.2.2.1).trans h1.2.2.2.2.2.2.2.2.2.2.2.2.2.2.2.2.2.2.2.2.2.2.2.2.2.2.2.2.2.2.2.2.2.2.2.2.2.2.2.2.2.2.2.2.2.2.2.1, (h2.2.2.2.2.2.2.2.2.2.2.2.2.2.2.2.2.2.2.2.2.2.2.2.2.2.2.2.2.2.2.2.2.2.2.2.2.2.2.2.2.2.2.2.2.2.2.2.2.1).trans h1.2.2.2.2.2.2.2.2.2.2.2.2.2.2.2.2.2.2.2.2.2.2.2.2.2.2.2.2.2.2.2.2.2.2.2.2.2.2.2.2.2.2.2.2.2.2.2.2.1, (h2.2.2.2.2.2.2.2.2.2.2.2.2.2.2.2.2.2.2.2.2.2.2.2.2.2.2.2.2.2.2.2.2.2.2.2.2.2.2.2.2.2.2.2.2.2.2.2.2.2.1).trans h1.2.2.2.2.2.2.2.2.2.2.2.2.2.2.2.2.2.2.2.2.2.2.2.2.2.2.2.2.2.2.2.2.2.2.2.2.2.2.2.2.2.2.2.2.2.2.2.2.2.1, (h2.2.2.2.2.2.2.2.2.2.2.2.2.2.2.2.2.2.2.2.2.2.2.2.2.2.2.2.2.2.2.2.2.2.2.2.2.2.2.2.2.2.2.2.2.2.2.2.2.2.2.1).trans h1.2.2.2.2.2.2.2.2.2.2.2.2.2.2.2.2.2.2.2.2.2.2.2.2.2.2.2.2.2.2.2.2.2.2.2.2.2.2.2.2.2.2.2.2.2.2.2.2.2.2.1, (h2.2.2.2.2.2.2.2.2.2.2.2.2.2.2.2.2.2.2.2.2.2.2.2.2.2.2.2.2.2.2.2.2.2.2.2.2.2.2.2.2.2.2.2.2.2.2.2.2.2.2.2.1).trans h1.2.2.2.2.2.2.2.2.2.2.2.2.2.2.2.2.2.2.2.2.2.2.2.2.2.2.2.2.2.2.2.2.2.2.2.2.2.2.2.2.2.2.2.2.2.2.2.2.2.2.2.1, (h2.2.2.2.2.2.2.2.2.2.2.2.2.2.2.2.2.2.2.2.2.2.2.2.2.2.2.2.2.2.2.2.2.2.2.2.2.2.2.2.2.2.2.2.2.2.2.2.2.2.2.2.2.1).trans h1.2.2.2.2.2.2.2.2.2.2.2.2.2.2.2.2.2.2.2.2.2.2.2.2.2.2.2.2.2.2.2.2.2.2.2.2.2.2.2.2.2.2.2.2.2.2.2.2.2.2.2.2.1, (h2.2.2.2.2.2.2.2.2.2.2.2.2.2.2.2.2.2.2.2.2.2.2.2.2.2.2.2.2.2.2.2.2.2.2.2.2.2.2.2.2.2.2.2.2.2.2.2.2.2.2.2.2.2.1).trans h1.2.2.2.2.2.2.2.2.2.2.2.2.2.2.2.2.2.2.2.2.2.2.2.2.2.2.2.2.2.2.2.2.2.2.2.2.2.2.2.2.2.2.2.2.2.2.2.2.2.2.2.2.2.1, (h2.2.2.2.2.2.2.2.2.2.2.2.2.2.2.2.2.2.2.2.2.2.2.2.2.2.2.2.2.2.2.2.2.2.2.2.2.2.2.2.2.2.2.2.2.2.2.2.2.2.2.2.2.2.2.1).trans h1.2.2.2.2.2.2.2.2.2.2.2.2.2.2.2.2.2.2.2.2.2.2.2.2.2.2.2.2.2.2.2.2.2.2.2.2.2.2.2.2.2.2.2.2.2.2.2.2.2.2.2.2.2.2.1, (h2.2.2.2.2.2.2.2.2.2.2.2.2.2.2.2.2.2.2.2.2.2.2.2.2.2.2.2.2.2.2.2.2.2.2.2.2.2.2.2.2.2.2.2.2.2.2.2.2.2.2.2.2.2.2.2.1).trans h1.2.2.2.2.2.2.2.2.2.2.2.2.2.2.2.2.2.2.2.2.2.2.2.2.2.2.2.2.2.2.2.2.2.2.2.2.2.2.2.2.2.2.2.2.2.2.2.2.2.2.2.2.2.2.2.1, (h2.2.2.2.2.2.2.2.2.2.2.2.2.2.2.2.2.2.2.2.2.2.2.2.2.2.2.2.2.2.2.2.2.2.2.2.2.2.2.2.2.2.2.2.2.2.2.2.2.2.2.2.2.2.2.2.2.1).trans h1.2.2.2.2.2.2.2.2.2.2.2.2.2.2.2.2.2.2.2.2.2.2.2.2.2.2.2.2.2.2.2.2.2.2.2.2.2.2.2.2.2.2.2.2.2.2.2.2.2.2.2.2.2.2.2.2.1, (h2.2.2.2.2.2.2.2.2.2.2.2.2.2.2.2.2.2.2.2.2.2.2.2.2.2.2.2.2.2.2.2.2.2.2.2.2.2.2.2.2.2.2.2.2.2.2.2.2.2.2.2.2.2.2.2.2.2).trans h1.2.2.2.2.2.2.2.2.2.2.2.2.2.2.2.2.2.2.2.2.2.2.2.2.2.2.2.2.2.2.2.2.2.2.2.2.2.2.2.2.2.2.2.2.2.2.2.2.2.2.2.2.2.2.2.2.2⟩
theorem dX11_must_0 : decode cX11_must 0 = .ok (.aload_n 0, 1) := by decide +kernel
theorem dX11_must_1 : decode cX11_must 1 = .ok (.invokevirtual 236, 3) := by decide +kernel
theorem dX11_must_4 : decode cX11_must 4 = .ok (.ifCond .ne 4, 3) := by decide +kernel
theorem dX11_must_7 : decode cX11_must 7 = .ok (.return_, 1) := by decide +kernel
theorem dX11_must_8 : decode cX11_must 8 = .ok (.iload_n 1, 1) := by decide +kernel
theorem dX11_must_9 : decode cX11_must 9 = .ok (.ifCond .eq 10, 3) := by decide +kernel
theorem dX11_must_12 : decode cX11_must 12 = .ok (.aload_n 0, 1) := by decide +kernel
theorem dX11_must_13 : decode cX11_must 13 = .ok (.invokevirtual 240, 3) := by decide +kernel
theorem dX11_must_16 : decode cX11_must 16 = .ok (.goto 7, 3) := by decide +kernel
theorem dX11_must_19 : decode cX11_must 19 = .ok (.aload_n 0, 1) := by decide +kernel
theorem dX11_must_20 : decode cX11_must 20 = .ok (.invokevirtual 243, 3) := by decide +kernel
theorem dX11_must_23 : decode cX11_must 23 = .ok (.return_, 1) := by decide +kernel
theorem wd_1654 : (Cond.code ⟨"WebCourtModel", "must", "(Z)V"⟩ prog_13_method_13_code (2 : Nat) (Option.none : Option FieldType)) ∈ gtb := gtb_c7 105 (by decide +kernel) rfl
theorem wd_1596 : (Cond.methodLink "WebCourtModel" (236 : Nat) ⟨"WebCourtModel", "isGood", "()Z"⟩) ∈ gtb := gtb_c7 47 (by decide +kernel) rfl
theorem wd_1598 : (Cond.instanceMethod ⟨"WebCourtModel", "isGood", "()Z"⟩) ∈ gtb := gtb_c7 49 (by decide +kernel) rfl
theorem wd_50 : (Cond.selects "WebCourtModel" ⟨"WebCourtModel", "isGood", "()Z"⟩ ⟨"WebCourtModel", "isGood", "()Z"⟩) ∈ gtb := gtb_p 50 (by decide +kernel) rfl
theorem hd_yX11_isGood : yX11_isGood.cls = RX11 ∧ yX11_isGood.cls ≠ "java/lang/invoke/MethodHandle" ∧ yX11_isGood.cls ≠ "java/lang/invoke/VarHandle" ∧ (parseMethodDescriptor yX11_isGood.desc).map (fun d => d.parameters.length) = some 0 := by decide +kernel
theorem wd_1615 : (Cond.methodLink "WebCourtModel" (243 : Nat) ⟨"WebCourtModel", "misplaced", "()V"⟩) ∈ gtb := gtb_c7 66 (by decide +kernel) rfl
theorem wd_1617 : (Cond.instanceMethod ⟨"WebCourtModel", "misplaced", "()V"⟩) ∈ gtb := gtb_c7 68 (by decide +kernel) rfl
theorem wd_54 : (Cond.selects "WebCourtModel" ⟨"WebCourtModel", "misplaced", "()V"⟩ ⟨"WebCourtModel", "misplaced", "()V"⟩) ∈ gtb := gtb_p 54 (by decide +kernel) rfl
theorem hd_yX11_misplaced : yX11_misplaced.cls = RX11 ∧ yX11_misplaced.cls ≠ "java/lang/invoke/MethodHandle" ∧ yX11_misplaced.cls ≠ "java/lang/invoke/VarHandle" ∧ (parseMethodDescriptor yX11_misplaced.desc).map (fun d => d.parameters.length) = some 0 := by decide +kernel
theorem Km25_to_Km27 {u v : St} (h : Km25 u v) : Km27 u v := ⟨h.1, h.2.1, h.2.2.2.2.2.2.2.1, h.2.2.2.2.2.2.2.2.1, h.2.2.2.2.2.2.2.2.2.1, h.2.2.2.2.2.2.2.2.2.2.1, h.2.2.2.2.2.2.2.2.2.2.2.1, h.2.2.2.2.2.2.2.2.2.2.2.2.1, h.2.2.2.2.2.2.2.2.2.2.2.2.2.1, h.2.2.2.2.2.2.2.2.2.2.2.2.2.2.1, h.2.2.2.2.2.2.2.2.2.2.2.2.2.2.2.1, h.2.2.2.2.2.2.2.2.2.2.2.2.2.2.2.2.1, h.2.2.2.2.2.2.2.2.2.2.2.2.2.2.2.2.2.1, h.2.2.2.2.2.2.2.2.2.2.2.2.2.2.2.2.2.2.1, h.2.2.2.2.2.2.2.2.2.2.2.2.2.2.2.2.2.2.2.1, h.2.2.2.2.2.2.2.2.2.2.2.2.2.2.2.2.2.2.2.2.1, h.2.2.2.2.2.2.2.2.2.2.2.2.2.2.2.2.2.2.2.2.2.1, h.2.2.2.2.2.2.2.2.2.2.2.2.2.2.2.2.2.2.2.2.2.2.1, h.2.2.2.2.2.2.2.2.2.2.2.2.2.2.2.2.2.2.2.2.2.2.2.1, h.2.2.2.2.2.2.2.2.2.2.2.2.2.2.2.2.2.2.2.2.2.2.2.2.1, h.2.2.2.2.2.2.2.2.2.2.2.2.2.2.2.2.2.2.2.2.2.2.2.2.2.1, h.2.2.2.2.2.2.2.2.2.2.2.2.2.2.2.2.2.2.2.2.2.2.2.2.2.2.1, h.2.2.2.2.2.2.2.2.2.2.2.2.2.2.2.2.2.2.2.2.2.2.2.2.2.2.2.1, h.2.2.2.2.2.2.2.2.2.2.2.2.2.2.2.2.2.2.2.2.2.2.2.2.2.2.2.2.1, h.2.2.2.2.2.2.2.2.2.2.2.2.2.2.2.2.2.2.2.2.2.2.2.2.2.2.2.2.2.1, h.2.2.2.2.2.2.2.2.2.2.2.2.2.2.2.2.2.2.2.2.2.2.2.2.2.2.2.2.2.2.1, h.2.2.2.2.2.2.2.2.2.2.2.2.2.2.2.2.2.2.2.2.2.2.2.2.2.2.2.2.2.2.2.1, h.2.2.2.2.2.2.2.2.2.2.2.2.2.2.2.2.2.2.2.2.2.2.2.2.2.2.2.2.2.2.2.2.1, h.2.2.2.2.2.2.2.2.2.2.2.2.2.2.2.2.2.2.2.2.2.2.2.2.2.2.2.2.2.2.2.2.2.1, h.2.2.2.2.2.2.2.2.2.2.2.2.2.2.2.2.2.2.2.2.2.2.2.2.2.2.2.2.2.2.2.2.2.2.1, h.2.2.2.2.2.2.2.2.2.2.2.2.2.2.2.2.2.2.2.2.2.2.2.2.2.2.2.2.2.2.2.2.2.2.2.1, h.2.2.2.2.2.2.2.2.2.2.2.2.2.2.2.2.2.2.2.2.2.2.2.2.2.2.2.2.2.2.2.2.2.2.2.2.1, h.2.2.2.2.2.2.2.2.2.2.2.2.2.2.2.2.2.2.2.2.2.2.2.2.2.2.2.2.2.2.2.2.2.2.2.2.2.1, h.2.2.2.2.2.2.2.2.2.2.2.2.2.2.2.2.2.2.2.2.2.2.2.2.2.2.2.2.2.2.2.2.2.2.2.2.2.2.1, h.2.2.2.2.2.2.2.2.2.2.2.2.2.2.2.2.2.2.2.2.2.2.2.2.2.2.2.2.2.2.2.2.2.2.2.2.2.2.2.1, h.2.2.2.2.2.2.2.2.2.2.2.2.2.2.2.2.2.2.2.2.2.2.2.2.2.2.2.2.2.2.2.2.2.2.2.2.2.2.2.2.1, h.2.2.2.2.2.2.2.2.2.2.2.2.2.2.2.2.2.2.2.2.2.2.2.2.2.2.2.2.2.2.2.2.2.2.2.2.2.2.2.2.2.1, h.2.2.2.2.2.2.2.2.2.2.2.2.2.2.2.2.2.2.2.2.2.2.2.2.2.2.2.2.2.2.2.2.2.2.2.2.2.2.2.2.2.2.1, h.2.2.2.2.2.2.2.2.2.2.2.2.2.2.2.2.2.2.2.2.2.2.2.2.2.2.2.2.2.2.2.2.2.2.2.2.2.2.2.2.2.2.2.1, h.2.2.2.2.2.2.2.2.2.2.2.2.2.2.2.2.2.2.2.2.2.2.2.2.2.2.2.2.2.2.2.2.2.2.2.2.2.2.2.2.2.2.2.2.1, h.2.2.2.2.2.2.2.2.2.2.2.2.2.2.2.2.2.2.2.2.2.2.2.2.2.2.2.2.2.2.2.2.2.2.2.2.2.2.2.2.2.2.2.2.2.1, h.2.2.2.2.2.2.2.2.2.2.2.2.2.2.2.2.2.2.2.2.2.2.2.2.2.2.2.2.2.2.2.2.2.2.2.2.2.2.2.2.2.2.2.2.2.2.1, h.2.2.2.2.2.2.2.2.2.2.2.2.2.2.2.2.2.2.2.2.2.2.2.2.2.2.2.2.2.2.2.2.2.2.2.2.2.2.2.2.2.2.2.2.2.2.2.1, h.2.2.2.2.2.2.2.2.2.2.2.2.2.2.2.2.2.2.2.2.2.2.2.2.2.2.2.2.2.2.2.2.2.2.2.2.2.2.2.2.2.2.2.2.2.2.2.2.1, h.2.2.2.2.2.2.2.2.2.2.2.2.2.2.2.2.2.2.2.2.2.2.2.2.2.2.2.2.2.2.2.2.2.2.2.2.2.2.2.2.2.2.2.2.2.2.2.2.2.1, h.2.2.2.2.2.2.2.2.2.2.2.2.2.2.2.2.2.2.2.2.2.2.2.2.2.2.2.2.2.2.2.2.2.2.2.2.2.2.2.2.2.2.2.2.2.2.2.2.2.2.1, h.2.2.2.2.2.2.2.2.2.2.2.2.2.2.2.2.2.2.2.2.2.2.2.2.2.2.2.2.2.2.2.2.2.2.2.2.2.2.2.2.2.2.2.2.2.2.2.2.2.2.2.1, h.2.2.2.2.2.2.2.2.2.2.2.2.2.2.2.2.2.2.2.2.2.2.2.2.2.2.2.2.2.2.2.2.2.2.2.2.2.2.2.2.2.2.2.2.2.2.2.2.2.2.2.2.1, h.2.2.2.2.2.2.2.2.2.2.2.2.2.2.2.2.2.2.2.2.2.2.2.2.2.2.2.2.2.2.2.2.2.2.2.2.2.2.2.2.2.2.2.2.2.2.2.2.2.2.2.2.2.1, h.2.2.2.2.2.2.2.2.2.2.2.2.2.2.2.2.2.2.2.2.2.2.2.2.2.2.2.2.2.2.2.2.2.2.2.2.2.2.2.2.2.2.2.2.2.2.2.2.2.2.2.2.2.2.1, h.2.2.2.2.2.2.2.2.2.2.2.2.2.2.2.2.2.2.2.2.2.2.2.2.2.2.2.2.2.2.2.2.2.2.2.2.2.2.2.2.2.2.2.2.2.2.2.2.2.2.2.2.2.2.2.1, h.2.2.2.2.2.2.2.2.2.2.2.2.2.2.2.2.2.2.2.2.2.2.2.2.2.2.2.2.2.2.2.2.2.2.2.2.2.2.2.2.2.2.2.2.2.2.2.2.2.2.2.2.2.2.2.2.1, h.2.2.2.2.2.2.2.2.2.2.2.2.2.2.2.2.2.2.2.2.2.2.2.2.2.2.2.2.2.2.2.2.2.2.2.2.2.2.2.2.2.2.2.2.2.2.2.2.2.2.2.2.2.2.2.2.2.1, h.2.2.2.2.2.2.2.2.2.2.2.2.2.2.2.2.2.2.2.2.2.2.2.2.2.2.2.2.2.2.2.2.2.2.2.2.2.2.2.2.2.2.2.2.2.2.2.2.2.2.2.2.2.2.2.2.2.2.1, h.2.2.2.2.2.2.2.2.2.2.2.2.2.2.2.2.2.2.2.2.2.2.2.2.2.2.2.2.2.2.2.2.2.2.2.2.2.2.2.2.2.2.2.2.2.2.2.2.2.2.2.2.2.2.2.2.2.2.2.1, h.2.2.2.2.2.2.2.2.2.2.2.2.2.2.2.2.2.2.2.2.2.2.2.2.2.2.2.2.2.2.2.2.2.2.2.2.2.2.2.2.2.2.2.2.2.2.2.2.2.2.2.2.2.2.2.2.2.2.2.2.1, h.2.2.2.2.2.2.2.2.2.2.2.2.2.2.2.2.2.2.2.2.2.2.2.2.2.2.2.2.2.2.2.2.2.2.2.2.2.2.2.2.2.2.2.2.2.2.2.2.2.2.2.2.2.2.2.2.2.2.2.2.2.1, h.2.2.2.2.2.2.2.2.2.2.2.2.2.2.2.2.2.2.2.2.2.2.2.2.2.2.2.2.2.2.2.2.2.2.2.2.2.2.2.2.2.2.2.2.2.2.2.2.2.2.2.2.2.2.2.2.2.2.2.2.2.2⟩
theorem wd_1556 : (Cond.methodLink "WebCourtModel" (240 : Nat) ⟨"WebCourtModel", "goOn", "()V"⟩) ∈ gtb := gtb_c7 7 (by decide +kernel) rfl
theorem wd_1558 : (Cond.instanceMethod ⟨"WebCourtModel", "goOn", "()V"⟩) ∈ gtb := gtb_c7 9 (by decide +kernel) rfl
theorem wd_48 : (Cond.selects "WebCourtModel" ⟨"WebCourtModel", "goOn", "()V"⟩ ⟨"WebCourtModel", "goOn", "()V"⟩) ∈ gtb := gtb_p 48 (by decide +kernel) rfl
theorem hd_yX11_goOn : yX11_goOn.cls = RX11 ∧ yX11_goOn.cls ≠ "java/lang/invoke/MethodHandle" ∧ yX11_goOn.cls ≠ "java/lang/invoke/VarHandle" ∧ (parseMethodDescriptor yX11_goOn.desc).map (fun d => d.parameters.length) = some 0 := by decide +kernel
theorem Km26_to_Km27 {u v : St} (h : Km26 u v) : Km27 u v := ⟨h.1, h.2.1, h.2.2.2.2.1, h.2.2.2.2.2.1, h.2.2.2.2.2.2.1, h.2.2.2.2.2.2.2.1, h.2.2.2.2.2.2.2.2.1, h.2.2.2.2.2.2.2.2.2.1, h.2.2.2.2.2.2.2.2.2.2.1, h.2.2.2.2.2.2.2.2.2.2.2.1, h.2.2.2.2.2.2.2.2.2.2.2.2.1, h.2.2.2.2.2.2.2.2.2.2.2.2.2.1, h.2.2.2.2.2.2.2.2.2.2.2.2.2.2.1, h.2.2.2.2.2.2.2.2.2.2.2.2.2.2.2.1, h.2.2.2.2.2.2.2.2.2.2.2.2.2.2.2.2.1, h.2.2.2.2.2.2.2.2.2.2.2.2.2.2.2.2.2.1, h.2.2.2.2.2.2.2.2.2.2.2.2.2.2.2.2.2.2.1, h.2.2.2.2.2.2.2.2.2.2.2.2.2.2.2.2.2.2.2.1, h.2.2.2.2.2.2.2.2.2.2.2.2.2.2.2.2.2.2.2.2.1, h.2.2.2.2.2.2.2.2.2.2.2.2.2.2.2.2.2.2.2.2.2.1, h.2.2.2.2.2.2.2.2.2.2.2.2.2.2.2.2.2.2.2.2.2.2.1, h.2.2.2.2.2.2.2.2.2.2.2.2.2.2.2.2.2.2.2.2.2.2.2.1, h.2.2.2.2.2.2.2.2.2.2.2.2.2.2.2.2.2.2.2.2.2.2.2.2.1, h.2.2.2.2.2.2.2.2.2.2.2.2.2.2.2.2.2.2.2.2.2.2.2.2.2.1, h.2.2.2.2.2.2.2.2.2.2.2.2.2.2.2.2.2.2.2.2.2.2.2.2.2.2.1, h.2.2.2.2.2.2.2.2.2.2.2.2.2.2.2.2.2.2.2.2.2.2.2.2.2.2.2.1, h.2.2.2.2.2.2.2.2.2.2.2.2.2.2.2.2.2.2.2.2.2.2.2.2.2.2.2.2.1, h.2.2.2.2.2.2.2.2.2.2.2.2.2.2.2.2.2.2.2.2.2.2.2.2.2.2.2.2.2.1, h.2.2.2.2.2.2.2.2.2.2.2.2.2.2.2.2.2.2.2.2.2.2.2.2.2.2.2.2.2.2.1, h.2.2.2.2.2.2.2.2.2.2.2.2.2.2.2.2.2.2.2.2.2.2.2.2.2.2.2.2.2.2.2.1, h.2.2.2.2.2.2.2.2.2.2.2.2.2.2.2.2.2.2.2.2.2.2.2.2.2.2.2.2.2.2.2.2.1, h.2.2.2.2.2.2.2.2.2.2.2.2.2.2.2.2.2.2.2.2.2.2.2.2.2.2.2.2.2.2.2.2.2.1, h.2.2.2.2.2.2.2.2.2.2.2.2.2.2.2.2.2.2.2.2.2.2.2.2.2.2.2.2.2.2.2.2.2.2.1, h.2.2.2.2.2.2.2.2.2.2.2.2.2.2.2.2.2.2.2.2.2.2.2.2.2.2.2.2.2.2.2.2.2.2.2.1, h.2.2.2.2.2.2.2.2.2.2.2.2.2.2.2.2.2.2.2.2.2.2.2.2.2.2.2.2.2.2.2.2.2.2.2.2.1, h.2.2.2.2.2.2.2.2.2.2.2.2.2.2.2.2.2.2.2.2.2.2.2.2.2.2.2.2.2.2.2.2.2.2.2.2.2.1, h.2.2.2.2.2.2.2.2.2.2.2.2.2.2.2.2.2.2.2.2.2.2.2.2.2.2.2.2.2.2.2.2.2.2.2.2.2.2.1, h.2.2.2.2.2.2.2.2.2.2.2.2.2.2.2.2.2.2.2.2.2.2.2.2.2.2.2.2.2.2.2.2.2.2.2.2.2.2.2.1, h.2.2.2.2.2.2.2.2.2.2.2.2.2.2.2.2.2.2.2.2.2.2.2.2.2.2.2.2.2.2.2.2.2.2.2.2.2.2.2.2.1, h.2.2.2.2.2.2.2.2.2.2.2.2.2.2.2.2.2.2.2.2.2.2.2.2.2.2.2.2.2.2.2.2.2.2.2.2.2.2.2.2.2.1, h.2.2.2.2.2.2.2.2.2.2.2.2.2.2.2.2.2.2.2.2.2.2.2.2.2.2.2.2.2.2.2.2.2.2.2.2.2.2.2.2.2.2.1, h.2.2.2.2.2.2.2.2.2.2.2.2.2.2.2.2.2.2.2.2.2.2.2.2.2.2.2.2.2.2.2.2.2.2.2.2.2.2.2.2.2.2.2.1, h.2.2.2.2.2.2.2.2.2.2.2.2.2.2.2.2.2.2.2.2.2.2.2.2.2.2.2.2.2.2.2.2.2.2.2.2.2.2.2.2.2.2.2.2.1, h.2.2.2.2.2.2.2.2.2.2.2.2.2.2.2.2.2.2.2.2.2.2.2.2.2.2.2.2.2.2.2.2.2.2.2.2.2.2.2.2.2.2.2.2.2.1, h.2.2.2.2.2.2.2.2.2.2.2.2.2.2.2.2.2.2.2.2.2.2.2.2.2.2.2.2.2.2.2.2.2.2.2.2.2.2.2.2.2.2.2.2.2.2.1, h.2.2.2.2.2.2.2.2.2.2.2.2.2.2.2.2.2.2.2.2.2.2.2.2.2.2.2.2.2.2.2.2.2.2.2.2.2.2.2.2.2.2.2.2.2.2.2.1, h.2.2.2.2.2.2.2.2.2.2.2.2.2.2.2.2.2.2.2.2.2.2.2.2.2.2.2.2.2.2.2.2.2.2.2.2.2.2.2.2.2.2.2.2.2.2.2.2.1, h.2.2.2.2.2.2.2.2.2.2.2.2.2.2.2.2.2.2.2.2.2.2.2.2.2.2.2.2.2.2.2.2.2.2.2.2.2.2.2.2.2.2.2.2.2.2.2.2.2.1, h.2.2.2.2.2.2.2.2.2.2.2.2.2.2.2.2.2.2.2.2.2.2.2.2.2.2.2.2.2.2.2.2.2.2.2.2.2.2.2.2.2.2.2.2.2.2.2.2.2.2.1, h.2.2.2.2.2.2.2.2.2.2.2.2.2.2.2.2.2.2.2.2.2.2.2.2.2.2.2.2.2.2.2.2.2.2.2.2.2.2.2.2.2.2.2.2.2.2.2.2.2.2.2.1, h.2.2.2.2.2.2.2.2.2.2.2.2.2.2.2.2.2.2.2.2.2.2.2.2.2.2.2.2.2.2.2.2.2.2.2.2.2.2.2.2.2.2.2.2.2.2.2.2.2.2.2.2.1, h.2.2.2.2.2.2.2.2.2.2.2.2.2.2.2.2.2.2.2.2.2.2.2.2.2.2.2.2.2.2.2.2.2.2.2.2.2.2.2.2.2.2.2.2.2.2.2.2.2.2.2.2.2.1, h.2.2.2.2.2.2.2.2.2.2.2.2.2.2.2.2.2.2.2.2.2.2.2.2.2.2.2.2.2.2.2.2.2.2.2.2.2.2.2.2.2.2.2.2.2.2.2.2.2.2.2.2.2.2.1, h.2.2.2.2.2.2.2.2.2.2.2.2.2.2.2.2.2.2.2.2.2.2.2.2.2.2.2.2.2.2.2.2.2.2.2.2.2.2.2.2.2.2.2.2.2.2.2.2.2.2.2.2.2.2.2.1, h.2.2.2.2.2.2.2.2.2.2.2.2.2.2.2.2.2.2.2.2.2.2.2.2.2.2.2.2.2.2.2.2.2.2.2.2.2.2.2.2.2.2.2.2.2.2.2.2.2.2.2.2.2.2.2.2.1, h.2.2.2.2.2.2.2.2.2.2.2.2.2.2.2.2.2.2.2.2.2.2.2.2.2.2.2.2.2.2.2.2.2.2.2.2.2.2.2.2.2.2.2.2.2.2.2.2.2.2.2.2.2.2.2.2.2.1, h.2.2.2.2.2.2.2.2.2.2.2.2.2.2.2.2.2.2.2.2.2.2.2.2.2.2.2.2.2.2.2.2.2.2.2.2.2.2.2.2.2.2.2.2.2.2.2.2.2.2.2.2.2.2.2.2.2.2.1, h.2.2.2.2.2.2.2.2.2.2.2.2.2.2.2.2.2.2.2.2.2.2.2.2.2.2.2.2.2.2.2.2.2.2.2.2.2.2.2.2.2.2.2.2.2.2.2.2.2.2.2.2.2.2.2.2.2.2.2⟩
set_option maxHeartbeats 4000000 in
set_option maxRecDepth 100000 in
theorem T_X11_must (l : Launch) (D : va_G) (cy : Nat → ClassId) (a : Nat → Nat) (u : St) (hJ : MI a u) (hp0 : (fI u 0 7).toInt ≤ (fI u 0 3).toInt) (hp1 : (fI u 0 6).toInt ≤ (fI u 0 7).toInt) (hp2 : (fI u 0 8).toInt = 0 ∨ (fI u 0 6).toInt < (fI u 0 7).toInt) (x1 : Int32)  : Mv l D cy (mW cy a) yX11_must (.code yX11_must cX11_must 2 none) (rmo 2 44) [.ref (a 0), .int x1] u (fun (u' : St) => (MI a u') ∧ (Km27 u u') ∧ ((fI u' 0 7).toInt ≤ (fI u' 0 3).toInt) ∧ ((fI u' 0 6).toInt ≤ (fI u' 0 7).toInt) ∧ ((fI u' 0 8).toInt = 0 ∨ (fI u' 0 6).toInt < (fI u' 0 7).toInt) ∧ ((fI u 0 6).toInt ≤ (fI u' 0 6).toInt) ∧ ((fI u 0 4).toInt = 0 ∨ ¬ (fI u' 0 4).toInt = 0)) := by
  refine Mv.of (own := RX11) rfl (by decide) (Nat.le_of_ble_eq_true rfl) ?_
  have hT : Km27 u u := Km27.rf
  have hJ0 := hJ
  intro p e s m below meth c A Q ls C hret hO hl
  obtain ⟨hx, hb, hml, hown, ht, hK, hA⟩ := id C
  have hl : lv_has ls 2 [(0, .ref (a 0)), (1, .int x1)] := hl
  refine lv_aload_n hx hb dX11_must_0 rfl (lv_at hl 0 rfl) ?_
  have g1 : 0 ≤ (fI u 0 4).toInt ∧ (fI u 0 4).toInt ≤ 5 := by have h := MI_4 hJ0; exact h
  refine cVi (w := mW cy a) (As := []) (rest := []) C hO (T_X11_isGood l D cy a _ (by exact hJ) ((fI u 0 4)) (by exact rfl)) (cwV 0 ht (gV wd_1596 wd_1598 wd_50 wd_121 wd_1599) rfl rfl rfl hd_yX11_isGood ⟨Nat.le_of_ble_eq_true rfl, Nat.le_of_ble_eq_true rfl⟩) 0 rfl mW_0 rfl rfl hl.1 (Nat.le_of_ble_eq_true rfl) dX11_must_1 rfl ⟨Nat.zero_le _, Nat.zero_le _⟩ (fun r2 u3 H locs hp4 hO => ?_)
  obtain ⟨hr2, hu3⟩ := hp4
  rw [hu3] at hO
  rcases hr2 with ⟨hcr2, hvr2⟩ | ⟨hcr2, hvr2⟩
  · subst hvr2
    refine bt_ne (tgt := 8) (X := 1) hx hb dX11_must_4 (by decide) rfl (by omega) ?_
    refine lv_iload_n hx hb dX11_must_8 rfl (lv_at hl 1 rfl) ?_
    refine bs_eq (tgt := 19) (X := (x1).toInt) hx hb dX11_must_9 (by decide) rfl (fun c5 => ?_) (fun c5 => ?_)
    · refine lv_aload_n hx hb dX11_must_19 rfl (lv_at hl 0 rfl) ?_
      refine cVv (w := mW cy a) (As := []) (rest := []) C hO (T_X11_misplaced l D cy a _ (by exact hJ)) (cwV 0 ht (gV wd_1615 wd_1617 wd_54 wd_121 wd_1618) rfl rfl rfl hd_yX11_misplaced ⟨Nat.le_of_ble_eq_true rfl, Nat.le_of_ble_eq_true rfl⟩) 0 rfl mW_0 rfl rfl hl.1 (Nat.le_of_ble_eq_true rfl) dX11_must_20 rfl ⟨Nat.zero_le _, Nat.zero_le _⟩ (fun u7 H locs hp8 hO => ?_)
      have g9 : 0 ≤ (fI u 0 3).toInt ∧ (fI u 0 3).toInt ≤ 1600 := by have h := MI_3 hJ0; exact h
      have g10 : 0 ≤ (fI u 0 6).toInt ∧ (fI u 0 6).toInt ≤ 1600 := by have h := MI_6 hJ0; exact h
      have g11 : 0 ≤ (fI u 0 7).toInt ∧ (fI u 0 7).toInt ≤ 1601 := by have h := MI_7 hJ0; exact h
      have g12 : 0 ≤ (fI u 0 8).toInt ∧ (fI u 0 8).toInt ≤ 5 := by have h := MI_8 hJ0; exact h
      have g13 : 0 ≤ (fI u 0 36).toInt ∧ (fI u 0 36).toInt ≤ 1 := by have h := MI_36 hJ0; exact h
      have g14 : 0 ≤ (fI u 0 37).toInt ∧ (fI u 0 37).toInt ≤ 1 := by have h := MI_37 hJ0; exact h
      have g15 : 0 ≤ (fI u 0 42).toInt ∧ (fI u 0 42).toInt ≤ 5 := by have h := MI_42 hJ0; exact h
      have g16 : 0 ≤ (fI u 0 47).toInt ∧ (fI u 0 47).toInt ≤ 40 := by have h := MI_47 hJ0; exact h
      have g17 : 0 ≤ (fI u 0 48).toInt ∧ (fI u 0 48).toInt ≤ 40 := by have h := MI_48 hJ0; exact h
      have g18 : 0 ≤ (fI u 0 50).toInt ∧ (fI u 0 50).toInt ≤ 8 := by have h := MI_50 hJ0; exact h
      have g19 : 0 ≤ (fI u 0 61).toInt ∧ (fI u 0 61).toInt ≤ 30 := by have h := MI_61 hJ0; exact h
      have g20 : 0 ≤ (fI u 0 62).toInt ∧ (fI u 0 62).toInt ≤ 100000 := by have h := MI_62 hJ0; exact h
      obtain ⟨hJ, hTu7, hx0u7⟩ := hp8
      have hT : Km27 u u7 := Km27.tr (by exact hT) (Km25_to_Km27 hTu7)
      have hI_0_3_u7 : fI u7 0 3 = (fI u 0 3) := hTu7.2.1
      have hI_0_6_u7 : fI u7 0 6 = (fI u 0 6) := hTu7.2.2.1
      have hI_0_7_u7 : fI u7 0 7 = (fI u 0 7) := hTu7.2.2.2.1
      have hI_0_8_u7 : fI u7 0 8 = (fI u 0 8) := hTu7.2.2.2.2.1
      have hI_0_36_u7 : fI u7 0 36 = (fI u 0 36) := hTu7.2.2.2.2.2.2.2.1
      have hI_0_37_u7 : fI u7 0 37 = (fI u 0 37) := hTu7.2.2.2.2.2.2.2.2.1
      have hI_0_42_u7 : fI u7 0 42 = (fI u 0 42) := hTu7.2.2.2.2.2.2.2.2.2.2.2.2.2.1
      have hI_0_47_u7 : fI u7 0 47 = (fI u 0 47) := hTu7.2.2.2.2.2.2.2.2.2.2.2.2.2.2.2.2.1
      have hI_0_48_u7 : fI u7 0 48 = (fI u 0 48) := hTu7.2.2.2.2.2.2.2.2.2.2.2.2.2.2.2.2.2.1
      have hI_0_50_u7 : fI u7 0 50 = (fI u 0 50) := hTu7.2.2.2.2.2.2.2.2.2.2.2.2.2.2.2.2.2.2.1
      have hI_0_61_u7 : fI u7 0 61 = (fI u 0 61) := hTu7.2.2.2.2.2.2.2.2.2.2.2.2.2.2.2.2.2.2.2.1
      have hI_0_62_u7 : fI u7 0 62 = (fI u 0 62) := hTu7.2.2.2.2.2.2.2.2.2.2.2.2.2.2.2.2.2.2.2.2.1
      have g21 : 0 ≤ (fI u7 0 4).toInt ∧ (fI u7 0 4).toInt ≤ 5 := by have h := MI_4 hJ; exact h
      have y0u7 : ¬ ((fI u7 0 4) : Int32).toInt = 0 := by exact hx0u7
      have q22 : ((fI u 0 7) : Int32).toInt ≤ ((fI u 0 3) : Int32).toInt := by first | omega | decide
      have q23 : ((fI u 0 6) : Int32).toInt ≤ ((fI u 0 7) : Int32).toInt := by first | omega | decide
      have q24 : ((fI u 0 8) : Int32).toInt = 0 ∨ ((fI u 0 6) : Int32).toInt < ((fI u 0 7) : Int32).toInt := by first | omega | decide
      have q25 : ((fI u 0 6) : Int32).toInt ≤ ((fI u 0 6) : Int32).toInt := by first | omega | decide
      have q26 : ((fI u 0 4) : Int32).toInt = 0 ∨ ¬ ((fI u7 0 4) : Int32).toInt = 0 := by first | omega | decide
      refine hret _ _ _ _ _ dX11_must_23 ?_ hO
      exact ⟨hJ, hT, q22, q23, q24, q25, q26⟩
    · refine lv_aload_n hx hb dX11_must_12 rfl (lv_at hl 0 rfl) ?_
      have g27 : 0 ≤ (fI u 0 7).toInt ∧ (fI u 0 7).toInt ≤ 1601 := by have h := MI_7 hJ0; exact h
      have g28 : 0 ≤ (fI u 0 3).toInt ∧ (fI u 0 3).toInt ≤ 1600 := by have h := MI_3 hJ0; exact h
      refine cVv (w := mW cy a) (As := []) (rest := []) C hO (T_X11_goOn l D cy a _ (by exact hJ) (by exact (show ((fI u 0 7) : Int32).toInt ≤ ((fI u 0 3) : Int32).toInt from by first | omega | decide))) (cwV 0 ht (gV wd_1556 wd_1558 wd_48 wd_121 wd_1559) rfl rfl rfl hd_yX11_goOn ⟨Nat.le_of_ble_eq_true rfl, Nat.le_of_ble_eq_true rfl⟩) 0 rfl mW_0 rfl rfl hl.1 (Nat.le_of_ble_eq_true rfl) dX11_must_13 rfl ⟨Nat.zero_le _, Nat.zero_le _⟩ (fun u30 H locs hp31 hO => ?_)
      have g32 : 0 ≤ (fI u 0 36).toInt ∧ (fI u 0 36).toInt ≤ 1 := by have h := MI_36 hJ0; exact h
      have g33 : 0 ≤ (fI u 0 37).toInt ∧ (fI u 0 37).toInt ≤ 1 := by have h := MI_37 hJ0; exact h
      have g34 : 0 ≤ (fI u 0 42).toInt ∧ (fI u 0 42).toInt ≤ 5 := by have h := MI_42 hJ0; exact h
      have g35 : 0 ≤ (fI u 0 47).toInt ∧ (fI u 0 47).toInt ≤ 40 := by have h := MI_47 hJ0; exact h
      have g36 : 0 ≤ (fI u 0 48).toInt ∧ (fI u 0 48).toInt ≤ 40 := by have h := MI_48 hJ0; exact h
      have g37 : 0 ≤ (fI u 0 50).toInt ∧ (fI u 0 50).toInt ≤ 8 := by have h := MI_50 hJ0; exact h
      have g38 : 0 ≤ (fI u 0 61).toInt ∧ (fI u 0 61).toInt ≤ 30 := by have h := MI_61 hJ0; exact h
      have g39 : 0 ≤ (fI u 0 62).toInt ∧ (fI u 0 62).toInt ≤ 100000 := by have h := MI_62 hJ0; exact h
      obtain ⟨hJ, hTu30, hx0u30, hx1u30, hx2u30, hx3u30⟩ := hp31
      have hT : Km27 u u30 := Km27.tr (by exact hT) (Km26_to_Km27 hTu30)
      have hI_0_3_u30 : fI u30 0 3 = (fI u 0 3) := hTu30.2.1
      have hI_0_4_u30 : fI u30 0 4 = (fI u 0 4) := hTu30.2.2.1
      have hI_0_36_u30 : fI u30 0 36 = (fI u 0 36) := hTu30.2.2.2.2.1
      have hI_0_37_u30 : fI u30 0 37 = (fI u 0 37) := hTu30.2.2.2.2.2.1
      have hI_0_42_u30 : fI u30 0 42 = (fI u 0 42) := hTu30.2.2.2.2.2.2.2.2.2.2.1
      have hI_0_47_u30 : fI u30 0 47 = (fI u 0 47) := hTu30.2.2.2.2.2.2.2.2.2.2.2.2.2.1
      have hI_0_48_u30 : fI u30 0 48 = (fI u 0 48) := hTu30.2.2.2.2.2.2.2.2.2.2.2.2.2.2.1
      have hI_0_50_u30 : fI u30 0 50 = (fI u 0 50) := hTu30.2.2.2.2.2.2.2.2.2.2.2.2.2.2.2.1
      have hI_0_61_u30 : fI u30 0 61 = (fI u 0 61) := hTu30.2.2.2.2.2.2.2.2.2.2.2.2.2.2.2.2.1
      have hI_0_62_u30 : fI u30 0 62 = (fI u 0 62) := hTu30.2.2.2.2.2.2.2.2.2.2.2.2.2.2.2.2.2.1
      have g40 : 0 ≤ (fI u30 0 7).toInt ∧ (fI u30 0 7).toInt ≤ 1601 := by have h := MI_7 hJ; exact h
      have y0u30 : ((fI u30 0 7) : Int32).toInt ≤ ((fI u 0 3) : Int32).toInt := by have h := hx0u30; simp only [hI_0_3_u30] at h; exact h
      have g41 : 0 ≤ (fI u30 0 6).toInt ∧ (fI u30 0 6).toInt ≤ 1600 := by have h := MI_6 hJ; exact h
      have y1u30 : ((fI u30 0 6) : Int32).toInt ≤ ((fI u30 0 7) : Int32).toInt := by exact hx1u30
      have g42 : 0 ≤ (fI u30 0 8).toInt ∧ (fI u30 0 8).toInt ≤ 5 := by have h := MI_8 hJ; exact h
      have y2u30 : ((fI u30 0 8) : Int32).toInt = 0 ∨ ((fI u30 0 6) : Int32).toInt < ((fI u30 0 7) : Int32).toInt := by exact hx2u30
      have y3u30 : ((fI u 0 7) : Int32).toInt ≤ ((fI u30 0 6) : Int32).toInt := by exact hx3u30
      refine lv_goto (tgt := 23) hx hb dX11_must_16 (by decide) ?_
      have q43 : ((fI u30 0 7) : Int32).toInt ≤ ((fI u 0 3) : Int32).toInt := by first | omega | decide
      have q44 : ((fI u30 0 6) : Int32).toInt ≤ ((fI u30 0 7) : Int32).toInt := by first | omega | decide
      have q45 : ((fI u30 0 8) : Int32).toInt = 0 ∨ ((fI u30 0 6) : Int32).toInt < ((fI u30 0 7) : Int32).toInt := by first | omega | decide
      have g46 : 0 ≤ (fI u 0 6).toInt ∧ (fI u 0 6).toInt ≤ 1600 := by have h := MI_6 hJ0; exact h
      have q47 : ((fI u 0 6) : Int32).toInt ≤ ((fI u30 0 6) : Int32).toInt := by first | omega | decide
      have q48 : ((fI u 0 4) : Int32).toInt = 0 ∨ ¬ ((fI u 0 4) : Int32).toInt = 0 := by first | omega | decide
      refine hret _ _ _ _ _ dX11_must_23 ?_ hO
      exact ⟨hJ, hT, q43, q44, q45, q47, q48⟩
  · subst hvr2
    refine bn_ne (X := 0) hx hb dX11_must_4 rfl (by omega) ?_ (tgt := 8) (by decide)
    have g49 : 0 ≤ (fI u 0 7).toInt ∧ (fI u 0 7).toInt ≤ 1601 := by have h := MI_7 hJ0; exact h
    have g50 : 0 ≤ (fI u 0 3).toInt ∧ (fI u 0 3).toInt ≤ 1600 := by have h := MI_3 hJ0; exact h
    have q51 : ((fI u 0 7) : Int32).toInt ≤ ((fI u 0 3) : Int32).toInt := by first | omega | decide
    have g52 : 0 ≤ (fI u 0 6).toInt ∧ (fI u 0 6).toInt ≤ 1600 := by have h := MI_6 hJ0; exact h
    have q53 : ((fI u 0 6) : Int32).toInt ≤ ((fI u 0 7) : Int32).toInt := by first | omega | decide
    have g54 : 0 ≤ (fI u 0 8).toInt ∧ (fI u 0 8).toInt ≤ 5 := by have h := MI_8 hJ0; exact h
    have q55 : ((fI u 0 8) : Int32).toInt = 0 ∨ ((fI u 0 6) : Int32).toInt < ((fI u 0 7) : Int32).toInt := by first | omega | decide
    have q56 : ((fI u 0 6) : Int32).toInt ≤ ((fI u 0 6) : Int32).toInt := by first | omega | decide
    have q57 : ((fI u 0 4) : Int32).toInt = 0 ∨ ¬ ((fI u 0 4) : Int32).toInt = 0 := by first | omega | decide
    refine hret _ _ _ _ _ dX11_must_7 ?_ hO
    exact ⟨hJ, hT, q51, q53, q55, q56, q57⟩
theorem dX11_numeral_0 : decode cX11_numeral 0 = .ok (.aload_n 0, 1) := by decide +kernel
theorem dX11_numeral_1 : decode cX11_numeral 1 = .ok (.invokevirtual 236, 3) := by decide +kernel
theorem dX11_numeral_4 : decode cX11_numeral 4 = .ok (.ifCond .ne 5, 3) := by decide +kernel
theorem dX11_numeral_7 : decode cX11_numeral 7 = .ok (.iload_n 1, 1) := by decide +kernel
theorem dX11_numeral_8 : decode cX11_numeral 8 = .ok (.ireturn, 1) := by decide +kernel
theorem dX11_numeral_9 : decode cX11_numeral 9 = .ok (.aload_n 0, 1) := by decide +kernel
theorem dX11_numeral_10 : decode cX11_numeral 10 = .ok (.getfield 208, 3) := by decide +kernel
theorem dX11_numeral_13 : decode cX11_numeral 13 = .ok (.iconst 4, 1) := by decide +kernel
theorem dX11_numeral_14 : decode cX11_numeral 14 = .ok (.if_icmp .eq 7, 3) := by decide +kernel
theorem dX11_numeral_17 : decode cX11_numeral 17 = .ok (.aload_n 0, 1) := by decide +kernel
theorem dX11_numeral_18 : decode cX11_numeral 18 = .ok (.invokevirtual 243, 3) := by decide +kernel
theorem dX11_numeral_21 : decode cX11_numeral 21 = .ok (.aload_n 0, 1) := by decide +kernel
theorem dX11_numeral_22 : decode cX11_numeral 22 = .ok (.invokevirtual 236, 3) := by decide +kernel
theorem dX11_numeral_25 : decode cX11_numeral 25 = .ok (.ifCond .eq 28, 3) := by decide +kernel
theorem dX11_numeral_28 : decode cX11_numeral 28 = .ok (.aload_n 0, 1) := by decide +kernel
theorem dX11_numeral_29 : decode cX11_numeral 29 = .ok (.getfield 226, 3) := by decide +kernel
theorem dX11_numeral_32 : decode cX11_numeral 32 = .ok (.iload_n 1, 1) := by decide +kernel
theorem dX11_numeral_33 : decode cX11_numeral 33 = .ok (.if_icmp .lt 11, 3) := by decide +kernel
theorem dX11_numeral_36 : decode cX11_numeral 36 = .ok (.aload_n 0, 1) := by decide +kernel
theorem dX11_numeral_37 : decode cX11_numeral 37 = .ok (.getfield 226, 3) := by decide +kernel
theorem dX11_numeral_40 : decode cX11_numeral 40 = .ok (.iload_n 2, 1) := by decide +kernel
theorem dX11_numeral_41 : decode cX11_numeral 41 = .ok (.if_icmp .le 12, 3) := by decide +kernel
theorem dX11_numeral_44 : decode cX11_numeral 44 = .ok (.aload_n 0, 1) := by decide +kernel
theorem dX11_numeral_45 : decode cX11_numeral 45 = .ok (.iconst 4, 1) := by decide +kernel
theorem dX11_numeral_46 : decode cX11_numeral 46 = .ok (.aload_n 0, 1) := by decide +kernel
theorem dX11_numeral_47 : decode cX11_numeral 47 = .ok (.getfield 201, 3) := by decide +kernel
theorem dX11_numeral_50 : decode cX11_numeral 50 = .ok (.invokevirtual 232, 3) := by decide +kernel
theorem dX11_numeral_53 : decode cX11_numeral 53 = .ok (.aload_n 0, 1) := by decide +kernel
theorem dX11_numeral_54 : decode cX11_numeral 54 = .ok (.getfield 226, 3) := by decide +kernel
theorem dX11_numeral_57 : decode cX11_numeral 57 = .ok (.istore_n 3, 1) := by decide +kernel
theorem dX11_numeral_58 : decode cX11_numeral 58 = .ok (.aload_n 0, 1) := by decide +kernel
theorem dX11_numeral_59 : decode cX11_numeral 59 = .ok (.invokevirtual 236, 3) := by decide +kernel
theorem dX11_numeral_62 : decode cX11_numeral 62 = .ok (.ifCond .eq 7, 3) := by decide +kernel
theorem dX11_numeral_65 : decode cX11_numeral 65 = .ok (.aload_n 0, 1) := by decide +kernel
theorem dX11_numeral_66 : decode cX11_numeral 66 = .ok (.invokevirtual 240, 3) := by decide +kernel
theorem dX11_numeral_69 : decode cX11_numeral 69 = .ok (.aload_n 0, 1) := by decide +kernel
theorem dX11_numeral_70 : decode cX11_numeral 70 = .ok (.invokevirtual 236, 3) := by decide +kernel
theorem dX11_numeral_73 : decode cX11_numeral 73 = .ok (.ifCond .eq 7, 3) := by decide +kernel
theorem dX11_numeral_76 : decode cX11_numeral 76 = .ok (.iload_n 3, 1) := by decide +kernel
theorem dX11_numeral_77 : decode cX11_numeral 77 = .ok (.goto 4, 3) := by decide +kernel
theorem dX11_numeral_80 : decode cX11_numeral 80 = .ok (.iload_n 1, 1) := by decide +kernel
theorem dX11_numeral_81 : decode cX11_numeral 81 = .ok (.ireturn, 1) := by decide +kernel
theorem wd_1658 : (Cond.code ⟨"WebCourtModel", "numeral", "(II)I"⟩ prog_13_method_14_code (4 : Nat) (Option.some FieldType.int)) ∈ gtb := gtb_c7 109 (by decide +kernel) rfl
theorem Km25_I9 {u v : St} (h : Km25 u v) : fI v 0 9 = fI u 0 9 := h.2.2.2.2.2.1
set_option maxHeartbeats 4000000 in
set_option maxRecDepth 100000 in
theorem T_X11_numeral (l : Launch) (D : va_G) (cy : Nat → ClassId) (a : Nat → Nat) (u : St) (hJ : MI a u) (hp0 : (fI u 0 7).toInt ≤ (fI u 0 3).toInt) (hp1 : (fI u 0 6).toInt ≤ (fI u 0 7).toInt) (hp2 : (fI u 0 8).toInt = 0 ∨ (fI u 0 6).toInt < (fI u 0 7).toInt) (x1 : Int32) (x2 : Int32)  : Mi l D cy (mW cy a) yX11_numeral (.code yX11_numeral cX11_numeral 4 (some .int)) (rmo 2 44) [.ref (a 0), .int x1, .int x2] u (fun (r : Int32) (u' : St) => (MI a u') ∧ (Km27 u u') ∧ ((fI u' 0 7).toInt ≤ (fI u' 0 3).toInt) ∧ ((fI u' 0 6).toInt ≤ (fI u' 0 7).toInt) ∧ ((fI u' 0 8).toInt = 0 ∨ (fI u' 0 6).toInt < (fI u' 0 7).toInt) ∧ ((fI u 0 6).toInt ≤ (fI u' 0 6).toInt) ∧ ((fI u 0 4).toInt = 0 ∨ ¬ (fI u' 0 4).toInt = 0)) := by
  refine Mi.of (own := RX11) rfl (by decide) (Nat.le_of_ble_eq_true rfl) ?_
  have hT : Km27 u u := Km27.rf
  have hJ0 := hJ
  intro p e s m below meth c A Q ls C hret hO hl
  obtain ⟨hx, hb, hml, hown, ht, hK, hA⟩ := id C
  have hl : lv_has ls 4 [(0, .ref (a 0)), (1, .int x1), (2, .int x2)] := hl
  refine lv_aload_n hx hb dX11_numeral_0 rfl (lv_at hl 0 rfl) ?_
  have g1 : 0 ≤ (fI u 0 4).toInt ∧ (fI u 0 4).toInt ≤ 5 := by have h := MI_4 hJ0; exact h
  refine cVi (w := mW cy a) (As := []) (rest := []) C hO (T_X11_isGood l D cy a _ (by exact hJ) ((fI u 0 4)) (by exact rfl)) (cwV 0 ht (gV wd_1596 wd_1598 wd_50 wd_121 wd_1599) rfl rfl rfl hd_yX11_isGood ⟨Nat.le_of_ble_eq_true rfl, Nat.le_of_ble_eq_true rfl⟩) 0 rfl mW_0 rfl rfl hl.1 (Nat.le_of_ble_eq_true rfl) dX11_numeral_1 rfl ⟨Nat.zero_le _, Nat.zero_le _⟩ (fun r2 u3 H locs hp4 hO => ?_)
  obtain ⟨hr2, hu3⟩ := hp4
  rw [hu3] at hO
  rcases hr2 with ⟨hcr2, hvr2⟩ | ⟨hcr2, hvr2⟩
  · subst hvr2
    refine bt_ne (tgt := 9) (X := 1) hx hb dX11_numeral_4 (by decide) rfl (by omega) ?_
    refine lv_aload_n hx hb dX11_numeral_9 rfl (lv_at hl 0 rfl) ?_
    have g5 : 0 ≤ (fI u 0 8).toInt ∧ (fI u 0 8).toInt ≤ 5 := by have h := MI_8 hJ0; exact h
    refine gf_RX11_208 (v := .int (fI u 0 8)) C hO 0 mW_0 rfl dX11_numeral_10 ?_
    refine lv_iconst (v := 4) hx hb dX11_numeral_13 (by decide) ?_
    refine cs_eq (tgt := 21) (X := ((fI u 0 8)).toInt) (Y := 4) hx hb dX11_numeral_14 (by decide) rfl rfl (fun c6 => ?_) (fun c6 => ?_)
    · refine lv_aload_n hx hb dX11_numeral_21 rfl (lv_at hl 0 rfl) ?_
      refine cVi (w := mW cy a) (As := []) (rest := []) C hO (T_X11_isGood l D cy a _ (by exact hJ) ((fI u 0 4)) (by exact rfl)) (cwV 0 ht (gV wd_1596 wd_1598 wd_50 wd_121 wd_1599) rfl rfl rfl hd_yX11_isGood ⟨Nat.le_of_ble_eq_true rfl, Nat.le_of_ble_eq_true rfl⟩) 0 rfl mW_0 rfl rfl hl.1 (Nat.le_of_ble_eq_true rfl) dX11_numeral_22 rfl ⟨Nat.zero_le _, Nat.zero_le _⟩ (fun r7 u8 H locs hp9 hO => ?_)
      obtain ⟨hr7, hu8⟩ := hp9
      rw [hu8] at hO
      rcases hr7 with ⟨hcr7, hvr7⟩ | ⟨hcr7, hvr7⟩
      · subst hvr7
        refine bn_eq (X := 1) hx hb dX11_numeral_25 rfl (by omega) ?_ (tgt := 53) (by decide)
        refine lv_aload_n hx hb dX11_numeral_28 rfl (lv_at hl 0 rfl) ?_
        refine gf_RX11_226 (v := .int (fI u 0 9)) C hO 0 mW_0 rfl dX11_numeral_29 ?_
        refine lv_iload_n hx hb dX11_numeral_32 rfl (lv_at hl 1 rfl) ?_
        refine cs_lt (tgt := 44) (X := ((fI u 0 9)).toInt) (Y := (x1).toInt) hx hb dX11_numeral_33 (by decide) rfl rfl (fun c10 => ?_) (fun c10 => ?_)
        · refine lv_aload_n hx hb dX11_numeral_44 rfl (lv_at hl 0 rfl) ?_
          refine lv_iconst (v := 4) hx hb dX11_numeral_45 (by decide) ?_
          refine lv_aload_n hx hb dX11_numeral_46 rfl (lv_at hl 0 rfl) ?_
          have g11 : 0 ≤ (fI u 0 6).toInt ∧ (fI u 0 6).toInt ≤ 1600 := by have h := MI_6 hJ0; exact h
          refine gf_RX11_201 (v := .int (fI u 0 6)) C hO 0 mW_0 rfl dX11_numeral_47 ?_
          refine cVv (w := mW cy a) (As := [.int 4, .int (fI u 0 6)]) (rest := []) C hO (T_X11_fails l D cy a _ (by exact hJ) (4) ((fI u 0 6)) (by first | omega | decide)) (cwV 2 ht (gV wd_1619 wd_1621 wd_55 wd_121 wd_1622) rfl rfl rfl hd_yX11_fails ⟨Nat.le_of_ble_eq_true rfl, Nat.le_of_ble_eq_true rfl⟩) 0 rfl mW_0 rfl rfl hl.1 (Nat.le_of_ble_eq_true rfl) dX11_numeral_50 rfl ⟨Nat.zero_le _, Nat.zero_le _⟩ (fun u13 H locs hp14 hO => ?_)
          have g15 : 0 ≤ (fI u 0 3).toInt ∧ (fI u 0 3).toInt ≤ 1600 := by have h := MI_3 hJ0; exact h
          have g16 : 0 ≤ (fI u 0 7).toInt ∧ (fI u 0 7).toInt ≤ 1601 := by have h := MI_7 hJ0; exact h
          have g17 : 0 ≤ (fI u 0 36).toInt ∧ (fI u 0 36).toInt ≤ 1 := by have h := MI_36 hJ0; exact h
          have g18 : 0 ≤ (fI u 0 37).toInt ∧ (fI u 0 37).toInt ≤ 1 := by have h := MI_37 hJ0; exact h
          have g19 : 0 ≤ (fI u 0 42).toInt ∧ (fI u 0 42).toInt ≤ 5 := by have h := MI_42 hJ0; exact h
          have g20 : 0 ≤ (fI u 0 47).toInt ∧ (fI u 0 47).toInt ≤ 40 := by have h := MI_47 hJ0; exact h
          have g21 : 0 ≤ (fI u 0 48).toInt ∧ (fI u 0 48).toInt ≤ 40 := by have h := MI_48 hJ0; exact h
          have g22 : 0 ≤ (fI u 0 50).toInt ∧ (fI u 0 50).toInt ≤ 8 := by have h := MI_50 hJ0; exact h
          have g23 : 0 ≤ (fI u 0 61).toInt ∧ (fI u 0 61).toInt ≤ 30 := by have h := MI_61 hJ0; exact h
          have g24 : 0 ≤ (fI u 0 62).toInt ∧ (fI u 0 62).toInt ≤ 100000 := by have h := MI_62 hJ0; exact h
          obtain ⟨hJ, hTu13, hx0u13⟩ := hp14
          have hT : Km27 u u13 := Km27.tr (by exact hT) (Km25_to_Km27 hTu13)
          have hI_0_3_u13 : fI u13 0 3 = (fI u 0 3) := hTu13.2.1
          have hI_0_6_u13 : fI u13 0 6 = (fI u 0 6) := hTu13.2.2.1
          have hI_0_7_u13 : fI u13 0 7 = (fI u 0 7) := hTu13.2.2.2.1
          have hI_0_8_u13 : fI u13 0 8 = (fI u 0 8) := hTu13.2.2.2.2.1
          have hI_0_36_u13 : fI u13 0 36 = (fI u 0 36) := hTu13.2.2.2.2.2.2.2.1
          have hI_0_37_u13 : fI u13 0 37 = (fI u 0 37) := hTu13.2.2.2.2.2.2.2.2.1
          have hI_0_42_u13 : fI u13 0 42 = (fI u 0 42) := hTu13.2.2.2.2.2.2.2.2.2.2.2.2.2.1
          have hI_0_47_u13 : fI u13 0 47 = (fI u 0 47) := hTu13.2.2.2.2.2.2.2.2.2.2.2.2.2.2.2.2.1
          have hI_0_48_u13 : fI u13 0 48 = (fI u 0 48) := hTu13.2.2.2.2.2.2.2.2.2.2.2.2.2.2.2.2.2.1
          have hI_0_50_u13 : fI u13 0 50 = (fI u 0 50) := hTu13.2.2.2.2.2.2.2.2.2.2.2.2.2.2.2.2.2.2.1
          have hI_0_61_u13 : fI u13 0 61 = (fI u 0 61) := hTu13.2.2.2.2.2.2.2.2.2.2.2.2.2.2.2.2.2.2.2.1
          have hI_0_62_u13 : fI u13 0 62 = (fI u 0 62) := hTu13.2.2.2.2.2.2.2.2.2.2.2.2.2.2.2.2.2.2.2.2.1
          have g25 : 0 ≤ (fI u13 0 4).toInt ∧ (fI u13 0 4).toInt ≤ 5 := by have h := MI_4 hJ; exact h
          have y0u13 : ¬ ((fI u13 0 4) : Int32).toInt = 0 := by exact hx0u13
          refine lv_aload_n hx hb dX11_numeral_53 rfl (lv_at hl 0 rfl) ?_
          refine gf_RX11_226 (v := .int (fI u 0 9)) C hO 0 mW_0 (congrArg (fun z : Int32 => some (Value.int z)) (Km25_I9 hTu13)) dX11_numeral_54 ?_
          refine lv_istore_n (lv' := [(3, .int (fI u 0 9)), (0, .ref (a 0)), (1, .int x1), (2, .int x2)]) hx hb dX11_numeral_57 rfl hl (by decide) rfl (fun ls hl => ?_)
          refine lv_aload_n hx hb dX11_numeral_58 rfl (lv_at hl 1 rfl) ?_
          refine cVi (w := mW cy a) (As := []) (rest := []) C hO (T_X11_isGood l D cy a _ (by exact hJ) ((fI u13 0 4)) (by exact rfl)) (cwV 0 ht (gV wd_1596 wd_1598 wd_50 wd_121 wd_1599) rfl rfl rfl hd_yX11_isGood ⟨Nat.le_of_ble_eq_true rfl, Nat.le_of_ble_eq_true rfl⟩) 0 rfl mW_0 rfl rfl hl.1 (Nat.le_of_ble_eq_true rfl) dX11_numeral_59 rfl ⟨Nat.zero_le _, Nat.zero_le _⟩ (fun r26 u27 H locs hp28 hO => ?_)
          obtain ⟨hr26, hu27⟩ := hp28
          rw [hu27] at hO
          rcases hr26 with ⟨hcr26, hvr26⟩ | ⟨hcr26, hvr26⟩
          · subst hvr26
            refine bn_eq (X := 1) hx hb dX11_numeral_62 rfl (by omega) ?_ (tgt := 69) (by decide)
            refine lv_aload_n hx hb dX11_numeral_65 rfl (lv_at hl 1 rfl) ?_
            refine cVv (w := mW cy a) (As := []) (rest := []) C hO (T_X11_goOn l D cy a _ (by exact hJ) (by exact (show ((fI u 0 7) : Int32).toInt ≤ ((fI u 0 3) : Int32).toInt from by first | omega | decide))) (cwV 0 ht (gV wd_1556 wd_1558 wd_48 wd_121 wd_1559) rfl rfl rfl hd_yX11_goOn ⟨Nat.le_of_ble_eq_true rfl, Nat.le_of_ble_eq_true rfl⟩) 0 rfl mW_0 rfl rfl hl.1 (Nat.le_of_ble_eq_true rfl) dX11_numeral_66 rfl ⟨Nat.zero_le _, Nat.zero_le _⟩ (fun u30 H locs hp31 hO => ?_)
            obtain ⟨hJ, hTu30, hx0u30, hx1u30, hx2u30, hx3u30⟩ := hp31
            have hT : Km27 u u30 := Km27.tr (by exact hT) (Km26_to_Km27 hTu30)
            have hI_0_3_u30 : fI u30 0 3 = (fI u 0 3) := Eq.trans (hTu30.2.1) (hI_0_3_u13)
            have hI_0_4_u30 : fI u30 0 4 = (fI u13 0 4) := hTu30.2.2.1
            have hI_0_36_u30 : fI u30 0 36 = (fI u 0 36) := Eq.trans (hTu30.2.2.2.2.1) (hI_0_36_u13)
            have hI_0_37_u30 : fI u30 0 37 = (fI u 0 37) := Eq.trans (hTu30.2.2.2.2.2.1) (hI_0_37_u13)
            have hI_0_42_u30 : fI u30 0 42 = (fI u 0 42) := Eq.trans (hTu30.2.2.2.2.2.2.2.2.2.2.1) (hI_0_42_u13)
            have hI_0_47_u30 : fI u30 0 47 = (fI u 0 47) := Eq.trans (hTu30.2.2.2.2.2.2.2.2.2.2.2.2.2.1) (hI_0_47_u13)
            have hI_0_48_u30 : fI u30 0 48 = (fI u 0 48) := Eq.trans (hTu30.2.2.2.2.2.2.2.2.2.2.2.2.2.2.1) (hI_0_48_u13)
            have hI_0_50_u30 : fI u30 0 50 = (fI u 0 50) := Eq.trans (hTu30.2.2.2.2.2.2.2.2.2.2.2.2.2.2.2.1) (hI_0_50_u13)
            have hI_0_61_u30 : fI u30 0 61 = (fI u 0 61) := Eq.trans (hTu30.2.2.2.2.2.2.2.2.2.2.2.2.2.2.2.2.1) (hI_0_61_u13)
            have hI_0_62_u30 : fI u30 0 62 = (fI u 0 62) := Eq.trans (hTu30.2.2.2.2.2.2.2.2.2.2.2.2.2.2.2.2.2.1) (hI_0_62_u13)
            have g32 : 0 ≤ (fI u30 0 7).toInt ∧ (fI u30 0 7).toInt ≤ 1601 := by have h := MI_7 hJ; exact h
            have y0u30 : ((fI u30 0 7) : Int32).toInt ≤ ((fI u 0 3) : Int32).toInt := by have h := hx0u30; simp only [hI_0_3_u30] at h; exact h
            have g33 : 0 ≤ (fI u30 0 6).toInt ∧ (fI u30 0 6).toInt ≤ 1600 := by have h := MI_6 hJ; exact h
            have y1u30 : ((fI u30 0 6) : Int32).toInt ≤ ((fI u30 0 7) : Int32).toInt := by exact hx1u30
            have g34 : 0 ≤ (fI u30 0 8).toInt ∧ (fI u30 0 8).toInt ≤ 5 := by have h := MI_8 hJ; exact h
            have y2u30 : ((fI u30 0 8) : Int32).toInt = 0 ∨ ((fI u30 0 6) : Int32).toInt < ((fI u30 0 7) : Int32).toInt := by exact hx2u30
            have y3u30 : ((fI u 0 7) : Int32).toInt ≤ ((fI u30 0 6) : Int32).toInt := by exact hx3u30
            refine lv_aload_n hx hb dX11_numeral_69 rfl (lv_at hl 1 rfl) ?_
            refine cVi (w := mW cy a) (As := []) (rest := []) C hO (T_X11_isGood l D cy a _ (by exact hJ) ((fI u13 0 4)) (by exact hI_0_4_u30)) (cwV 0 ht (gV wd_1596 wd_1598 wd_50 wd_121 wd_1599) rfl rfl rfl hd_yX11_isGood ⟨Nat.le_of_ble_eq_true rfl, Nat.le_of_ble_eq_true rfl⟩) 0 rfl mW_0 rfl rfl hl.1 (Nat.le_of_ble_eq_true rfl) dX11_numeral_70 rfl ⟨Nat.zero_le _, Nat.zero_le _⟩ (fun r35 u36 H locs hp37 hO => ?_)
            obtain ⟨hr35, hu36⟩ := hp37
            rw [hu36] at hO
            rcases hr35 with ⟨hcr35, hvr35⟩ | ⟨hcr35, hvr35⟩
            · subst hvr35
              refine bn_eq (X := 1) hx hb dX11_numeral_73 rfl (by omega) ?_ (tgt := 80) (by decide)
              refine lv_iload_n hx hb dX11_numeral_76 rfl (lv_at hl 0 rfl) ?_
              refine lv_goto (tgt := 81) hx hb dX11_numeral_77 (by decide) ?_
              have q38 : ((fI u30 0 7) : Int32).toInt ≤ ((fI u 0 3) : Int32).toInt := by first | omega | decide
              have q39 : ((fI u30 0 6) : Int32).toInt ≤ ((fI u30 0 7) : Int32).toInt := by first | omega | decide
              have q40 : ((fI u30 0 8) : Int32).toInt = 0 ∨ ((fI u30 0 6) : Int32).toInt < ((fI u30 0 7) : Int32).toInt := by first | omega | decide
              have q41 : ((fI u 0 6) : Int32).toInt ≤ ((fI u30 0 6) : Int32).toInt := by first | omega | decide
              have q42 : ((fI u 0 4) : Int32).toInt = 0 ∨ ¬ ((fI u13 0 4) : Int32).toInt = 0 := by first | omega | decide
              refine hret _ _ _ _ _ _ dX11_numeral_81 rfl ?_ hO
              exact ⟨hJ, hT, q38, q39, q40, q41, q42⟩
            · exfalso
              omega
          · subst hvr26
            refine bt_eq (tgt := 69) (X := 0) hx hb dX11_numeral_62 (by decide) rfl (by omega) ?_
            refine lv_aload_n hx hb dX11_numeral_69 rfl (lv_at hl 1 rfl) ?_
            refine cVi (w := mW cy a) (As := []) (rest := []) C hO (T_X11_isGood l D cy a _ (by exact hJ) ((fI u13 0 4)) (by exact rfl)) (cwV 0 ht (gV wd_1596 wd_1598 wd_50 wd_121 wd_1599) rfl rfl rfl hd_yX11_isGood ⟨Nat.le_of_ble_eq_true rfl, Nat.le_of_ble_eq_true rfl⟩) 0 rfl mW_0 rfl rfl hl.1 (Nat.le_of_ble_eq_true rfl) dX11_numeral_70 rfl ⟨Nat.zero_le _, Nat.zero_le _⟩ (fun r43 u44 H locs hp45 hO => ?_)
            obtain ⟨hr43, hu44⟩ := hp45
            rw [hu44] at hO
            rcases hr43 with ⟨hcr43, hvr43⟩ | ⟨hcr43, hvr43⟩
            · exfalso
              omega
            · subst hvr43
              refine bt_eq (tgt := 80) (X := 0) hx hb dX11_numeral_73 (by decide) rfl (by omega) ?_
              refine lv_iload_n hx hb dX11_numeral_80 rfl (lv_at hl 2 rfl) ?_
              have q46 : ((fI u 0 7) : Int32).toInt ≤ ((fI u 0 3) : Int32).toInt := by first | omega | decide
              have q47 : ((fI u 0 6) : Int32).toInt ≤ ((fI u 0 7) : Int32).toInt := by first | omega | decide
              have q48 : ((fI u 0 8) : Int32).toInt = 0 ∨ ((fI u 0 6) : Int32).toInt < ((fI u 0 7) : Int32).toInt := by first | omega | decide
              have q49 : ((fI u 0 6) : Int32).toInt ≤ ((fI u 0 6) : Int32).toInt := by first | omega | decide
              have q50 : ((fI u 0 4) : Int32).toInt = 0 ∨ ¬ ((fI u13 0 4) : Int32).toInt = 0 := by first | omega | decide
              refine hret _ _ _ _ _ _ dX11_numeral_81 rfl ?_ hO
              exact ⟨hJ, hT, q46, q47, q48, q49, q50⟩
        · refine lv_aload_n hx hb dX11_numeral_36 rfl (lv_at hl 0 rfl) ?_
          refine gf_RX11_226 (v := .int (fI u 0 9)) C hO 0 mW_0 rfl dX11_numeral_37 ?_
          refine lv_iload_n hx hb dX11_numeral_40 rfl (lv_at hl 2 rfl) ?_
          refine cs_le (tgt := 53) (X := ((fI u 0 9)).toInt) (Y := (x2).toInt) hx hb dX11_numeral_41 (by decide) rfl rfl (fun c51 => ?_) (fun c51 => ?_)
          · refine lv_aload_n hx hb dX11_numeral_53 rfl (lv_at hl 0 rfl) ?_
            refine gf_RX11_226 (v := .int (fI u 0 9)) C hO 0 mW_0 rfl dX11_numeral_54 ?_
            refine lv_istore_n (lv' := [(3, .int (fI u 0 9)), (0, .ref (a 0)), (1, .int x1), (2, .int x2)]) hx hb dX11_numeral_57 rfl hl (by decide) rfl (fun ls hl => ?_)
            refine lv_aload_n hx hb dX11_numeral_58 rfl (lv_at hl 1 rfl) ?_
            refine cVi (w := mW cy a) (As := []) (rest := []) C hO (T_X11_isGood l D cy a _ (by exact hJ) ((fI u 0 4)) (by exact rfl)) (cwV 0 ht (gV wd_1596 wd_1598 wd_50 wd_121 wd_1599) rfl rfl rfl hd_yX11_isGood ⟨Nat.le_of_ble_eq_true rfl, Nat.le_of_ble_eq_true rfl⟩) 0 rfl mW_0 rfl rfl hl.1 (Nat.le_of_ble_eq_true rfl) dX11_numeral_59 rfl ⟨Nat.zero_le _, Nat.zero_le _⟩ (fun r52 u53 H locs hp54 hO => ?_)
            obtain ⟨hr52, hu53⟩ := hp54
            rw [hu53] at hO
            rcases hr52 with ⟨hcr52, hvr52⟩ | ⟨hcr52, hvr52⟩
            · subst hvr52
              refine bn_eq (X := 1) hx hb dX11_numeral_62 rfl (by omega) ?_ (tgt := 69) (by decide)
              refine lv_aload_n hx hb dX11_numeral_65 rfl (lv_at hl 1 rfl) ?_
              have g55 : 0 ≤ (fI u 0 7).toInt ∧ (fI u 0 7).toInt ≤ 1601 := by have h := MI_7 hJ0; exact h
              have g56 : 0 ≤ (fI u 0 3).toInt ∧ (fI u 0 3).toInt ≤ 1600 := by have h := MI_3 hJ0; exact h
              refine cVv (w := mW cy a) (As := []) (rest := []) C hO (T_X11_goOn l D cy a _ (by exact hJ) (by exact (show ((fI u 0 7) : Int32).toInt ≤ ((fI u 0 3) : Int32).toInt from by first | omega | decide))) (cwV 0 ht (gV wd_1556 wd_1558 wd_48 wd_121 wd_1559) rfl rfl rfl hd_yX11_goOn ⟨Nat.le_of_ble_eq_true rfl, Nat.le_of_ble_eq_true rfl⟩) 0 rfl mW_0 rfl rfl hl.1 (Nat.le_of_ble_eq_true rfl) dX11_numeral_66 rfl ⟨Nat.zero_le _, Nat.zero_le _⟩ (fun u58 H locs hp59 hO => ?_)
              have g60 : 0 ≤ (fI u 0 36).toInt ∧ (fI u 0 36).toInt ≤ 1 := by have h := MI_36 hJ0; exact h
              have g61 : 0 ≤ (fI u 0 37).toInt ∧ (fI u 0 37).toInt ≤ 1 := by have h := MI_37 hJ0; exact h
              have g62 : 0 ≤ (fI u 0 42).toInt ∧ (fI u 0 42).toInt ≤ 5 := by have h := MI_42 hJ0; exact h
              have g63 : 0 ≤ (fI u 0 47).toInt ∧ (fI u 0 47).toInt ≤ 40 := by have h := MI_47 hJ0; exact h
              have g64 : 0 ≤ (fI u 0 48).toInt ∧ (fI u 0 48).toInt ≤ 40 := by have h := MI_48 hJ0; exact h
              have g65 : 0 ≤ (fI u 0 50).toInt ∧ (fI u 0 50).toInt ≤ 8 := by have h := MI_50 hJ0; exact h
              have g66 : 0 ≤ (fI u 0 61).toInt ∧ (fI u 0 61).toInt ≤ 30 := by have h := MI_61 hJ0; exact h
              have g67 : 0 ≤ (fI u 0 62).toInt ∧ (fI u 0 62).toInt ≤ 100000 := by have h := MI_62 hJ0; exact h
              obtain ⟨hJ, hTu58, hx0u58, hx1u58, hx2u58, hx3u58⟩ := hp59
              have hT : Km27 u u58 := Km27.tr (by exact hT) (Km26_to_Km27 hTu58)
              have hI_0_3_u58 : fI u58 0 3 = (fI u 0 3) := hTu58.2.1
              have hI_0_4_u58 : fI u58 0 4 = (fI u 0 4) := hTu58.2.2.1
              have hI_0_36_u58 : fI u58 0 36 = (fI u 0 36) := hTu58.2.2.2.2.1
              have hI_0_37_u58 : fI u58 0 37 = (fI u 0 37) := hTu58.2.2.2.2.2.1
              have hI_0_42_u58 : fI u58 0 42 = (fI u 0 42) := hTu58.2.2.2.2.2.2.2.2.2.2.1
              have hI_0_47_u58 : fI u58 0 47 = (fI u 0 47) := hTu58.2.2.2.2.2.2.2.2.2.2.2.2.2.1
              have hI_0_48_u58 : fI u58 0 48 = (fI u 0 48) := hTu58.2.2.2.2.2.2.2.2.2.2.2.2.2.2.1
              have hI_0_50_u58 : fI u58 0 50 = (fI u 0 50) := hTu58.2.2.2.2.2.2.2.2.2.2.2.2.2.2.2.1
              have hI_0_61_u58 : fI u58 0 61 = (fI u 0 61) := hTu58.2.2.2.2.2.2.2.2.2.2.2.2.2.2.2.2.1
              have hI_0_62_u58 : fI u58 0 62 = (fI u 0 62) := hTu58.2.2.2.2.2.2.2.2.2.2.2.2.2.2.2.2.2.1
              have g68 : 0 ≤ (fI u58 0 7).toInt ∧ (fI u58 0 7).toInt ≤ 1601 := by have h := MI_7 hJ; exact h
              have y0u58 : ((fI u58 0 7) : Int32).toInt ≤ ((fI u 0 3) : Int32).toInt := by have h := hx0u58; simp only [hI_0_3_u58] at h; exact h
              have g69 : 0 ≤ (fI u58 0 6).toInt ∧ (fI u58 0 6).toInt ≤ 1600 := by have h := MI_6 hJ; exact h
              have y1u58 : ((fI u58 0 6) : Int32).toInt ≤ ((fI u58 0 7) : Int32).toInt := by exact hx1u58
              have g70 : 0 ≤ (fI u58 0 8).toInt ∧ (fI u58 0 8).toInt ≤ 5 := by have h := MI_8 hJ; exact h
              have y2u58 : ((fI u58 0 8) : Int32).toInt = 0 ∨ ((fI u58 0 6) : Int32).toInt < ((fI u58 0 7) : Int32).toInt := by exact hx2u58
              have y3u58 : ((fI u 0 7) : Int32).toInt ≤ ((fI u58 0 6) : Int32).toInt := by exact hx3u58
              refine lv_aload_n hx hb dX11_numeral_69 rfl (lv_at hl 1 rfl) ?_
              refine cVi (w := mW cy a) (As := []) (rest := []) C hO (T_X11_isGood l D cy a _ (by exact hJ) ((fI u 0 4)) (by exact hI_0_4_u58)) (cwV 0 ht (gV wd_1596 wd_1598 wd_50 wd_121 wd_1599) rfl rfl rfl hd_yX11_isGood ⟨Nat.le_of_ble_eq_true rfl, Nat.le_of_ble_eq_true rfl⟩) 0 rfl mW_0 rfl rfl hl.1 (Nat.le_of_ble_eq_true rfl) dX11_numeral_70 rfl ⟨Nat.zero_le _, Nat.zero_le _⟩ (fun r71 u72 H locs hp73 hO => ?_)
              obtain ⟨hr71, hu72⟩ := hp73
              rw [hu72] at hO
              rcases hr71 with ⟨hcr71, hvr71⟩ | ⟨hcr71, hvr71⟩
              · subst hvr71
                refine bn_eq (X := 1) hx hb dX11_numeral_73 rfl (by omega) ?_ (tgt := 80) (by decide)
                refine lv_iload_n hx hb dX11_numeral_76 rfl (lv_at hl 0 rfl) ?_
                refine lv_goto (tgt := 81) hx hb dX11_numeral_77 (by decide) ?_
                have q74 : ((fI u58 0 7) : Int32).toInt ≤ ((fI u 0 3) : Int32).toInt := by first | omega | decide
                have q75 : ((fI u58 0 6) : Int32).toInt ≤ ((fI u58 0 7) : Int32).toInt := by first | omega | decide
                have q76 : ((fI u58 0 8) : Int32).toInt = 0 ∨ ((fI u58 0 6) : Int32).toInt < ((fI u58 0 7) : Int32).toInt := by first | omega | decide
                have g77 : 0 ≤ (fI u 0 6).toInt ∧ (fI u 0 6).toInt ≤ 1600 := by have h := MI_6 hJ0; exact h
                have q78 : ((fI u 0 6) : Int32).toInt ≤ ((fI u58 0 6) : Int32).toInt := by first | omega | decide
                have q79 : ((fI u 0 4) : Int32).toInt = 0 ∨ ¬ ((fI u 0 4) : Int32).toInt = 0 := by first | omega | decide
                refine hret _ _ _ _ _ _ dX11_numeral_81 rfl ?_ hO
                exact ⟨hJ, hT, q74, q75, q76, q78, q79⟩
              · exfalso
                omega
            · exfalso
              omega
          · refine lv_aload_n hx hb dX11_numeral_44 rfl (lv_at hl 0 rfl) ?_
            refine lv_iconst (v := 4) hx hb dX11_numeral_45 (by decide) ?_
            refine lv_aload_n hx hb dX11_numeral_46 rfl (lv_at hl 0 rfl) ?_
            have g80 : 0 ≤ (fI u 0 6).toInt ∧ (fI u 0 6).toInt ≤ 1600 := by have h := MI_6 hJ0; exact h
            refine gf_RX11_201 (v := .int (fI u 0 6)) C hO 0 mW_0 rfl dX11_numeral_47 ?_
            refine cVv (w := mW cy a) (As := [.int 4, .int (fI u 0 6)]) (rest := []) C hO (T_X11_fails l D cy a _ (by exact hJ) (4) ((fI u 0 6)) (by first | omega | decide)) (cwV 2 ht (gV wd_1619 wd_1621 wd_55 wd_121 wd_1622) rfl rfl rfl hd_yX11_fails ⟨Nat.le_of_ble_eq_true rfl, Nat.le_of_ble_eq_true rfl⟩) 0 rfl mW_0 rfl rfl hl.1 (Nat.le_of_ble_eq_true rfl) dX11_numeral_50 rfl ⟨Nat.zero_le _, Nat.zero_le _⟩ (fun u82 H locs hp83 hO => ?_)
            have g84 : 0 ≤ (fI u 0 3).toInt ∧ (fI u 0 3).toInt ≤ 1600 := by have h := MI_3 hJ0; exact h
            have g85 : 0 ≤ (fI u 0 7).toInt ∧ (fI u 0 7).toInt ≤ 1601 := by have h := MI_7 hJ0; exact h
            have g86 : 0 ≤ (fI u 0 36).toInt ∧ (fI u 0 36).toInt ≤ 1 := by have h := MI_36 hJ0; exact h
            have g87 : 0 ≤ (fI u 0 37).toInt ∧ (fI u 0 37).toInt ≤ 1 := by have h := MI_37 hJ0; exact h
            have g88 : 0 ≤ (fI u 0 42).toInt ∧ (fI u 0 42).toInt ≤ 5 := by have h := MI_42 hJ0; exact h
            have g89 : 0 ≤ (fI u 0 47).toInt ∧ (fI u 0 47).toInt ≤ 40 := by have h := MI_47 hJ0; exact h
            have g90 : 0 ≤ (fI u 0 48).toInt ∧ (fI u 0 48).toInt ≤ 40 := by have h := MI_48 hJ0; exact h
            have g91 : 0 ≤ (fI u 0 50).toInt ∧ (fI u 0 50).toInt ≤ 8 := by have h := MI_50 hJ0; exact h
            have g92 : 0 ≤ (fI u 0 61).toInt ∧ (fI u 0 61).toInt ≤ 30 := by have h := MI_61 hJ0; exact h
            have g93 : 0 ≤ (fI u 0 62).toInt ∧ (fI u 0 62).toInt ≤ 100000 := by have h := MI_62 hJ0; exact h
            obtain ⟨hJ, hTu82, hx0u82⟩ := hp83
            have hT : Km27 u u82 := Km27.tr (by exact hT) (Km25_to_Km27 hTu82)
            have hI_0_3_u82 : fI u82 0 3 = (fI u 0 3) := hTu82.2.1
            have hI_0_6_u82 : fI u82 0 6 = (fI u 0 6) := hTu82.2.2.1
            have hI_0_7_u82 : fI u82 0 7 = (fI u 0 7) := hTu82.2.2.2.1
            have hI_0_8_u82 : fI u82 0 8 = (fI u 0 8) := hTu82.2.2.2.2.1
            have hI_0_36_u82 : fI u82 0 36 = (fI u 0 36) := hTu82.2.2.2.2.2.2.2.1
            have hI_0_37_u82 : fI u82 0 37 = (fI u 0 37) := hTu82.2.2.2.2.2.2.2.2.1
            have hI_0_42_u82 : fI u82 0 42 = (fI u 0 42) := hTu82.2.2.2.2.2.2.2.2.2.2.2.2.2.1
            have hI_0_47_u82 : fI u82 0 47 = (fI u 0 47) := hTu82.2.2.2.2.2.2.2.2.2.2.2.2.2.2.2.2.1
            have hI_0_48_u82 : fI u82 0 48 = (fI u 0 48) := hTu82.2.2.2.2.2.2.2.2.2.2.2.2.2.2.2.2.2.1
            have hI_0_50_u82 : fI u82 0 50 = (fI u 0 50) := hTu82.2.2.2.2.2.2.2.2.2.2.2.2.2.2.2.2.2.2.1
            have hI_0_61_u82 : fI u82 0 61 = (fI u 0 61) := hTu82.2.2.2.2.2.2.2.2.2.2.2.2.2.2.2.2.2.2.2.1
            have hI_0_62_u82 : fI u82 0 62 = (fI u 0 62) := hTu82.2.2.2.2.2.2.2.2.2.2.2.2.2.2.2.2.2.2.2.2.1
            have g94 : 0 ≤ (fI u82 0 4).toInt ∧ (fI u82 0 4).toInt ≤ 5 := by have h := MI_4 hJ; exact h
            have y0u82 : ¬ ((fI u82 0 4) : Int32).toInt = 0 := by exact hx0u82
            refine lv_aload_n hx hb dX11_numeral_53 rfl (lv_at hl 0 rfl) ?_
            refine gf_RX11_226 (v := .int (fI u 0 9)) C hO 0 mW_0 (congrArg (fun z : Int32 => some (Value.int z)) (Km25_I9 hTu82)) dX11_numeral_54 ?_
            refine lv_istore_n (lv' := [(3, .int (fI u 0 9)), (0, .ref (a 0)), (1, .int x1), (2, .int x2)]) hx hb dX11_numeral_57 rfl hl (by decide) rfl (fun ls hl => ?_)
            refine lv_aload_n hx hb dX11_numeral_58 rfl (lv_at hl 1 rfl) ?_
            refine cVi (w := mW cy a) (As := []) (rest := []) C hO (T_X11_isGood l D cy a _ (by exact hJ) ((fI u82 0 4)) (by exact rfl)) (cwV 0 ht (gV wd_1596 wd_1598 wd_50 wd_121 wd_1599) rfl rfl rfl hd_yX11_isGood ⟨Nat.le_of_ble_eq_true rfl, Nat.le_of_ble_eq_true rfl⟩) 0 rfl mW_0 rfl rfl hl.1 (Nat.le_of_ble_eq_true rfl) dX11_numeral_59 rfl ⟨Nat.zero_le _, Nat.zero_le _⟩ (fun r95 u96 H locs hp97 hO => ?_)
            obtain ⟨hr95, hu96⟩ := hp97
            rw [hu96] at hO
            rcases hr95 with ⟨hcr95, hvr95⟩ | ⟨hcr95, hvr95⟩
            · subst hvr95
              refine bn_eq (X := 1) hx hb dX11_numeral_62 rfl (by omega) ?_ (tgt := 69) (by decide)
              refine lv_aload_n hx hb dX11_numeral_65 rfl (lv_at hl 1 rfl) ?_
              refine cVv (w := mW cy a) (As := []) (rest := []) C hO (T_X11_goOn l D cy a _ (by exact hJ) (by exact (show ((fI u 0 7) : Int32).toInt ≤ ((fI u 0 3) : Int32).toInt from by first | omega | decide))) (cwV 0 ht (gV wd_1556 wd_1558 wd_48 wd_121 wd_1559) rfl rfl rfl hd_yX11_goOn ⟨Nat.le_of_ble_eq_true rfl, Nat.le_of_ble_eq_true rfl⟩) 0 rfl mW_0 rfl rfl hl.1 (Nat.le_of_ble_eq_true rfl) dX11_numeral_66 rfl ⟨Nat.zero_le _, Nat.zero_le _⟩ (fun u99 H locs hp100 hO => ?_)
              obtain ⟨hJ, hTu99, hx0u99, hx1u99, hx2u99, hx3u99⟩ := hp100
              have hT : Km27 u u99 := Km27.tr (by exact hT) (Km26_to_Km27 hTu99)
              have hI_0_3_u99 : fI u99 0 3 = (fI u 0 3) := Eq.trans (hTu99.2.1) (hI_0_3_u82)
              have hI_0_4_u99 : fI u99 0 4 = (fI u82 0 4) := hTu99.2.2.1
              have hI_0_36_u99 : fI u99 0 36 = (fI u 0 36) := Eq.trans (hTu99.2.2.2.2.1) (hI_0_36_u82)
              have hI_0_37_u99 : fI u99 0 37 = (fI u 0 37) := Eq.trans (hTu99.2.2.2.2.2.1) (hI_0_37_u82)
              have hI_0_42_u99 : fI u99 0 42 = (fI u 0 42) := Eq.trans (hTu99.2.2.2.2.2.2.2.2.2.2.1) (hI_0_42_u82)
              have hI_0_47_u99 : fI u99 0 47 = (fI u 0 47) := Eq.trans (hTu99.2.2.2.2.2.2.2.2.2.2.2.2.2.1) (hI_0_47_u82)
              have hI_0_48_u99 : fI u99 0 48 = (fI u 0 48) := Eq.trans (hTu99.2.2.2.2.2.2.2.2.2.2.2.2.2.2.1) (hI_0_48_u82)
              have hI_0_50_u99 : fI u99 0 50 = (fI u 0 50) := Eq.trans (hTu99.2.2.2.2.2.2.2.2.2.2.2.2.2.2.2.1) (hI_0_50_u82)
              have hI_0_61_u99 : fI u99 0 61 = (fI u 0 61) := Eq.trans (hTu99.2.2.2.2.2.2.2.2.2.2.2.2.2.2.2.2.1) (hI_0_61_u82)
              have hI_0_62_u99 : fI u99 0 62 = (fI u 0 62) := Eq.trans (hTu99.2.2.2.2.2.2.2.2.2.2.2.2.2.2.2.2.2.1) (hI_0_62_u82)
              have g101 : 0 ≤ (fI u99 0 7).toInt ∧ (fI u99 0 7).toInt ≤ 1601 := by have h := MI_7 hJ; exact h
              have y0u99 : ((fI u99 0 7) : Int32).toInt ≤ ((fI u 0 3) : Int32).toInt := by have h := hx0u99; simp only [hI_0_3_u99] at h; exact h
              have g102 : 0 ≤ (fI u99 0 6).toInt ∧ (fI u99 0 6).toInt ≤ 1600 := by have h := MI_6 hJ; exact h
              have y1u99 : ((fI u99 0 6) : Int32).toInt ≤ ((fI u99 0 7) : Int32).toInt := by exact hx1u99
              have g103 : 0 ≤ (fI u99 0 8).toInt ∧ (fI u99 0 8).toInt ≤ 5 := by have h := MI_8 hJ; exact h
              have y2u99 : ((fI u99 0 8) : Int32).toInt = 0 ∨ ((fI u99 0 6) : Int32).toInt < ((fI u99 0 7) : Int32).toInt := by exact hx2u99
              have y3u99 : ((fI u 0 7) : Int32).toInt ≤ ((fI u99 0 6) : Int32).toInt := by exact hx3u99
              refine lv_aload_n hx hb dX11_numeral_69 rfl (lv_at hl 1 rfl) ?_
              refine cVi (w := mW cy a) (As := []) (rest := []) C hO (T_X11_isGood l D cy a _ (by exact hJ) ((fI u82 0 4)) (by exact hI_0_4_u99)) (cwV 0 ht (gV wd_1596 wd_1598 wd_50 wd_121 wd_1599) rfl rfl rfl hd_yX11_isGood ⟨Nat.le_of_ble_eq_true rfl, Nat.le_of_ble_eq_true rfl⟩) 0 rfl mW_0 rfl rfl hl.1 (Nat.le_of_ble_eq_true rfl) dX11_numeral_70 rfl ⟨Nat.zero_le _, Nat.zero_le _⟩ (fun r104 u105 H locs hp106 hO => ?_)
              obtain ⟨hr104, hu105⟩ := hp106
              rw [hu105] at hO
              rcases hr104 with ⟨hcr104, hvr104⟩ | ⟨hcr104, hvr104⟩
              · subst hvr104
                refine bn_eq (X := 1) hx hb dX11_numeral_73 rfl (by omega) ?_ (tgt := 80) (by decide)
                refine lv_iload_n hx hb dX11_numeral_76 rfl (lv_at hl 0 rfl) ?_
                refine lv_goto (tgt := 81) hx hb dX11_numeral_77 (by decide) ?_
                have q107 : ((fI u99 0 7) : Int32).toInt ≤ ((fI u 0 3) : Int32).toInt := by first | omega | decide
                have q108 : ((fI u99 0 6) : Int32).toInt ≤ ((fI u99 0 7) : Int32).toInt := by first | omega | decide
                have q109 : ((fI u99 0 8) : Int32).toInt = 0 ∨ ((fI u99 0 6) : Int32).toInt < ((fI u99 0 7) : Int32).toInt := by first | omega | decide
                have q110 : ((fI u 0 6) : Int32).toInt ≤ ((fI u99 0 6) : Int32).toInt := by first | omega | decide
                have q111 : ((fI u 0 4) : Int32).toInt = 0 ∨ ¬ ((fI u82 0 4) : Int32).toInt = 0 := by first | omega | decide
                refine hret _ _ _ _ _ _ dX11_numeral_81 rfl ?_ hO
                exact ⟨hJ, hT, q107, q108, q109, q110, q111⟩
              · exfalso
                omega
            · subst hvr95
              refine bt_eq (tgt := 69) (X := 0) hx hb dX11_numeral_62 (by decide) rfl (by omega) ?_
              refine lv_aload_n hx hb dX11_numeral_69 rfl (lv_at hl 1 rfl) ?_
              refine cVi (w := mW cy a) (As := []) (rest := []) C hO (T_X11_isGood l D cy a _ (by exact hJ) ((fI u82 0 4)) (by exact rfl)) (cwV 0 ht (gV wd_1596 wd_1598 wd_50 wd_121 wd_1599) rfl rfl rfl hd_yX11_isGood ⟨Nat.le_of_ble_eq_true rfl, Nat.le_of_ble_eq_true rfl⟩) 0 rfl mW_0 rfl rfl hl.1 (Nat.le_of_ble_eq_true rfl) dX11_numeral_70 rfl ⟨Nat.zero_le _, Nat.zero_le _⟩ (fun r112 u113 H locs hp114 hO => ?_)
              obtain ⟨hr112, hu113⟩ := hp114
              rw [hu113] at hO
              rcases hr112 with ⟨hcr112, hvr112⟩ | ⟨hcr112, hvr112⟩
              · exfalso
                omega
              · subst hvr112
                refine bt_eq (tgt := 80) (X := 0) hx hb dX11_numeral_73 (by decide) rfl (by omega) ?_
                refine lv_iload_n hx hb dX11_numeral_80 rfl (lv_at hl 2 rfl) ?_
                have q115 : ((fI u 0 7) : Int32).toInt ≤ ((fI u 0 3) : Int32).toInt := by first | omega | decide
                have q116 : ((fI u 0 6) : Int32).toInt ≤ ((fI u 0 7) : Int32).toInt := by first | omega | decide
                have q117 : ((fI u 0 8) : Int32).toInt = 0 ∨ ((fI u 0 6) : Int32).toInt < ((fI u 0 7) : Int32).toInt := by first | omega | decide
                have q118 : ((fI u 0 6) : Int32).toInt ≤ ((fI u 0 6) : Int32).toInt := by first | omega | decide
                have q119 : ((fI u 0 4) : Int32).toInt = 0 ∨ ¬ ((fI u82 0 4) : Int32).toInt = 0 := by first | omega | decide
                refine hret _ _ _ _ _ _ dX11_numeral_81 rfl ?_ hO
                exact ⟨hJ, hT, q115, q116, q117, q118, q119⟩
      · subst hvr7
        refine bt_eq (tgt := 53) (X := 0) hx hb dX11_numeral_25 (by decide) rfl (by omega) ?_
        refine lv_aload_n hx hb dX11_numeral_53 rfl (lv_at hl 0 rfl) ?_
        refine gf_RX11_226 (v := .int (fI u 0 9)) C hO 0 mW_0 rfl dX11_numeral_54 ?_
        refine lv_istore_n (lv' := [(3, .int (fI u 0 9)), (0, .ref (a 0)), (1, .int x1), (2, .int x2)]) hx hb dX11_numeral_57 rfl hl (by decide) rfl (fun ls hl => ?_)
        refine lv_aload_n hx hb dX11_numeral_58 rfl (lv_at hl 1 rfl) ?_
        refine cVi (w := mW cy a) (As := []) (rest := []) C hO (T_X11_isGood l D cy a _ (by exact hJ) ((fI u 0 4)) (by exact rfl)) (cwV 0 ht (gV wd_1596 wd_1598 wd_50 wd_121 wd_1599) rfl rfl rfl hd_yX11_isGood ⟨Nat.le_of_ble_eq_true rfl, Nat.le_of_ble_eq_true rfl⟩) 0 rfl mW_0 rfl rfl hl.1 (Nat.le_of_ble_eq_true rfl) dX11_numeral_59 rfl ⟨Nat.zero_le _, Nat.zero_le _⟩ (fun r120 u121 H locs hp122 hO => ?_)
        obtain ⟨hr120, hu121⟩ := hp122
        rw [hu121] at hO
        rcases hr120 with ⟨hcr120, hvr120⟩ | ⟨hcr120, hvr120⟩
        · subst hvr120
          refine bn_eq (X := 1) hx hb dX11_numeral_62 rfl (by omega) ?_ (tgt := 69) (by decide)
          refine lv_aload_n hx hb dX11_numeral_65 rfl (lv_at hl 1 rfl) ?_
          have g123 : 0 ≤ (fI u 0 7).toInt ∧ (fI u 0 7).toInt ≤ 1601 := by have h := MI_7 hJ0; exact h
          have g124 : 0 ≤ (fI u 0 3).toInt ∧ (fI u 0 3).toInt ≤ 1600 := by have h := MI_3 hJ0; exact h
          refine cVv (w := mW cy a) (As := []) (rest := []) C hO (T_X11_goOn l D cy a _ (by exact hJ) (by exact (show ((fI u 0 7) : Int32).toInt ≤ ((fI u 0 3) : Int32).toInt from by first | omega | decide))) (cwV 0 ht (gV wd_1556 wd_1558 wd_48 wd_121 wd_1559) rfl rfl rfl hd_yX11_goOn ⟨Nat.le_of_ble_eq_true rfl, Nat.le_of_ble_eq_true rfl⟩) 0 rfl mW_0 rfl rfl hl.1 (Nat.le_of_ble_eq_true rfl) dX11_numeral_66 rfl ⟨Nat.zero_le _, Nat.zero_le _⟩ (fun u126 H locs hp127 hO => ?_)
          have g128 : 0 ≤ (fI u 0 36).toInt ∧ (fI u 0 36).toInt ≤ 1 := by have h := MI_36 hJ0; exact h
          have g129 : 0 ≤ (fI u 0 37).toInt ∧ (fI u 0 37).toInt ≤ 1 := by have h := MI_37 hJ0; exact h
          have g130 : 0 ≤ (fI u 0 42).toInt ∧ (fI u 0 42).toInt ≤ 5 := by have h := MI_42 hJ0; exact h
          have g131 : 0 ≤ (fI u 0 47).toInt ∧ (fI u 0 47).toInt ≤ 40 := by have h := MI_47 hJ0; exact h
          have g132 : 0 ≤ (fI u 0 48).toInt ∧ (fI u 0 48).toInt ≤ 40 := by have h := MI_48 hJ0; exact h
          have g133 : 0 ≤ (fI u 0 50).toInt ∧ (fI u 0 50).toInt ≤ 8 := by have h := MI_50 hJ0; exact h
          have g134 : 0 ≤ (fI u 0 61).toInt ∧ (fI u 0 61).toInt ≤ 30 := by have h := MI_61 hJ0; exact h
          have g135 : 0 ≤ (fI u 0 62).toInt ∧ (fI u 0 62).toInt ≤ 100000 := by have h := MI_62 hJ0; exact h
          obtain ⟨hJ, hTu126, hx0u126, hx1u126, hx2u126, hx3u126⟩ := hp127
          have hT : Km27 u u126 := Km27.tr (by exact hT) (Km26_to_Km27 hTu126)
          have hI_0_3_u126 : fI u126 0 3 = (fI u 0 3) := hTu126.2.1
          have hI_0_4_u126 : fI u126 0 4 = (fI u 0 4) := hTu126.2.2.1
          have hI_0_36_u126 : fI u126 0 36 = (fI u 0 36) := hTu126.2.2.2.2.1
          have hI_0_37_u126 : fI u126 0 37 = (fI u 0 37) := hTu126.2.2.2.2.2.1
          have hI_0_42_u126 : fI u126 0 42 = (fI u 0 42) := hTu126.2.2.2.2.2.2.2.2.2.2.1
          have hI_0_47_u126 : fI u126 0 47 = (fI u 0 47) := hTu126.2.2.2.2.2.2.2.2.2.2.2.2.2.1
          have hI_0_48_u126 : fI u126 0 48 = (fI u 0 48) := hTu126.2.2.2.2.2.2.2.2.2.2.2.2.2.2.1
          have hI_0_50_u126 : fI u126 0 50 = (fI u 0 50) := hTu126.2.2.2.2.2.2.2.2.2.2.2.2.2.2.2.1
          have hI_0_61_u126 : fI u126 0 61 = (fI u 0 61) := hTu126.2.2.2.2.2.2.2.2.2.2.2.2.2.2.2.2.1
          have hI_0_62_u126 : fI u126 0 62 = (fI u 0 62) := hTu126.2.2.2.2.2.2.2.2.2.2.2.2.2.2.2.2.2.1
          have g136 : 0 ≤ (fI u126 0 7).toInt ∧ (fI u126 0 7).toInt ≤ 1601 := by have h := MI_7 hJ; exact h
          have y0u126 : ((fI u126 0 7) : Int32).toInt ≤ ((fI u 0 3) : Int32).toInt := by have h := hx0u126; simp only [hI_0_3_u126] at h; exact h
          have g137 : 0 ≤ (fI u126 0 6).toInt ∧ (fI u126 0 6).toInt ≤ 1600 := by have h := MI_6 hJ; exact h
          have y1u126 : ((fI u126 0 6) : Int32).toInt ≤ ((fI u126 0 7) : Int32).toInt := by exact hx1u126
          have g138 : 0 ≤ (fI u126 0 8).toInt ∧ (fI u126 0 8).toInt ≤ 5 := by have h := MI_8 hJ; exact h
          have y2u126 : ((fI u126 0 8) : Int32).toInt = 0 ∨ ((fI u126 0 6) : Int32).toInt < ((fI u126 0 7) : Int32).toInt := by exact hx2u126
          have y3u126 : ((fI u 0 7) : Int32).toInt ≤ ((fI u126 0 6) : Int32).toInt := by exact hx3u126
          refine lv_aload_n hx hb dX11_numeral_69 rfl (lv_at hl 1 rfl) ?_
          refine cVi (w := mW cy a) (As := []) (rest := []) C hO (T_X11_isGood l D cy a _ (by exact hJ) ((fI u 0 4)) (by exact hI_0_4_u126)) (cwV 0 ht (gV wd_1596 wd_1598 wd_50 wd_121 wd_1599) rfl rfl rfl hd_yX11_isGood ⟨Nat.le_of_ble_eq_true rfl, Nat.le_of_ble_eq_true rfl⟩) 0 rfl mW_0 rfl rfl hl.1 (Nat.le_of_ble_eq_true rfl) dX11_numeral_70 rfl ⟨Nat.zero_le _, Nat.zero_le _⟩ (fun r139 u140 H locs hp141 hO => ?_)
          obtain ⟨hr139, hu140⟩ := hp141
          rw [hu140] at hO
          rcases hr139 with ⟨hcr139, hvr139⟩ | ⟨hcr139, hvr139⟩
          · subst hvr139
            refine bn_eq (X := 1) hx hb dX11_numeral_73 rfl (by omega) ?_ (tgt := 80) (by decide)
            refine lv_iload_n hx hb dX11_numeral_76 rfl (lv_at hl 0 rfl) ?_
            refine lv_goto (tgt := 81) hx hb dX11_numeral_77 (by decide) ?_
            have q142 : ((fI u126 0 7) : Int32).toInt ≤ ((fI u 0 3) : Int32).toInt := by first | omega | decide
            have q143 : ((fI u126 0 6) : Int32).toInt ≤ ((fI u126 0 7) : Int32).toInt := by first | omega | decide
            have q144 : ((fI u126 0 8) : Int32).toInt = 0 ∨ ((fI u126 0 6) : Int32).toInt < ((fI u126 0 7) : Int32).toInt := by first | omega | decide
            have g145 : 0 ≤ (fI u 0 6).toInt ∧ (fI u 0 6).toInt ≤ 1600 := by have h := MI_6 hJ0; exact h
            have q146 : ((fI u 0 6) : Int32).toInt ≤ ((fI u126 0 6) : Int32).toInt := by first | omega | decide
            have q147 : ((fI u 0 4) : Int32).toInt = 0 ∨ ¬ ((fI u 0 4) : Int32).toInt = 0 := by first | omega | decide
            refine hret _ _ _ _ _ _ dX11_numeral_81 rfl ?_ hO
            exact ⟨hJ, hT, q142, q143, q144, q146, q147⟩
          · exfalso
            omega
        · exfalso
          omega
    · refine lv_aload_n hx hb dX11_numeral_17 rfl (lv_at hl 0 rfl) ?_
      refine cVv (w := mW cy a) (As := []) (rest := []) C hO (T_X11_misplaced l D cy a _ (by exact hJ)) (cwV 0 ht (gV wd_1615 wd_1617 wd_54 wd_121 wd_1618) rfl rfl rfl hd_yX11_misplaced ⟨Nat.le_of_ble_eq_true rfl, Nat.le_of_ble_eq_true rfl⟩) 0 rfl mW_0 rfl rfl hl.1 (Nat.le_of_ble_eq_true rfl) dX11_numeral_18 rfl ⟨Nat.zero_le _, Nat.zero_le _⟩ (fun u149 H locs hp150 hO => ?_)
      have g151 : 0 ≤ (fI u 0 3).toInt ∧ (fI u 0 3).toInt ≤ 1600 := by have h := MI_3 hJ0; exact h
      have g152 : 0 ≤ (fI u 0 6).toInt ∧ (fI u 0 6).toInt ≤ 1600 := by have h := MI_6 hJ0; exact h
      have g153 : 0 ≤ (fI u 0 7).toInt ∧ (fI u 0 7).toInt ≤ 1601 := by have h := MI_7 hJ0; exact h
      have g154 : 0 ≤ (fI u 0 36).toInt ∧ (fI u 0 36).toInt ≤ 1 := by have h := MI_36 hJ0; exact h
      have g155 : 0 ≤ (fI u 0 37).toInt ∧ (fI u 0 37).toInt ≤ 1 := by have h := MI_37 hJ0; exact h
      have g156 : 0 ≤ (fI u 0 42).toInt ∧ (fI u 0 42).toInt ≤ 5 := by have h := MI_42 hJ0; exact h
      have g157 : 0 ≤ (fI u 0 47).toInt ∧ (fI u 0 47).toInt ≤ 40 := by have h := MI_47 hJ0; exact h
      have g158 : 0 ≤ (fI u 0 48).toInt ∧ (fI u 0 48).toInt ≤ 40 := by have h := MI_48 hJ0; exact h
      have g159 : 0 ≤ (fI u 0 50).toInt ∧ (fI u 0 50).toInt ≤ 8 := by have h := MI_50 hJ0; exact h
      have g160 : 0 ≤ (fI u 0 61).toInt ∧ (fI u 0 61).toInt ≤ 30 := by have h := MI_61 hJ0; exact h
      have g161 : 0 ≤ (fI u 0 62).toInt ∧ (fI u 0 62).toInt ≤ 100000 := by have h := MI_62 hJ0; exact h
      obtain ⟨hJ, hTu149, hx0u149⟩ := hp150
      have hT : Km27 u u149 := Km27.tr (by exact hT) (Km25_to_Km27 hTu149)
      have hI_0_3_u149 : fI u149 0 3 = (fI u 0 3) := hTu149.2.1
      have hI_0_6_u149 : fI u149 0 6 = (fI u 0 6) := hTu149.2.2.1
      have hI_0_7_u149 : fI u149 0 7 = (fI u 0 7) := hTu149.2.2.2.1
      have hI_0_8_u149 : fI u149 0 8 = (fI u 0 8) := hTu149.2.2.2.2.1
      have hI_0_36_u149 : fI u149 0 36 = (fI u 0 36) := hTu149.2.2.2.2.2.2.2.1
      have hI_0_37_u149 : fI u149 0 37 = (fI u 0 37) := hTu149.2.2.2.2.2.2.2.2.1
      have hI_0_42_u149 : fI u149 0 42 = (fI u 0 42) := hTu149.2.2.2.2.2.2.2.2.2.2.2.2.2.1
      have hI_0_47_u149 : fI u149 0 47 = (fI u 0 47) := hTu149.2.2.2.2.2.2.2.2.2.2.2.2.2.2.2.2.1
      have hI_0_48_u149 : fI u149 0 48 = (fI u 0 48) := hTu149.2.2.2.2.2.2.2.2.2.2.2.2.2.2.2.2.2.1
      have hI_0_50_u149 : fI u149 0 50 = (fI u 0 50) := hTu149.2.2.2.2.2.2.2.2.2.2.2.2.2.2.2.2.2.2.1
      have hI_0_61_u149 : fI u149 0 61 = (fI u 0 61) := hTu149.2.2.2.2.2.2.2.2.2.2.2.2.2.2.2.2.2.2.2.1
      have hI_0_62_u149 : fI u149 0 62 = (fI u 0 62) := hTu149.2.2.2.2.2.2.2.2.2.2.2.2.2.2.2.2.2.2.2.2.1
      have g162 : 0 ≤ (fI u149 0 4).toInt ∧ (fI u149 0 4).toInt ≤ 5 := by have h := MI_4 hJ; exact h
      have y0u149 : ¬ ((fI u149 0 4) : Int32).toInt = 0 := by exact hx0u149
      refine lv_aload_n hx hb dX11_numeral_21 rfl (lv_at hl 0 rfl) ?_
      refine cVi (w := mW cy a) (As := []) (rest := []) C hO (T_X11_isGood l D cy a _ (by exact hJ) ((fI u149 0 4)) (by exact rfl)) (cwV 0 ht (gV wd_1596 wd_1598 wd_50 wd_121 wd_1599) rfl rfl rfl hd_yX11_isGood ⟨Nat.le_of_ble_eq_true rfl, Nat.le_of_ble_eq_true rfl⟩) 0 rfl mW_0 rfl rfl hl.1 (Nat.le_of_ble_eq_true rfl) dX11_numeral_22 rfl ⟨Nat.zero_le _, Nat.zero_le _⟩ (fun r163 u164 H locs hp165 hO => ?_)
      obtain ⟨hr163, hu164⟩ := hp165
      rw [hu164] at hO
      rcases hr163 with ⟨hcr163, hvr163⟩ | ⟨hcr163, hvr163⟩
      · subst hvr163
        refine bn_eq (X := 1) hx hb dX11_numeral_25 rfl (by omega) ?_ (tgt := 53) (by decide)
        refine lv_aload_n hx hb dX11_numeral_28 rfl (lv_at hl 0 rfl) ?_
        refine gf_RX11_226 (v := .int (fI u 0 9)) C hO 0 mW_0 (congrArg (fun z : Int32 => some (Value.int z)) (Km25_I9 hTu149)) dX11_numeral_29 ?_
        refine lv_iload_n hx hb dX11_numeral_32 rfl (lv_at hl 1 rfl) ?_
        refine cs_lt (tgt := 44) (X := ((fI u 0 9)).toInt) (Y := (x1).toInt) hx hb dX11_numeral_33 (by decide) rfl rfl (fun c166 => ?_) (fun c166 => ?_)
        · refine lv_aload_n hx hb dX11_numeral_44 rfl (lv_at hl 0 rfl) ?_
          refine lv_iconst (v := 4) hx hb dX11_numeral_45 (by decide) ?_
          refine lv_aload_n hx hb dX11_numeral_46 rfl (lv_at hl 0 rfl) ?_
          refine gf_RX11_201 (v := .int (fI u 0 6)) C hO 0 mW_0 (congrArg (fun z : Int32 => some (Value.int z)) hI_0_6_u149) dX11_numeral_47 ?_
          refine cVv (w := mW cy a) (As := [.int 4, .int (fI u 0 6)]) (rest := []) C hO (T_X11_fails l D cy a _ (by exact hJ) (4) ((fI u 0 6)) (by first | omega | decide)) (cwV 2 ht (gV wd_1619 wd_1621 wd_55 wd_121 wd_1622) rfl rfl rfl hd_yX11_fails ⟨Nat.le_of_ble_eq_true rfl, Nat.le_of_ble_eq_true rfl⟩) 0 rfl mW_0 rfl rfl hl.1 (Nat.le_of_ble_eq_true rfl) dX11_numeral_50 rfl ⟨Nat.zero_le _, Nat.zero_le _⟩ (fun u168 H locs hp169 hO => ?_)
          obtain ⟨hJ, hTu168, hx0u168⟩ := hp169
          have hT : Km27 u u168 := Km27.tr (by exact hT) (Km25_to_Km27 hTu168)
          have hI_0_3_u168 : fI u168 0 3 = (fI u 0 3) := Eq.trans (hTu168.2.1) (hI_0_3_u149)
          have hI_0_6_u168 : fI u168 0 6 = (fI u 0 6) := Eq.trans (hTu168.2.2.1) (hI_0_6_u149)
          have hI_0_7_u168 : fI u168 0 7 = (fI u 0 7) := Eq.trans (hTu168.2.2.2.1) (hI_0_7_u149)
          have hI_0_8_u168 : fI u168 0 8 = (fI u 0 8) := Eq.trans (hTu168.2.2.2.2.1) (hI_0_8_u149)
          have hI_0_36_u168 : fI u168 0 36 = (fI u 0 36) := Eq.trans (hTu168.2.2.2.2.2.2.2.1) (hI_0_36_u149)
          have hI_0_37_u168 : fI u168 0 37 = (fI u 0 37) := Eq.trans (hTu168.2.2.2.2.2.2.2.2.1) (hI_0_37_u149)
          have hI_0_42_u168 : fI u168 0 42 = (fI u 0 42) := Eq.trans (hTu168.2.2.2.2.2.2.2.2.2.2.2.2.2.1) (hI_0_42_u149)
          have hI_0_47_u168 : fI u168 0 47 = (fI u 0 47) := Eq.trans (hTu168.2.2.2.2.2.2.2.2.2.2.2.2.2.2.2.2.1) (hI_0_47_u149)
          have hI_0_48_u168 : fI u168 0 48 = (fI u 0 48) := Eq.trans (hTu168.2.2.2.2.2.2.2.2.2.2.2.2.2.2.2.2.2.1) (hI_0_48_u149)
          have hI_0_50_u168 : fI u168 0 50 = (fI u 0 50) := Eq.trans (hTu168.2.2.2.2.2.2.2.2.2.2.2.2.2.2.2.2.2.2.1) (hI_0_50_u149)
          have hI_0_61_u168 : fI u168 0 61 = (fI u 0 61) := Eq.trans (hTu168.2.2.2.2.2.2.2.2.2.2.2.2.2.2.2.2.2.2.2.1) (hI_0_61_u149)
          have hI_0_62_u168 : fI u168 0 62 = (fI u 0 62) := Eq.trans (hTu168.2.2.2.2.2.2.2.2.2.2.2.2.2.2.2.2.2.2.2.2.1) (hI_0_62_u149)
          have g170 : 0 ≤ (fI u168 0 4).toInt ∧ (fI u168 0 4).toInt ≤ 5 := by have h := MI_4 hJ; exact h
          have y0u168 : ¬ ((fI u168 0 4) : Int32).toInt = 0 := by exact hx0u168
          refine lv_aload_n hx hb dX11_numeral_53 rfl (lv_at hl 0 rfl) ?_
          refine gf_RX11_226 (v := .int (fI u 0 9)) C hO 0 mW_0 (congrArg (fun z : Int32 => some (Value.int z)) (Eq.trans (Km25_I9 hTu168) (Km25_I9 hTu149))) dX11_numeral_54 ?_
          refine lv_istore_n (lv' := [(3, .int (fI u 0 9)), (0, .ref (a 0)), (1, .int x1), (2, .int x2)]) hx hb dX11_numeral_57 rfl hl (by decide) rfl (fun ls hl => ?_)
          refine lv_aload_n hx hb dX11_numeral_58 rfl (lv_at hl 1 rfl) ?_
          refine cVi (w := mW cy a) (As := []) (rest := []) C hO (T_X11_isGood l D cy a _ (by exact hJ) ((fI u168 0 4)) (by exact rfl)) (cwV 0 ht (gV wd_1596 wd_1598 wd_50 wd_121 wd_1599) rfl rfl rfl hd_yX11_isGood ⟨Nat.le_of_ble_eq_true rfl, Nat.le_of_ble_eq_true rfl⟩) 0 rfl mW_0 rfl rfl hl.1 (Nat.le_of_ble_eq_true rfl) dX11_numeral_59 rfl ⟨Nat.zero_le _, Nat.zero_le _⟩ (fun r171 u172 H locs hp173 hO => ?_)
          obtain ⟨hr171, hu172⟩ := hp173
          rw [hu172] at hO
          rcases hr171 with ⟨hcr171, hvr171⟩ | ⟨hcr171, hvr171⟩
          · subst hvr171
            refine bn_eq (X := 1) hx hb dX11_numeral_62 rfl (by omega) ?_ (tgt := 69) (by decide)
            refine lv_aload_n hx hb dX11_numeral_65 rfl (lv_at hl 1 rfl) ?_
            refine cVv (w := mW cy a) (As := []) (rest := []) C hO (T_X11_goOn l D cy a _ (by exact hJ) (by exact (show ((fI u 0 7) : Int32).toInt ≤ ((fI u 0 3) : Int32).toInt from by first | omega | decide))) (cwV 0 ht (gV wd_1556 wd_1558 wd_48 wd_121 wd_1559) rfl rfl rfl hd_yX11_goOn ⟨Nat.le_of_ble_eq_true rfl, Nat.le_of_ble_eq_true rfl⟩) 0 rfl mW_0 rfl rfl hl.1 (Nat.le_of_ble_eq_true rfl) dX11_numeral_66 rfl ⟨Nat.zero_le _, Nat.zero_le _⟩ (fun u175 H locs hp176 hO => ?_)
            obtain ⟨hJ, hTu175, hx0u175, hx1u175, hx2u175, hx3u175⟩ := hp176
            have hT : Km27 u u175 := Km27.tr (by exact hT) (Km26_to_Km27 hTu175)
            have hI_0_3_u175 : fI u175 0 3 = (fI u 0 3) := Eq.trans (hTu175.2.1) (hI_0_3_u168)
            have hI_0_4_u175 : fI u175 0 4 = (fI u168 0 4) := hTu175.2.2.1
            have hI_0_36_u175 : fI u175 0 36 = (fI u 0 36) := Eq.trans (hTu175.2.2.2.2.1) (hI_0_36_u168)
            have hI_0_37_u175 : fI u175 0 37 = (fI u 0 37) := Eq.trans (hTu175.2.2.2.2.2.1) (hI_0_37_u168)
            have hI_0_42_u175 : fI u175 0 42 = (fI u 0 42) := Eq.trans (hTu175.2.2.2.2.2.2.2.2.2.2.1) (hI_0_42_u168)
            have hI_0_47_u175 : fI u175 0 47 = (fI u 0 47) := Eq.trans (hTu175.2.2.2.2.2.2.2.2.2.2.2.2.2.1) (hI_0_47_u168)
            have hI_0_48_u175 : fI u175 0 48 = (fI u 0 48) := Eq.trans (hTu175.2.2.2.2.2.2.2.2.2.2.2.2.2.2.1) (hI_0_48_u168)
            have hI_0_50_u175 : fI u175 0 50 = (fI u 0 50) := Eq.trans (hTu175.2.2.2.2.2.2.2.2.2.2.2.2.2.2.2.1) (hI_0_50_u168)
            have hI_0_61_u175 : fI u175 0 61 = (fI u 0 61) := Eq.trans (hTu175.2.2.2.2.2.2.2.2.2.2.2.2.2.2.2.2.1) (hI_0_61_u168)
            have hI_0_62_u175 : fI u175 0 62 = (fI u 0 62) := Eq.trans (hTu175.2.2.2.2.2.2.2.2.2.2.2.2.2.2.2.2.2.1) (hI_0_62_u168)
            have g177 : 0 ≤ (fI u175 0 7).toInt ∧ (fI u175 0 7).toInt ≤ 1601 := by have h := MI_7 hJ; exact h
            have y0u175 : ((fI u175 0 7) : Int32).toInt ≤ ((fI u 0 3) : Int32).toInt := by have h := hx0u175; simp only [hI_0_3_u175] at h; exact h
            have g178 : 0 ≤ (fI u175 0 6).toInt ∧ (fI u175 0 6).toInt ≤ 1600 := by have h := MI_6 hJ; exact h
            have y1u175 : ((fI u175 0 6) : Int32).toInt ≤ ((fI u175 0 7) : Int32).toInt := by exact hx1u175
            have g179 : 0 ≤ (fI u175 0 8).toInt ∧ (fI u175 0 8).toInt ≤ 5 := by have h := MI_8 hJ; exact h
            have y2u175 : ((fI u175 0 8) : Int32).toInt = 0 ∨ ((fI u175 0 6) : Int32).toInt < ((fI u175 0 7) : Int32).toInt := by exact hx2u175
            have y3u175 : ((fI u 0 7) : Int32).toInt ≤ ((fI u175 0 6) : Int32).toInt := by exact hx3u175
            refine lv_aload_n hx hb dX11_numeral_69 rfl (lv_at hl 1 rfl) ?_
            refine cVi (w := mW cy a) (As := []) (rest := []) C hO (T_X11_isGood l D cy a _ (by exact hJ) ((fI u168 0 4)) (by exact hI_0_4_u175)) (cwV 0 ht (gV wd_1596 wd_1598 wd_50 wd_121 wd_1599) rfl rfl rfl hd_yX11_isGood ⟨Nat.le_of_ble_eq_true rfl, Nat.le_of_ble_eq_true rfl⟩) 0 rfl mW_0 rfl rfl hl.1 (Nat.le_of_ble_eq_true rfl) dX11_numeral_70 rfl ⟨Nat.zero_le _, Nat.zero_le _⟩ (fun r180 u181 H locs hp182 hO => ?_)
            obtain ⟨hr180, hu181⟩ := hp182
            rw [hu181] at hO
            rcases hr180 with ⟨hcr180, hvr180⟩ | ⟨hcr180, hvr180⟩
            · subst hvr180
              refine bn_eq (X := 1) hx hb dX11_numeral_73 rfl (by omega) ?_ (tgt := 80) (by decide)
              refine lv_iload_n hx hb dX11_numeral_76 rfl (lv_at hl 0 rfl) ?_
              refine lv_goto (tgt := 81) hx hb dX11_numeral_77 (by decide) ?_
              have q183 : ((fI u175 0 7) : Int32).toInt ≤ ((fI u 0 3) : Int32).toInt := by first | omega | decide
              have q184 : ((fI u175 0 6) : Int32).toInt ≤ ((fI u175 0 7) : Int32).toInt := by first | omega | decide
              have q185 : ((fI u175 0 8) : Int32).toInt = 0 ∨ ((fI u175 0 6) : Int32).toInt < ((fI u175 0 7) : Int32).toInt := by first | omega | decide
              have q186 : ((fI u 0 6) : Int32).toInt ≤ ((fI u175 0 6) : Int32).toInt := by first | omega | decide
              have q187 : ((fI u 0 4) : Int32).toInt = 0 ∨ ¬ ((fI u168 0 4) : Int32).toInt = 0 := by first | omega | decide
              refine hret _ _ _ _ _ _ dX11_numeral_81 rfl ?_ hO
              exact ⟨hJ, hT, q183, q184, q185, q186, q187⟩
            · exfalso
              omega
          · subst hvr171
            refine bt_eq (tgt := 69) (X := 0) hx hb dX11_numeral_62 (by decide) rfl (by omega) ?_
            refine lv_aload_n hx hb dX11_numeral_69 rfl (lv_at hl 1 rfl) ?_
            refine cVi (w := mW cy a) (As := []) (rest := []) C hO (T_X11_isGood l D cy a _ (by exact hJ) ((fI u168 0 4)) (by exact rfl)) (cwV 0 ht (gV wd_1596 wd_1598 wd_50 wd_121 wd_1599) rfl rfl rfl hd_yX11_isGood ⟨Nat.le_of_ble_eq_true rfl, Nat.le_of_ble_eq_true rfl⟩) 0 rfl mW_0 rfl rfl hl.1 (Nat.le_of_ble_eq_true rfl) dX11_numeral_70 rfl ⟨Nat.zero_le _, Nat.zero_le _⟩ (fun r188 u189 H locs hp190 hO => ?_)
            obtain ⟨hr188, hu189⟩ := hp190
            rw [hu189] at hO
            rcases hr188 with ⟨hcr188, hvr188⟩ | ⟨hcr188, hvr188⟩
            · exfalso
              omega
            · subst hvr188
              refine bt_eq (tgt := 80) (X := 0) hx hb dX11_numeral_73 (by decide) rfl (by omega) ?_
              refine lv_iload_n hx hb dX11_numeral_80 rfl (lv_at hl 2 rfl) ?_
              have q191 : ((fI u 0 7) : Int32).toInt ≤ ((fI u 0 3) : Int32).toInt := by first | omega | decide
              have q192 : ((fI u 0 6) : Int32).toInt ≤ ((fI u 0 7) : Int32).toInt := by first | omega | decide
              have q193 : ((fI u 0 8) : Int32).toInt = 0 ∨ ((fI u 0 6) : Int32).toInt < ((fI u 0 7) : Int32).toInt := by first | omega | decide
              have q194 : ((fI u 0 6) : Int32).toInt ≤ ((fI u 0 6) : Int32).toInt := by first | omega | decide
              have q195 : ((fI u 0 4) : Int32).toInt = 0 ∨ ¬ ((fI u168 0 4) : Int32).toInt = 0 := by first | omega | decide
              refine hret _ _ _ _ _ _ dX11_numeral_81 rfl ?_ hO
              exact ⟨hJ, hT, q191, q192, q193, q194, q195⟩
        · refine lv_aload_n hx hb dX11_numeral_36 rfl (lv_at hl 0 rfl) ?_
          refine gf_RX11_226 (v := .int (fI u 0 9)) C hO 0 mW_0 (congrArg (fun z : Int32 => some (Value.int z)) (Km25_I9 hTu149)) dX11_numeral_37 ?_
          refine lv_iload_n hx hb dX11_numeral_40 rfl (lv_at hl 2 rfl) ?_
          refine cs_le (tgt := 53) (X := ((fI u 0 9)).toInt) (Y := (x2).toInt) hx hb dX11_numeral_41 (by decide) rfl rfl (fun c196 => ?_) (fun c196 => ?_)
          · refine lv_aload_n hx hb dX11_numeral_53 rfl (lv_at hl 0 rfl) ?_
            refine gf_RX11_226 (v := .int (fI u 0 9)) C hO 0 mW_0 (congrArg (fun z : Int32 => some (Value.int z)) (Km25_I9 hTu149)) dX11_numeral_54 ?_
            refine lv_istore_n (lv' := [(3, .int (fI u 0 9)), (0, .ref (a 0)), (1, .int x1), (2, .int x2)]) hx hb dX11_numeral_57 rfl hl (by decide) rfl (fun ls hl => ?_)
            refine lv_aload_n hx hb dX11_numeral_58 rfl (lv_at hl 1 rfl) ?_
            refine cVi (w := mW cy a) (As := []) (rest := []) C hO (T_X11_isGood l D cy a _ (by exact hJ) ((fI u149 0 4)) (by exact rfl)) (cwV 0 ht (gV wd_1596 wd_1598 wd_50 wd_121 wd_1599) rfl rfl rfl hd_yX11_isGood ⟨Nat.le_of_ble_eq_true rfl, Nat.le_of_ble_eq_true rfl⟩) 0 rfl mW_0 rfl rfl hl.1 (Nat.le_of_ble_eq_true rfl) dX11_numeral_59 rfl ⟨Nat.zero_le _, Nat.zero_le _⟩ (fun r197 u198 H locs hp199 hO => ?_)
            obtain ⟨hr197, hu198⟩ := hp199
            rw [hu198] at hO
            rcases hr197 with ⟨hcr197, hvr197⟩ | ⟨hcr197, hvr197⟩
            · subst hvr197
              refine bn_eq (X := 1) hx hb dX11_numeral_62 rfl (by omega) ?_ (tgt := 69) (by decide)
              refine lv_aload_n hx hb dX11_numeral_65 rfl (lv_at hl 1 rfl) ?_
              refine cVv (w := mW cy a) (As := []) (rest := []) C hO (T_X11_goOn l D cy a _ (by exact hJ) (by exact (show ((fI u 0 7) : Int32).toInt ≤ ((fI u 0 3) : Int32).toInt from by first | omega | decide))) (cwV 0 ht (gV wd_1556 wd_1558 wd_48 wd_121 wd_1559) rfl rfl rfl hd_yX11_goOn ⟨Nat.le_of_ble_eq_true rfl, Nat.le_of_ble_eq_true rfl⟩) 0 rfl mW_0 rfl rfl hl.1 (Nat.le_of_ble_eq_true rfl) dX11_numeral_66 rfl ⟨Nat.zero_le _, Nat.zero_le _⟩ (fun u201 H locs hp202 hO => ?_)
              obtain ⟨hJ, hTu201, hx0u201, hx1u201, hx2u201, hx3u201⟩ := hp202
              have hT : Km27 u u201 := Km27.tr (by exact hT) (Km26_to_Km27 hTu201)
              have hI_0_3_u201 : fI u201 0 3 = (fI u 0 3) := Eq.trans (hTu201.2.1) (hI_0_3_u149)
              have hI_0_4_u201 : fI u201 0 4 = (fI u149 0 4) := hTu201.2.2.1
              have hI_0_36_u201 : fI u201 0 36 = (fI u 0 36) := Eq.trans (hTu201.2.2.2.2.1) (hI_0_36_u149)
              have hI_0_37_u201 : fI u201 0 37 = (fI u 0 37) := Eq.trans (hTu201.2.2.2.2.2.1) (hI_0_37_u149)
              have hI_0_42_u201 : fI u201 0 42 = (fI u 0 42) := Eq.trans (hTu201.2.2.2.2.2.2.2.2.2.2.1) (hI_0_42_u149)
              have hI_0_47_u201 : fI u201 0 47 = (fI u 0 47) := Eq.trans (hTu201.2.2.2.2.2.2.2.2.2.2.2.2.2.1) (hI_0_47_u149)
              have hI_0_48_u201 : fI u201 0 48 = (fI u 0 48) := Eq.trans (hTu201.2.2.2.2.2.2.2.2.2.2.2.2.2.2.1) (hI_0_48_u149)
              have hI_0_50_u201 : fI u201 0 50 = (fI u 0 50) := Eq.trans (hTu201.2.2.2.2.2.2.2.2.2.2.2.2.2.2.2.1) (hI_0_50_u149)
              have hI_0_61_u201 : fI u201 0 61 = (fI u 0 61) := Eq.trans (hTu201.2.2.2.2.2.2.2.2.2.2.2.2.2.2.2.2.1) (hI_0_61_u149)
              have hI_0_62_u201 : fI u201 0 62 = (fI u 0 62) := Eq.trans (hTu201.2.2.2.2.2.2.2.2.2.2.2.2.2.2.2.2.2.1) (hI_0_62_u149)
              have g203 : 0 ≤ (fI u201 0 7).toInt ∧ (fI u201 0 7).toInt ≤ 1601 := by have h := MI_7 hJ; exact h
              have y0u201 : ((fI u201 0 7) : Int32).toInt ≤ ((fI u 0 3) : Int32).toInt := by have h := hx0u201; simp only [hI_0_3_u201] at h; exact h
              have g204 : 0 ≤ (fI u201 0 6).toInt ∧ (fI u201 0 6).toInt ≤ 1600 := by have h := MI_6 hJ; exact h
              have y1u201 : ((fI u201 0 6) : Int32).toInt ≤ ((fI u201 0 7) : Int32).toInt := by exact hx1u201
              have g205 : 0 ≤ (fI u201 0 8).toInt ∧ (fI u201 0 8).toInt ≤ 5 := by have h := MI_8 hJ; exact h
              have y2u201 : ((fI u201 0 8) : Int32).toInt = 0 ∨ ((fI u201 0 6) : Int32).toInt < ((fI u201 0 7) : Int32).toInt := by exact hx2u201
              have y3u201 : ((fI u 0 7) : Int32).toInt ≤ ((fI u201 0 6) : Int32).toInt := by exact hx3u201
              refine lv_aload_n hx hb dX11_numeral_69 rfl (lv_at hl 1 rfl) ?_
              refine cVi (w := mW cy a) (As := []) (rest := []) C hO (T_X11_isGood l D cy a _ (by exact hJ) ((fI u149 0 4)) (by exact hI_0_4_u201)) (cwV 0 ht (gV wd_1596 wd_1598 wd_50 wd_121 wd_1599) rfl rfl rfl hd_yX11_isGood ⟨Nat.le_of_ble_eq_true rfl, Nat.le_of_ble_eq_true rfl⟩) 0 rfl mW_0 rfl rfl hl.1 (Nat.le_of_ble_eq_true rfl) dX11_numeral_70 rfl ⟨Nat.zero_le _, Nat.zero_le _⟩ (fun r206 u207 H locs hp208 hO => ?_)
              obtain ⟨hr206, hu207⟩ := hp208
              rw [hu207] at hO
              rcases hr206 with ⟨hcr206, hvr206⟩ | ⟨hcr206, hvr206⟩
              · subst hvr206
                refine bn_eq (X := 1) hx hb dX11_numeral_73 rfl (by omega) ?_ (tgt := 80) (by decide)
                refine lv_iload_n hx hb dX11_numeral_76 rfl (lv_at hl 0 rfl) ?_
                refine lv_goto (tgt := 81) hx hb dX11_numeral_77 (by decide) ?_
                have q209 : ((fI u201 0 7) : Int32).toInt ≤ ((fI u 0 3) : Int32).toInt := by first | omega | decide
                have q210 : ((fI u201 0 6) : Int32).toInt ≤ ((fI u201 0 7) : Int32).toInt := by first | omega | decide
                have q211 : ((fI u201 0 8) : Int32).toInt = 0 ∨ ((fI u201 0 6) : Int32).toInt < ((fI u201 0 7) : Int32).toInt := by first | omega | decide
                have q212 : ((fI u 0 6) : Int32).toInt ≤ ((fI u201 0 6) : Int32).toInt := by first | omega | decide
                have q213 : ((fI u 0 4) : Int32).toInt = 0 ∨ ¬ ((fI u149 0 4) : Int32).toInt = 0 := by first | omega | decide
                refine hret _ _ _ _ _ _ dX11_numeral_81 rfl ?_ hO
                exact ⟨hJ, hT, q209, q210, q211, q212, q213⟩
              · exfalso
                omega
            · exfalso
              omega
          · refine lv_aload_n hx hb dX11_numeral_44 rfl (lv_at hl 0 rfl) ?_
            refine lv_iconst (v := 4) hx hb dX11_numeral_45 (by decide) ?_
            refine lv_aload_n hx hb dX11_numeral_46 rfl (lv_at hl 0 rfl) ?_
            refine gf_RX11_201 (v := .int (fI u 0 6)) C hO 0 mW_0 (congrArg (fun z : Int32 => some (Value.int z)) hI_0_6_u149) dX11_numeral_47 ?_
            refine cVv (w := mW cy a) (As := [.int 4, .int (fI u 0 6)]) (rest := []) C hO (T_X11_fails l D cy a _ (by exact hJ) (4) ((fI u 0 6)) (by first | omega | decide)) (cwV 2 ht (gV wd_1619 wd_1621 wd_55 wd_121 wd_1622) rfl rfl rfl hd_yX11_fails ⟨Nat.le_of_ble_eq_true rfl, Nat.le_of_ble_eq_true rfl⟩) 0 rfl mW_0 rfl rfl hl.1 (Nat.le_of_ble_eq_true rfl) dX11_numeral_50 rfl ⟨Nat.zero_le _, Nat.zero_le _⟩ (fun u215 H locs hp216 hO => ?_)
            obtain ⟨hJ, hTu215, hx0u215⟩ := hp216
            have hT : Km27 u u215 := Km27.tr (by exact hT) (Km25_to_Km27 hTu215)
            have hI_0_3_u215 : fI u215 0 3 = (fI u 0 3) := Eq.trans (hTu215.2.1) (hI_0_3_u149)
            have hI_0_6_u215 : fI u215 0 6 = (fI u 0 6) := Eq.trans (hTu215.2.2.1) (hI_0_6_u149)
            have hI_0_7_u215 : fI u215 0 7 = (fI u 0 7) := Eq.trans (hTu215.2.2.2.1) (hI_0_7_u149)
            have hI_0_8_u215 : fI u215 0 8 = (fI u 0 8) := Eq.trans (hTu215.2.2.2.2.1) (hI_0_8_u149)
            have hI_0_36_u215 : fI u215 0 36 = (fI u 0 36) := Eq.trans (hTu215.2.2.2.2.2.2.2.1) (hI_0_36_u149)
            have hI_0_37_u215 : fI u215 0 37 = (fI u 0 37) := Eq.trans (hTu215.2.2.2.2.2.2.2.2.1) (hI_0_37_u149)
            have hI_0_42_u215 : fI u215 0 42 = (fI u 0 42) := Eq.trans (hTu215.2.2.2.2.2.2.2.2.2.2.2.2.2.1) (hI_0_42_u149)
            have hI_0_47_u215 : fI u215 0 47 = (fI u 0 47) := Eq.trans (hTu215.2.2.2.2.2.2.2.2.2.2.2.2.2.2.2.2.1) (hI_0_47_u149)
            have hI_0_48_u215 : fI u215 0 48 = (fI u 0 48) := Eq.trans (hTu215.2.2.2.2.2.2.2.2.2.2.2.2.2.2.2.2.2.1) (hI_0_48_u149)
            have hI_0_50_u215 : fI u215 0 50 = (fI u 0 50) := Eq.trans (hTu215.2.2.2.2.2.2.2.2.2.2.2.2.2.2.2.2.2.2.1) (hI_0_50_u149)
            have hI_0_61_u215 : fI u215 0 61 = (fI u 0 61) := Eq.trans (hTu215.2.2.2.2.2.2.2.2.2.2.2.2.2.2.2.2.2.2.2.1) (hI_0_61_u149)
            have hI_0_62_u215 : fI u215 0 62 = (fI u 0 62) := Eq.trans (hTu215.2.2.2.2.2.2.2.2.2.2.2.2.2.2.2.2.2.2.2.2.1) (hI_0_62_u149)
            have g217 : 0 ≤ (fI u215 0 4).toInt ∧ (fI u215 0 4).toInt ≤ 5 := by have h := MI_4 hJ; exact h
            have y0u215 : ¬ ((fI u215 0 4) : Int32).toInt = 0 := by exact hx0u215
            refine lv_aload_n hx hb dX11_numeral_53 rfl (lv_at hl 0 rfl) ?_
            refine gf_RX11_226 (v := .int (fI u 0 9)) C hO 0 mW_0 (congrArg (fun z : Int32 => some (Value.int z)) (Eq.trans (Km25_I9 hTu215) (Km25_I9 hTu149))) dX11_numeral_54 ?_
            refine lv_istore_n (lv' := [(3, .int (fI u 0 9)), (0, .ref (a 0)), (1, .int x1), (2, .int x2)]) hx hb dX11_numeral_57 rfl hl (by decide) rfl (fun ls hl => ?_)
            refine lv_aload_n hx hb dX11_numeral_58 rfl (lv_at hl 1 rfl) ?_
            refine cVi (w := mW cy a) (As := []) (rest := []) C hO (T_X11_isGood l D cy a _ (by exact hJ) ((fI u215 0 4)) (by exact rfl)) (cwV 0 ht (gV wd_1596 wd_1598 wd_50 wd_121 wd_1599) rfl rfl rfl hd_yX11_isGood ⟨Nat.le_of_ble_eq_true rfl, Nat.le_of_ble_eq_true rfl⟩) 0 rfl mW_0 rfl rfl hl.1 (Nat.le_of_ble_eq_true rfl) dX11_numeral_59 rfl ⟨Nat.zero_le _, Nat.zero_le _⟩ (fun r218 u219 H locs hp220 hO => ?_)
            obtain ⟨hr218, hu219⟩ := hp220
            rw [hu219] at hO
            rcases hr218 with ⟨hcr218, hvr218⟩ | ⟨hcr218, hvr218⟩
            · subst hvr218
              refine bn_eq (X := 1) hx hb dX11_numeral_62 rfl (by omega) ?_ (tgt := 69) (by decide)
              refine lv_aload_n hx hb dX11_numeral_65 rfl (lv_at hl 1 rfl) ?_
              refine cVv (w := mW cy a) (As := []) (rest := []) C hO (T_X11_goOn l D cy a _ (by exact hJ) (by exact (show ((fI u 0 7) : Int32).toInt ≤ ((fI u 0 3) : Int32).toInt from by first | omega | decide))) (cwV 0 ht (gV wd_1556 wd_1558 wd_48 wd_121 wd_1559) rfl rfl rfl hd_yX11_goOn ⟨Nat.le_of_ble_eq_true rfl, Nat.le_of_ble_eq_true rfl⟩) 0 rfl mW_0 rfl rfl hl.1 (Nat.le_of_ble_eq_true rfl) dX11_numeral_66 rfl ⟨Nat.zero_le _, Nat.zero_le _⟩ (fun u222 H locs hp223 hO => ?_)
              obtain ⟨hJ, hTu222, hx0u222, hx1u222, hx2u222, hx3u222⟩ := hp223
              have hT : Km27 u u222 := Km27.tr (by exact hT) (Km26_to_Km27 hTu222)
              have hI_0_3_u222 : fI u222 0 3 = (fI u 0 3) := Eq.trans (hTu222.2.1) (hI_0_3_u215)
              have hI_0_4_u222 : fI u222 0 4 = (fI u215 0 4) := hTu222.2.2.1
              have hI_0_36_u222 : fI u222 0 36 = (fI u 0 36) := Eq.trans (hTu222.2.2.2.2.1) (hI_0_36_u215)
              have hI_0_37_u222 : fI u222 0 37 = (fI u 0 37) := Eq.trans (hTu222.2.2.2.2.2.1) (hI_0_37_u215)
              have hI_0_42_u222 : fI u222 0 42 = (fI u 0 42) := Eq.trans (hTu222.2.2.2.2.2.2.2.2.2.2.1) (hI_0_42_u215)
              have hI_0_47_u222 : fI u222 0 47 = (fI u 0 47) := Eq.trans (hTu222.2.2.2.2.2.2.2.2.2.2.2.2.2.1) (hI_0_47_u215)
              have hI_0_48_u222 : fI u222 0 48 = (fI u 0 48) := Eq.trans (hTu222.2.2.2.2.2.2.2.2.2.2.2.2.2.2.1) (hI_0_48_u215)
              have hI_0_50_u222 : fI u222 0 50 = (fI u 0 50) := Eq.trans (hTu222.2.2.2.2.2.2.2.2.2.2.2.2.2.2.2.1) (hI_0_50_u215)
              have hI_0_61_u222 : fI u222 0 61 = (fI u 0 61) := Eq.trans (hTu222.2.2.2.2.2.2.2.2.2.2.2.2.2.2.2.2.1) (hI_0_61_u215)
              have hI_0_62_u222 : fI u222 0 62 = (fI u 0 62) := Eq.trans (hTu222.2.2.2.2.2.2.2.2.2.2.2.2.2.2.2.2.2.1) (hI_0_62_u215)
              have g224 : 0 ≤ (fI u222 0 7).toInt ∧ (fI u222 0 7).toInt ≤ 1601 := by have h := MI_7 hJ; exact h
              have y0u222 : ((fI u222 0 7) : Int32).toInt ≤ ((fI u 0 3) : Int32).toInt := by have h := hx0u222; simp only [hI_0_3_u222] at h; exact h
              have g225 : 0 ≤ (fI u222 0 6).toInt ∧ (fI u222 0 6).toInt ≤ 1600 := by have h := MI_6 hJ; exact h
              have y1u222 : ((fI u222 0 6) : Int32).toInt ≤ ((fI u222 0 7) : Int32).toInt := by exact hx1u222
              have g226 : 0 ≤ (fI u222 0 8).toInt ∧ (fI u222 0 8).toInt ≤ 5 := by have h := MI_8 hJ; exact h
              have y2u222 : ((fI u222 0 8) : Int32).toInt = 0 ∨ ((fI u222 0 6) : Int32).toInt < ((fI u222 0 7) : Int32).toInt := by exact hx2u222
              have y3u222 : ((fI u 0 7) : Int32).toInt ≤ ((fI u222 0 6) : Int32).toInt := by exact hx3u222
              refine lv_aload_n hx hb dX11_numeral_69 rfl (lv_at hl 1 rfl) ?_
              refine cVi (w := mW cy a) (As := []) (rest := []) C hO (T_X11_isGood l D cy a _ (by exact hJ) ((fI u215 0 4)) (by exact hI_0_4_u222)) (cwV 0 ht (gV wd_1596 wd_1598 wd_50 wd_121 wd_1599) rfl rfl rfl hd_yX11_isGood ⟨Nat.le_of_ble_eq_true rfl, Nat.le_of_ble_eq_true rfl⟩) 0 rfl mW_0 rfl rfl hl.1 (Nat.le_of_ble_eq_true rfl) dX11_numeral_70 rfl ⟨Nat.zero_le _, Nat.zero_le _⟩ (fun r227 u228 H locs hp229 hO => ?_)
              obtain ⟨hr227, hu228⟩ := hp229
              rw [hu228] at hO
              rcases hr227 with ⟨hcr227, hvr227⟩ | ⟨hcr227, hvr227⟩
              · subst hvr227
                refine bn_eq (X := 1) hx hb dX11_numeral_73 rfl (by omega) ?_ (tgt := 80) (by decide)
                refine lv_iload_n hx hb dX11_numeral_76 rfl (lv_at hl 0 rfl) ?_
                refine lv_goto (tgt := 81) hx hb dX11_numeral_77 (by decide) ?_
                have q230 : ((fI u222 0 7) : Int32).toInt ≤ ((fI u 0 3) : Int32).toInt := by first | omega | decide
                have q231 : ((fI u222 0 6) : Int32).toInt ≤ ((fI u222 0 7) : Int32).toInt := by first | omega | decide
                have q232 : ((fI u222 0 8) : Int32).toInt = 0 ∨ ((fI u222 0 6) : Int32).toInt < ((fI u222 0 7) : Int32).toInt := by first | omega | decide
                have q233 : ((fI u 0 6) : Int32).toInt ≤ ((fI u222 0 6) : Int32).toInt := by first | omega | decide
                have q234 : ((fI u 0 4) : Int32).toInt = 0 ∨ ¬ ((fI u215 0 4) : Int32).toInt = 0 := by first | omega | decide
                refine hret _ _ _ _ _ _ dX11_numeral_81 rfl ?_ hO
                exact ⟨hJ, hT, q230, q231, q232, q233, q234⟩
              · exfalso
                omega
            · subst hvr218
              refine bt_eq (tgt := 69) (X := 0) hx hb dX11_numeral_62 (by decide) rfl (by omega) ?_
              refine lv_aload_n hx hb dX11_numeral_69 rfl (lv_at hl 1 rfl) ?_
              refine cVi (w := mW cy a) (As := []) (rest := []) C hO (T_X11_isGood l D cy a _ (by exact hJ) ((fI u215 0 4)) (by exact rfl)) (cwV 0 ht (gV wd_1596 wd_1598 wd_50 wd_121 wd_1599) rfl rfl rfl hd_yX11_isGood ⟨Nat.le_of_ble_eq_true rfl, Nat.le_of_ble_eq_true rfl⟩) 0 rfl mW_0 rfl rfl hl.1 (Nat.le_of_ble_eq_true rfl) dX11_numeral_70 rfl ⟨Nat.zero_le _, Nat.zero_le _⟩ (fun r235 u236 H locs hp237 hO => ?_)
              obtain ⟨hr235, hu236⟩ := hp237
              rw [hu236] at hO
              rcases hr235 with ⟨hcr235, hvr235⟩ | ⟨hcr235, hvr235⟩
              · exfalso
                omega
              · subst hvr235
                refine bt_eq (tgt := 80) (X := 0) hx hb dX11_numeral_73 (by decide) rfl (by omega) ?_
                refine lv_iload_n hx hb dX11_numeral_80 rfl (lv_at hl 2 rfl) ?_
                have q238 : ((fI u 0 7) : Int32).toInt ≤ ((fI u 0 3) : Int32).toInt := by first | omega | decide
                have q239 : ((fI u 0 6) : Int32).toInt ≤ ((fI u 0 7) : Int32).toInt := by first | omega | decide
                have q240 : ((fI u 0 8) : Int32).toInt = 0 ∨ ((fI u 0 6) : Int32).toInt < ((fI u 0 7) : Int32).toInt := by first | omega | decide
                have q241 : ((fI u 0 6) : Int32).toInt ≤ ((fI u 0 6) : Int32).toInt := by first | omega | decide
                have q242 : ((fI u 0 4) : Int32).toInt = 0 ∨ ¬ ((fI u215 0 4) : Int32).toInt = 0 := by first | omega | decide
                refine hret _ _ _ _ _ _ dX11_numeral_81 rfl ?_ hO
                exact ⟨hJ, hT, q238, q239, q240, q241, q242⟩
      · subst hvr163
        refine bt_eq (tgt := 53) (X := 0) hx hb dX11_numeral_25 (by decide) rfl (by omega) ?_
        refine lv_aload_n hx hb dX11_numeral_53 rfl (lv_at hl 0 rfl) ?_
        refine gf_RX11_226 (v := .int (fI u 0 9)) C hO 0 mW_0 (congrArg (fun z : Int32 => some (Value.int z)) (Km25_I9 hTu149)) dX11_numeral_54 ?_
        refine lv_istore_n (lv' := [(3, .int (fI u 0 9)), (0, .ref (a 0)), (1, .int x1), (2, .int x2)]) hx hb dX11_numeral_57 rfl hl (by decide) rfl (fun ls hl => ?_)
        refine lv_aload_n hx hb dX11_numeral_58 rfl (lv_at hl 1 rfl) ?_
        refine cVi (w := mW cy a) (As := []) (rest := []) C hO (T_X11_isGood l D cy a _ (by exact hJ) ((fI u149 0 4)) (by exact rfl)) (cwV 0 ht (gV wd_1596 wd_1598 wd_50 wd_121 wd_1599) rfl rfl rfl hd_yX11_isGood ⟨Nat.le_of_ble_eq_true rfl, Nat.le_of_ble_eq_true rfl⟩) 0 rfl mW_0 rfl rfl hl.1 (Nat.le_of_ble_eq_true rfl) dX11_numeral_59 rfl ⟨Nat.zero_le _, Nat.zero_le _⟩ (fun r243 u244 H locs hp245 hO => ?_)
        obtain ⟨hr243, hu244⟩ := hp245
        rw [hu244] at hO
        rcases hr243 with ⟨hcr243, hvr243⟩ | ⟨hcr243, hvr243⟩
        · subst hvr243
          refine bn_eq (X := 1) hx hb dX11_numeral_62 rfl (by omega) ?_ (tgt := 69) (by decide)
          refine lv_aload_n hx hb dX11_numeral_65 rfl (lv_at hl 1 rfl) ?_
          refine cVv (w := mW cy a) (As := []) (rest := []) C hO (T_X11_goOn l D cy a _ (by exact hJ) (by exact (show ((fI u 0 7) : Int32).toInt ≤ ((fI u 0 3) : Int32).toInt from by first | omega | decide))) (cwV 0 ht (gV wd_1556 wd_1558 wd_48 wd_121 wd_1559) rfl rfl rfl hd_yX11_goOn ⟨Nat.le_of_ble_eq_true rfl, Nat.le_of_ble_eq_true rfl⟩) 0 rfl mW_0 rfl rfl hl.1 (Nat.le_of_ble_eq_true rfl) dX11_numeral_66 rfl ⟨Nat.zero_le _, Nat.zero_le _⟩ (fun u247 H locs hp248 hO => ?_)
          obtain ⟨hJ, hTu247, hx0u247, hx1u247, hx2u247, hx3u247⟩ := hp248
          have hT : Km27 u u247 := Km27.tr (by exact hT) (Km26_to_Km27 hTu247)
          have hI_0_3_u247 : fI u247 0 3 = (fI u 0 3) := Eq.trans (hTu247.2.1) (hI_0_3_u149)
          have hI_0_4_u247 : fI u247 0 4 = (fI u149 0 4) := hTu247.2.2.1
          have hI_0_36_u247 : fI u247 0 36 = (fI u 0 36) := Eq.trans (hTu247.2.2.2.2.1) (hI_0_36_u149)
          have hI_0_37_u247 : fI u247 0 37 = (fI u 0 37) := Eq.trans (hTu247.2.2.2.2.2.1) (hI_0_37_u149)
          have hI_0_42_u247 : fI u247 0 42 = (fI u 0 42) := Eq.trans (hTu247.2.2.2.2.2.2.2.2.2.2.1) (hI_0_42_u149)
          have hI_0_47_u247 : fI u247 0 47 = (fI u 0 47) := Eq.trans (hTu247.2.2.2.2.2.2.2.2.2.2.2.2.2.1) (hI_0_47_u149)
          have hI_0_48_u247 : fI u247 0 48 = (fI u 0 48) := Eq.trans (hTu247.2.2.2.2.2.2.2.2.2.2.2.2.2.2.1) (hI_0_48_u149)
          have hI_0_50_u247 : fI u247 0 50 = (fI u 0 50) := Eq.trans (hTu247.2.2.2.2.2.2.2.2.2.2.2.2.2.2.2.1) (hI_0_50_u149)
          have hI_0_61_u247 : fI u247 0 61 = (fI u 0 61) := Eq.trans (hTu247.2.2.2.2.2.2.2.2.2.2.2.2.2.2.2.2.1) (hI_0_61_u149)
          have hI_0_62_u247 : fI u247 0 62 = (fI u 0 62) := Eq.trans (hTu247.2.2.2.2.2.2.2.2.2.2.2.2.2.2.2.2.2.1) (hI_0_62_u149)
          have g249 : 0 ≤ (fI u247 0 7).toInt ∧ (fI u247 0 7).toInt ≤ 1601 := by have h := MI_7 hJ; exact h
          have y0u247 : ((fI u247 0 7) : Int32).toInt ≤ ((fI u 0 3) : Int32).toInt := by have h := hx0u247; simp only [hI_0_3_u247] at h; exact h
          have g250 : 0 ≤ (fI u247 0 6).toInt ∧ (fI u247 0 6).toInt ≤ 1600 := by have h := MI_6 hJ; exact h
          have y1u247 : ((fI u247 0 6) : Int32).toInt ≤ ((fI u247 0 7) : Int32).toInt := by exact hx1u247
          have g251 : 0 ≤ (fI u247 0 8).toInt ∧ (fI u247 0 8).toInt ≤ 5 := by have h := MI_8 hJ; exact h
          have y2u247 : ((fI u247 0 8) : Int32).toInt = 0 ∨ ((fI u247 0 6) : Int32).toInt < ((fI u247 0 7) : Int32).toInt := by exact hx2u247
          have y3u247 : ((fI u 0 7) : Int32).toInt ≤ ((fI u247 0 6) : Int32).toInt := by exact hx3u247
          refine lv_aload_n hx hb dX11_numeral_69 rfl (lv_at hl 1 rfl) ?_
          refine cVi (w := mW cy a) (As := []) (rest := []) C hO (T_X11_isGood l D cy a _ (by exact hJ) ((fI u149 0 4)) (by exact hI_0_4_u247)) (cwV 0 ht (gV wd_1596 wd_1598 wd_50 wd_121 wd_1599) rfl rfl rfl hd_yX11_isGood ⟨Nat.le_of_ble_eq_true rfl, Nat.le_of_ble_eq_true rfl⟩) 0 rfl mW_0 rfl rfl hl.1 (Nat.le_of_ble_eq_true rfl) dX11_numeral_70 rfl ⟨Nat.zero_le _, Nat.zero_le _⟩ (fun r252 u253 H locs hp254 hO => ?_)
          obtain ⟨hr252, hu253⟩ := hp254
          rw [hu253] at hO
          rcases hr252 with ⟨hcr252, hvr252⟩ | ⟨hcr252, hvr252⟩
          · subst hvr252
            refine bn_eq (X := 1) hx hb dX11_numeral_73 rfl (by omega) ?_ (tgt := 80) (by decide)
            refine lv_iload_n hx hb dX11_numeral_76 rfl (lv_at hl 0 rfl) ?_
            refine lv_goto (tgt := 81) hx hb dX11_numeral_77 (by decide) ?_
            have q255 : ((fI u247 0 7) : Int32).toInt ≤ ((fI u 0 3) : Int32).toInt := by first | omega | decide
            have q256 : ((fI u247 0 6) : Int32).toInt ≤ ((fI u247 0 7) : Int32).toInt := by first | omega | decide
            have q257 : ((fI u247 0 8) : Int32).toInt = 0 ∨ ((fI u247 0 6) : Int32).toInt < ((fI u247 0 7) : Int32).toInt := by first | omega | decide
            have q258 : ((fI u 0 6) : Int32).toInt ≤ ((fI u247 0 6) : Int32).toInt := by first | omega | decide
            have q259 : ((fI u 0 4) : Int32).toInt = 0 ∨ ¬ ((fI u149 0 4) : Int32).toInt = 0 := by first | omega | decide
            refine hret _ _ _ _ _ _ dX11_numeral_81 rfl ?_ hO
            exact ⟨hJ, hT, q255, q256, q257, q258, q259⟩
          · exfalso
            omega
        · subst hvr243
          refine bt_eq (tgt := 69) (X := 0) hx hb dX11_numeral_62 (by decide) rfl (by omega) ?_
          refine lv_aload_n hx hb dX11_numeral_69 rfl (lv_at hl 1 rfl) ?_
          refine cVi (w := mW cy a) (As := []) (rest := []) C hO (T_X11_isGood l D cy a _ (by exact hJ) ((fI u149 0 4)) (by exact rfl)) (cwV 0 ht (gV wd_1596 wd_1598 wd_50 wd_121 wd_1599) rfl rfl rfl hd_yX11_isGood ⟨Nat.le_of_ble_eq_true rfl, Nat.le_of_ble_eq_true rfl⟩) 0 rfl mW_0 rfl rfl hl.1 (Nat.le_of_ble_eq_true rfl) dX11_numeral_70 rfl ⟨Nat.zero_le _, Nat.zero_le _⟩ (fun r260 u261 H locs hp262 hO => ?_)
          obtain ⟨hr260, hu261⟩ := hp262
          rw [hu261] at hO
          rcases hr260 with ⟨hcr260, hvr260⟩ | ⟨hcr260, hvr260⟩
          · exfalso
            omega
          · subst hvr260
            refine bt_eq (tgt := 80) (X := 0) hx hb dX11_numeral_73 (by decide) rfl (by omega) ?_
            refine lv_iload_n hx hb dX11_numeral_80 rfl (lv_at hl 2 rfl) ?_
            have q263 : ((fI u 0 7) : Int32).toInt ≤ ((fI u 0 3) : Int32).toInt := by first | omega | decide
            have q264 : ((fI u 0 6) : Int32).toInt ≤ ((fI u 0 7) : Int32).toInt := by first | omega | decide
            have q265 : ((fI u 0 8) : Int32).toInt = 0 ∨ ((fI u 0 6) : Int32).toInt < ((fI u 0 7) : Int32).toInt := by first | omega | decide
            have q266 : ((fI u 0 6) : Int32).toInt ≤ ((fI u 0 6) : Int32).toInt := by first | omega | decide
            have q267 : ((fI u 0 4) : Int32).toInt = 0 ∨ ¬ ((fI u149 0 4) : Int32).toInt = 0 := by first | omega | decide
            refine hret _ _ _ _ _ _ dX11_numeral_81 rfl ?_ hO
            exact ⟨hJ, hT, q263, q264, q265, q266, q267⟩
  · subst hvr2
    refine bn_ne (X := 0) hx hb dX11_numeral_4 rfl (by omega) ?_ (tgt := 9) (by decide)
    refine lv_iload_n hx hb dX11_numeral_7 rfl (lv_at hl 1 rfl) ?_
    have g268 : 0 ≤ (fI u 0 7).toInt ∧ (fI u 0 7).toInt ≤ 1601 := by have h := MI_7 hJ0; exact h
    have g269 : 0 ≤ (fI u 0 3).toInt ∧ (fI u 0 3).toInt ≤ 1600 := by have h := MI_3 hJ0; exact h
    have q270 : ((fI u 0 7) : Int32).toInt ≤ ((fI u 0 3) : Int32).toInt := by first | omega | decide
    have g271 : 0 ≤ (fI u 0 6).toInt ∧ (fI u 0 6).toInt ≤ 1600 := by have h := MI_6 hJ0; exact h
    have q272 : ((fI u 0 6) : Int32).toInt ≤ ((fI u 0 7) : Int32).toInt := by first | omega | decide
    have g273 : 0 ≤ (fI u 0 8).toInt ∧ (fI u 0 8).toInt ≤ 5 := by have h := MI_8 hJ0; exact h
    have q274 : ((fI u 0 8) : Int32).toInt = 0 ∨ ((fI u 0 6) : Int32).toInt < ((fI u 0 7) : Int32).toInt := by first | omega | decide
    have q275 : ((fI u 0 6) : Int32).toInt ≤ ((fI u 0 6) : Int32).toInt := by first | omega | decide
    have q276 : ((fI u 0 4) : Int32).toInt = 0 ∨ ¬ ((fI u 0 4) : Int32).toInt = 0 := by first | omega | decide
    refine hret _ _ _ _ _ _ dX11_numeral_8 rfl ?_ hO
    exact ⟨hJ, hT, q270, q272, q274, q275, q276⟩
theorem dX11_isWord_0 : decode cX11_isWord 0 = .ok (.aload_n 0, 1) := by decide +kernel
theorem dX11_isWord_1 : decode cX11_isWord 1 = .ok (.getfield 208, 3) := by decide +kernel
theorem dX11_isWord_4 : decode cX11_isWord 4 = .ok (.iconst 3, 1) := by decide +kernel
theorem dX11_isWord_5 : decode cX11_isWord 5 = .ok (.if_icmp .ne 16, 3) := by decide +kernel
theorem dX11_isWord_8 : decode cX11_isWord 8 = .ok (.aload_n 0, 1) := by decide +kernel
theorem dX11_isWord_9 : decode cX11_isWord 9 = .ok (.getfield 215, 3) := by decide +kernel
theorem dX11_isWord_12 : decode cX11_isWord 12 = .ok (.lload_n 1, 1) := by decide +kernel
theorem dX11_isWord_13 : decode cX11_isWord 13 = .ok (.lcmp, 1) := by decide +kernel
theorem dX11_isWord_14 : decode cX11_isWord 14 = .ok (.ifCond .ne 7, 3) := by decide +kernel
theorem dX11_isWord_17 : decode cX11_isWord 17 = .ok (.iconst 1, 1) := by decide +kernel
theorem dX11_isWord_18 : decode cX11_isWord 18 = .ok (.goto 4, 3) := by decide +kernel
theorem dX11_isWord_21 : decode cX11_isWord 21 = .ok (.iconst 0, 1) := by decide +kernel
theorem dX11_isWord_22 : decode cX11_isWord 22 = .ok (.ireturn, 1) := by decide +kernel
theorem wd_1611 : (Cond.code ⟨"WebCourtModel", "isWord", "(J)Z"⟩ prog_13_method_11_code (3 : Nat) (Option.some FieldType.boolean)) ∈ gtb := gtb_c7 62 (by decide +kernel) rfl
set_option maxHeartbeats 4000000 in
set_option maxRecDepth 100000 in
theorem T_X11_isWord (l : Launch) (D : va_G) (cy : Nat → ClassId) (a : Nat → Nat) (u : St) (hJ : MI a u) (gt : Int32) (hgt : fI u 0 8 = gt) (gN : Int64) (hgN : fL u 0 10 = gN) (x1 : Int64)  : Mi l D cy (mW cy a) yX11_isWord (.code yX11_isWord cX11_isWord 3 (some .boolean)) (rmo 0 0) [.ref (a 0), .long x1] u (fun (r : Int32) (u' : St) => (((gt.toInt = 3 ∧ gN = x1) ∧ r = 1) ∨ ((¬ gt.toInt = 3 ∨ ¬ gN = x1) ∧ r = 0)) ∧ (u' = u)) := by
  refine Mi.of (own := RX11) rfl (by decide) (Nat.le_of_ble_eq_true rfl) ?_
  have hT : Km0 u u := Km0.rf
  have hJ0 := hJ
  intro p e s m below meth c A Q ls C hret hO hl
  obtain ⟨hx, hb, hml, hown, ht, hK, hA⟩ := id C
  have hl : lv_has ls 3 [(0, .ref (a 0)), (1, .long x1)] := hl
  refine lv_aload_n hx hb dX11_isWord_0 rfl (lv_at hl 0 rfl) ?_
  have g1 : 0 ≤ gt.toInt ∧ gt.toInt ≤ 5 := by have h := MI_8 hJ0; rw [hgt] at h; exact h
  refine gf_RX11_208 (v := .int gt) C hO 0 mW_0 (congrArg (fun z : Int32 => some (Value.int z)) hgt) dX11_isWord_1 ?_
  refine lv_iconst (v := 3) hx hb dX11_isWord_4 (by decide) ?_
  refine cs_ne (tgt := 21) (X := (gt).toInt) (Y := 3) hx hb dX11_isWord_5 (by decide) rfl rfl (fun c2 => ?_) (fun c2 => ?_)
  · refine lv_iconst (v := 0) hx hb dX11_isWord_21 (by decide) ?_
    refine hret _ _ _ _ _ _ dX11_isWord_22 rfl ?_ hO
    exact ⟨Or.inr ⟨Or.inl (by omega), rfl⟩, rfl⟩
  · refine lv_aload_n hx hb dX11_isWord_8 rfl (lv_at hl 0 rfl) ?_
    refine gf_RX11_215 (v := .long gN) C hO 0 mW_0 rfl dX11_isWord_9 ?_
    refine lv_lload_n hx hb dX11_isWord_12 rfl (lv_at hl 1 rfl) ?_
    refine W.lcmp hx hb dX11_isWord_13 ?_
    refine lv_topi (fun z3 ez3 => ?_)
    refine bs_ne (tgt := 21) (X := (z3).toInt) hx hb dX11_isWord_14 (by decide) rfl (fun c4 => ?_) (fun c4 => ?_)
    · have hj5 := lc_ne ez3 (by omega)
      refine lv_iconst (v := 0) hx hb dX11_isWord_21 (by decide) ?_
      refine hret _ _ _ _ _ _ dX11_isWord_22 rfl ?_ hO
      exact ⟨Or.inr ⟨Or.inr hj5, rfl⟩, rfl⟩
    · have hj6 := lc_eq ez3 (by omega)
      refine lv_iconst (v := 1) hx hb dX11_isWord_17 (by decide) ?_
      refine lv_goto (tgt := 22) hx hb dX11_isWord_18 (by decide) ?_
      refine hret _ _ _ _ _ _ dX11_isWord_22 rfl ?_ hO
      exact ⟨Or.inl ⟨⟨by omega, hj6⟩, rfl⟩, rfl⟩
set_option maxHeartbeats 4000000 in
set_option maxRecDepth 100000 in
theorem T_X11_isWord_n (l : Launch) (D : va_G) (cy : Nat → ClassId) (a : Nat → Nat) (u : St) (hJ : MI a u) (x1 : Int64)  : Mi l D cy (mW cy a) yX11_isWord (.code yX11_isWord cX11_isWord 3 (some .boolean)) (rmo 0 0) [.ref (a 0), .long x1] u (fun (r : Int32) (u' : St) => (r = 0 ∨ r = 1) ∧ (u' = u)) := by
  refine Mi.of (own := RX11) rfl (by decide) (Nat.le_of_ble_eq_true rfl) ?_
  have hT : Km0 u u := Km0.rf
  have hJ0 := hJ
  intro p e s m below meth c A Q ls C hret hO hl
  obtain ⟨hx, hb, hml, hown, ht, hK, hA⟩ := id C
  have hl : lv_has ls 3 [(0, .ref (a 0)), (1, .long x1)] := hl
  refine lv_aload_n hx hb dX11_isWord_0 rfl (lv_at hl 0 rfl) ?_
  have g1 : 0 ≤ (fI u 0 8).toInt ∧ (fI u 0 8).toInt ≤ 5 := by have h := MI_8 hJ0; exact h
  refine gf_RX11_208 (v := .int (fI u 0 8)) C hO 0 mW_0 rfl dX11_isWord_1 ?_
  refine lv_iconst (v := 3) hx hb dX11_isWord_4 (by decide) ?_
  refine cs_ne (tgt := 21) (X := ((fI u 0 8)).toInt) (Y := 3) hx hb dX11_isWord_5 (by decide) rfl rfl (fun c2 => ?_) (fun c2 => ?_)
  · refine lv_iconst (v := 0) hx hb dX11_isWord_21 (by decide) ?_
    refine hret _ _ _ _ _ _ dX11_isWord_22 rfl ?_ hO
    exact ⟨Or.inl rfl, rfl⟩
  · refine lv_aload_n hx hb dX11_isWord_8 rfl (lv_at hl 0 rfl) ?_
    refine gf_RX11_215 (v := .long ((fL u 0 10))) C hO 0 mW_0 rfl dX11_isWord_9 ?_
    refine lv_lload_n hx hb dX11_isWord_12 rfl (lv_at hl 1 rfl) ?_
    refine W.lcmp hx hb dX11_isWord_13 ?_
    refine lv_topi (fun z3 ez3 => ?_)
    refine bs_ne (tgt := 21) (X := (z3).toInt) hx hb dX11_isWord_14 (by decide) rfl (fun c4 => ?_) (fun c4 => ?_)
    · have hj5 := lc_ne ez3 (by omega)
      refine lv_iconst (v := 0) hx hb dX11_isWord_21 (by decide) ?_
      refine hret _ _ _ _ _ _ dX11_isWord_22 rfl ?_ hO
      exact ⟨Or.inl rfl, rfl⟩
    · have hj6 := lc_eq ez3 (by omega)
      refine lv_iconst (v := 1) hx hb dX11_isWord_17 (by decide) ?_
      refine lv_goto (tgt := 22) hx hb dX11_isWord_18 (by decide) ?_
      refine hret _ _ _ _ _ _ dX11_isWord_22 rfl ?_ hO
      exact ⟨Or.inr rfl, rfl⟩
theorem dX11_isSignHere_0 : decode cX11_isSignHere 0 = .ok (.aload_n 0, 1) := by decide +kernel
theorem dX11_isSignHere_1 : decode cX11_isSignHere 1 = .ok (.getfield 208, 3) := by decide +kernel
theorem dX11_isSignHere_4 : decode cX11_isSignHere 4 = .ok (.iconst 5, 1) := by decide +kernel
theorem dX11_isSignHere_5 : decode cX11_isSignHere 5 = .ok (.if_icmp .ne 19, 3) := by decide +kernel
theorem dX11_isSignHere_8 : decode cX11_isSignHere 8 = .ok (.aload_n 0, 1) := by decide +kernel
theorem dX11_isSignHere_9 : decode cX11_isSignHere 9 = .ok (.aload_n 0, 1) := by decide +kernel
theorem dX11_isSignHere_10 : decode cX11_isSignHere 10 = .ok (.getfield 201, 3) := by decide +kernel
theorem dX11_isSignHere_13 : decode cX11_isSignHere 13 = .ok (.invokevirtual 204, 3) := by decide +kernel
theorem dX11_isSignHere_16 : decode cX11_isSignHere 16 = .ok (.iload_n 1, 1) := by decide +kernel
theorem dX11_isSignHere_17 : decode cX11_isSignHere 17 = .ok (.if_icmp .ne 7, 3) := by decide +kernel
theorem dX11_isSignHere_20 : decode cX11_isSignHere 20 = .ok (.iconst 1, 1) := by decide +kernel
theorem dX11_isSignHere_21 : decode cX11_isSignHere 21 = .ok (.goto 4, 3) := by decide +kernel
theorem dX11_isSignHere_24 : decode cX11_isSignHere 24 = .ok (.iconst 0, 1) := by decide +kernel
theorem dX11_isSignHere_25 : decode cX11_isSignHere 25 = .ok (.ireturn, 1) := by decide +kernel
theorem wd_1685 : (Cond.code ⟨"WebCourtModel", "isSignHere", "(I)Z"⟩ prog_13_method_10_code (2 : Nat) (Option.some FieldType.boolean)) ∈ gtb := gtb_c7 136 (by decide +kernel) rfl
set_option maxHeartbeats 4000000 in
set_option maxRecDepth 100000 in
theorem T_X11_isSignHere (l : Launch) (D : va_G) (cy : Nat → ClassId) (a : Nat → Nat) (u : St) (hJ : MI a u) (gt : Int32) (hgt : fI u 0 8 = gt) (gs : Int32) (hgs : sgF u (fI u 0 6) = gs) (x1 : Int32)  : Mi l D cy (mW cy a) yX11_isSignHere (.code yX11_isSignHere cX11_isSignHere 2 (some .boolean)) (rmo 1 21) [.ref (a 0), .int x1] u (fun (r : Int32) (u' : St) => (((gt.toInt = 5 ∧ gs = x1) ∧ r = 1) ∨ (True ∧ r = 0)) ∧ (u' = u)) := by
  refine Mi.of (own := RX11) rfl (by decide) (Nat.le_of_ble_eq_true rfl) ?_
  have hT : Km0 u u := Km0.rf
  have hJ0 := hJ
  intro p e s m below meth c A Q ls C hret hO hl
  obtain ⟨hx, hb, hml, hown, ht, hK, hA⟩ := id C
  have hl : lv_has ls 2 [(0, .ref (a 0)), (1, .int x1)] := hl
  refine lv_aload_n hx hb dX11_isSignHere_0 rfl (lv_at hl 0 rfl) ?_
  have g1 : 0 ≤ gt.toInt ∧ gt.toInt ≤ 5 := by have h := MI_8 hJ0; rw [hgt] at h; exact h
  refine gf_RX11_208 (v := .int gt) C hO 0 mW_0 (congrArg (fun z : Int32 => some (Value.int z)) hgt) dX11_isSignHere_1 ?_
  refine lv_iconst (v := 5) hx hb dX11_isSignHere_4 (by decide) ?_
  refine cs_ne (tgt := 24) (X := (gt).toInt) (Y := 5) hx hb dX11_isSignHere_5 (by decide) rfl rfl (fun c2 => ?_) (fun c2 => ?_)
  · refine lv_iconst (v := 0) hx hb dX11_isSignHere_24 (by decide) ?_
    refine hret _ _ _ _ _ _ dX11_isSignHere_25 rfl ?_ hO
    exact ⟨Or.inr ⟨trivial, rfl⟩, rfl⟩
  · refine lv_aload_n hx hb dX11_isSignHere_8 rfl (lv_at hl 0 rfl) ?_
    refine lv_aload_n hx hb dX11_isSignHere_9 rfl (lv_at hl 0 rfl) ?_
    have g3 : 0 ≤ (fI u 0 6).toInt ∧ (fI u 0 6).toInt ≤ 1600 := by have h := MI_6 hJ0; exact h
    refine gf_RX11_201 (v := .int (fI u 0 6)) C hO 0 mW_0 rfl dX11_isSignHere_10 ?_
    refine cVi (w := mW cy a) (As := [.int (fI u 0 6)]) (rest := []) C hO (T_X11_sign l D cy a _ (by exact hJ) ((fI u 0 6)) (by first | omega | decide)) (cwV 1 ht (gV wd_1560 wd_1562 wd_49 wd_121 wd_1563) rfl rfl rfl hd_yX11_sign ⟨Nat.le_of_ble_eq_true rfl, Nat.le_of_ble_eq_true rfl⟩) 0 rfl mW_0 rfl rfl hl.1 (Nat.le_of_ble_eq_true rfl) dX11_isSignHere_13 rfl ⟨Nat.zero_le _, Nat.zero_le _⟩ (fun r4 u5 H locs hp6 hO => ?_)
    obtain ⟨hr4, hu5⟩ := hp6
    rw [hu5] at hO
    have g7 : 0 ≤ (fI u 0 3).toInt ∧ (fI u 0 3).toInt ≤ 1600 := by have h := MI_3 hJ0; exact h
    have gr4 : (0 ≤ r4.toInt ∧ r4.toInt ≤ 255) ∧ (r4.toInt = 0 ∨ ((fI u 0 6) : Int32).toInt < ((fI u 0 3)).toInt) := by have h := sgF_b (u := _) (k := (fI u 0 6)); rw [← hr4] at h; exact h
    have hr4 : r4 = sgF u (fI u 0 6) := hr4
    refine lv_iload_n hx hb dX11_isSignHere_16 rfl (lv_at hl 1 rfl) ?_
    refine cs_ne (tgt := 24) (X := (r4).toInt) (Y := (x1).toInt) hx hb dX11_isSignHere_17 (by decide) rfl rfl (fun c8 => ?_) (fun c8 => ?_)
    · refine lv_iconst (v := 0) hx hb dX11_isSignHere_24 (by decide) ?_
      refine hret _ _ _ _ _ _ dX11_isSignHere_25 rfl ?_ hO
      exact ⟨Or.inr ⟨trivial, rfl⟩, rfl⟩
    · refine lv_iconst (v := 1) hx hb dX11_isSignHere_20 (by decide) ?_
      refine lv_goto (tgt := 25) hx hb dX11_isSignHere_21 (by decide) ?_
      refine hret _ _ _ _ _ _ dX11_isSignHere_25 rfl ?_ hO
      exact ⟨Or.inl ⟨⟨by omega, (by have e1 := hr4; rw [hgs] at e1; rw [← e1]; exact i32_eq.mpr (by omega))⟩, rfl⟩, rfl⟩
