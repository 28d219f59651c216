/-- the sign at a place -/
def sgF (u : St) (k : Int32) : Int32 := if k.toInt < (fI u 0 3).toInt then (fA u 2 k.toNatClampNeg) &&& 255 else 0
theorem sgF_b {u : St} {k : Int32} : (0 ≤ (sgF u k).toInt ∧ (sgF u k).toInt ≤ 255) ∧ ((sgF u k).toInt = 0 ∨ k.toInt < (fI u 0 3).toInt) := by
  unfold sgF
  by_cases h : k.toInt < (fI u 0 3).toInt
  · rw [if_pos h]
    exact ⟨i_andr (y := 255) rfl (by decide), Or.inr h⟩
  · rw [if_neg h]
    exact ⟨by decide, Or.inl rfl⟩
theorem sgF_eq {u v : St} {k : Int32} (h2 : fA v 2 = fA u 2) (h3 : fI v 0 3 = fI u 0 3) : sgF v k = sgF u k := by
  unfold sgF
  rw [h2, h3]
theorem dX11_sign_0 : decode cX11_sign 0 = .ok (.iload_n 1, 1) := by decide +kernel
theorem dX11_sign_1 : decode cX11_sign 1 = .ok (.aload_n 0, 1) := by decide +kernel
theorem dX11_sign_2 : decode cX11_sign 2 = .ok (.getfield 152, 3) := by decide +kernel
theorem dX11_sign_5 : decode cX11_sign 5 = .ok (.if_icmp .ge 16, 3) := by decide +kernel
theorem dX11_sign_8 : decode cX11_sign 8 = .ok (.aload_n 0, 1) := by decide +kernel
theorem dX11_sign_9 : decode cX11_sign 9 = .ok (.getfield 13, 3) := by decide +kernel
theorem dX11_sign_12 : decode cX11_sign 12 = .ok (.iload_n 1, 1) := by decide +kernel
theorem dX11_sign_13 : decode cX11_sign 13 = .ok (.baload, 1) := by decide +kernel
theorem dX11_sign_14 : decode cX11_sign 14 = .ok (.sipush 255, 3) := by decide +kernel
theorem dX11_sign_17 : decode cX11_sign 17 = .ok (.iand, 1) := by decide +kernel
theorem dX11_sign_18 : decode cX11_sign 18 = .ok (.goto 4, 3) := by decide +kernel
theorem dX11_sign_21 : decode cX11_sign 21 = .ok (.iconst 0, 1) := by decide +kernel
theorem dX11_sign_22 : decode cX11_sign 22 = .ok (.ireturn, 1) := by decide +kernel
theorem wd_1563 : (Cond.code ⟨"WebCourtModel", "sign", "(I)I"⟩ prog_13_method_2_code (2 : Nat) (Option.some FieldType.int)) ∈ gtb := gtb_c7 14 (by decide +kernel) rfl
theorem wd_1359 : (Cond.fieldLink "WebCourtModel" (152 : Nat) "WebCourtModel" "size" "I") ∈ gtb := gtb_c6 50 (by decide +kernel) rfl
theorem gf_RX11_152 {p : Program} {l : Launch} {e : Env} {R : Room} {s : State} {m : MethodId} {args : Array Value} {below : List Frame} {meth : Method} {c : Code} {H : Heap} {locs : List Loc} {cells slots : Nat} {Q : State → Prop} {cc : ByteArray} {pc nL : Nat} {ls : Array Slot} {rest : List Value} {D : va_G} {cy : Nat → ClassId} {A : Nat → Prop} {ws : va_W} {b : Nat} {fs : List Value} {v : Value} (C : Cx p s m args c cc nL RX11 D cy A) (hO : Wo D A ws s.heap H locs) (q0 : Nat) (he : ws[q0]? = some (b, .inr (11, fs))) (hv : fs[3]? = some v) (hdg : decode cc pc = .ok (.getfield 152, 3)) (kk : W p l e R s m args below meth c H locs cells slots Q (F0 m (pc + 3) ls (v :: rest))) : W p l e R s m args below meth c H locs cells slots Q (F0 m pc ls (.ref b :: rest)) := gF (k := 3) C hO q0 he rfl inFX11 (by decide) wd_1359 rfl hv hdg kk
theorem wd_1357 : (Cond.fieldLink "WebCourtModel" (13 : Nat) "WebCourtModel" "text" "[B") ∈ gtb := gtb_c6 48 (by decide +kernel) rfl
theorem gf_RX11_13 {p : Program} {l : Launch} {e : Env} {R : Room} {s : State} {m : MethodId} {args : Array Value} {below : List Frame} {meth : Method} {c : Code} {H : Heap} {locs : List Loc} {cells slots : Nat} {Q : State → Prop} {cc : ByteArray} {pc nL : Nat} {ls : Array Slot} {rest : List Value} {D : va_G} {cy : Nat → ClassId} {A : Nat → Prop} {ws : va_W} {b : Nat} {fs : List Value} {v : Value} (C : Cx p s m args c cc nL RX11 D cy A) (hO : Wo D A ws s.heap H locs) (q0 : Nat) (he : ws[q0]? = some (b, .inr (11, fs))) (hv : fs[1]? = some v) (hdg : decode cc pc = .ok (.getfield 13, 3)) (kk : W p l e R s m args below meth c H locs cells slots Q (F0 m (pc + 3) ls (v :: rest))) : W p l e R s m args below meth c H locs cells slots Q (F0 m pc ls (.ref b :: rest)) := gF (k := 1) C hO q0 he rfl inFX11 (by decide) wd_1357 rfl hv hdg kk
set_option maxHeartbeats 4000000 in
set_option maxRecDepth 100000 in
theorem T_X11_sign (l : Launch) (D : va_G) (cy : Nat → ClassId) (a : Nat → Nat) (u : St) (hJ : MI a u) (x1 : Int32) (hx_x1 : 0 ≤ x1.toInt ∧ x1.toInt ≤ 1601) : Mi l D cy (mW cy a) yX11_sign (.code yX11_sign cX11_sign 2 (some .int)) (rmo 0 0) [.ref (a 0), .int x1] u (fun (r : Int32) (u' : St) => (r = sgF u x1) ∧ (u' = u)) := by
  refine Mi.of (own := RX11) rfl (by decide) (Nat.le_of_ble_eq_true rfl) ?_
  have hT : Km0 u u := Km0.rf
  have hJ0 := hJ
  intro p e s m below meth c A Q ls C hret hO hl
  obtain ⟨hx, hb, hml, hown, ht, hK, hA⟩ := id C
  have hl : lv_has ls 2 [(0, .ref (a 0)), (1, .int x1)] := hl
  refine lv_iload_n hx hb dX11_sign_0 rfl (lv_at hl 1 rfl) ?_
  refine lv_aload_n hx hb dX11_sign_1 rfl (lv_at hl 0 rfl) ?_
  have g1 : 0 ≤ (fI u 0 3).toInt ∧ (fI u 0 3).toInt ≤ 1600 := by have h := MI_3 hJ0; exact h
  refine gf_RX11_152 (v := .int (fI u 0 3)) C hO 0 mW_0 rfl dX11_sign_2 ?_
  refine cs_ge (tgt := 21) (X := (x1).toInt) (Y := ((fI u 0 3)).toInt) hx hb dX11_sign_5 (by decide) rfl rfl (fun c2 => ?_) (fun c2 => ?_)
  · refine lv_iconst (v := 0) hx hb dX11_sign_21 (by decide) ?_
    refine hret _ _ _ _ _ _ dX11_sign_22 rfl ?_ hO
    exact ⟨(by unfold sgF; rw [if_neg (by omega)]), rfl⟩
  · refine lv_aload_n hx hb dX11_sign_8 rfl (lv_at hl 0 rfl) ?_
    refine gf_RX11_13 (v := .ref (a 2)) C hO 0 mW_0 rfl dX11_sign_9 ?_
    refine lv_iload_n hx hb dX11_sign_12 rfl (lv_at hl 1 rfl) ?_
    refine aB C hO 2 mW_2 (i_in (X := (x1).toInt) rfl (by omega) (by omega)) dX11_sign_13 ?_
    refine lv_topi (fun w3 ew3 => ?_)
    refine lv_sipush (v := 255) hx hb dX11_sign_14 (by decide) ?_
    refine lv_iand hx hb dX11_sign_17 ?_
    refine lv_topi (fun z4 ez4 => ?_)
    have g5 : 0 ≤ z4.toInt ∧ z4.toInt ≤ 255 := by rw [ez4]; exact i_andr rfl (by omega)
    refine lv_goto (tgt := 22) hx hb dX11_sign_18 (by decide) ?_
    refine hret _ _ _ _ _ _ dX11_sign_22 rfl ?_ hO
    exact ⟨(by unfold sgF; rw [if_pos (by omega), ez4, ew3]), rfl⟩
theorem dX11_isGood_0 : decode cX11_isGood 0 = .ok (.aload_n 0, 1) := by decide +kernel
theorem dX11_isGood_1 : decode cX11_isGood 1 = .ok (.getfield 155, 3) := by decide +kernel
theorem dX11_isGood_4 : decode cX11_isGood 4 = .ok (.ifCond .ne 7, 3) := by decide +kernel
theorem dX11_isGood_7 : decode cX11_isGood 7 = .ok (.iconst 1, 1) := by decide +kernel
theorem dX11_isGood_8 : decode cX11_isGood 8 = .ok (.goto 4, 3) := by decide +kernel
theorem dX11_isGood_11 : decode cX11_isGood 11 = .ok (.iconst 0, 1) := by decide +kernel
theorem dX11_isGood_12 : decode cX11_isGood 12 = .ok (.ireturn, 1) := by decide +kernel
theorem wd_1599 : (Cond.code ⟨"WebCourtModel", "isGood", "()Z"⟩ prog_13_method_6_code (1 : Nat) (Option.some FieldType.boolean)) ∈ gtb := gtb_c7 50 (by decide +kernel) rfl
set_option maxHeartbeats 4000000 in
set_option maxRecDepth 100000 in
theorem T_X11_isGood (l : Launch) (D : va_G) (cy : Nat → ClassId) (a : Nat → Nat) (u : St) (hJ : MI a u) (gf : Int32) (hgf : fI u 0 4 = gf)   : Mi l D cy (mW cy a) yX11_isGood (.code yX11_isGood cX11_isGood 1 (some .boolean)) (rmo 0 0) [.ref (a 0)] u (fun (r : Int32) (u' : St) => (((gf.toInt = 0) ∧ r = 1) ∨ ((¬ gf.toInt = 0) ∧ r = 0)) ∧ (u' = u)) := by
  refine Mi.of (own := RX11) rfl (by decide) (Nat.le_of_ble_eq_true rfl) ?_
  have hT : Km0 u u := Km0.rf
  have hJ0 := hJ
  intro p e s m below meth c A Q ls C hret hO hl
  obtain ⟨hx, hb, hml, hown, ht, hK, hA⟩ := id C
  have hl : lv_has ls 1 [(0, .ref (a 0))] := hl
  refine lv_aload_n hx hb dX11_isGood_0 rfl (lv_at hl 0 rfl) ?_
  have g1 : 0 ≤ gf.toInt ∧ gf.toInt ≤ 5 := by have h := MI_4 hJ0; rw [hgf] at h; exact h
  refine gf_RX11_155 (v := .int gf) C hO 0 mW_0 (congrArg (fun z : Int32 => some (Value.int z)) hgf) dX11_isGood_1 ?_
  refine bs_ne (tgt := 11) (X := (gf).toInt) hx hb dX11_isGood_4 (by decide) rfl (fun c2 => ?_) (fun c2 => ?_)
  · refine lv_iconst (v := 0) hx hb dX11_isGood_11 (by decide) ?_
    refine hret _ _ _ _ _ _ dX11_isGood_12 rfl ?_ hO
    exact ⟨Or.inr ⟨by first | trivial | omega, rfl⟩, rfl⟩
  · refine lv_iconst (v := 1) hx hb dX11_isGood_7 (by decide) ?_
    refine lv_goto (tgt := 12) hx hb dX11_isGood_8 (by decide) ?_
    refine hret _ _ _ _ _ _ dX11_isGood_12 rfl ?_ hO
    exact ⟨Or.inl ⟨by omega, rfl⟩, rfl⟩
theorem dX11_isKept_0 : decode cX11_isKept 0 = .ok (.lload_n 0, 1) := by decide +kernel
theorem dX11_isKept_1 : decode cX11_isKept 1 = .ok (.ldc2_w 158, 3) := by decide +kernel
theorem dX11_isKept_4 : decode cX11_isKept 4 = .ok (.lcmp, 1) := by decide +kernel
theorem dX11_isKept_5 : decode cX11_isKept 5 = .ok (.ifCond .eq 75, 3) := by decide +kernel
theorem dX11_isKept_8 : decode cX11_isKept 8 = .ok (.lload_n 0, 1) := by decide +kernel
theorem dX11_isKept_9 : decode cX11_isKept 9 = .ok (.ldc2_w 160, 3) := by decide +kernel
theorem dX11_isKept_12 : decode cX11_isKept 12 = .ok (.lcmp, 1) := by decide +kernel
theorem dX11_isKept_13 : decode cX11_isKept 13 = .ok (.ifCond .eq 67, 3) := by decide +kernel
theorem dX11_isKept_16 : decode cX11_isKept 16 = .ok (.lload_n 0, 1) := by decide +kernel
theorem dX11_isKept_17 : decode cX11_isKept 17 = .ok (.ldc2_w 162, 3) := by decide +kernel
theorem dX11_isKept_20 : decode cX11_isKept 20 = .ok (.lcmp, 1) := by decide +kernel
theorem dX11_isKept_21 : decode cX11_isKept 21 = .ok (.ifCond .eq 59, 3) := by decide +kernel
theorem dX11_isKept_24 : decode cX11_isKept 24 = .ok (.lload_n 0, 1) := by decide +kernel
theorem dX11_isKept_25 : decode cX11_isKept 25 = .ok (.ldc2_w 164, 3) := by decide +kernel
theorem dX11_isKept_28 : decode cX11_isKept 28 = .ok (.lcmp, 1) := by decide +kernel
theorem dX11_isKept_29 : decode cX11_isKept 29 = .ok (.ifCond .eq 51, 3) := by decide +kernel
theorem dX11_isKept_32 : decode cX11_isKept 32 = .ok (.lload_n 0, 1) := by decide +kernel
theorem dX11_isKept_33 : decode cX11_isKept 33 = .ok (.ldc2_w 166, 3) := by decide +kernel
theorem dX11_isKept_36 : decode cX11_isKept 36 = .ok (.lcmp, 1) := by decide +kernel
theorem dX11_isKept_37 : decode cX11_isKept 37 = .ok (.ifCond .eq 43, 3) := by decide +kernel
theorem dX11_isKept_40 : decode cX11_isKept 40 = .ok (.lload_n 0, 1) := by decide +kernel
theorem dX11_isKept_41 : decode cX11_isKept 41 = .ok (.ldc2_w 168, 3) := by decide +kernel
theorem dX11_isKept_44 : decode cX11_isKept 44 = .ok (.lcmp, 1) := by decide +kernel
theorem dX11_isKept_45 : decode cX11_isKept 45 = .ok (.ifCond .eq 35, 3) := by decide +kernel
theorem dX11_isKept_48 : decode cX11_isKept 48 = .ok (.lload_n 0, 1) := by decide +kernel
theorem dX11_isKept_49 : decode cX11_isKept 49 = .ok (.ldc2_w 170, 3) := by decide +kernel
theorem dX11_isKept_52 : decode cX11_isKept 52 = .ok (.lcmp, 1) := by decide +kernel
theorem dX11_isKept_53 : decode cX11_isKept 53 = .ok (.ifCond .eq 27, 3) := by decide +kernel
theorem dX11_isKept_56 : decode cX11_isKept 56 = .ok (.lload_n 0, 1) := by decide +kernel
theorem dX11_isKept_57 : decode cX11_isKept 57 = .ok (.ldc2_w 172, 3) := by decide +kernel
theorem dX11_isKept_60 : decode cX11_isKept 60 = .ok (.lcmp, 1) := by decide +kernel
theorem dX11_isKept_61 : decode cX11_isKept 61 = .ok (.ifCond .eq 19, 3) := by decide +kernel
theorem dX11_isKept_64 : decode cX11_isKept 64 = .ok (.lload_n 0, 1) := by decide +kernel
theorem dX11_isKept_65 : decode cX11_isKept 65 = .ok (.ldc2_w 174, 3) := by decide +kernel
theorem dX11_isKept_68 : decode cX11_isKept 68 = .ok (.lcmp, 1) := by decide +kernel
theorem dX11_isKept_69 : decode cX11_isKept 69 = .ok (.ifCond .eq 11, 3) := by decide +kernel
theorem dX11_isKept_72 : decode cX11_isKept 72 = .ok (.lload_n 0, 1) := by decide +kernel
theorem dX11_isKept_73 : decode cX11_isKept 73 = .ok (.ldc2_w 176, 3) := by decide +kernel
theorem dX11_isKept_76 : decode cX11_isKept 76 = .ok (.lcmp, 1) := by decide +kernel
theorem dX11_isKept_77 : decode cX11_isKept 77 = .ok (.ifCond .ne 7, 3) := by decide +kernel
theorem dX11_isKept_80 : decode cX11_isKept 80 = .ok (.iconst 1, 1) := by decide +kernel
theorem dX11_isKept_81 : decode cX11_isKept 81 = .ok (.goto 4, 3) := by decide +kernel
theorem dX11_isKept_84 : decode cX11_isKept 84 = .ok (.iconst 0, 1) := by decide +kernel
theorem dX11_isKept_85 : decode cX11_isKept 85 = .ok (.istore_n 2, 1) := by decide +kernel
theorem dX11_isKept_86 : decode cX11_isKept 86 = .ok (.iload_n 2, 1) := by decide +kernel
theorem dX11_isKept_87 : decode cX11_isKept 87 = .ok (.ifCond .ne 83, 3) := by decide +kernel
theorem dX11_isKept_90 : decode cX11_isKept 90 = .ok (.lload_n 0, 1) := by decide +kernel
theorem dX11_isKept_91 : decode cX11_isKept 91 = .ok (.ldc2_w 178, 3) := by decide +kernel
theorem dX11_isKept_94 : decode cX11_isKept 94 = .ok (.lcmp, 1) := by decide +kernel
theorem dX11_isKept_95 : decode cX11_isKept 95 = .ok (.ifCond .eq 75, 3) := by decide +kernel
theorem dX11_isKept_98 : decode cX11_isKept 98 = .ok (.lload_n 0, 1) := by decide +kernel
theorem dX11_isKept_99 : decode cX11_isKept 99 = .ok (.ldc2_w 180, 3) := by decide +kernel
theorem dX11_isKept_102 : decode cX11_isKept 102 = .ok (.lcmp, 1) := by decide +kernel
theorem dX11_isKept_103 : decode cX11_isKept 103 = .ok (.ifCond .eq 67, 3) := by decide +kernel
theorem dX11_isKept_106 : decode cX11_isKept 106 = .ok (.lload_n 0, 1) := by decide +kernel
theorem dX11_isKept_107 : decode cX11_isKept 107 = .ok (.ldc2_w 182, 3) := by decide +kernel
theorem dX11_isKept_110 : decode cX11_isKept 110 = .ok (.lcmp, 1) := by decide +kernel
theorem dX11_isKept_111 : decode cX11_isKept 111 = .ok (.ifCond .eq 59, 3) := by decide +kernel
theorem dX11_isKept_114 : decode cX11_isKept 114 = .ok (.lload_n 0, 1) := by decide +kernel
theorem dX11_isKept_115 : decode cX11_isKept 115 = .ok (.ldc2_w 184, 3) := by decide +kernel
theorem dX11_isKept_118 : decode cX11_isKept 118 = .ok (.lcmp, 1) := by decide +kernel
theorem dX11_isKept_119 : decode cX11_isKept 119 = .ok (.ifCond .eq 51, 3) := by decide +kernel
theorem dX11_isKept_122 : decode cX11_isKept 122 = .ok (.lload_n 0, 1) := by decide +kernel
theorem dX11_isKept_123 : decode cX11_isKept 123 = .ok (.ldc2_w 186, 3) := by decide +kernel
theorem dX11_isKept_126 : decode cX11_isKept 126 = .ok (.lcmp, 1) := by decide +kernel
theorem dX11_isKept_127 : decode cX11_isKept 127 = .ok (.ifCond .eq 43, 3) := by decide +kernel
theorem dX11_isKept_130 : decode cX11_isKept 130 = .ok (.lload_n 0, 1) := by decide +kernel
theorem dX11_isKept_131 : decode cX11_isKept 131 = .ok (.ldc2_w 188, 3) := by decide +kernel
theorem dX11_isKept_134 : decode cX11_isKept 134 = .ok (.lcmp, 1) := by decide +kernel
theorem dX11_isKept_135 : decode cX11_isKept 135 = .ok (.ifCond .eq 35, 3) := by decide +kernel
theorem dX11_isKept_138 : decode cX11_isKept 138 = .ok (.lload_n 0, 1) := by decide +kernel
theorem dX11_isKept_139 : decode cX11_isKept 139 = .ok (.ldc2_w 190, 3) := by decide +kernel
theorem dX11_isKept_142 : decode cX11_isKept 142 = .ok (.lcmp, 1) := by decide +kernel
theorem dX11_isKept_143 : decode cX11_isKept 143 = .ok (.ifCond .eq 27, 3) := by decide +kernel
theorem dX11_isKept_146 : decode cX11_isKept 146 = .ok (.lload_n 0, 1) := by decide +kernel
theorem dX11_isKept_147 : decode cX11_isKept 147 = .ok (.ldc2_w 192, 3) := by decide +kernel
theorem dX11_isKept_150 : decode cX11_isKept 150 = .ok (.lcmp, 1) := by decide +kernel
theorem dX11_isKept_151 : decode cX11_isKept 151 = .ok (.ifCond .eq 19, 3) := by decide +kernel
theorem dX11_isKept_154 : decode cX11_isKept 154 = .ok (.lload_n 0, 1) := by decide +kernel
theorem dX11_isKept_155 : decode cX11_isKept 155 = .ok (.ldc2_w 194, 3) := by decide +kernel
theorem dX11_isKept_158 : decode cX11_isKept 158 = .ok (.lcmp, 1) := by decide +kernel
theorem dX11_isKept_159 : decode cX11_isKept 159 = .ok (.ifCond .eq 11, 3) := by decide +kernel
theorem dX11_isKept_162 : decode cX11_isKept 162 = .ok (.lload_n 0, 1) := by decide +kernel
theorem dX11_isKept_163 : decode cX11_isKept 163 = .ok (.ldc2_w 196, 3) := by decide +kernel
theorem dX11_isKept_166 : decode cX11_isKept 166 = .ok (.lcmp, 1) := by decide +kernel
theorem dX11_isKept_167 : decode cX11_isKept 167 = .ok (.ifCond .ne 7, 3) := by decide +kernel
theorem dX11_isKept_170 : decode cX11_isKept 170 = .ok (.iconst 1, 1) := by decide +kernel
theorem dX11_isKept_171 : decode cX11_isKept 171 = .ok (.goto 4, 3) := by decide +kernel
theorem dX11_isKept_174 : decode cX11_isKept 174 = .ok (.iconst 0, 1) := by decide +kernel
theorem dX11_isKept_175 : decode cX11_isKept 175 = .ok (.ireturn, 1) := by decide +kernel
theorem wd_1569 : (Cond.code ⟨"WebCourtModel", "isKept", "(J)Z"⟩ prog_13_method_7_code (3 : Nat) (Option.some FieldType.boolean)) ∈ gtb := gtb_c7 20 (by decide +kernel) rfl
theorem wd_1570 : (Cond.constantLong "WebCourtModel" (158 : Nat) (1802399604 : Int64)) ∈ gtb := gtb_c7 21 (by decide +kernel) rfl
theorem wd_1571 : (Cond.constantLong "WebCourtModel" (160 : Nat) (1818848869 : Int64)) ∈ gtb := gtb_c7 22 (by decide +kernel) rfl
theorem wd_1572 : (Cond.constantLong "WebCourtModel" (162 : Nat) (126943821523833 : Int64)) ∈ gtb := gtb_c7 23 (by decide +kernel) rfl
theorem wd_1573 : (Cond.constantLong "WebCourtModel" (164 : Nat) (1886152033 : Int64)) ∈ gtb := gtb_c7 24 (by decide +kernel) rfl
theorem wd_1574 : (Cond.constantLong "WebCourtModel" (166 : Nat) (126943973305959 : Int64)) ∈ gtb := gtb_c7 25 (by decide +kernel) rfl
theorem wd_1575 : (Cond.constantLong "WebCourtModel" (168 : Nat) (1667330917 : Int64)) ∈ gtb := gtb_c7 26 (by decide +kernel) rfl
theorem wd_1576 : (Cond.constantLong "WebCourtModel" (170 : Nat) (24948 : Int64)) ∈ gtb := gtb_c7 27 (by decide +kernel) rfl
theorem wd_1577 : (Cond.constantLong "WebCourtModel" (172 : Nat) (123610859660403 : Int64)) ∈ gtb := gtb_c7 28 (by decide +kernel) rfl
theorem wd_1578 : (Cond.constantLong "WebCourtModel" (174 : Nat) (422608528232 : Int64)) ∈ gtb := gtb_c7 29 (by decide +kernel) rfl
theorem wd_1579 : (Cond.constantLong "WebCourtModel" (176 : Nat) (7102839 : Int64)) ∈ gtb := gtb_c7 30 (by decide +kernel) rfl
theorem wd_1580 : (Cond.constantLong "WebCourtModel" (178 : Nat) (1650549611 : Int64)) ∈ gtb := gtb_c7 31 (by decide +kernel) rfl
theorem wd_1581 : (Cond.constantLong "WebCourtModel" (180 : Nat) (1685217655 : Int64)) ∈ gtb := gtb_c7 32 (by decide +kernel) rfl
theorem wd_1582 : (Cond.constantLong "WebCourtModel" (182 : Nat) (1835101817 : Int64)) ∈ gtb := gtb_c7 33 (by decide +kernel) rfl
theorem wd_1583 : (Cond.constantLong "WebCourtModel" (184 : Nat) (108187649798757 : Int64)) ∈ gtb := gtb_c7 34 (by decide +kernel) rfl
theorem wd_1584 : (Cond.constantLong "WebCourtModel" (186 : Nat) (495873784179 : Int64)) ∈ gtb := gtb_c7 35 (by decide +kernel) rfl
theorem wd_1585 : (Cond.constantLong "WebCourtModel" (188 : Nat) (7039342 : Int64)) ∈ gtb := gtb_c7 36 (by decide +kernel) rfl
theorem wd_1586 : (Cond.constantLong "WebCourtModel" (190 : Nat) (1752135026 : Int64)) ∈ gtb := gtb_c7 37 (by decide +kernel) rfl
theorem wd_1587 : (Cond.constantLong "WebCourtModel" (192 : Nat) (28530 : Int64)) ∈ gtb := gtb_c7 38 (by decide +kernel) rfl
theorem wd_1588 : (Cond.constantLong "WebCourtModel" (194 : Nat) (6385252 : Int64)) ∈ gtb := gtb_c7 39 (by decide +kernel) rfl
theorem wd_1589 : (Cond.constantLong "WebCourtModel" (196 : Nat) (7237492 : Int64)) ∈ gtb := gtb_c7 40 (by decide +kernel) rfl
set_option maxHeartbeats 4000000 in
set_option maxRecDepth 100000 in
theorem T_X11_isKept (l : Launch) (D : va_G) (cy : Nat → ClassId) (a : Nat → Nat) (u : St) (hJ : MI a u) (x1 : Int64)  : Mi l D cy (mW cy a) yX11_isKept (.code yX11_isKept cX11_isKept 3 (some .boolean)) (rmo 0 0) [.long x1] u (fun (r : Int32) (u' : St) => (r = 0 ∨ r = 1) ∧ (u' = u)) := by
  refine Mi.of (own := RX11) rfl (by decide) (Nat.le_of_ble_eq_true rfl) ?_
  have hT : Km0 u u := Km0.rf
  have hJ0 := hJ
  intro p e s m below meth c A Q ls C hret hO hl
  obtain ⟨hx, hb, hml, hown, ht, hK, hA⟩ := id C
  have hl : lv_has ls 3 [(0, .long x1)] := hl
  refine lv_lload_n hx hb dX11_isKept_0 rfl (lv_at hl 0 rfl) ?_
  refine lv_ldc2 (v := 1802399604) hx hb hown (ht _ wd_1570) dX11_isKept_1 ?_
  refine W.lcmp hx hb dX11_isKept_4 ?_
  refine lv_topi (fun z1 ez1 => ?_)
  refine bs_eq (tgt := 80) (X := (z1).toInt) hx hb dX11_isKept_5 (by decide) rfl (fun c2 => ?_) (fun c2 => ?_)
  · have hj3 := lc_eq ez1 (by omega)
    refine lv_iconst (v := 1) hx hb dX11_isKept_80 (by decide) ?_
    refine lv_goto (tgt := 85) hx hb dX11_isKept_81 (by decide) ?_
    refine lv_istore_n (lv' := [(2, .int 1), (0, .long x1)]) hx hb dX11_isKept_85 rfl hl (by decide) rfl (fun ls hl => ?_)
    refine lv_iload_n hx hb dX11_isKept_86 rfl (lv_at hl 0 rfl) ?_
    refine bt_ne (tgt := 170) (X := 1) hx hb dX11_isKept_87 (by decide) rfl (by omega) ?_
    refine lv_iconst (v := 1) hx hb dX11_isKept_170 (by decide) ?_
    refine lv_goto (tgt := 175) hx hb dX11_isKept_171 (by decide) ?_
    refine hret _ _ _ _ _ _ dX11_isKept_175 rfl ?_ hO
    exact ⟨Or.inr rfl, rfl⟩
  · have hj4 := lc_ne ez1 (by omega)
    refine lv_lload_n hx hb dX11_isKept_8 rfl (lv_at hl 0 rfl) ?_
    refine lv_ldc2 (v := 1818848869) hx hb hown (ht _ wd_1571) dX11_isKept_9 ?_
    refine W.lcmp hx hb dX11_isKept_12 ?_
    refine lv_topi (fun z5 ez5 => ?_)
    refine bs_eq (tgt := 80) (X := (z5).toInt) hx hb dX11_isKept_13 (by decide) rfl (fun c6 => ?_) (fun c6 => ?_)
    · have hj7 := lc_eq ez5 (by omega)
      refine lv_iconst (v := 1) hx hb dX11_isKept_80 (by decide) ?_
      refine lv_goto (tgt := 85) hx hb dX11_isKept_81 (by decide) ?_
      refine lv_istore_n (lv' := [(2, .int 1), (0, .long x1)]) hx hb dX11_isKept_85 rfl hl (by decide) rfl (fun ls hl => ?_)
      refine lv_iload_n hx hb dX11_isKept_86 rfl (lv_at hl 0 rfl) ?_
      refine bt_ne (tgt := 170) (X := 1) hx hb dX11_isKept_87 (by decide) rfl (by omega) ?_
      refine lv_iconst (v := 1) hx hb dX11_isKept_170 (by decide) ?_
      refine lv_goto (tgt := 175) hx hb dX11_isKept_171 (by decide) ?_
      refine hret _ _ _ _ _ _ dX11_isKept_175 rfl ?_ hO
      exact ⟨Or.inr rfl, rfl⟩
    · have hj8 := lc_ne ez5 (by omega)
      refine lv_lload_n hx hb dX11_isKept_16 rfl (lv_at hl 0 rfl) ?_
      refine lv_ldc2 (v := 126943821523833) hx hb hown (ht _ wd_1572) dX11_isKept_17 ?_
      refine W.lcmp hx hb dX11_isKept_20 ?_
      refine lv_topi (fun z9 ez9 => ?_)
      refine bs_eq (tgt := 80) (X := (z9).toInt) hx hb dX11_isKept_21 (by decide) rfl (fun c10 => ?_) (fun c10 => ?_)
      · have hj11 := lc_eq ez9 (by omega)
        refine lv_iconst (v := 1) hx hb dX11_isKept_80 (by decide) ?_
        refine lv_goto (tgt := 85) hx hb dX11_isKept_81 (by decide) ?_
        refine lv_istore_n (lv' := [(2, .int 1), (0, .long x1)]) hx hb dX11_isKept_85 rfl hl (by decide) rfl (fun ls hl => ?_)
        refine lv_iload_n hx hb dX11_isKept_86 rfl (lv_at hl 0 rfl) ?_
        refine bt_ne (tgt := 170) (X := 1) hx hb dX11_isKept_87 (by decide) rfl (by omega) ?_
        refine lv_iconst (v := 1) hx hb dX11_isKept_170 (by decide) ?_
        refine lv_goto (tgt := 175) hx hb dX11_isKept_171 (by decide) ?_
        refine hret _ _ _ _ _ _ dX11_isKept_175 rfl ?_ hO
        exact ⟨Or.inr rfl, rfl⟩
      · have hj12 := lc_ne ez9 (by omega)
        refine lv_lload_n hx hb dX11_isKept_24 rfl (lv_at hl 0 rfl) ?_
        refine lv_ldc2 (v := 1886152033) hx hb hown (ht _ wd_1573) dX11_isKept_25 ?_
        refine W.lcmp hx hb dX11_isKept_28 ?_
        refine lv_topi (fun z13 ez13 => ?_)
        refine bs_eq (tgt := 80) (X := (z13).toInt) hx hb dX11_isKept_29 (by decide) rfl (fun c14 => ?_) (fun c14 => ?_)
        · have hj15 := lc_eq ez13 (by omega)
          refine lv_iconst (v := 1) hx hb dX11_isKept_80 (by decide) ?_
          refine lv_goto (tgt := 85) hx hb dX11_isKept_81 (by decide) ?_
          refine lv_istore_n (lv' := [(2, .int 1), (0, .long x1)]) hx hb dX11_isKept_85 rfl hl (by decide) rfl (fun ls hl => ?_)
          refine lv_iload_n hx hb dX11_isKept_86 rfl (lv_at hl 0 rfl) ?_
          refine bt_ne (tgt := 170) (X := 1) hx hb dX11_isKept_87 (by decide) rfl (by omega) ?_
          refine lv_iconst (v := 1) hx hb dX11_isKept_170 (by decide) ?_
          refine lv_goto (tgt := 175) hx hb dX11_isKept_171 (by decide) ?_
          refine hret _ _ _ _ _ _ dX11_isKept_175 rfl ?_ hO
          exact ⟨Or.inr rfl, rfl⟩
        · have hj16 := lc_ne ez13 (by omega)
          refine lv_lload_n hx hb dX11_isKept_32 rfl (lv_at hl 0 rfl) ?_
          refine lv_ldc2 (v := 126943973305959) hx hb hown (ht _ wd_1574) dX11_isKept_33 ?_
          refine W.lcmp hx hb dX11_isKept_36 ?_
          refine lv_topi (fun z17 ez17 => ?_)
          refine bs_eq (tgt := 80) (X := (z17).toInt) hx hb dX11_isKept_37 (by decide) rfl (fun c18 => ?_) (fun c18 => ?_)
          · have hj19 := lc_eq ez17 (by omega)
            refine lv_iconst (v := 1) hx hb dX11_isKept_80 (by decide) ?_
            refine lv_goto (tgt := 85) hx hb dX11_isKept_81 (by decide) ?_
            refine lv_istore_n (lv' := [(2, .int 1), (0, .long x1)]) hx hb dX11_isKept_85 rfl hl (by decide) rfl (fun ls hl => ?_)
            refine lv_iload_n hx hb dX11_isKept_86 rfl (lv_at hl 0 rfl) ?_
            refine bt_ne (tgt := 170) (X := 1) hx hb dX11_isKept_87 (by decide) rfl (by omega) ?_
            refine lv_iconst (v := 1) hx hb dX11_isKept_170 (by decide) ?_
            refine lv_goto (tgt := 175) hx hb dX11_isKept_171 (by decide) ?_
            refine hret _ _ _ _ _ _ dX11_isKept_175 rfl ?_ hO
            exact ⟨Or.inr rfl, rfl⟩
          · have hj20 := lc_ne ez17 (by omega)
            refine lv_lload_n hx hb dX11_isKept_40 rfl (lv_at hl 0 rfl) ?_
            refine lv_ldc2 (v := 1667330917) hx hb hown (ht _ wd_1575) dX11_isKept_41 ?_
            refine W.lcmp hx hb dX11_isKept_44 ?_
            refine lv_topi (fun z21 ez21 => ?_)
            refine bs_eq (tgt := 80) (X := (z21).toInt) hx hb dX11_isKept_45 (by decide) rfl (fun c22 => ?_) (fun c22 => ?_)
            · have hj23 := lc_eq ez21 (by omega)
              refine lv_iconst (v := 1) hx hb dX11_isKept_80 (by decide) ?_
              refine lv_goto (tgt := 85) hx hb dX11_isKept_81 (by decide) ?_
              refine lv_istore_n (lv' := [(2, .int 1), (0, .long x1)]) hx hb dX11_isKept_85 rfl hl (by decide) rfl (fun ls hl => ?_)
              refine lv_iload_n hx hb dX11_isKept_86 rfl (lv_at hl 0 rfl) ?_
              refine bt_ne (tgt := 170) (X := 1) hx hb dX11_isKept_87 (by decide) rfl (by omega) ?_
              refine lv_iconst (v := 1) hx hb dX11_isKept_170 (by decide) ?_
              refine lv_goto (tgt := 175) hx hb dX11_isKept_171 (by decide) ?_
              refine hret _ _ _ _ _ _ dX11_isKept_175 rfl ?_ hO
              exact ⟨Or.inr rfl, rfl⟩
            · have hj24 := lc_ne ez21 (by omega)
              refine lv_lload_n hx hb dX11_isKept_48 rfl (lv_at hl 0 rfl) ?_
              refine lv_ldc2 (v := 24948) hx hb hown (ht _ wd_1576) dX11_isKept_49 ?_
              refine W.lcmp hx hb dX11_isKept_52 ?_
              refine lv_topi (fun z25 ez25 => ?_)
              refine bs_eq (tgt := 80) (X := (z25).toInt) hx hb dX11_isKept_53 (by decide) rfl (fun c26 => ?_) (fun c26 => ?_)
              · have hj27 := lc_eq ez25 (by omega)
                refine lv_iconst (v := 1) hx hb dX11_isKept_80 (by decide) ?_
                refine lv_goto (tgt := 85) hx hb dX11_isKept_81 (by decide) ?_
                refine lv_istore_n (lv' := [(2, .int 1), (0, .long x1)]) hx hb dX11_isKept_85 rfl hl (by decide) rfl (fun ls hl => ?_)
                refine lv_iload_n hx hb dX11_isKept_86 rfl (lv_at hl 0 rfl) ?_
                refine bt_ne (tgt := 170) (X := 1) hx hb dX11_isKept_87 (by decide) rfl (by omega) ?_
                refine lv_iconst (v := 1) hx hb dX11_isKept_170 (by decide) ?_
                refine lv_goto (tgt := 175) hx hb dX11_isKept_171 (by decide) ?_
                refine hret _ _ _ _ _ _ dX11_isKept_175 rfl ?_ hO
                exact ⟨Or.inr rfl, rfl⟩
              · have hj28 := lc_ne ez25 (by omega)
                refine lv_lload_n hx hb dX11_isKept_56 rfl (lv_at hl 0 rfl) ?_
                refine lv_ldc2 (v := 123610859660403) hx hb hown (ht _ wd_1577) dX11_isKept_57 ?_
                refine W.lcmp hx hb dX11_isKept_60 ?_
                refine lv_topi (fun z29 ez29 => ?_)
                refine bs_eq (tgt := 80) (X := (z29).toInt) hx hb dX11_isKept_61 (by decide) rfl (fun c30 => ?_) (fun c30 => ?_)
                · have hj31 := lc_eq ez29 (by omega)
                  refine lv_iconst (v := 1) hx hb dX11_isKept_80 (by decide) ?_
                  refine lv_goto (tgt := 85) hx hb dX11_isKept_81 (by decide) ?_
                  refine lv_istore_n (lv' := [(2, .int 1), (0, .long x1)]) hx hb dX11_isKept_85 rfl hl (by decide) rfl (fun ls hl => ?_)
                  refine lv_iload_n hx hb dX11_isKept_86 rfl (lv_at hl 0 rfl) ?_
                  refine bt_ne (tgt := 170) (X := 1) hx hb dX11_isKept_87 (by decide) rfl (by omega) ?_
                  refine lv_iconst (v := 1) hx hb dX11_isKept_170 (by decide) ?_
                  refine lv_goto (tgt := 175) hx hb dX11_isKept_171 (by decide) ?_
                  refine hret _ _ _ _ _ _ dX11_isKept_175 rfl ?_ hO
                  exact ⟨Or.inr rfl, rfl⟩
                · have hj32 := lc_ne ez29 (by omega)
                  refine lv_lload_n hx hb dX11_isKept_64 rfl (lv_at hl 0 rfl) ?_
                  refine lv_ldc2 (v := 422608528232) hx hb hown (ht _ wd_1578) dX11_isKept_65 ?_
                  refine W.lcmp hx hb dX11_isKept_68 ?_
                  refine lv_topi (fun z33 ez33 => ?_)
                  refine bs_eq (tgt := 80) (X := (z33).toInt) hx hb dX11_isKept_69 (by decide) rfl (fun c34 => ?_) (fun c34 => ?_)
                  · have hj35 := lc_eq ez33 (by omega)
                    refine lv_iconst (v := 1) hx hb dX11_isKept_80 (by decide) ?_
                    refine lv_goto (tgt := 85) hx hb dX11_isKept_81 (by decide) ?_
                    refine lv_istore_n (lv' := [(2, .int 1), (0, .long x1)]) hx hb dX11_isKept_85 rfl hl (by decide) rfl (fun ls hl => ?_)
                    refine lv_iload_n hx hb dX11_isKept_86 rfl (lv_at hl 0 rfl) ?_
                    refine bt_ne (tgt := 170) (X := 1) hx hb dX11_isKept_87 (by decide) rfl (by omega) ?_
                    refine lv_iconst (v := 1) hx hb dX11_isKept_170 (by decide) ?_
                    refine lv_goto (tgt := 175) hx hb dX11_isKept_171 (by decide) ?_
                    refine hret _ _ _ _ _ _ dX11_isKept_175 rfl ?_ hO
                    exact ⟨Or.inr rfl, rfl⟩
                  · have hj36 := lc_ne ez33 (by omega)
                    refine lv_lload_n hx hb dX11_isKept_72 rfl (lv_at hl 0 rfl) ?_
                    refine lv_ldc2 (v := 7102839) hx hb hown (ht _ wd_1579) dX11_isKept_73 ?_
                    refine W.lcmp hx hb dX11_isKept_76 ?_
                    refine lv_topi (fun z37 ez37 => ?_)
                    refine bs_ne (tgt := 84) (X := (z37).toInt) hx hb dX11_isKept_77 (by decide) rfl (fun c38 => ?_) (fun c38 => ?_)
                    · have hj39 := lc_ne ez37 (by omega)
                      refine lv_iconst (v := 0) hx hb dX11_isKept_84 (by decide) ?_
                      refine lv_istore_n (lv' := [(2, .int 0), (0, .long x1)]) hx hb dX11_isKept_85 rfl hl (by decide) rfl (fun ls hl => ?_)
                      refine lv_iload_n hx hb dX11_isKept_86 rfl (lv_at hl 0 rfl) ?_
                      refine bn_ne (X := 0) hx hb dX11_isKept_87 rfl (by omega) ?_ (tgt := 170) (by decide)
                      refine lv_lload_n hx hb dX11_isKept_90 rfl (lv_at hl 1 rfl) ?_
                      refine lv_ldc2 (v := 1650549611) hx hb hown (ht _ wd_1580) dX11_isKept_91 ?_
                      refine W.lcmp hx hb dX11_isKept_94 ?_
                      refine lv_topi (fun z40 ez40 => ?_)
                      refine bs_eq (tgt := 170) (X := (z40).toInt) hx hb dX11_isKept_95 (by decide) rfl (fun c41 => ?_) (fun c41 => ?_)
                      · have hj42 := lc_eq ez40 (by omega)
                        refine lv_iconst (v := 1) hx hb dX11_isKept_170 (by decide) ?_
                        refine lv_goto (tgt := 175) hx hb dX11_isKept_171 (by decide) ?_
                        refine hret _ _ _ _ _ _ dX11_isKept_175 rfl ?_ hO
                        exact ⟨Or.inr rfl, rfl⟩
                      · have hj43 := lc_ne ez40 (by omega)
                        refine lv_lload_n hx hb dX11_isKept_98 rfl (lv_at hl 1 rfl) ?_
                        refine lv_ldc2 (v := 1685217655) hx hb hown (ht _ wd_1581) dX11_isKept_99 ?_
                        refine W.lcmp hx hb dX11_isKept_102 ?_
                        refine lv_topi (fun z44 ez44 => ?_)
                        refine bs_eq (tgt := 170) (X := (z44).toInt) hx hb dX11_isKept_103 (by decide) rfl (fun c45 => ?_) (fun c45 => ?_)
                        · have hj46 := lc_eq ez44 (by omega)
                          refine lv_iconst (v := 1) hx hb dX11_isKept_170 (by decide) ?_
                          refine lv_goto (tgt := 175) hx hb dX11_isKept_171 (by decide) ?_
                          refine hret _ _ _ _ _ _ dX11_isKept_175 rfl ?_ hO
                          exact ⟨Or.inr rfl, rfl⟩
                        · have hj47 := lc_ne ez44 (by omega)
                          refine lv_lload_n hx hb dX11_isKept_106 rfl (lv_at hl 1 rfl) ?_
                          refine lv_ldc2 (v := 1835101817) hx hb hown (ht _ wd_1582) dX11_isKept_107 ?_
                          refine W.lcmp hx hb dX11_isKept_110 ?_
                          refine lv_topi (fun z48 ez48 => ?_)
                          refine bs_eq (tgt := 170) (X := (z48).toInt) hx hb dX11_isKept_111 (by decide) rfl (fun c49 => ?_) (fun c49 => ?_)
                          · have hj50 := lc_eq ez48 (by omega)
                            refine lv_iconst (v := 1) hx hb dX11_isKept_170 (by decide) ?_
                            refine lv_goto (tgt := 175) hx hb dX11_isKept_171 (by decide) ?_
                            refine hret _ _ _ _ _ _ dX11_isKept_175 rfl ?_ hO
                            exact ⟨Or.inr rfl, rfl⟩
                          · have hj51 := lc_ne ez48 (by omega)
                            refine lv_lload_n hx hb dX11_isKept_114 rfl (lv_at hl 1 rfl) ?_
                            refine lv_ldc2 (v := 108187649798757) hx hb hown (ht _ wd_1583) dX11_isKept_115 ?_
                            refine W.lcmp hx hb dX11_isKept_118 ?_
                            refine lv_topi (fun z52 ez52 => ?_)
                            refine bs_eq (tgt := 170) (X := (z52).toInt) hx hb dX11_isKept_119 (by decide) rfl (fun c53 => ?_) (fun c53 => ?_)
                            · have hj54 := lc_eq ez52 (by omega)
                              refine lv_iconst (v := 1) hx hb dX11_isKept_170 (by decide) ?_
                              refine lv_goto (tgt := 175) hx hb dX11_isKept_171 (by decide) ?_
                              refine hret _ _ _ _ _ _ dX11_isKept_175 rfl ?_ hO
                              exact ⟨Or.inr rfl, rfl⟩
                            · have hj55 := lc_ne ez52 (by omega)
                              refine lv_lload_n hx hb dX11_isKept_122 rfl (lv_at hl 1 rfl) ?_
                              refine lv_ldc2 (v := 495873784179) hx hb hown (ht _ wd_1584) dX11_isKept_123 ?_
                              refine W.lcmp hx hb dX11_isKept_126 ?_
                              refine lv_topi (fun z56 ez56 => ?_)
                              refine bs_eq (tgt := 170) (X := (z56).toInt) hx hb dX11_isKept_127 (by decide) rfl (fun c57 => ?_) (fun c57 => ?_)
                              · have hj58 := lc_eq ez56 (by omega)
                                refine lv_iconst (v := 1) hx hb dX11_isKept_170 (by decide) ?_
                                refine lv_goto (tgt := 175) hx hb dX11_isKept_171 (by decide) ?_
                                refine hret _ _ _ _ _ _ dX11_isKept_175 rfl ?_ hO
                                exact ⟨Or.inr rfl, rfl⟩
                              · have hj59 := lc_ne ez56 (by omega)
                                refine lv_lload_n hx hb dX11_isKept_130 rfl (lv_at hl 1 rfl) ?_
                                refine lv_ldc2 (v := 7039342) hx hb hown (ht _ wd_1585) dX11_isKept_131 ?_
                                refine W.lcmp hx hb dX11_isKept_134 ?_
                                refine lv_topi (fun z60 ez60 => ?_)
                                refine bs_eq (tgt := 170) (X := (z60).toInt) hx hb dX11_isKept_135 (by decide) rfl (fun c61 => ?_) (fun c61 => ?_)
                                · have hj62 := lc_eq ez60 (by omega)
                                  refine lv_iconst (v := 1) hx hb dX11_isKept_170 (by decide) ?_
                                  refine lv_goto (tgt := 175) hx hb dX11_isKept_171 (by decide) ?_
                                  refine hret _ _ _ _ _ _ dX11_isKept_175 rfl ?_ hO
                                  exact ⟨Or.inr rfl, rfl⟩
                                · have hj63 := lc_ne ez60 (by omega)
                                  refine lv_lload_n hx hb dX11_isKept_138 rfl (lv_at hl 1 rfl) ?_
                                  refine lv_ldc2 (v := 1752135026) hx hb hown (ht _ wd_1586) dX11_isKept_139 ?_
                                  refine W.lcmp hx hb dX11_isKept_142 ?_
                                  refine lv_topi (fun z64 ez64 => ?_)
                                  refine bs_eq (tgt := 170) (X := (z64).toInt) hx hb dX11_isKept_143 (by decide) rfl (fun c65 => ?_) (fun c65 => ?_)
                                  · have hj66 := lc_eq ez64 (by omega)
                                    refine lv_iconst (v := 1) hx hb dX11_isKept_170 (by decide) ?_
                                    refine lv_goto (tgt := 175) hx hb dX11_isKept_171 (by decide) ?_
                                    refine hret _ _ _ _ _ _ dX11_isKept_175 rfl ?_ hO
                                    exact ⟨Or.inr rfl, rfl⟩
                                  · have hj67 := lc_ne ez64 (by omega)
                                    refine lv_lload_n hx hb dX11_isKept_146 rfl (lv_at hl 1 rfl) ?_
                                    refine lv_ldc2 (v := 28530) hx hb hown (ht _ wd_1587) dX11_isKept_147 ?_
                                    refine W.lcmp hx hb dX11_isKept_150 ?_
                                    refine lv_topi (fun z68 ez68 => ?_)
                                    refine bs_eq (tgt := 170) (X := (z68).toInt) hx hb dX11_isKept_151 (by decide) rfl (fun c69 => ?_) (fun c69 => ?_)
                                    · have hj70 := lc_eq ez68 (by omega)
                                      refine lv_iconst (v := 1) hx hb dX11_isKept_170 (by decide) ?_
                                      refine lv_goto (tgt := 175) hx hb dX11_isKept_171 (by decide) ?_
                                      refine hret _ _ _ _ _ _ dX11_isKept_175 rfl ?_ hO
                                      exact ⟨Or.inr rfl, rfl⟩
                                    · have hj71 := lc_ne ez68 (by omega)
                                      refine lv_lload_n hx hb dX11_isKept_154 rfl (lv_at hl 1 rfl) ?_
                                      refine lv_ldc2 (v := 6385252) hx hb hown (ht _ wd_1588) dX11_isKept_155 ?_
                                      refine W.lcmp hx hb dX11_isKept_158 ?_
                                      refine lv_topi (fun z72 ez72 => ?_)
                                      refine bs_eq (tgt := 170) (X := (z72).toInt) hx hb dX11_isKept_159 (by decide) rfl (fun c73 => ?_) (fun c73 => ?_)
                                      · have hj74 := lc_eq ez72 (by omega)
                                        refine lv_iconst (v := 1) hx hb dX11_isKept_170 (by decide) ?_
                                        refine lv_goto (tgt := 175) hx hb dX11_isKept_171 (by decide) ?_
                                        refine hret _ _ _ _ _ _ dX11_isKept_175 rfl ?_ hO
                                        exact ⟨Or.inr rfl, rfl⟩
                                      · have hj75 := lc_ne ez72 (by omega)
                                        refine lv_lload_n hx hb dX11_isKept_162 rfl (lv_at hl 1 rfl) ?_
                                        refine lv_ldc2 (v := 7237492) hx hb hown (ht _ wd_1589) dX11_isKept_163 ?_
                                        refine W.lcmp hx hb dX11_isKept_166 ?_
                                        refine lv_topi (fun z76 ez76 => ?_)
                                        refine bs_ne (tgt := 174) (X := (z76).toInt) hx hb dX11_isKept_167 (by decide) rfl (fun c77 => ?_) (fun c77 => ?_)
                                        · have hj78 := lc_ne ez76 (by omega)
                                          refine lv_iconst (v := 0) hx hb dX11_isKept_174 (by decide) ?_
                                          refine hret _ _ _ _ _ _ dX11_isKept_175 rfl ?_ hO
                                          exact ⟨Or.inl rfl, rfl⟩
                                        · have hj79 := lc_eq ez76 (by omega)
                                          refine lv_iconst (v := 1) hx hb dX11_isKept_170 (by decide) ?_
                                          refine lv_goto (tgt := 175) hx hb dX11_isKept_171 (by decide) ?_
                                          refine hret _ _ _ _ _ _ dX11_isKept_175 rfl ?_ hO
                                          exact ⟨Or.inr rfl, rfl⟩
                    · have hj80 := lc_eq ez37 (by omega)
                      refine lv_iconst (v := 1) hx hb dX11_isKept_80 (by decide) ?_
                      refine lv_goto (tgt := 85) hx hb dX11_isKept_81 (by decide) ?_
                      refine lv_istore_n (lv' := [(2, .int 1), (0, .long x1)]) hx hb dX11_isKept_85 rfl hl (by decide) rfl (fun ls hl => ?_)
                      refine lv_iload_n hx hb dX11_isKept_86 rfl (lv_at hl 0 rfl) ?_
                      refine bt_ne (tgt := 170) (X := 1) hx hb dX11_isKept_87 (by decide) rfl (by omega) ?_
                      refine lv_iconst (v := 1) hx hb dX11_isKept_170 (by decide) ?_
                      refine lv_goto (tgt := 175) hx hb dX11_isKept_171 (by decide) ?_
                      refine hret _ _ _ _ _ _ dX11_isKept_175 rfl ?_ hO
                      exact ⟨Or.inr rfl, rfl⟩
theorem dX11_isSign_0 : decode cX11_isSign 0 = .ok (.iload_n 0, 1) := by decide +kernel
theorem dX11_isSign_1 : decode cX11_isSign 1 = .ok (.bipush 59, 2) := by decide +kernel
theorem dX11_isSign_3 : decode cX11_isSign 3 = .ok (.if_icmp .eq 63, 3) := by decide +kernel
theorem dX11_isSign_6 : decode cX11_isSign 6 = .ok (.iload_n 0, 1) := by decide +kernel
theorem dX11_isSign_7 : decode cX11_isSign 7 = .ok (.bipush 40, 2) := by decide +kernel
theorem dX11_isSign_9 : decode cX11_isSign 9 = .ok (.if_icmp .eq 57, 3) := by decide +kernel
theorem dX11_isSign_12 : decode cX11_isSign 12 = .ok (.iload_n 0, 1) := by decide +kernel
theorem dX11_isSign_13 : decode cX11_isSign 13 = .ok (.bipush 41, 2) := by decide +kernel
theorem dX11_isSign_15 : decode cX11_isSign 15 = .ok (.if_icmp .eq 51, 3) := by decide +kernel
theorem dX11_isSign_18 : decode cX11_isSign 18 = .ok (.iload_n 0, 1) := by decide +kernel
theorem dX11_isSign_19 : decode cX11_isSign 19 = .ok (.bipush 60, 2) := by decide +kernel
theorem dX11_isSign_21 : decode cX11_isSign 21 = .ok (.if_icmp .eq 45, 3) := by decide +kernel
theorem dX11_isSign_24 : decode cX11_isSign 24 = .ok (.iload_n 0, 1) := by decide +kernel
theorem dX11_isSign_25 : decode cX11_isSign 25 = .ok (.bipush 62, 2) := by decide +kernel
theorem dX11_isSign_27 : decode cX11_isSign 27 = .ok (.if_icmp .eq 39, 3) := by decide +kernel
theorem dX11_isSign_30 : decode cX11_isSign 30 = .ok (.iload_n 0, 1) := by decide +kernel
theorem dX11_isSign_31 : decode cX11_isSign 31 = .ok (.bipush 61, 2) := by decide +kernel
theorem dX11_isSign_33 : decode cX11_isSign 33 = .ok (.if_icmp .eq 33, 3) := by decide +kernel
theorem dX11_isSign_36 : decode cX11_isSign 36 = .ok (.iload_n 0, 1) := by decide +kernel
theorem dX11_isSign_37 : decode cX11_isSign 37 = .ok (.bipush 43, 2) := by decide +kernel
theorem dX11_isSign_39 : decode cX11_isSign 39 = .ok (.if_icmp .eq 27, 3) := by decide +kernel
theorem dX11_isSign_42 : decode cX11_isSign 42 = .ok (.iload_n 0, 1) := by decide +kernel
theorem dX11_isSign_43 : decode cX11_isSign 43 = .ok (.bipush 45, 2) := by decide +kernel
theorem dX11_isSign_45 : decode cX11_isSign 45 = .ok (.if_icmp .eq 21, 3) := by decide +kernel
theorem dX11_isSign_48 : decode cX11_isSign 48 = .ok (.iload_n 0, 1) := by decide +kernel
theorem dX11_isSign_49 : decode cX11_isSign 49 = .ok (.bipush 42, 2) := by decide +kernel
theorem dX11_isSign_51 : decode cX11_isSign 51 = .ok (.if_icmp .eq 15, 3) := by decide +kernel
theorem dX11_isSign_54 : decode cX11_isSign 54 = .ok (.iload_n 0, 1) := by decide +kernel
theorem dX11_isSign_55 : decode cX11_isSign 55 = .ok (.bipush 47, 2) := by decide +kernel
theorem dX11_isSign_57 : decode cX11_isSign 57 = .ok (.if_icmp .eq 9, 3) := by decide +kernel
theorem dX11_isSign_60 : decode cX11_isSign 60 = .ok (.iload_n 0, 1) := by decide +kernel
theorem dX11_isSign_61 : decode cX11_isSign 61 = .ok (.bipush 37, 2) := by decide +kernel
theorem dX11_isSign_63 : decode cX11_isSign 63 = .ok (.if_icmp .ne 7, 3) := by decide +kernel
theorem dX11_isSign_66 : decode cX11_isSign 66 = .ok (.iconst 1, 1) := by decide +kernel
theorem dX11_isSign_67 : decode cX11_isSign 67 = .ok (.goto 4, 3) := by decide +kernel
theorem dX11_isSign_70 : decode cX11_isSign 70 = .ok (.iconst 0, 1) := by decide +kernel
theorem dX11_isSign_71 : decode cX11_isSign 71 = .ok (.ireturn, 1) := by decide +kernel
theorem wd_1595 : (Cond.code ⟨"WebCourtModel", "isSign", "(I)Z"⟩ prog_13_method_8_code (1 : Nat) (Option.some FieldType.boolean)) ∈ gtb := gtb_c7 46 (by decide +kernel) rfl
set_option maxHeartbeats 4000000 in
set_option maxRecDepth 100000 in
theorem T_X11_isSign (l : Launch) (D : va_G) (cy : Nat → ClassId) (a : Nat → Nat) (u : St) (hJ : MI a u) (x1 : Int32)  : Mi l D cy (mW cy a) yX11_isSign (.code yX11_isSign cX11_isSign 1 (some .boolean)) (rmo 0 0) [.int x1] u (fun (r : Int32) (u' : St) => (r = 0 ∨ r = 1) ∧ (u' = u)) := by
  refine Mi.of (own := RX11) rfl (by decide) (Nat.le_of_ble_eq_true rfl) ?_
  have hT : Km0 u u := Km0.rf
  have hJ0 := hJ
  intro p e s m below meth c A Q ls C hret hO hl
  obtain ⟨hx, hb, hml, hown, ht, hK, hA⟩ := id C
  have hl : lv_has ls 1 [(0, .int x1)] := hl
  refine lv_iload_n hx hb dX11_isSign_0 rfl (lv_at hl 0 rfl) ?_
  refine lv_bipush (v := 59) hx hb dX11_isSign_1 (by decide) ?_
  refine cs_eq (tgt := 66) (X := (x1).toInt) (Y := 59) hx hb dX11_isSign_3 (by decide) rfl rfl (fun c1 => ?_) (fun c1 => ?_)
  · refine lv_iconst (v := 1) hx hb dX11_isSign_66 (by decide) ?_
    refine lv_goto (tgt := 71) hx hb dX11_isSign_67 (by decide) ?_
    refine hret _ _ _ _ _ _ dX11_isSign_71 rfl ?_ hO
    exact ⟨Or.inr rfl, rfl⟩
  · refine lv_iload_n hx hb dX11_isSign_6 rfl (lv_at hl 0 rfl) ?_
    refine lv_bipush (v := 40) hx hb dX11_isSign_7 (by decide) ?_
    refine cs_eq (tgt := 66) (X := (x1).toInt) (Y := 40) hx hb dX11_isSign_9 (by decide) rfl rfl (fun c2 => ?_) (fun c2 => ?_)
    · refine lv_iconst (v := 1) hx hb dX11_isSign_66 (by decide) ?_
      refine lv_goto (tgt := 71) hx hb dX11_isSign_67 (by decide) ?_
      refine hret _ _ _ _ _ _ dX11_isSign_71 rfl ?_ hO
      exact ⟨Or.inr rfl, rfl⟩
    · refine lv_iload_n hx hb dX11_isSign_12 rfl (lv_at hl 0 rfl) ?_
      refine lv_bipush (v := 41) hx hb dX11_isSign_13 (by decide) ?_
      refine cs_eq (tgt := 66) (X := (x1).toInt) (Y := 41) hx hb dX11_isSign_15 (by decide) rfl rfl (fun c3 => ?_) (fun c3 => ?_)
      · refine lv_iconst (v := 1) hx hb dX11_isSign_66 (by decide) ?_
        refine lv_goto (tgt := 71) hx hb dX11_isSign_67 (by decide) ?_
        refine hret _ _ _ _ _ _ dX11_isSign_71 rfl ?_ hO
        exact ⟨Or.inr rfl, rfl⟩
      · refine lv_iload_n hx hb dX11_isSign_18 rfl (lv_at hl 0 rfl) ?_
        refine lv_bipush (v := 60) hx hb dX11_isSign_19 (by decide) ?_
        refine cs_eq (tgt := 66) (X := (x1).toInt) (Y := 60) hx hb dX11_isSign_21 (by decide) rfl rfl (fun c4 => ?_) (fun c4 => ?_)
        · refine lv_iconst (v := 1) hx hb dX11_isSign_66 (by decide) ?_
          refine lv_goto (tgt := 71) hx hb dX11_isSign_67 (by decide) ?_
          refine hret _ _ _ _ _ _ dX11_isSign_71 rfl ?_ hO
          exact ⟨Or.inr rfl, rfl⟩
        · refine lv_iload_n hx hb dX11_isSign_24 rfl (lv_at hl 0 rfl) ?_
          refine lv_bipush (v := 62) hx hb dX11_isSign_25 (by decide) ?_
          refine cs_eq (tgt := 66) (X := (x1).toInt) (Y := 62) hx hb dX11_isSign_27 (by decide) rfl rfl (fun c5 => ?_) (fun c5 => ?_)
          · refine lv_iconst (v := 1) hx hb dX11_isSign_66 (by decide) ?_
            refine lv_goto (tgt := 71) hx hb dX11_isSign_67 (by decide) ?_
            refine hret _ _ _ _ _ _ dX11_isSign_71 rfl ?_ hO
            exact ⟨Or.inr rfl, rfl⟩
          · refine lv_iload_n hx hb dX11_isSign_30 rfl (lv_at hl 0 rfl) ?_
            refine lv_bipush (v := 61) hx hb dX11_isSign_31 (by decide) ?_
            refine cs_eq (tgt := 66) (X := (x1).toInt) (Y := 61) hx hb dX11_isSign_33 (by decide) rfl rfl (fun c6 => ?_) (fun c6 => ?_)
            · refine lv_iconst (v := 1) hx hb dX11_isSign_66 (by decide) ?_
              refine lv_goto (tgt := 71) hx hb dX11_isSign_67 (by decide) ?_
              refine hret _ _ _ _ _ _ dX11_isSign_71 rfl ?_ hO
              exact ⟨Or.inr rfl, rfl⟩
            · refine lv_iload_n hx hb dX11_isSign_36 rfl (lv_at hl 0 rfl) ?_
              refine lv_bipush (v := 43) hx hb dX11_isSign_37 (by decide) ?_
              refine cs_eq (tgt := 66) (X := (x1).toInt) (Y := 43) hx hb dX11_isSign_39 (by decide) rfl rfl (fun c7 => ?_) (fun c7 => ?_)
              · refine lv_iconst (v := 1) hx hb dX11_isSign_66 (by decide) ?_
                refine lv_goto (tgt := 71) hx hb dX11_isSign_67 (by decide) ?_
                refine hret _ _ _ _ _ _ dX11_isSign_71 rfl ?_ hO
                exact ⟨Or.inr rfl, rfl⟩
              · refine lv_iload_n hx hb dX11_isSign_42 rfl (lv_at hl 0 rfl) ?_
                refine lv_bipush (v := 45) hx hb dX11_isSign_43 (by decide) ?_
                refine cs_eq (tgt := 66) (X := (x1).toInt) (Y := 45) hx hb dX11_isSign_45 (by decide) rfl rfl (fun c8 => ?_) (fun c8 => ?_)
                · refine lv_iconst (v := 1) hx hb dX11_isSign_66 (by decide) ?_
                  refine lv_goto (tgt := 71) hx hb dX11_isSign_67 (by decide) ?_
                  refine hret _ _ _ _ _ _ dX11_isSign_71 rfl ?_ hO
                  exact ⟨Or.inr rfl, rfl⟩
                · refine lv_iload_n hx hb dX11_isSign_48 rfl (lv_at hl 0 rfl) ?_
                  refine lv_bipush (v := 42) hx hb dX11_isSign_49 (by decide) ?_
                  refine cs_eq (tgt := 66) (X := (x1).toInt) (Y := 42) hx hb dX11_isSign_51 (by decide) rfl rfl (fun c9 => ?_) (fun c9 => ?_)
                  · refine lv_iconst (v := 1) hx hb dX11_isSign_66 (by decide) ?_
                    refine lv_goto (tgt := 71) hx hb dX11_isSign_67 (by decide) ?_
                    refine hret _ _ _ _ _ _ dX11_isSign_71 rfl ?_ hO
                    exact ⟨Or.inr rfl, rfl⟩
                  · refine lv_iload_n hx hb dX11_isSign_54 rfl (lv_at hl 0 rfl) ?_
                    refine lv_bipush (v := 47) hx hb dX11_isSign_55 (by decide) ?_
                    refine cs_eq (tgt := 66) (X := (x1).toInt) (Y := 47) hx hb dX11_isSign_57 (by decide) rfl rfl (fun c10 => ?_) (fun c10 => ?_)
                    · refine lv_iconst (v := 1) hx hb dX11_isSign_66 (by decide) ?_
                      refine lv_goto (tgt := 71) hx hb dX11_isSign_67 (by decide) ?_
                      refine hret _ _ _ _ _ _ dX11_isSign_71 rfl ?_ hO
                      exact ⟨Or.inr rfl, rfl⟩
                    · refine lv_iload_n hx hb dX11_isSign_60 rfl (lv_at hl 0 rfl) ?_
                      refine lv_bipush (v := 37) hx hb dX11_isSign_61 (by decide) ?_
                      refine cs_ne (tgt := 70) (X := (x1).toInt) (Y := 37) hx hb dX11_isSign_63 (by decide) rfl rfl (fun c11 => ?_) (fun c11 => ?_)
                      · refine lv_iconst (v := 0) hx hb dX11_isSign_70 (by decide) ?_
                        refine hret _ _ _ _ _ _ dX11_isSign_71 rfl ?_ hO
                        exact ⟨Or.inl rfl, rfl⟩
                      · refine lv_iconst (v := 1) hx hb dX11_isSign_66 (by decide) ?_
                        refine lv_goto (tgt := 71) hx hb dX11_isSign_67 (by decide) ?_
                        refine hret _ _ _ _ _ _ dX11_isSign_71 rfl ?_ hO
                        exact ⟨Or.inr rfl, rfl⟩
def Km25 (u v : St) : Prop := fI v 0 2 = fI u 0 2 ∧ fI v 0 3 = fI u 0 3 ∧ fI v 0 6 = fI u 0 6 ∧ fI v 0 7 = fI u 0 7 ∧ fI v 0 8 = fI u 0 8 ∧ fI v 0 9 = fI u 0 9 ∧ fL v 0 10 = fL u 0 10 ∧ fI v 0 36 = fI u 0 36 ∧ fI v 0 37 = fI u 0 37 ∧ fI v 0 38 = fI u 0 38 ∧ fI v 0 39 = fI u 0 39 ∧ fI v 0 40 = fI u 0 40 ∧ fI v 0 41 = fI u 0 41 ∧ fI v 0 42 = fI u 0 42 ∧ fI v 0 43 = fI u 0 43 ∧ fI v 0 45 = fI u 0 45 ∧ fI v 0 47 = fI u 0 47 ∧ fI v 0 48 = fI u 0 48 ∧ fI v 0 50 = fI u 0 50 ∧ fI v 0 61 = fI u 0 61 ∧ fI v 0 62 = fI u 0 62 ∧ fA v 1 = fA u 1 ∧ fA v 2 = fA u 2 ∧ fA v 3 = fA u 3 ∧ fA v 4 = fA u 4 ∧ fA v 5 = fA u 5 ∧ fA v 6 = fA u 6 ∧ fA v 7 = fA u 7 ∧ fA v 8 = fA u 8 ∧ fA v 9 = fA u 9 ∧ fA v 10 = fA u 10 ∧ fA v 11 = fA u 11 ∧ fA v 12 = fA u 12 ∧ fA v 13 = fA u 13 ∧ fA v 14 = fA u 14 ∧ fA v 15 = fA u 15 ∧ fA v 16 = fA u 16 ∧ fA v 17 = fA u 17 ∧ fA v 18 = fA u 18 ∧ fA v 19 = fA u 19 ∧ fJ v 20 = fJ u 20 ∧ fJ v 21 = fJ u 21 ∧ fJ v 22 = fJ u 22 ∧ fA v 23 = fA u 23 ∧ fA v 24 = fA u 24 ∧ fA v 25 = fA u 25 ∧ fA v 26 = fA u 26 ∧ fA v 27 = fA u 27 ∧ fA v 28 = fA u 28 ∧ fA v 29 = fA u 29 ∧ fA v 30 = fA u 30 ∧ fA v 31 = fA u 31 ∧ fA v 32 = fA u 32 ∧ fA v 33 = fA u 33 ∧ fA v 34 = fA u 34 ∧ fA v 35 = fA u 35 ∧ fA v 36 = fA u 36 ∧ fA v 37 = fA u 37 ∧ fA v 38 = fA u 38 ∧ fA v 39 = fA u 39 ∧ fA v 40 = fA u 40 ∧ fA v 41 = fA u 41 ∧ fA v 42 = fA u 42
theorem Km25.rf {u : St} : Km25 u u := ⟨rfl, rfl, rfl, rfl, rfl, rfl, rfl, rfl, rfl, rfl, rfl, rfl, rfl, rfl, rfl, rfl, rfl, rfl, rfl, rfl, rfl, rfl, rfl, rfl, rfl, rfl, rfl, rfl, rfl, rfl, rfl, rfl, rfl, rfl, rfl, rfl, rfl, rfl, rfl, rfl, rfl, rfl, rfl, rfl, rfl, rfl, rfl, rfl, rfl, rfl, rfl, rfl, rfl, rfl, rfl, rfl, rfl, rfl, rfl, rfl, rfl, rfl, rfl⟩
theorem Km25.tr {u v w : St} (h1 : Km25 u v) (h2 : Km25 v w) : Km25 u w := ⟨(h2.1).trans h1.1, (h2.2.1).trans h1.2.1, (h2.2.2.1).trans h1.2.2.1, (h2.2.2.2.1).trans h1.2.2.2.1, (h2.2.2.2.2.1).trans h1.2.2.2.2.1, (h2.2.2.2.2.2.1).trans h1.2.2.2.2.2.1, (h2.2.2.2.2.2.2.1).trans h1.2.2.2.2.2.2.1, (h2.2.2.2.2.2.2.2.1).trans h1.2.2.2.2.2.2.2.1, (h2.2.2.2.2.2.2.2.2.1).trans h1.2.2.2.2.2.2.2.2.1, (h2.2.2.2.2.2.2.2.2.2.1).trans h1.2.2.2.2.2.2.2.2.2.1, (h2.2.2.2.2.2.2.2.2.2.2.1).trans h1.2.2.2.2.2.2.2.2.2.2.1, (h2.2.2.2.2.2.2.2.2.2.2.2.1).trans h1.2.2.2.2.2.2.2.2.2.2.2.1, (h2.2.2.2.2.2.2.2.2.2.2.2.2.1).trans h1.2.2.2.2.2.2.2.2.2.2.2.2.1, (h2.2.2.2.2.2.2.2.2.2.2.2.2.2.1).trans h1.2.2.2.2.2.2.2.2.2.2.2.2.2.1, (h2.2.2.2.2.2.2.2.2.2.2.2.2.2.2.1).trans h1.2.2.2.2.2.2.2.2.2.2.2.2.2.2.1, (h2.2.2.2.2.2.2.2.2.2.2.2.2.2.2.2.1).trans h1.2.2.2.2.2.2.2.2.2.2.2.2.2.2.2.1, (h2.2.2.2.2.2.2.2.2.2.2.2.2.2.2.2.2.1).trans h1.2.2.2.2.2.2.2.2.2.2.2.2.2.2.2.2.1, (h2.2.2.2.2.2.2.2.2.2.2.2.2.2.2.2.2.2.1).trans h1.2.2.2.2.2.2.2.2.2.2.2.2.2.2.2.2.2.1, (h2.2.2.2.2.2.2.2.2.2.2.2.2.2.2.2.2.2.2.1).trans h1.2.2.2.2.2.2.2.2.2.2.2.2.2.2.2.2.2.2.1, (h2.2.2.2.2.2.2.2.2.2.2.2.2.2.2.2.2.2.2.2.1).trans h1.2.2.2.2.2.2.2.2.2.2.2.2.2.2.2.2.2.2.2.1, (h2.2.2.2.2.2.2.2.2.2.2.2.2.2.2.2.2.2.2.2.2.1).trans h1.2.2.2.2.2.2.2.2.2.2.2.2.2.2.2.2.2.2.2.2.1, (h2.2.2.2.2.2.2.2.2.2.2.2.2.2.2.2.2.2.2.2.2.2.1).trans h1.2.2.2.2.2.2.2.2.2.2.2.2.2.2.2.2.2.2.2.2.2.1, (h2.2.2.2.2.2.2.2.2.2.2.2.2.2.2.2.2.2.2.2.2.2.2.1).trans h1.2.2.2.2.2.2.2.2.2.2.2.2.2.2.2.2.2.2.2.2.2.2.1, (h2.2.2.2.2.2.2.2.2.2.2.2.2.2.2.2.2.2.2.2.2.2.2.2.1).trans h1.2.2.2.2.2.2.2.2.2.2.2.2.2.2.2.2.2.2.2.2.2.2.2.1, (h2.2.2.2.2.2.2.2.2.2.2.2.2.2.2.2.2.2.2.2.2.2.2.2.2.1).trans h1.2.2.2.2.2.2.2.2.2.2.2.2.2.2.2.2.2.2.2.2.2.2.2.2.1, (h2.2.2.2.2.2.2.2.2.2.2.2.2.2.2.2.2.2.2.2.2.2.2.2.2.2.1).trans h1.2.2.2.2.2.2.2.2.2.2.2.2.2.2.2.2.2.2.2.2.2.2.2.2.2.1, (h2.2.2.2.2.2.2.2.2.2.2.2.2.2.2.2.2.2.2.2.2.2.2.2.2.2.2.1).trans h1.2.2.2.2.2.2.2.2.2.2.2.2.2.2.2.2.2.2.2.2.2.2.2.2.2.2.1, (h2.2.2.2.2.2.2.2.2.2.2.2.2.2.2.2.2.2.2.2.2.2.2.2.2.2.2.2.1).trans h1.2.2.2.2.2.2.2.2.2.2.2.2.2.2.2.2.2.2.2.2.2.2.2.2.2.2.2.1, (h2.2.2.2.2.2.2.2.2.2.2.2.2.2.2.2.2.2.2.2.2.2.2.2.2.2.2.2.2.1).trans h1.2.2.2.2.2.2.2.2.2.2.2.2.2.2.2.2.2.2.2.2.2.2.2.2.2.2.2.2.1, (h2.2.2.2.2.2.2.2.2.2.2.2.2.2.2.2.2.2.2.2.2.2.2.2.2.2.2.2.2.2.1).trans h1.2.2.2.2.2.2.2.2.2.2.2.2.2.2.2.2.2.2.2.2.2.2.2.2.2.2.2.2.2.1, (h2.2.2.2.2.2.2.2.2.2.2.2.2.2.2.2.2.2.2.2.2.2.2.2.2.2.2.2.2.2.2.1).trans h1.2.2.2.2.2.2.2.2.2.2.2.2.2.2.2.2.2.2.2.2.2.2.2.2.2.2.2.2.2.2.1, (h2.2.2.2.2.2.2.2.2.2.2.2.2.2.2.2.2.2.2.2.2.2.2.2.2.2.2.2.2.2.2.2.1).trans h1.2.2.2.2.2.2.2.2.2.2.2.2.2.2.2.2.2.2.2.2.2.2.2.2.2.2.2.2.2.2.2.1, (h2.2.2.2.2.2.2.2.2.2.2.2.2.2.2.2.2.2.2.2.2.2.2.2.2.2.2.2.2.2.2.2.2.1).trans h1.2.2.2.2.2.2.2.2.2.2.2.2.2.2.2.2.2.2.2.2.2.2.2.2.2.2.2.2.2.2.2.2.1, (h2.2.2.2.2.2.2.2.2.2.2.2.2.2.2.2.2.2.2.2.2.2.2.2.2.2.2.2.2.2.2.2.2.2.1).trans h1.2.2.2.2.2.2.2.2.2.2.2.2.2.2.2.2.2.2.2.2.2.2.2.2.2.2.2.2.2.2.2.2.2.1, (h2.2.2.2.2.2.2.2.2.2.2.2.2.2.2.2.2.2.2.2.2.2.2.2.2.2.2.2.2.2.2.2.2.2.2.1).trans h1.2.2.2.2.2.2.2.2.2.2.2.2.2.2.2.2.2.2.2.2.2.2.2.2.2.2.2.2.2.2.2.2.2.2.1, (h2.2.2.2.2.2.2.2.2.2.2.2.2.2.2.2.2.2.2.2.2.2.2.2.2.2.2.2.2.2.2.2.2.2.2.2.1).trans h1.2.2.2.2.2.2.2.2.2.2.2.2.2.2.2.2.2.2.2.2.2.2.2.2.2.2.2.2.2.2.2.2.2.2.2.1, (h2.2.2.2.2.2.2.2.2.2.2.2.2.2.2.2.2.2.2.2.2.2.2.2.2.2.2.2.2.2.2.2.2.2.2.2.2.1).trans h1.2.2.2.2.2.2.2.2.2.2.2.2.2.2.2.2.2.2.2.2.2.2.2.2.2.2.2.2.2.2.2.2.2.2.2.2.1, (h2.2.2.2.2.2.2.2.2.2.2.2.2.2.2.2.2.2.2.2.2.2.2.2.2.2.2.2.2.2.2.2.2.2.2.2.2.2.1).trans h1.2.2.2.2.2.2.2.2.2.2.2.2.2.2.2.2.2.2.2.2.2.2.2.2.2.2.2.2.2.2.2.2.2.2.2.2.2.1, (h2.2.2.2.2.2.2.2.2.2.2.2.2.2.2.2.2.2.2.2.2.2.2.2.2.2.2.2.2.2.2.2.2.2.2.2.2.2.2.1).trans h1.2.2.2.2.2.2.2.2.2.2.2.2.2.2.2.2.2.2.2.2.2.2.2.2.2.2.2.2.2.2.2.2.2.2.2.2.2.2.1, (h2.2.2.2.2.2.2.2.2.2.2.2.2.2.2.2.2.2.2.2.2.2.2.2.2.2.2.2.2.2.2.2.2.2.2.2.2.2.2.2.1).trans h1.2.2.2.2.2.2.2.2.2.2.2.2.2.2.2.2.2.2.2.2.2.2.2.2.2.2.2.2.2.2.2.2.2.2.2.2.2.2.2.1, (h2.2.2.2.2.2.2.2.2.2.2.2.2.2.2.2.2.2.2.2.2.2.2.2.2.2.2.2.2.2.2.2.2.2.2.2.2.2.2.2.2.1).trans h1.2.2.2.2.2.2.2.2.2.2.2.2.2.2.2.2.2.2.2.2.2.2.2.2.2.2.2.2.2.2.2.2.2.2.2.2.2.2.2.2.1, (h2.2.2.2.2.2.2.2.2.2.2.2.2.2.2.2.2.2.2.2.2.2.2.2.2.2.2.2.2.2.2.2.2.2.2.2.2.2.2.2.2.2.1).trans h1.2.2.2.2.2.2.2.2.2.2.2.2.2.2.2.2.2.2.2.2.2.2.2.2.2.2.2.2.2.2.2.2.2.2.2.2.2.2.2.2.2.1, (h2.2.2.2.2.2.2.2.2.2.2.2.2.2.2.2.2.2.2.2.2.2.2.2.2.2.2.2.2.2.2.2.2.2.2.2.2.2.2.2.2.2.2.1).trans h1.2.2.2.2.2.2.2.2.2.2.2.2.2.2.2.2.2.2.2.2.2.2.2.2.2.2.2.2.2.2.2.2.2.2.2.2.2.2.2.2.2.2.1, (h2.2.2.2.2.2.2.2.2.2.2.2.2.2.2.2.2.2.2.2.2.2.2.2.2.2.2.2.2.2.2.2.2.2.2.2.2.2.2.2.2.2.2.2.1).trans h1.2.2.2.2.2.2.2.2.2.2.2.2.2.2.2.2.2.2.2.2.2.2.2.2.2.2.2.2.2.2.2.2.2.2.2.2.2.2.2.2.2.2.2.1, (h2.2.2.2.2.2.2.2.2.2.2.2.2.2.2.2.2.2.2.2.2.2.2.2.2.2.2.2.2.2.2.2.2.2.2.2.2.2.2.2.2.2.2.2.2.1).trans h1.2.2.2.2.2.2.2.2.2.2.2.2.2.2.2.2.2.2.2.2.2.2.2.2.2.2.2.2.2.2.2.2.2.2.2.2.2.2.2.2.2.2.2.2.1, (h2.2.2.2.2.2.2.2.2.2.2.2.2.2.2.2.2.2.2.2.2.2.2.2.2.2.2.2.2.2.2.2.2.2.2.2.2.2.2.2.2.2.2.2.2.2.1).trans h1.2.2.2.2.2.2.2.2.2.2.2.2.2.2.2.2.2.2.2.2.2.2.2.2.2.2.2.2.2.2.2.2.2.2.2.2.2.2.2.2.2.2.2.2.2.1, (h2.2.2.2.2.2.2.2.2.2.2.2.2.2.2.2.2.2.2.2.2.2.2.2.2.2.2.2.2.2.2.2.2.2.2.2.2.2.2.2.2.2.2.2.2.2.2.1).trans h1.2.2.2.2.2.2.2.2.2.2.2.2.2.2.2.2.2.2.2.2.2.2.2.2.2.2.2.2.2.2.2.2.2.2.2.2.2.2.2.2.2.2.2.2.2.2.1, (h2.2.2.2.2.2.2.2.2.2.2.2.2.2.2.2.2.2.2.2.2.2.2.2.2.2.2.2.2.2.2.2.2.2.2.2.2.2.2.2.2.2.2.2.2.2.2.2.1).trans h1.2.2.2.2.2.2.2.2.2.2.2.2.2.2.2.2.2.2.2.2.2.2.2.2.2.2.2.2.2.2.2.2.2.2.2.2.2.2.2.2.2.2.2.2.2.2.2.1, (h2.2.2.2.2.2.2.2.2.2.2.2.2.2.2.2.2.2.2.2.2.2.2.2.2.2.2.2.2.2.2.2.2.2.2.2.2.2.2.2.2.2.2.2.2.2.2.2.2.1).trans h1.2.2.2.2.2.2.2.2.2.2.2.2.2.2.2.2.2.2.2.2.2.2.2.2.2.2.2.2.2.2.2.2.2.2.2.2.2.2.2.2.2.2.2.2.2.2.2.2.1, (h2.2.2.2.2.2.2.2.2.2.2.2.2.2.2.2.2.2.2.2.2.2.2.2.2.2.2.2.2.2.2.2.2.2.2.2.2.2.2.2.2.2.2.2.2.2.2.2.2.2.1).trans h1.2.2.2.2.2.2.2.2.2.2.2.2.2.2.2.2.2.2.2.2.2.2.2.2.2.2.2.2.2.2.2.2.2.2.2.2.2.2.2.2.2.2.2.2.2.2.2.2.2.1, (h2.2.2.2.2.2.2.2.2.2.2.2.2.2.2.2.2.2.2.2.2.2.2.2.2.2.2.2.2.2.2.2.2.2.2.2.2.2.2.2.2.2.2.2.2.2.2.2.2.2.2.1).trans h1.2.2.2.2.2.2.2.2.2.2.2.2.2.2.2.2.2.2.2.2.2.2.2.2.2.2.2.2.2.2.2.2.2.2.2.2.2.2.2.2.2.2.2.2.2.2.2.2.2.2.1, (h2.2.2.2.2.2.2.2.2.2.2.2.2.2.2.2.2.2.2.2.2.2.2.2.2.2.2.2.2.2.2.2.2.2.2.2.2.2.2.2.2.2.2.2.2.2.2.2.2.2.2.2.1).trans h1.2.2.2.2.2.2.2.2.2.2.2.2.2.2.2.2.2.2.2.2.2.2.2.2.2.2.2.2.2.2.2.2.2.2.2.2.2.2.2.2.2.2.2.2.2.2.2.2.2.2.2.1, (h2.2.2.2.2.2.2.2.2.2.2.2.2.2.2.2.2.2.2.2.2.2.2.2.2.2.2.2.2.2.2.2.2.2.2.2.2.2.2.2.2.2.2.2.2.2.2.2.2.2.2.2.2.1).trans h1.2.2.2.2.2.2.2.2.2.2.2.2.2.2.2.2.2.2.2.2.2.2.2.2.2.2.2.2.2.2.2.2.2.2.2.2.2.2.2.2.2.2.2.2.2.2.2.2.2.2.2.2.1, (h2.2.2.2.2.2.2.2.2.2.2.2.2.2.2.2.2.2.2.2.2.2.2.2.2.2.2.2.2.2.2.2.2.2.2.2.2.2.2.2.2.2.2.2.2.2.2.2.2.2.2.2.2.2.1).trans h1.2.2.2.2.2.2.2.2.2.2.2.2.2.2.2.2.2.2.2.2.2.2.2.2.2.2.2.2.2.2.2.2.2.2.2.2.2.2.2.2.2.2.2.2.2.2.2.2.2.2.2.2.2.1, (h2.2.2.2.2.2.2.2.2.2.2.2.2.2.2.2.2.2.2.2.2.2.2.2.2.2.2.2.2.2.2.2.2.2.2.2.2.2.2.2.2.2.2.2.2.2.2.2.2.2.2.2.2.2.2.1).trans h1.2.2.2.2.2.2.2.2.2.2.2.2.2.2.2.2.2.2.2.2.2.2.2.2.2.2.2.2.2.2.2.2.2.2.2.2.2.2.2.2.2.2.2.2.2.2.2.2.2.2.2.2.2.2.1, (h2.2.2.2.2.2.2.2.2.2.2.2.2.2.2.2.2.2.2.2.2.2.2.2.2.2.2.2.2.2.2.2.2.2.2.2.2.2.2.2.2.2.2.2.2.2.2.2.2.2.2.2.2.2.2.2.1).trans h1.2.2.2.2.2.2.2.2.2.2.2.2.2.2.2.2.2.2.2.2.2.2.2.2.2.2.2.2.2.2.2.2.2.2.2.2.2.2.2.2.2.2.2.2.2.2.2.2.2.2.2.2.2.2.2.1, (h2.2.2.2.2.2.2.2.2.2.2.2.2.2.2.2.2.2.2.2.2.2.2.2.2.2.2.2.2.2.2.2.2.2.2.2.2.2.2.2.2.2.2.2.2.2.2.2.2.2.2.2.2.2.2.2.2.1).trans h1.2.2.2.2.2.2.2.2.2.2.2.2.2.2.2.2.2.2.2.2.2.2.2.2.2.2.2.2.2.2.2.2.2.2.2.2.2.2.2.2.2.2.2.2.2.2.2.2.2.2.2.2.2.2.2.2.1, (h2.2.2.2.2.2.2.2.2.2.2.2.2.2.2.2.2.2.2.2.2.2.2.2.2.2.2.2.2.2.2.2.2.2.2.2.2.2.2.2.2.2.2.2.2.2.2.2.2.2.2.2.2.2.2.2.2.2.1).trans h1.2.2.2.2.2.2.2.2.2.2.2.2.2.2.2.2.2.2.2.2.2.2.2.2.2.2.2.2.2.2.2.2.2.2.2.2.2.2.2.2.2.2.2.2.2.2.2.2.2.2.2.2.2.2.2.2.2.1, (h2.2.2.2.2.2.2.2.2.2.2.2.2.2.2.2.2.2.2.2.2.2.2.2.2.2.2.2.2.2.2.2.2.2.2.2.2.2.2.2.2.2.2.2.2.2.2.2.2.2.2.2.2.2.2.2.2.2.2.1).trans h1.2.2.2.2.2.2.2.2.2.2.2.2.2.2.2.2.2.2.2.2.2.2.2.2.2.2.2.2.2.2.2.2.2.2.2.2.2.2.2.2.2.2.2.2.2.2.2.2.2.2.2.2.2.2.2.2.2.2.1, (h2.2.2.2.2.2.2.2.2.2.2.2.2.2.2.2.2.2.2.2.2.2.2.2.2.2.2.2.2.2.2.2.2.2.2.2.2.2.2.2.2.2.2.2.2.2.2.2.2.2.2.2.2.2.2.2.2.2.2.2.1).trans h1.2.2.2.2.2.2.2.2.2.2.2.2.2.2.2.2.2.2.2.2.2.2.2.2.2.2.2.2.2.2.2.2.2.2.2.2.2.2.2.2.2.2.2.2.2.2.2.2.2.2.2.2.2.2.2.2.2.2.2.1, (h2.2.2.2.2.2.2.2.2.2.2.2.2.2.2.2.2.2.2.2.2.2.2.2.2.2.2.2.2.2.2.2.2.2.2.2.2.2.2.2.2.2.2.2.2.2.2.2.2.2.2.2.2.2.2.2.2.2.2.2.2.1).trans h1.2.2.2.2.2.2.2.2.2.2.2.2.2.2.2.2.2.2.2.2.2.2.2.2.2.2.2.2.2.2.2.2.2.2.2.2.2.2.2.2.2.2.2.2.2.2.2.2.2.2.2.2.2.2.2.2.2.2.2.2.1, (h2.2.2.2.2.2.2.2.2.2.2.2.2.2.2.2.2.2.2.2.2.2.2.2.2.2.2.2.2.2.2.2.2.2.2.2.2.2.2.2.2.2.2.2.2.2.2.2.2.2.2.2.2.2.2.2.2.2.2.2.2.2.1).trans h1.2.2.2.2.2.2.2.2.2.2.2.2.2.2.2.2.2.2.2.2.2.2.2.2.2.2.2.2.2.2.2.2.2.2.2.2.2.2.2.2.2.2.2.2.2.2.2.2.2.2.2.2.2.2.2.2.2.2.2.2.2.1, (h2.2.2.2.2.2.2.2.2.2.2.2.2.2.2.2.2.2.2.2.2.2.2.2.2.2.2.2.2.2.2.2.2.2.2.2.2.2.2.2.2.2.2.2.2.2.2.2.2.2.2.2.2.2.2.2.2.2.2.2.2.2.2).trans h1.2.2.2.2.2.2.2.2.2.2.2.2.2.2.2.2.2.2.2.2.2.2.2.2.2.2.2.2.2.2.2.2.2.2.2.2.2.2.2.2.2.2.2.2.2.2.2.2.2.2.2.2.2.2.2.2.2.2.2.2.2.2⟩
theorem dX11_fails_0 : decode cX11_fails 0 = .ok (.aload_n 0, 1) := by decide +kernel
theorem dX11_fails_1 : decode cX11_fails 1 = .ok (.getfield 155, 3) := by decide +kernel
theorem dX11_fails_4 : decode cX11_fails 4 = .ok (.ifCond .le 4, 3) := by decide +kernel
theorem dX11_fails_7 : decode cX11_fails 7 = .ok (.return_, 1) := by decide +kernel
theorem dX11_fails_8 : decode cX11_fails 8 = .ok (.aload_n 0, 1) := by decide +kernel
theorem dX11_fails_9 : decode cX11_fails 9 = .ok (.iload_n 1, 1) := by decide +kernel
theorem dX11_fails_10 : decode cX11_fails 10 = .ok (.putfield 155, 3) := by decide +kernel
theorem dX11_fails_13 : decode cX11_fails 13 = .ok (.aload_n 0, 1) := by decide +kernel
theorem dX11_fails_14 : decode cX11_fails 14 = .ok (.iload_n 2, 1) := by decide +kernel
theorem dX11_fails_15 : decode cX11_fails 15 = .ok (.putfield 16, 3) := by decide +kernel
theorem dX11_fails_18 : decode cX11_fails 18 = .ok (.return_, 1) := by decide +kernel
theorem wd_1622 : (Cond.code ⟨"WebCourtModel", "fails", "(II)V"⟩ prog_13_method_5_code (3 : Nat) (Option.none : Option FieldType)) ∈ gtb := gtb_c7 73 (by decide +kernel) rfl
theorem pf_RX11_155 {p : Program} {l : Launch} {e : Env} {R : Room} {s : State} {m : MethodId} {args : Array Value} {below : List Frame} {meth : Method} {c : Code} {H : Heap} {locs : List Loc} {cells slots : Nat} {Q : State → Prop} {cc : ByteArray} {pc nL : Nat} {ls : Array Slot} {rest : List Value} {D : va_G} {cy : Nat → ClassId} {A : Nat → Prop} {ws : va_W} {b : Nat} {fs : List Value} {v : Int32} {ws' : va_W} (C : Cx p s m args c cc nL RX11 D cy A) (hO : Wo D A ws s.heap H locs) (q0 : Nat) (he : ws[q0]? = some (b, .inr (11, fs))) (hlen : 4 < fs.length) (hw : ws.set q0 (b, .inr (11, fs.set 4 (.int v))) = ws') (hdg : decode cc pc = .ok (.putfield 155, 3)) (kk : ∀ (H : Heap) (locs : List Loc), Wo D A ws' s.heap H locs → W p l e R s m args below meth c H locs cells slots Q (F0 m (pc + 3) ls rest)) : W p l e R s m args below meth c H locs cells slots Q (F0 m pc ls (.int v :: .ref b :: rest)) := pF (k := 4) (ty := .int) C hO q0 he rfl inFX11 (by decide) wd_1360 rfl tyX11 tyX11_ok nmX11 rfl (by decide +kernel) rfl rfl hlen hw hdg kk
theorem Km25_wI4 {u v : St} {x : Int32} (h : Km25 u v) : Km25 u (sI v 0 4 x) := ⟨h.1, h.2.1, h.2.2.1, h.2.2.2.1, h.2.2.2.2.1, h.2.2.2.2.2.1, h.2.2.2.2.2.2.1, h.2.2.2.2.2.2.2.1, h.2.2.2.2.2.2.2.2.1, h.2.2.2.2.2.2.2.2.2.1, h.2.2.2.2.2.2.2.2.2.2.1, h.2.2.2.2.2.2.2.2.2.2.2.1, h.2.2.2.2.2.2.2.2.2.2.2.2.1, h.2.2.2.2.2.2.2.2.2.2.2.2.2.1, h.2.2.2.2.2.2.2.2.2.2.2.2.2.2.1, h.2.2.2.2.2.2.2.2.2.2.2.2.2.2.2.1, h.2.2.2.2.2.2.2.2.2.2.2.2.2.2.2.2.1, h.2.2.2.2.2.2.2.2.2.2.2.2.2.2.2.2.2.1, h.2.2.2.2.2.2.2.2.2.2.2.2.2.2.2.2.2.2.1, h.2.2.2.2.2.2.2.2.2.2.2.2.2.2.2.2.2.2.2.1, h.2.2.2.2.2.2.2.2.2.2.2.2.2.2.2.2.2.2.2.2.1, h.2.2.2.2.2.2.2.2.2.2.2.2.2.2.2.2.2.2.2.2.2.1, h.2.2.2.2.2.2.2.2.2.2.2.2.2.2.2.2.2.2.2.2.2.2.1, h.2.2.2.2.2.2.2.2.2.2.2.2.2.2.2.2.2.2.2.2.2.2.2.1, h.2.2.2.2.2.2.2.2.2.2.2.2.2.2.2.2.2.2.2.2.2.2.2.2.1, h.2.2.2.2.2.2.2.2.2.2.2.2.2.2.2.2.2.2.2.2.2.2.2.2.2.1, h.2.2.2.2.2.2.2.2.2.2.2.2.2.2.2.2.2.2.2.2.2.2.2.2.2.2.1, h.2.2.2.2.2.2.2.2.2.2.2.2.2.2.2.2.2.2.2.2.2.2.2.2.2.2.2.1, h.2.2.2.2.2.2.2.2.2.2.2.2.2.2.2.2.2.2.2.2.2.2.2.2.2.2.2.2.1, h.2.2.2.2.2.2.2.2.2.2.2.2.2.2.2.2.2.2.2.2.2.2.2.2.2.2.2.2.2.1, h.2.2.2.2.2.2.2.2.2.2.2.2.2.2.2.2.2.2.2.2.2.2.2.2.2.2.2.2.2.2.1, h.2.2.2.2.2.2.2.2.2.2.2.2.2.2.2.2.2.2.2.2.2.2.2.2.2.2.2.2.2.2.2.1, h.2.2.2.2.2.2.2.2.2.2.2.2.2.2.2.2.2.2.2.2.2.2.2.2.2.2.2.2.2.2.2.2.1, h.2.2.2.2.2.2.2.2.2.2.2.2.2.2.2.2.2.2.2.2.2.2.2.2.2.2.2.2.2.2.2.2.2.1, h.2.2.2.2.2.2.2.2.2.2.2.2.2.2.2.2.2.2.2.2.2.2.2.2.2.2.2.2.2.2.2.2.2.2.1, h.2.2.2.2.2.2.2.2.2.2.2.2.2.2.2.2.2.2.2.2.2.2.2.2.2.2.2.2.2.2.2.2.2.2.2.1, h.2.2.2.2.2.2.2.2.2.2.2.2.2.2.2.2.2.2.2.2.2.2.2.2.2.2.2.2.2.2.2.2.2.2.2.2.1, h.2.2.2.2.2.2.2.2.2.2.2.2.2.2.2.2.2.2.2.2.2.2.2.2.2.2.2.2.2.2.2.2.2.2.2.2.2.1, h.2.2.2.2.2.2.2.2.2.2.2.2.2.2.2.2.2.2.2.2.2.2.2.2.2.2.2.2.2.2.2.2.2.2.2.2.2.2.1, h.2.2.2.2.2.2.2.2.2.2.2.2.2.2.2.2.2.2.2.2.2.2.2.2.2.2.2.2.2.2.2.2.2.2.2.2.2.2.2.1, h.2.2.2.2.2.2.2.2.2.2.2.2.2.2.2.2.2.2.2.2.2.2.2.2.2.2.2.2.2.2.2.2.2.2.2.2.2.2.2.2.1, h.2.2.2.2.2.2.2.2.2.2.2.2.2.2.2.2.2.2.2.2.2.2.2.2.2.2.2.2.2.2.2.2.2.2.2.2.2.2.2.2.2.1, h.2.2.2.2.2.2.2.2.2.2.2.2.2.2.2.2.2.2.2.2.2.2.2.2.2.2.2.2.2.2.2.2.2.2.2.2.2.2.2.2.2.2.1, h.2.2.2.2.2.2.2.2.2.2.2.2.2.2.2.2.2.2.2.2.2.2.2.2.2.2.2.2.2.2.2.2.2.2.2.2.2.2.2.2.2.2.2.1, h.2.2.2.2.2.2.2.2.2.2.2.2.2.2.2.2.2.2.2.2.2.2.2.2.2.2.2.2.2.2.2.2.2.2.2.2.2.2.2.2.2.2.2.2.1, h.2.2.2.2.2.2.2.2.2.2.2.2.2.2.2.2.2.2.2.2.2.2.2.2.2.2.2.2.2.2.2.2.2.2.2.2.2.2.2.2.2.2.2.2.2.1, h.2.2.2.2.2.2.2.2.2.2.2.2.2.2.2.2.2.2.2.2.2.2.2.2.2.2.2.2.2.2.2.2.2.2.2.2.2.2.2.2.2.2.2.2.2.2.1, h.2.2.2.2.2.2.2.2.2.2.2.2.2.2.2.2.2.2.2.2.2.2.2.2.2.2.2.2.2.2.2.2.2.2.2.2.2.2.2.2.2.2.2.2.2.2.2.1, h.2.2.2.2.2.2.2.2.2.2.2.2.2.2.2.2.2.2.2.2.2.2.2.2.2.2.2.2.2.2.2.2.2.2.2.2.2.2.2.2.2.2.2.2.2.2.2.2.1, h.2.2.2.2.2.2.2.2.2.2.2.2.2.2.2.2.2.2.2.2.2.2.2.2.2.2.2.2.2.2.2.2.2.2.2.2.2.2.2.2.2.2.2.2.2.2.2.2.2.1, h.2.2.2.2.2.2.2.2.2.2.2.2.2.2.2.2.2.2.2.2.2.2.2.2.2.2.2.2.2.2.2.2.2.2.2.2.2.2.2.2.2.2.2.2.2.2.2.2.2.2.1, h.2.2.2.2.2.2.2.2.2.2.2.2.2.2.2.2.2.2.2.2.2.2.2.2.2.2.2.2.2.2.2.2.2.2.2.2.2.2.2.2.2.2.2.2.2.2.2.2.2.2.2.1, h.2.2.2.2.2.2.2.2.2.2.2.2.2.2.2.2.2.2.2.2.2.2.2.2.2.2.2.2.2.2.2.2.2.2.2.2.2.2.2.2.2.2.2.2.2.2.2.2.2.2.2.2.1, h.2.2.2.2.2.2.2.2.2.2.2.2.2.2.2.2.2.2.2.2.2.2.2.2.2.2.2.2.2.2.2.2.2.2.2.2.2.2.2.2.2.2.2.2.2.2.2.2.2.2.2.2.2.1, h.2.2.2.2.2.2.2.2.2.2.2.2.2.2.2.2.2.2.2.2.2.2.2.2.2.2.2.2.2.2.2.2.2.2.2.2.2.2.2.2.2.2.2.2.2.2.2.2.2.2.2.2.2.2.1, h.2.2.2.2.2.2.2.2.2.2.2.2.2.2.2.2.2.2.2.2.2.2.2.2.2.2.2.2.2.2.2.2.2.2.2.2.2.2.2.2.2.2.2.2.2.2.2.2.2.2.2.2.2.2.2.1, h.2.2.2.2.2.2.2.2.2.2.2.2.2.2.2.2.2.2.2.2.2.2.2.2.2.2.2.2.2.2.2.2.2.2.2.2.2.2.2.2.2.2.2.2.2.2.2.2.2.2.2.2.2.2.2.2.1, h.2.2.2.2.2.2.2.2.2.2.2.2.2.2.2.2.2.2.2.2.2.2.2.2.2.2.2.2.2.2.2.2.2.2.2.2.2.2.2.2.2.2.2.2.2.2.2.2.2.2.2.2.2.2.2.2.2.1, h.2.2.2.2.2.2.2.2.2.2.2.2.2.2.2.2.2.2.2.2.2.2.2.2.2.2.2.2.2.2.2.2.2.2.2.2.2.2.2.2.2.2.2.2.2.2.2.2.2.2.2.2.2.2.2.2.2.2.1, h.2.2.2.2.2.2.2.2.2.2.2.2.2.2.2.2.2.2.2.2.2.2.2.2.2.2.2.2.2.2.2.2.2.2.2.2.2.2.2.2.2.2.2.2.2.2.2.2.2.2.2.2.2.2.2.2.2.2.2.1, h.2.2.2.2.2.2.2.2.2.2.2.2.2.2.2.2.2.2.2.2.2.2.2.2.2.2.2.2.2.2.2.2.2.2.2.2.2.2.2.2.2.2.2.2.2.2.2.2.2.2.2.2.2.2.2.2.2.2.2.2.1, h.2.2.2.2.2.2.2.2.2.2.2.2.2.2.2.2.2.2.2.2.2.2.2.2.2.2.2.2.2.2.2.2.2.2.2.2.2.2.2.2.2.2.2.2.2.2.2.2.2.2.2.2.2.2.2.2.2.2.2.2.2.1, h.2.2.2.2.2.2.2.2.2.2.2.2.2.2.2.2.2.2.2.2.2.2.2.2.2.2.2.2.2.2.2.2.2.2.2.2.2.2.2.2.2.2.2.2.2.2.2.2.2.2.2.2.2.2.2.2.2.2.2.2.2.2⟩
theorem pf_RX11_16 {p : Program} {l : Launch} {e : Env} {R : Room} {s : State} {m : MethodId} {args : Array Value} {below : List Frame} {meth : Method} {c : Code} {H : Heap} {locs : List Loc} {cells slots : Nat} {Q : State → Prop} {cc : ByteArray} {pc nL : Nat} {ls : Array Slot} {rest : List Value} {D : va_G} {cy : Nat → ClassId} {A : Nat → Prop} {ws : va_W} {b : Nat} {fs : List Value} {v : Int32} {ws' : va_W} (C : Cx p s m args c cc nL RX11 D cy A) (hO : Wo D A ws s.heap H locs) (q0 : Nat) (he : ws[q0]? = some (b, .inr (11, fs))) (hlen : 5 < fs.length) (hw : ws.set q0 (b, .inr (11, fs.set 5 (.int v))) = ws') (hdg : decode cc pc = .ok (.putfield 16, 3)) (kk : ∀ (H : Heap) (locs : List Loc), Wo D A ws' s.heap H locs → W p l e R s m args below meth c H locs cells slots Q (F0 m (pc + 3) ls rest)) : W p l e R s m args below meth c H locs cells slots Q (F0 m pc ls (.int v :: .ref b :: rest)) := pF (k := 5) (ty := .int) C hO q0 he rfl inFX11 (by decide) wd_1361 rfl tyX11 tyX11_ok nmX11 rfl (by decide +kernel) rfl rfl hlen hw hdg kk
theorem Km25_wI5 {u v : St} {x : Int32} (h : Km25 u v) : Km25 u (sI v 0 5 x) := ⟨h.1, h.2.1, h.2.2.1, h.2.2.2.1, h.2.2.2.2.1, h.2.2.2.2.2.1, h.2.2.2.2.2.2.1, h.2.2.2.2.2.2.2.1, h.2.2.2.2.2.2.2.2.1, h.2.2.2.2.2.2.2.2.2.1, h.2.2.2.2.2.2.2.2.2.2.1, h.2.2.2.2.2.2.2.2.2.2.2.1, h.2.2.2.2.2.2.2.2.2.2.2.2.1, h.2.2.2.2.2.2.2.2.2.2.2.2.2.1, h.2.2.2.2.2.2.2.2.2.2.2.2.2.2.1, h.2.2.2.2.2.2.2.2.2.2.2.2.2.2.2.1, h.2.2.2.2.2.2.2.2.2.2.2.2.2.2.2.2.1, h.2.2.2.2.2.2.2.2.2.2.2.2.2.2.2.2.2.1, h.2.2.2.2.2.2.2.2.2.2.2.2.2.2.2.2.2.2.1, h.2.2.2.2.2.2.2.2.2.2.2.2.2.2.2.2.2.2.2.1, h.2.2.2.2.2.2.2.2.2.2.2.2.2.2.2.2.2.2.2.2.1, h.2.2.2.2.2.2.2.2.2.2.2.2.2.2.2.2.2.2.2.2.2.1, h.2.2.2.2.2.2.2.2.2.2.2.2.2.2.2.2.2.2.2.2.2.2.1, h.2.2.2.2.2.2.2.2.2.2.2.2.2.2.2.2.2.2.2.2.2.2.2.1, h.2.2.2.2.2.2.2.2.2.2.2.2.2.2.2.2.2.2.2.2.2.2.2.2.1, h.2.2.2.2.2.2.2.2.2.2.2.2.2.2.2.2.2.2.2.2.2.2.2.2.2.1, h.2.2.2.2.2.2.2.2.2.2.2.2.2.2.2.2.2.2.2.2.2.2.2.2.2.2.1, h.2.2.2.2.2.2.2.2.2.2.2.2.2.2.2.2.2.2.2.2.2.2.2.2.2.2.2.1, h.2.2.2.2.2.2.2.2.2.2.2.2.2.2.2.2.2.2.2.2.2.2.2.2.2.2.2.2.1, h.2.2.2.2.2.2.2.2.2.2.2.2.2.2.2.2.2.2.2.2.2.2.2.2.2.2.2.2.2.1, h.2.2.2.2.2.2.2.2.2.2.2.2.2.2.2.2.2.2.2.2.2.2.2.2.2.2.2.2.2.2.1, h.2.2.2.2.2.2.2.2.2.2.2.2.2.2.2.2.2.2.2.2.2.2.2.2.2.2.2.2.2.2.2.1, h.2.2.2.2.2.2.2.2.2.2.2.2.2.2.2.2.2.2.2.2.2.2.2.2.2.2.2.2.2.2.2.2.1, h.2.2.2.2.2.2.2.2.2.2.2.2.2.2.2.2.2.2.2.2.2.2.2.2.2.2.2.2.2.2.2.2.2.1, h.2.2.2.2.2.2.2.2.2.2.2.2.2.2.2.2.2.2.2.2.2.2.2.2.2.2.2.2.2.2.2.2.2.2.1, h.2.2.2.2.2.2.2.2.2.2.2.2.2.2.2.2.2.2.2.2.2.2.2.2.2.2.2.2.2.2.2.2.2.2.2.1, h.2.2.2.2.2.2.2.2.2.2.2.2.2.2.2.2.2.2.2.2.2.2.2.2.2.2.2.2.2.2.2.2.2.2.2.2.1, h.2.2.2.2.2.2.2.2.2.2.2.2.2.2.2.2.2.2.2.2.2.2.2.2.2.2.2.2.2.2.2.2.2.2.2.2.2.1, h.2.2.2.2.2.2.2.2.2.2.2.2.2.2.2.2.2.2.2.2.2.2.2.2.2.2.2.2.2.2.2.2.2.2.2.2.2.2.1, h.2.2.2.2.2.2.2.2.2.2.2.2.2.2.2.2.2.2.2.2.2.2.2.2.2.2.2.2.2.2.2.2.2.2.2.2.2.2.2.1, h.2.2.2.2.2.2.2.2.2.2.2.2.2.2.2.2.2.2.2.2.2.2.2.2.2.2.2.2.2.2.2.2.2.2.2.2.2.2.2.2.1, h.2.2.2.2.2.2.2.2.2.2.2.2.2.2.2.2.2.2.2.2.2.2.2.2.2.2.2.2.2.2.2.2.2.2.2.2.2.2.2.2.2.1, h.2.2.2.2.2.2.2.2.2.2.2.2.2.2.2.2.2.2.2.2.2.2.2.2.2.2.2.2.2.2.2.2.2.2.2.2.2.2.2.2.2.2.1, h.2.2.2.2.2.2.2.2.2.2.2.2.2.2.2.2.2.2.2.2.2.2.2.2.2.2.2.2.2.2.2.2.2.2.2.2.2.2.2.2.2.2.2.1, h.2.2.2.2.2.2.2.2.2.2.2.2.2.2.2.2.2.2.2.2.2.2.2.2.2.2.2.2.2.2.2.2.2.2.2.2.2.2.2.2.2.2.2.2.1, h.2.2.2.2.2.2.2.2.2.2.2.2.2.2.2.2.2.2.2.2.2.2.2.2.2.2.2.2.2.2.2.2.2.2.2.2.2.2.2.2.2.2.2.2.2.1, h.2.2.2.2.2.2.2.2.2.2.2.2.2.2.2.2.2.2.2.2.2.2.2.2.2.2.2.2.2.2.2.2.2.2.2.2.2.2.2.2.2.2.2.2.2.2.1, h.2.2.2.2.2.2.2.2.2.2.2.2.2.2.2.2.2.2.2.2.2.2.2.2.2.2.2.2.2.2.2.2.2.2.2.2.2.2.2.2.2.2.2.2.2.2.2.1, h.2.2.2.2.2.2.2.2.2.2.2.2.2.2.2.2.2.2.2.2.2.2.2.2.2.2.2.2.2.2.2.2.2.2.2.2.2.2.2.2.2.2.2.2.2.2.2.2.1, h.2.2.2.2.2.2.2.2.2.2.2.2.2.2.2.2.2.2.2.2.2.2.2.2.2.2.2.2.2.2.2.2.2.2.2.2.2.2.2.2.2.2.2.2.2.2.2.2.2.1, h.2.2.2.2.2.2.2.2.2.2.2.2.2.2.2.2.2.2.2.2.2.2.2.2.2.2.2.2.2.2.2.2.2.2.2.2.2.2.2.2.2.2.2.2.2.2.2.2.2.2.1, h.2.2.2.2.2.2.2.2.2.2.2.2.2.2.2.2.2.2.2.2.2.2.2.2.2.2.2.2.2.2.2.2.2.2.2.2.2.2.2.2.2.2.2.2.2.2.2.2.2.2.2.1, h.2.2.2.2.2.2.2.2.2.2.2.2.2.2.2.2.2.2.2.2.2.2.2.2.2.2.2.2.2.2.2.2.2.2.2.2.2.2.2.2.2.2.2.2.2.2.2.2.2.2.2.2.1, h.2.2.2.2.2.2.2.2.2.2.2.2.2.2.2.2.2.2.2.2.2.2.2.2.2.2.2.2.2.2.2.2.2.2.2.2.2.2.2.2.2.2.2.2.2.2.2.2.2.2.2.2.2.1, h.2.2.2.2.2.2.2.2.2.2.2.2.2.2.2.2.2.2.2.2.2.2.2.2.2.2.2.2.2.2.2.2.2.2.2.2.2.2.2.2.2.2.2.2.2.2.2.2.2.2.2.2.2.2.1, h.2.2.2.2.2.2.2.2.2.2.2.2.2.2.2.2.2.2.2.2.2.2.2.2.2.2.2.2.2.2.2.2.2.2.2.2.2.2.2.2.2.2.2.2.2.2.2.2.2.2.2.2.2.2.2.1, h.2.2.2.2.2.2.2.2.2.2.2.2.2.2.2.2.2.2.2.2.2.2.2.2.2.2.2.2.2.2.2.2.2.2.2.2.2.2.2.2.2.2.2.2.2.2.2.2.2.2.2.2.2.2.2.2.1, h.2.2.2.2.2.2.2.2.2.2.2.2.2.2.2.2.2.2.2.2.2.2.2.2.2.2.2.2.2.2.2.2.2.2.2.2.2.2.2.2.2.2.2.2.2.2.2.2.2.2.2.2.2.2.2.2.2.1, h.2.2.2.2.2.2.2.2.2.2.2.2.2.2.2.2.2.2.2.2.2.2.2.2.2.2.2.2.2.2.2.2.2.2.2.2.2.2.2.2.2.2.2.2.2.2.2.2.2.2.2.2.2.2.2.2.2.2.1, h.2.2.2.2.2.2.2.2.2.2.2.2.2.2.2.2.2.2.2.2.2.2.2.2.2.2.2.2.2.2.2.2.2.2.2.2.2.2.2.2.2.2.2.2.2.2.2.2.2.2.2.2.2.2.2.2.2.2.2.1, h.2.2.2.2.2.2.2.2.2.2.2.2.2.2.2.2.2.2.2.2.2.2.2.2.2.2.2.2.2.2.2.2.2.2.2.2.2.2.2.2.2.2.2.2.2.2.2.2.2.2.2.2.2.2.2.2.2.2.2.2.1, h.2.2.2.2.2.2.2.2.2.2.2.2.2.2.2.2.2.2.2.2.2.2.2.2.2.2.2.2.2.2.2.2.2.2.2.2.2.2.2.2.2.2.2.2.2.2.2.2.2.2.2.2.2.2.2.2.2.2.2.2.2.1, h.2.2.2.2.2.2.2.2.2.2.2.2.2.2.2.2.2.2.2.2.2.2.2.2.2.2.2.2.2.2.2.2.2.2.2.2.2.2.2.2.2.2.2.2.2.2.2.2.2.2.2.2.2.2.2.2.2.2.2.2.2.2⟩
set_option maxHeartbeats 4000000 in
set_option maxRecDepth 100000 in
theorem T_X11_fails (l : Launch) (D : va_G) (cy : Nat → ClassId) (a : Nat → Nat) (u : St) (hJ : MI a u) (x1 : Int32) (x2 : Int32) (hx_x1 : 1 ≤ x1.toInt ∧ x1.toInt ≤ 5) : Mv l D cy (mW cy a) yX11_fails (.code yX11_fails cX11_fails 3 none) (rmo 0 0) [.ref (a 0), .int x1, .int x2] u (fun (u' : St) => (MI a u') ∧ (Km25 u u') ∧ (¬ (fI u' 0 4).toInt = 0)) := by
  refine Mv.of (own := RX11) rfl (by decide) (Nat.le_of_ble_eq_true rfl) ?_
  have hT : Km25 u u := Km25.rf
  have hJ0 := hJ
  intro p e s m below meth c A Q ls C hret hO hl
  obtain ⟨hx, hb, hml, hown, ht, hK, hA⟩ := id C
  have hl : lv_has ls 3 [(0, .ref (a 0)), (1, .int x1), (2, .int x2)] := hl
  refine lv_aload_n hx hb dX11_fails_0 rfl (lv_at hl 0 rfl) ?_
  have g1 : 0 ≤ (fI u 0 4).toInt ∧ (fI u 0 4).toInt ≤ 5 := by have h := MI_4 hJ0; exact h
  refine gf_RX11_155 (v := .int (fI u 0 4)) C hO 0 mW_0 rfl dX11_fails_1 ?_
  refine bs_le (tgt := 8) (X := ((fI u 0 4)).toInt) hx hb dX11_fails_4 (by decide) rfl (fun c2 => ?_) (fun c2 => ?_)
  · refine lv_aload_n hx hb dX11_fails_8 rfl (lv_at hl 0 rfl) ?_
    refine lv_iload_n hx hb dX11_fails_9 rfl (lv_at hl 1 rfl) ?_
    refine pf_RX11_155 C hO 0 mW_0 (Nat.le_of_ble_eq_true rfl) mW_s0_4 dX11_fails_10 (fun H locs hO => ?_)
    have hT := Km25_wI4 (x := x1) hT
    have hJ := MIs_4 (v := x1) hJ (by first | decide | omega)
    refine lv_aload_n hx hb dX11_fails_13 rfl (lv_at hl 0 rfl) ?_
    refine lv_iload_n hx hb dX11_fails_14 rfl (lv_at hl 2 rfl) ?_
    refine pf_RX11_16 C hO 0 mW_0 (Nat.le_of_ble_eq_true rfl) mW_s0_5 dX11_fails_15 (fun H locs hO => ?_)
    have hT := Km25_wI5 (x := x2) hT
    have hJ := MIs_5 (v := x2) hJ
    have q3 : ¬ (x1 : Int32).toInt = 0 := by first | omega | decide
    refine hret _ _ _ _ _ dX11_fails_18 ?_ hO
    exact ⟨hJ, hT, q3⟩
  · have q4 : ¬ ((fI u 0 4) : Int32).toInt = 0 := by first | omega | decide
    refine hret _ _ _ _ _ dX11_fails_7 ?_ hO
    exact ⟨hJ, hT, q4⟩
theorem dX11_misplaced_0 : decode cX11_misplaced 0 = .ok (.aload_n 0, 1) := by decide +kernel
theorem dX11_misplaced_1 : decode cX11_misplaced 1 = .ok (.aload_n 0, 1) := by decide +kernel
theorem dX11_misplaced_2 : decode cX11_misplaced 2 = .ok (.getfield 208, 3) := by decide +kernel
theorem dX11_misplaced_5 : decode cX11_misplaced 5 = .ok (.iconst 1, 1) := by decide +kernel
theorem dX11_misplaced_6 : decode cX11_misplaced 6 = .ok (.if_icmp .ne 7, 3) := by decide +kernel
theorem dX11_misplaced_9 : decode cX11_misplaced 9 = .ok (.iconst 1, 1) := by decide +kernel
theorem dX11_misplaced_10 : decode cX11_misplaced 10 = .ok (.goto 4, 3) := by decide +kernel
theorem dX11_misplaced_13 : decode cX11_misplaced 13 = .ok (.iconst 2, 1) := by decide +kernel
theorem dX11_misplaced_14 : decode cX11_misplaced 14 = .ok (.aload_n 0, 1) := by decide +kernel
theorem dX11_misplaced_15 : decode cX11_misplaced 15 = .ok (.getfield 201, 3) := by decide +kernel
theorem dX11_misplaced_18 : decode cX11_misplaced 18 = .ok (.invokevirtual 232, 3) := by decide +kernel
theorem dX11_misplaced_21 : decode cX11_misplaced 21 = .ok (.return_, 1) := by decide +kernel
theorem wd_1618 : (Cond.code ⟨"WebCourtModel", "misplaced", "()V"⟩ prog_13_method_12_code (1 : Nat) (Option.none : Option FieldType)) ∈ gtb := gtb_c7 69 (by decide +kernel) rfl
theorem wd_1364 : (Cond.fieldLink "WebCourtModel" (208 : Nat) "WebCourtModel" "token" "I") ∈ gtb := gtb_c6 55 (by decide +kernel) rfl
theorem gf_RX11_208 {p : Program} {l : Launch} {e : Env} {R : Room} {s : State} {m : MethodId} {args : Array Value} {below : List Frame} {meth : Method} {c : Code} {H : Heap} {locs : List Loc} {cells slots : Nat} {Q : State → Prop} {cc : ByteArray} {pc nL : Nat} {ls : Array Slot} {rest : List Value} {D : va_G} {cy : Nat → ClassId} {A : Nat → Prop} {ws : va_W} {b : Nat} {fs : List Value} {v : Value} (C : Cx p s m args c cc nL RX11 D cy A) (hO : Wo D A ws s.heap H locs) (q0 : Nat) (he : ws[q0]? = some (b, .inr (11, fs))) (hv : fs[8]? = some v) (hdg : decode cc pc = .ok (.getfield 208, 3)) (kk : W p l e R s m args below meth c H locs cells slots Q (F0 m (pc + 3) ls (v :: rest))) : W p l e R s m args below meth c H locs cells slots Q (F0 m pc ls (.ref b :: rest)) := gF (k := 8) C hO q0 he rfl inFX11 (by decide) wd_1364 rfl hv hdg kk
theorem wd_1362 : (Cond.fieldLink "WebCourtModel" (201 : Nat) "WebCourtModel" "at" "I") ∈ gtb := gtb_c6 53 (by decide +kernel) rfl
theorem gf_RX11_201 {p : Program} {l : Launch} {e : Env} {R : Room} {s : State} {m : MethodId} {args : Array Value} {below : List Frame} {meth : Method} {c : Code} {H : Heap} {locs : List Loc} {cells slots : Nat} {Q : State → Prop} {cc : ByteArray} {pc nL : Nat} {ls : Array Slot} {rest : List Value} {D : va_G} {cy : Nat → ClassId} {A : Nat → Prop} {ws : va_W} {b : Nat} {fs : List Value} {v : Value} (C : Cx p s m args c cc nL RX11 D cy A) (hO : Wo D A ws s.heap H locs) (q0 : Nat) (he : ws[q0]? = some (b, .inr (11, fs))) (hv : fs[6]? = some v) (hdg : decode cc pc = .ok (.getfield 201, 3)) (kk : W p l e R s m args below meth c H locs cells slots Q (F0 m (pc + 3) ls (v :: rest))) : W p l e R s m args below meth c H locs cells slots Q (F0 m pc ls (.ref b :: rest)) := gF (k := 6) C hO q0 he rfl inFX11 (by decide) wd_1362 rfl hv hdg kk
theorem wd_1619 : (Cond.methodLink "WebCourtModel" (232 : Nat) ⟨"WebCourtModel", "fails", "(II)V"⟩) ∈ gtb := gtb_c7 70 (by decide +kernel) rfl
theorem wd_1621 : (Cond.instanceMethod ⟨"WebCourtModel", "fails", "(II)V"⟩) ∈ gtb := gtb_c7 72 (by decide +kernel) rfl
theorem wd_55 : (Cond.selects "WebCourtModel" ⟨"WebCourtModel", "fails", "(II)V"⟩ ⟨"WebCourtModel", "fails", "(II)V"⟩) ∈ gtb := gtb_p 55 (by decide +kernel) rfl
theorem hd_yX11_fails : yX11_fails.cls = RX11 ∧ yX11_fails.cls ≠ "java/lang/invoke/MethodHandle" ∧ yX11_fails.cls ≠ "java/lang/invoke/VarHandle" ∧ (parseMethodDescriptor yX11_fails.desc).map (fun d => d.parameters.length) = some 2 := by decide +kernel
set_option maxHeartbeats 4000000 in
set_option maxRecDepth 100000 in
theorem T_X11_misplaced (l : Launch) (D : va_G) (cy : Nat → ClassId) (a : Nat → Nat) (u : St) (hJ : MI a u)   : Mv l D cy (mW cy a) yX11_misplaced (.code yX11_misplaced cX11_misplaced 1 none) (rmo 1 22) [.ref (a 0)] u (fun (u' : St) => (MI a u') ∧ (Km25 u u') ∧ (¬ (fI u' 0 4).toInt = 0)) := by
  refine Mv.of (own := RX11) rfl (by decide) (Nat.le_of_ble_eq_true rfl) ?_
  have hT : Km25 u u := Km25.rf
  have hJ0 := hJ
  intro p e s m below meth c A Q ls C hret hO hl
  obtain ⟨hx, hb, hml, hown, ht, hK, hA⟩ := id C
  have hl : lv_has ls 1 [(0, .ref (a 0))] := hl
  refine lv_aload_n hx hb dX11_misplaced_0 rfl (lv_at hl 0 rfl) ?_
  refine lv_aload_n hx hb dX11_misplaced_1 rfl (lv_at hl 0 rfl) ?_
  have g1 : 0 ≤ (fI u 0 8).toInt ∧ (fI u 0 8).toInt ≤ 5 := by have h := MI_8 hJ0; exact h
  refine gf_RX11_208 (v := .int (fI u 0 8)) C hO 0 mW_0 rfl dX11_misplaced_2 ?_
  refine lv_iconst (v := 1) hx hb dX11_misplaced_5 (by decide) ?_
  refine cs_ne (tgt := 13) (X := ((fI u 0 8)).toInt) (Y := 1) hx hb dX11_misplaced_6 (by decide) rfl rfl (fun c2 => ?_) (fun c2 => ?_)
  · refine lv_iconst (v := 2) hx hb dX11_misplaced_13 (by decide) ?_
    refine lv_aload_n hx hb dX11_misplaced_14 rfl (lv_at hl 0 rfl) ?_
    have g3 : 0 ≤ (fI u 0 6).toInt ∧ (fI u 0 6).toInt ≤ 1600 := by have h := MI_6 hJ0; exact h
    refine gf_RX11_201 (v := .int (fI u 0 6)) C hO 0 mW_0 rfl dX11_misplaced_15 ?_
    refine cVv (w := mW cy a) (As := [.int 2, .int (fI u 0 6)]) (rest := []) C hO (T_X11_fails l D cy a _ (by exact hJ) (2) ((fI u 0 6)) (by first | omega | decide)) (cwV 2 ht (gV wd_1619 wd_1621 wd_55 wd_121 wd_1622) rfl rfl rfl hd_yX11_fails ⟨Nat.le_of_ble_eq_true rfl, Nat.le_of_ble_eq_true rfl⟩) 0 rfl mW_0 rfl rfl hl.1 (Nat.le_of_ble_eq_true rfl) dX11_misplaced_18 rfl ⟨Nat.zero_le _, Nat.zero_le _⟩ (fun u5 H locs hp6 hO => ?_)
    obtain ⟨hJ, hTu5, hx0u5⟩ := hp6
    have hT : Km25 u u5 := Km25.tr (by exact hT) hTu5
    have g7 : 0 ≤ (fI u5 0 4).toInt ∧ (fI u5 0 4).toInt ≤ 5 := by have h := MI_4 hJ; exact h
    have y0u5 : ¬ ((fI u5 0 4) : Int32).toInt = 0 := by exact hx0u5
    have q8 : ¬ ((fI u5 0 4) : Int32).toInt = 0 := by first | omega | decide
    refine hret _ _ _ _ _ dX11_misplaced_21 ?_ hO
    exact ⟨hJ, hT, q8⟩
  · refine lv_iconst (v := 1) hx hb dX11_misplaced_9 (by decide) ?_
    refine lv_goto (tgt := 14) hx hb dX11_misplaced_10 (by decide) ?_
    refine lv_aload_n hx hb dX11_misplaced_14 rfl (lv_at hl 0 rfl) ?_
    have g9 : 0 ≤ (fI u 0 6).toInt ∧ (fI u 0 6).toInt ≤ 1600 := by have h := MI_6 hJ0; exact h
    refine gf_RX11_201 (v := .int (fI u 0 6)) C hO 0 mW_0 rfl dX11_misplaced_15 ?_
    refine cVv (w := mW cy a) (As := [.int 1, .int (fI u 0 6)]) (rest := []) C hO (T_X11_fails l D cy a _ (by exact hJ) (1) ((fI u 0 6)) (by first | omega | decide)) (cwV 2 ht (gV wd_1619 wd_1621 wd_55 wd_121 wd_1622) rfl rfl rfl hd_yX11_fails ⟨Nat.le_of_ble_eq_true rfl, Nat.le_of_ble_eq_true rfl⟩) 0 rfl mW_0 rfl rfl hl.1 (Nat.le_of_ble_eq_true rfl) dX11_misplaced_18 rfl ⟨Nat.zero_le _, Nat.zero_le _⟩ (fun u11 H locs hp12 hO => ?_)
    obtain ⟨hJ, hTu11, hx0u11⟩ := hp12
    have hT : Km25 u u11 := Km25.tr (by exact hT) hTu11
    have g13 : 0 ≤ (fI u11 0 4).toInt ∧ (fI u11 0 4).toInt ≤ 5 := by have h := MI_4 hJ; exact h
    have y0u11 : ¬ ((fI u11 0 4) : Int32).toInt = 0 := by exact hx0u11
    have q14 : ¬ ((fI u11 0 4) : Int32).toInt = 0 := by first | omega | decide
    refine hret _ _ _ _ _ dX11_misplaced_21 ?_ hO
    exact ⟨hJ, hT, q14⟩
def Km26 (u v : St) : Prop := fI v 0 2 = fI u 0 2 ∧ fI v 0 3 = fI u 0 3 ∧ fI v 0 4 = fI u 0 4 ∧ fI v 0 5 = fI u 0 5 ∧ fI v 0 36 = fI u 0 36 ∧ fI v 0 37 = fI u 0 37 ∧ fI v 0 38 = fI u 0 38 ∧ fI v 0 39 = fI u 0 39 ∧ fI v 0 40 = fI u 0 40 ∧ fI v 0 41 = fI u 0 41 ∧ fI v 0 42 = fI u 0 42 ∧ fI v 0 43 = fI u 0 43 ∧ fI v 0 45 = fI u 0 45 ∧ fI v 0 47 = fI u 0 47 ∧ fI v 0 48 = fI u 0 48 ∧ fI v 0 50 = fI u 0 50 ∧ fI v 0 61 = fI u 0 61 ∧ fI v 0 62 = fI u 0 62 ∧ fA v 1 = fA u 1 ∧ fA v 2 = fA u 2 ∧ fA v 3 = fA u 3 ∧ fA v 4 = fA u 4 ∧ fA v 5 = fA u 5 ∧ fA v 6 = fA u 6 ∧ fA v 7 = fA u 7 ∧ fA v 8 = fA u 8 ∧ fA v 9 = fA u 9 ∧ fA v 10 = fA u 10 ∧ fA v 11 = fA u 11 ∧ fA v 12 = fA u 12 ∧ fA v 13 = fA u 13 ∧ fA v 14 = fA u 14 ∧ fA v 15 = fA u 15 ∧ fA v 16 = fA u 16 ∧ fA v 17 = fA u 17 ∧ fA v 18 = fA u 18 ∧ fA v 19 = fA u 19 ∧ fJ v 20 = fJ u 20 ∧ fJ v 21 = fJ u 21 ∧ fJ v 22 = fJ u 22 ∧ fA v 23 = fA u 23 ∧ fA v 24 = fA u 24 ∧ fA v 25 = fA u 25 ∧ fA v 26 = fA u 26 ∧ fA v 27 = fA u 27 ∧ fA v 28 = fA u 28 ∧ fA v 29 = fA u 29 ∧ fA v 30 = fA u 30 ∧ fA v 31 = fA u 31 ∧ fA v 32 = fA u 32 ∧ fA v 33 = fA u 33 ∧ fA v 34 = fA u 34 ∧ fA v 35 = fA u 35 ∧ fA v 36 = fA u 36 ∧ fA v 37 = fA u 37 ∧ fA v 38 = fA u 38 ∧ fA v 39 = fA u 39 ∧ fA v 40 = fA u 40 ∧ fA v 41 = fA u 41 ∧ fA v 42 = fA u 42
theorem Km26.rf {u : St} : Km26 u u := ⟨rfl, rfl, rfl, rfl, rfl, rfl, rfl, rfl, rfl, rfl, rfl, rfl, rfl, rfl, rfl, rfl, rfl, rfl, rfl, rfl, rfl, rfl, rfl, rfl, rfl, rfl, rfl, rfl, rfl, rfl, rfl, rfl, rfl, rfl, rfl, rfl, rfl, rfl, rfl, rfl, rfl, rfl, rfl, rfl, rfl, rfl, rfl, rfl, rfl, rfl, rfl, rfl, rfl, rfl, rfl, rfl, rfl, rfl, rfl, rfl⟩
theorem Km26.tr {u v w : St} (h1 : Km26 u v) (h2 : Km26 v w) : Km26 u w := ⟨(h2.1).trans h1.1, (h2.2.1).trans h1.2.1, (h2.2.2.1).trans h1.2.2.1, (h2.2.2.2.1).trans h1.2.2.2.1, (h2.2.2.2.2.1).trans h1.2.2.2.2.1, (h2.2.2.2.2.2.1).trans h1.2.2.2.2.2.1, (h2.2.2.2.2.2.2.1).trans h1.2.2.2.2.2.2.1, (h2.2.2.2.2.2.2.2.1).trans h1.2.2.2.2.2.2.2.1, (h2.2.2.2.2.2.2.2.2.1).trans h1.2.2.2.2.2.2.2.2.1, (h2.2.2.2.2.2.2.2.2.2.1).trans h1.2.2.2.2.2.2.2.2.2.1, (h2.2.2.2.2.2.2.2.2.2.2.1).trans h1.2.2.2.2.2.2.2.2.2.2.1, (h2.2.2.2.2.2.2.2.2.2.2.2.1).trans h1.2.2.2.2.2.2.2.2.2.2.2.1, (h2.2.2.2.2.2.2.2.2.2.2.2.2.1).trans h1.2.2.2.2.2.2.2.2.2.2.2.2.1, (h2.2.2.2.2.2.2.2.2.2.2.2.2.2.1).trans h1.2.2.2.2.2.2.2.2.2.2.2.2.2.1, (h2.2.2.2.2.2.2.2.2.2.2.2.2.2.2.1).trans h1.2.2.2.2.2.2.2.2.2.2.2.2.2.2.1, (h2.2.2.2.2.2.2.2.2.2.2.2.2.2.2.2.1).trans h1.2.2.2.2.2.2.2.2.2.2.2.2.2.2.2.1, (h2.2.2.2.2.2.2.2.2.2.2.2.2.2.2.2.2.1).trans h1.2.2.2.2.2.2.2.2.2.2.2.2.2.2.2.2.1, (h2.2.2.2.2.2.2.2.2.2.2.2.2.2.2.2.2.2.1).trans h1.2.2.2.2.2.2.2.2.2.2.2.2.2.2.2.2.2.1, (h2.2.2.2.2.2.2.2.2.2.2.2.2.2.2.2.2.2.2.1).trans h1.2.2.2.2.2.2.2.2.2.2.2.2.2.2.2.2.2.2.1, (h2.2.2.2.2.2.2.2.2.2.2.2.2.2.2.2.2.2.2.2.1).trans h1.2.2.2.2.2.2.2.2.2.2.2.2.2.2.2.2.2.2.2.1, (h2.2.2.2.2.2.2.2.2.2.2.2.2.2.2.2.2.2.2.2.2.1).trans h1.2.2.2.2.2.2.2.2.2.2.2.2.2.2.2.2.2.2.2.2.1, (h2.2.2.2.2.2.2.2.2.2.2.2.2.2.2.2.2.2.2.2.2.2.1).trans h1.2.2.2.2.2.2.2.2.2.2.2.2.2.2.2.2.2.2.2.2.2.1, (h2.2.2.2.2.2.2.2.2.2.2.2.2.2.2.2.2.2.2.2.2.2.2.1).trans h1.2.2.2.2.2.2.2.2.2.2.2.2.2.2.2.2.2.2.2.2.2.2.1, (h2.2.2.2.2.2.2.2.2.2.2.2.2.2.2.2.2.2.2.2.2.2.2.2.1).trans h1.2.2.2.2.2.2.2.2.2.2.2.2.2.2.2.2.2.2.2.2.2.2.2.1, (h2.2.2.2.2.2.2.2.2.2.2.2.2.2.2.2.2.2.2.2.2.2.2.2.2.1).trans h1.2.2.2.2.2.2.2.2.2.2.2.2.2.2.2.2.2.2.2.2.2.2.2.2.1, (h2.2.2.2.2.2.2.2.2.2.2.2.2.2.2.2.2.2.2.2.2.2.2.2.2.2.1).trans h1.2.2.2.2.2.2.2.2.2.2.2.2.2.2.2.2.2.2.2.2.2.2.2.2.2.1, (h2.2.2.2.2.2.2.2.2.2.2.2.2.2.2.2.2.2.2.2.2.2.2.2.2.2.2.1).trans h1.2.2.2.2.2.2.2.2.2.2.2.2.2.2.2.2.2.2.2.2.2.2.2.2.2.2.1, (h2.2.2.2.2.2.2.2.2.2.2.2.2.2.2.2.2.2.2.2.2.2.2.2.2.2.2.2.1).trans h1.2.2.2.2.2.2.2.2.2.2.2.2.2.2.2.2.2.2.2.2.2.2.2.2.2.2.2.1, (h2.2.2.2.2.2.2.2.2.2.2.2.2.2.2.2.2.2.2.2.2.2.2.2.2.2.2.2.2.1).trans h1.2.2.2.2.2.2.2.2.2.2.2.2.2.2.2.2.2.2.2.2.2.2.2.2.2.2.2.2.1, (h2.2.2.2.2.2.2.2.2.2.2.2.2.2.2.2.2.2.2.2.2.2.2.2.2.2.2.2.2.2.1).trans h1.2.2.2.2.2.2.2.2.2.2.2.2.2.2.2.2.2.2.2.2.2.2.2.2.2.2.2.2.2.1, (h2.2.2.2.2.2.2.2.2.2.2.2.2.2.2.2.2.2.2.2.2.2.2.2.2.2.2.2.2.2.2.1).trans h1.2.2.2.2.2.2.2.2.2.2.2.2.2.2.2.2.2.2.2.2.2.2.2.2.2.2.2.2.2.2.1, (h2.2.2.2.2.2.2.2.2.2.2.2.2.2.2.2.2.2.2.2.2.2.2.2.2.2.2.2.2.2.2.2.1).trans h1.2.2.2.2.2.2.2.2.2.2.2.2.2.2.2.2.2.2.2.2.2.2.2.2.2.2.2.2.2.2.2.1, (h2.2.2.2.2.2.2.2.2.2.2.2.2.2.2.2.2.2.2.2.2.2.2.2.2.2.2.2.2.2.2.2.2.1).trans h1.2.2.2.2.2.2.2.2.2.2.2.2.2.2.2.2.2.2.2.2.2.2.2.2.2.2.2.2.2.2.2.2.1, (h2.2.2.2.2.2.2.2.2.2.2.2.2.2.2.2.2.2.2.2.2.2.2.2.2.2.2.2.2.2.2.2.2.2.1).trans h1.2.2.2.2.2.2.2.2.2.2.2.2.2.2.2.2.2.2.2.2.2.2.2.2.2.2.2.2.2.2.2.2.2.1, (h2.2.2.2.2.2.2.2.2.2.2.2.2.2.2.2.2.2.2.2.2.2.2.2.2.2.2.2.2.2.2.2.2.2.2.1).trans h1.2.2.2.2.2.2.2.2.2.2.2.2.2.2.2.2.2.2.2.2.2.2.2.2.2.2.2.2.2.2.2.2.2.2.1, (h2.2.2.2.2.2.2.2.2.2.2.2.2.2.2.2.2.2.2.2.2.2.2.2.2.2.2.2.2.2.2.2.2.2.2.2.1).trans h1.2.2.2.2.2.2.2.2.2.2.2.2.2.2.2.2.2.2.2.2.2.2.2.2.2.2.2.2.2.2.2.2.2.2.2.1, (h2.2.2.2.2.2.2.2.2.2.2.2.2.2.2.2.2.2.2.2.2.2.2.2.2.2.2.2.2.2.2.2.2.2.2.2.2.1).trans h1.2.2.2.2.2.2.2.2.2.2.2.2.2.2.2.2.2.2.2.2.2.2.2.2.2.2.2.2.2.2.2.2.2.2.2.2.1, (h2.2.2.2.2.2.2.2.2.2.2.2.2.2.2.2.2.2.2.2.2.2.2.2.2.2.2.2.2.2.2.2.2.2.2.2.2.2.1).trans h1.2.2.2.2.2.2.2.2.2.2.2.2.2.2.2.2.2.2.2.2.2.2.2.2.2.2.2.2.2.2.2.2.2.2.2.2.2.1, (h2.2.2.2.2.2.2.2.2.2.2.2.2.2.2.2.2.2.2.2.2.2.2.2.2.2.2.2.2.2.2.2.2.2.2.2.2.2.2.1).trans h1.2.2.2.2.2.2.2.2.2.2.2.2.2.2.2.2.2.2.2.2.2.2.2.2.2.2.2.2.2.2.2.2.2.2.2.2.2.2.1, (h2.2.2.2.2.2.2.2.2.2.2.2.2.2.2.2.2.2.2.2.2.2.2.2.2.2.2.2.2.2.2.2.2.2.2.2.2.2.2.2.1).trans h1.2.2.2.2.2.2.2.2.2.2.2.2.2.2.2.2.2.2.2.2.2.2.2.2.2.2.2.2.2.2.2.2.2.2.2.2.2.2.2.1, (h2.2.2.2.2.2.2.2.2.2.2.2.2.2.2.2.2.2.2.2.2.2.2.2.2.2.2.2.2.2.2.2.2.2.2.2.2.2.2.2.2.1).trans h1.2.2.2.2.2.2.2.2.2.2.2.2.2.2.2.2.2.2.2.2.2.2.2.2.2.2.2.2.2.2.2.2.2.2.2.2.2.2.2.2.1, (h2.2.2.2.2.2.2.2.2.2.2.2.2.2.2.2.2.2.2.2.2.2.2.2.2.2.2.2.2.2.2.2.2.2.2.2.2.2.2.2.2.2.1).trans h1.2.2.2.2.2.2.2.2.2.2.2.2.2.2.2.2.2.2.2.2.2.2.2.2.2.2.2.2.2.2.2.2.2.2.2.2.2.2.2.2.2.1, (h2.2.2.2.2.2.2.2.2.2.2.2.2.2.2.2.2.2.2.2.2.2.2.2.2.2.2.2.2.2.2.2.2.2.2.2.2.2.2.2.2.2.2.1).trans h1.2.2.2.2.2.2.2.2.2.2.2.2.2.2.2.2.2.2.2.2.2.2.2.2.2.2.2.2.2.2.2.2.2.2.2.2.2.2.2.2.2.2.1, (h2.2.2.2.2.2.2.2.2.2.2.2.2.2.2.2.2.2.2.2.2.2.2.2.2.2.2.2.2.2.2.2.2.2.2.2.2.2.2.2.2.2.2.2.1).trans h1.2.2.2.2.2.2.2.2.2.2.2.2.2.2.2.2.2.2.2.2.2.2.2.2.2.2.2.2.2.2.2.2.2.2.2.2.2.2.2.2.2.2.2.1, (h2.2.2.2.2.2.2.2.2.2.2.2.2.2.2.2.2.2.2.2.2.2.2.2.2.2.2.2.2.2.2.2.2.2.2.2.2.2.2.2.2.2.2.2.2.1).trans h1.2.2.2.2.2.2.2.2.2.2.2.2.2.2.2.2.2.2.2.2.2.2.2.2.2.2.2.2.2.2.2.2.2.2.2.2.2.2.2.2.2.2.2.2.1, (h2.2.2.2.2.2.2.2.2.2.2.2.2.2.2.2.2.2.2.2.2.2.2.2.2.2.2.2.2.2.2.2.2.2.2.2.2.2.2.2.2.2.2.2.2.2.1).trans h1.2.2.2.2.2.2.2.2.2.2.2.2.2.2.2.2.2.2.2.2.2.2.2.2.2.2.2.2.2.2.2.2.2.2.2.2.2.2.2.2.2.2.2.2.2.1, (h2.2.2.2.2.2.2.2.2.2.2.2.2.2.2.2.2.2.2.2.2.2.2.2.2.2.2.2.2.2.2.2.2.2.2.2.2.2.2.2.2.2.2.2.2.2.2.1).trans h1.2.2.2.2.2.2.2.2.2.2.2.2.2.2.2.2.2.2.2.2.2.2.2.2.2.2.2.2.2.2.2.2.2.2.2.2.2.2.2.2.2.2.2.2.2.2.1, (h2.2.2.2.2.2.2.2.2.2.2.2.2.2.2.2.2.2.2.2.2.2.2.2.2.2.2.2.2.2.2.2.2.2.2.2.2.2.2.2.2.2.2.2.2.2.2.2.1).trans h1.2.2.2.2.2.2.2.2.2.2.2.2.2.2.2.2.2.2.2.2.2.2.2.2.2.2.2.2.2.2.2.2.2.2.2.2.2.2.2.2.2.2.2.2.2.2.2.1, (h2.2.2.2.2.2.2.2.2.2.2.2.2.2.2.2.2.2.2.2.2.2.2.2.2.2.2.2.2.2.2.2.2.2.2.2.2.2.2.2.2.2.2.2.2.2.2.2.2.1).trans h1.2.2.2.2.2.2.2.2.2.2.2.2.2.2.2.2.2.2.2.2.2.2.2.2.2.2.2.2.2.2.2.2.2.2.2.2.2.2.2.2.2.2.2.2.2.2.2.2.1, (h2.2.2.2.2.2.2.2.2.2.2.2.2.2.2.2.2.2.2.2.2.2.2.2.2.2.2.2.2.2.2.2.2.2.2.2.2.2.2.2.2.2.2.2.2.2.2.2.2.2.1).trans h1.2.2.2.2.2.2.2.2.2.2.2.2.2.2.2.2.2.2.2.2.2.2.2.2.2.2.2.2.2.2.2.2.2.2.2.2.2.2.2.2.2.2.2.2.2.2.2.2.2.1, (h2.2.2.2.2.2.2.2.2.2.2.2.2.2.2.2.2.2.2.2.2.2.2.2.2.2.2.2.2.2.2.2.2.2.2.2.2.2.2.2.2.2.2.2.2.2.2.2.2.2.2.1).trans h1.2.2.2.2.2.2.2.2.2.2.2.2.2.2.2.2.2.2.2.2.2.2.2.2.2.2.2.2.2.2.2.2.2.2.2.2.2.2.2.2.2.2.2.2.2.2.2.2.2.2.1, (h2.2.2.2.2.2.2.2.2.2.2.2.2.2.2.2.2.2.2.2.2.2.2.2.2.2.2.2.2.2.2.2.2.2.2.2.2.2.2.2.2.2.2.2.2.2.2.2.2.2.2.2.1).trans h1.2.2.2.2.2.2.2.2.2.2.2.2.2.2.2.2.2.2.2.2.2.2.2.2.2.2.2.2.2.2.2.2.2.2.2.2.2.2.2.2.2.2.2.2.2.2.2.2.2.2.2.1, (h2.2.2.2.2.2.2.2.2.2.2.2.2.2.2.2.2.2.2.2.2.2.2.2.2.2.2.2.2.2.2.2.2.2.2.2.2.2.2.2.2.2.2.2.2.2.2.2.2.2.2.2.2.1).trans h1.2.2.2.2.2.2.2.2.2.2.2.2.2.2.2.2.2.2.2.2.2.2.2.2.2.2.2.2.2.2.2.2.2.2.2.2.2.2.2.2.2.2.2.2.2.2.2.2.2.2.2.2.1, (h2.2.2.2.2.2.2.2.2.2.2.2.2.2.2.2.2.2.2.2.2.2.2.2.2.2.2.2.2.2.2.2.2.2.2.2.2.2.2.2.2.2.2.2.2.2.2.2.2.2.2.2.2.2.1).trans h1.2.2.2.2.2.2.2.2.2.2.2.2.2.2.2.2.2.2.2.2.2.2.2.2.2.2.2.2.2.2.2.2.2.2.2.2.2.2.2.2.2.2.2.2.2.2.2.2.2.2.2.2.2.1, (h2.2.2.2.2.2.2.2.2.2.2.2.2.2.2.2.2.2.2.2.2.2.2.2.2.2.2.2.2.2.2.2.2.2.2.2.2.2.2.2.2.2.2.2.2.2.2.2.2.2.2.2.2.2.2.1).trans h1.2.2.2.2.2.2.2.2.2.2.2.2.2.2.2.2.2.2.2.2.2.2.2.2.2.2.2.2.2.2.2.2.2.2.2.2.2.2.2.2.2.2.2.2.2.2.2.2.2.2.2.2.2.2.1, (h2.2.2.2.2.2.2.2.2.2.2.2.2.2.2.2.2.2.2.2.2.2.2.2.2.2.2.2.2.2.2.2.2.2.2.2.2.2.2.2.2.2.2.2.2.2.2.2.2.2.2.2.2.2.2.2.1).trans h1.2.2.2.2.2.2.2.2.2.2.2.2.2.2.2.2.2.2.2.2.2.2.2.2.2.2.2.2.2.2.2.2.2.2.2.2.2.2.2.2.2.2.2.2.2.2.2.2.2.2.2.2.2.2.2.1, (h2.2.2.2.2.2.2.2.2.2.2.2.2.2.2.2.2.2.2.2.2.2.2.2.2.2.2.2.2.2.2.2.2.2.2.2.2.2.2.2.2.2.2.2.2.2.2.2.2.2.2.2.2.2.2.2.2.1).trans h1.2.2.2.2.2.2.2.2.2.2.2.2.2.2.2.2.2.2.2.2.2.2.2.2.2.2.2.2.2.2.2.2.2.2.2.2.2.2.2.2.2.2.2.2.2.2.2.2.2.2.2.2.2.2.2.2.1, (h2.2.2.2.2.2.2.2.2.2.2.2.2.2.2.2.2.2.2.2.2.2.2.2.2.2.2.2.2.2.2.2.2.2.2.2.2.2.2.2.2.2.2.2.2.2.2.2.2.2.2.2.2.2.2.2.2.2.1).trans h1.2.2.2.2.2.2.2.2.2.2.2.2.2.2.2.2.2.2.2.2.2.2.2.2.2.2.2.2.2.2.2.2.2.2.2.2.2.2.2.2.2.2.2.2.2.2.2.2.2.2.2.2.2.2.2.2.2.1, (h2.2.2.2.2.2.2.2.2.2.2.2.2.2.2.2.2.2.2.2.2.2.2.2.2.2.2.2.2.2.2.2.2.2.2.2.2.2.2.2.2.2.2.2.2.2.2.2.2.2.2.2.2.2.2.2.2.2.2.1).trans h1.2.2.2.2.2.2.2.2.2.2.2.2.2.2.2.2.2.2.2.2.2.2.2.2.2.2.2.2.2.2.2.2.2.2.2.2.2.2.2.2.2.2.2.2.2.2.2.2.2.2.2.2.2.2.2.2.2.2.1, (h2.2.2.2.2.2.2.2.2.2.2.2.2.2.2.2.2.2.2.2.2.2.2.2.2.2.2.2.2.2.2.2.2.2.2.2.2.2.2.2.2.2.2.2.2.2.2.2.2.2.2.2.2.2.2.2.2.2.2.2).trans h1.2.2.2.2.2.2.2.2.2.2.2.2.2.2.2.2.2.2.2.2.2.2.2.2.2.2.2.2.2.2.2.2.2.2.2.2.2.2.2.2.2.2.2.2.2.2.2.2.2.2.2.2.2.2.2.2.2.2.2⟩
theorem dX11_goOn_0 : decode cX11_goOn 0 = .ok (.aload_n 0, 1) := by decide +kernel
theorem dX11_goOn_1 : decode cX11_goOn 1 = .ok (.aload_n 0, 1) := by decide +kernel
theorem dX11_goOn_2 : decode cX11_goOn 2 = .ok (.getfield 198, 3) := by decide +kernel
theorem dX11_goOn_5 : decode cX11_goOn 5 = .ok (.putfield 201, 3) := by decide +kernel
theorem dX11_goOn_8 : decode cX11_goOn 8 = .ok (.aload_n 0, 1) := by decide +kernel
theorem dX11_goOn_9 : decode cX11_goOn 9 = .ok (.getfield 201, 3) := by decide +kernel
theorem dX11_goOn_12 : decode cX11_goOn 12 = .ok (.aload_n 0, 1) := by decide +kernel
theorem dX11_goOn_13 : decode cX11_goOn 13 = .ok (.getfield 152, 3) := by decide +kernel
theorem dX11_goOn_16 : decode cX11_goOn 16 = .ok (.if_icmp .ge 42, 3) := by decide +kernel
theorem dX11_goOn_19 : decode cX11_goOn 19 = .ok (.aload_n 0, 1) := by decide +kernel
theorem dX11_goOn_20 : decode cX11_goOn 20 = .ok (.aload_n 0, 1) := by decide +kernel
theorem dX11_goOn_21 : decode cX11_goOn 21 = .ok (.getfield 201, 3) := by decide +kernel
theorem dX11_goOn_24 : decode cX11_goOn 24 = .ok (.invokevirtual 204, 3) := by decide +kernel
theorem dX11_goOn_27 : decode cX11_goOn 27 = .ok (.bipush 32, 2) := by decide +kernel
theorem dX11_goOn_29 : decode cX11_goOn 29 = .ok (.if_icmp .eq 16, 3) := by decide +kernel
theorem dX11_goOn_32 : decode cX11_goOn 32 = .ok (.aload_n 0, 1) := by decide +kernel
theorem dX11_goOn_33 : decode cX11_goOn 33 = .ok (.aload_n 0, 1) := by decide +kernel
theorem dX11_goOn_34 : decode cX11_goOn 34 = .ok (.getfield 201, 3) := by decide +kernel
theorem dX11_goOn_37 : decode cX11_goOn 37 = .ok (.invokevirtual 204, 3) := by decide +kernel
theorem dX11_goOn_40 : decode cX11_goOn 40 = .ok (.bipush 10, 2) := by decide +kernel
theorem dX11_goOn_42 : decode cX11_goOn 42 = .ok (.if_icmp .ne 16, 3) := by decide +kernel
theorem dX11_goOn_45 : decode cX11_goOn 45 = .ok (.aload_n 0, 1) := by decide +kernel
theorem dX11_goOn_46 : decode cX11_goOn 46 = .ok (.dup, 1) := by decide +kernel
theorem dX11_goOn_47 : decode cX11_goOn 47 = .ok (.getfield 201, 3) := by decide +kernel
theorem dX11_goOn_50 : decode cX11_goOn 50 = .ok (.iconst 1, 1) := by decide +kernel
theorem dX11_goOn_51 : decode cX11_goOn 51 = .ok (.iadd, 1) := by decide +kernel
theorem dX11_goOn_52 : decode cX11_goOn 52 = .ok (.putfield 201, 3) := by decide +kernel
theorem dX11_goOn_55 : decode cX11_goOn 55 = .ok (.goto (-47), 3) := by decide +kernel
theorem dX11_goOn_58 : decode cX11_goOn 58 = .ok (.aload_n 0, 1) := by decide +kernel
theorem dX11_goOn_59 : decode cX11_goOn 59 = .ok (.aload_n 0, 1) := by decide +kernel
theorem dX11_goOn_60 : decode cX11_goOn 60 = .ok (.getfield 201, 3) := by decide +kernel
theorem dX11_goOn_63 : decode cX11_goOn 63 = .ok (.invokevirtual 204, 3) := by decide +kernel
theorem dX11_goOn_66 : decode cX11_goOn 66 = .ok (.istore_n 1, 1) := by decide +kernel
theorem dX11_goOn_67 : decode cX11_goOn 67 = .ok (.aload_n 0, 1) := by decide +kernel
theorem dX11_goOn_68 : decode cX11_goOn 68 = .ok (.aload_n 0, 1) := by decide +kernel
theorem dX11_goOn_69 : decode cX11_goOn 69 = .ok (.getfield 201, 3) := by decide +kernel
theorem dX11_goOn_72 : decode cX11_goOn 72 = .ok (.iconst 1, 1) := by decide +kernel
theorem dX11_goOn_73 : decode cX11_goOn 73 = .ok (.iadd, 1) := by decide +kernel
theorem dX11_goOn_74 : decode cX11_goOn 74 = .ok (.putfield 198, 3) := by decide +kernel
theorem dX11_goOn_77 : decode cX11_goOn 77 = .ok (.aload_n 0, 1) := by decide +kernel
theorem dX11_goOn_78 : decode cX11_goOn 78 = .ok (.getfield 201, 3) := by decide +kernel
theorem dX11_goOn_81 : decode cX11_goOn 81 = .ok (.aload_n 0, 1) := by decide +kernel
theorem dX11_goOn_82 : decode cX11_goOn 82 = .ok (.getfield 152, 3) := by decide +kernel
theorem dX11_goOn_85 : decode cX11_goOn 85 = .ok (.if_icmp .lt 27, 3) := by decide +kernel
theorem dX11_goOn_88 : decode cX11_goOn 88 = .ok (.aload_n 0, 1) := by decide +kernel
theorem dX11_goOn_89 : decode cX11_goOn 89 = .ok (.iconst 0, 1) := by decide +kernel
theorem dX11_goOn_90 : decode cX11_goOn 90 = .ok (.putfield 208, 3) := by decide +kernel
theorem dX11_goOn_93 : decode cX11_goOn 93 = .ok (.aload_n 0, 1) := by decide +kernel
theorem dX11_goOn_94 : decode cX11_goOn 94 = .ok (.aload_n 0, 1) := by decide +kernel
theorem dX11_goOn_95 : decode cX11_goOn 95 = .ok (.getfield 152, 3) := by decide +kernel
theorem dX11_goOn_98 : decode cX11_goOn 98 = .ok (.putfield 201, 3) := by decide +kernel
theorem dX11_goOn_101 : decode cX11_goOn 101 = .ok (.aload_n 0, 1) := by decide +kernel
theorem dX11_goOn_102 : decode cX11_goOn 102 = .ok (.aload_n 0, 1) := by decide +kernel
theorem dX11_goOn_103 : decode cX11_goOn 103 = .ok (.getfield 152, 3) := by decide +kernel
theorem dX11_goOn_106 : decode cX11_goOn 106 = .ok (.putfield 198, 3) := by decide +kernel
theorem dX11_goOn_109 : decode cX11_goOn 109 = .ok (.goto 268, 3) := by decide +kernel
theorem dX11_goOn_112 : decode cX11_goOn 112 = .ok (.iload_n 1, 1) := by decide +kernel
theorem dX11_goOn_113 : decode cX11_goOn 113 = .ok (.invokestatic 211, 3) := by decide +kernel
theorem dX11_goOn_116 : decode cX11_goOn 116 = .ok (.ifCond .eq 123, 3) := by decide +kernel
theorem dX11_goOn_119 : decode cX11_goOn 119 = .ok (.aload_n 0, 1) := by decide +kernel
theorem dX11_goOn_120 : decode cX11_goOn 120 = .ok (.aload_n 0, 1) := by decide +kernel
theorem dX11_goOn_121 : decode cX11_goOn 121 = .ok (.getfield 198, 3) := by decide +kernel
theorem dX11_goOn_124 : decode cX11_goOn 124 = .ok (.invokevirtual 204, 3) := by decide +kernel
theorem dX11_goOn_127 : decode cX11_goOn 127 = .ok (.invokestatic 211, 3) := by decide +kernel
theorem dX11_goOn_130 : decode cX11_goOn 130 = .ok (.ifCond .eq 16, 3) := by decide +kernel
theorem dX11_goOn_133 : decode cX11_goOn 133 = .ok (.aload_n 0, 1) := by decide +kernel
theorem dX11_goOn_134 : decode cX11_goOn 134 = .ok (.dup, 1) := by decide +kernel
theorem dX11_goOn_135 : decode cX11_goOn 135 = .ok (.getfield 198, 3) := by decide +kernel
theorem dX11_goOn_138 : decode cX11_goOn 138 = .ok (.iconst 1, 1) := by decide +kernel
theorem dX11_goOn_139 : decode cX11_goOn 139 = .ok (.iadd, 1) := by decide +kernel
theorem dX11_goOn_140 : decode cX11_goOn 140 = .ok (.putfield 198, 3) := by decide +kernel
theorem dX11_goOn_143 : decode cX11_goOn 143 = .ok (.goto (-24), 3) := by decide +kernel
theorem dX11_goOn_146 : decode cX11_goOn 146 = .ok (.aload_n 0, 1) := by decide +kernel
theorem dX11_goOn_147 : decode cX11_goOn 147 = .ok (.lconst 0, 1) := by decide +kernel
theorem dX11_goOn_148 : decode cX11_goOn 148 = .ok (.putfield 215, 3) := by decide +kernel
theorem dX11_goOn_151 : decode cX11_goOn 151 = .ok (.aload_n 0, 1) := by decide +kernel
theorem dX11_goOn_152 : decode cX11_goOn 152 = .ok (.getfield 201, 3) := by decide +kernel
theorem dX11_goOn_155 : decode cX11_goOn 155 = .ok (.istore_n 2, 1) := by decide +kernel
theorem dX11_goOn_156 : decode cX11_goOn 156 = .ok (.iload_n 2, 1) := by decide +kernel
theorem dX11_goOn_157 : decode cX11_goOn 157 = .ok (.aload_n 0, 1) := by decide +kernel
theorem dX11_goOn_158 : decode cX11_goOn 158 = .ok (.getfield 198, 3) := by decide +kernel
theorem dX11_goOn_161 : decode cX11_goOn 161 = .ok (.if_icmp .ge 38, 3) := by decide +kernel
theorem dX11_goOn_164 : decode cX11_goOn 164 = .ok (.iload_n 2, 1) := by decide +kernel
theorem dX11_goOn_165 : decode cX11_goOn 165 = .ok (.aload_n 0, 1) := by decide +kernel
theorem dX11_goOn_166 : decode cX11_goOn 166 = .ok (.getfield 201, 3) := by decide +kernel
theorem dX11_goOn_169 : decode cX11_goOn 169 = .ok (.bipush 8, 2) := by decide +kernel
theorem dX11_goOn_171 : decode cX11_goOn 171 = .ok (.iadd, 1) := by decide +kernel
theorem dX11_goOn_172 : decode cX11_goOn 172 = .ok (.if_icmp .ge 27, 3) := by decide +kernel
theorem dX11_goOn_175 : decode cX11_goOn 175 = .ok (.aload_n 0, 1) := by decide +kernel
theorem dX11_goOn_176 : decode cX11_goOn 176 = .ok (.aload_n 0, 1) := by decide +kernel
theorem dX11_goOn_177 : decode cX11_goOn 177 = .ok (.getfield 215, 3) := by decide +kernel
theorem dX11_goOn_180 : decode cX11_goOn 180 = .ok (.bipush 8, 2) := by decide +kernel
theorem dX11_goOn_182 : decode cX11_goOn 182 = .ok (.lshl, 1) := by decide +kernel
theorem dX11_goOn_183 : decode cX11_goOn 183 = .ok (.aload_n 0, 1) := by decide +kernel
theorem dX11_goOn_184 : decode cX11_goOn 184 = .ok (.iload_n 2, 1) := by decide +kernel
theorem dX11_goOn_185 : decode cX11_goOn 185 = .ok (.invokevirtual 204, 3) := by decide +kernel
theorem dX11_goOn_188 : decode cX11_goOn 188 = .ok (.i2l, 1) := by decide +kernel
theorem dX11_goOn_189 : decode cX11_goOn 189 = .ok (.lor, 1) := by decide +kernel
theorem dX11_goOn_190 : decode cX11_goOn 190 = .ok (.putfield 215, 3) := by decide +kernel
theorem dX11_goOn_193 : decode cX11_goOn 193 = .ok (.iinc 2 1, 3) := by decide +kernel
theorem dX11_goOn_196 : decode cX11_goOn 196 = .ok (.goto (-40), 3) := by decide +kernel
theorem dX11_goOn_199 : decode cX11_goOn 199 = .ok (.aload_n 0, 1) := by decide +kernel
theorem dX11_goOn_200 : decode cX11_goOn 200 = .ok (.aload_n 0, 1) := by decide +kernel
theorem dX11_goOn_201 : decode cX11_goOn 201 = .ok (.getfield 198, 3) := by decide +kernel
theorem dX11_goOn_204 : decode cX11_goOn 204 = .ok (.aload_n 0, 1) := by decide +kernel
theorem dX11_goOn_205 : decode cX11_goOn 205 = .ok (.getfield 201, 3) := by decide +kernel
theorem dX11_goOn_208 : decode cX11_goOn 208 = .ok (.isub, 1) := by decide +kernel
theorem dX11_goOn_209 : decode cX11_goOn 209 = .ok (.bipush 8, 2) := by decide +kernel
theorem dX11_goOn_211 : decode cX11_goOn 211 = .ok (.if_icmp .le 7, 3) := by decide +kernel
theorem dX11_goOn_214 : decode cX11_goOn 214 = .ok (.iconst 1, 1) := by decide +kernel
theorem dX11_goOn_215 : decode cX11_goOn 215 = .ok (.goto 18, 3) := by decide +kernel
theorem dX11_goOn_218 : decode cX11_goOn 218 = .ok (.aload_n 0, 1) := by decide +kernel
theorem dX11_goOn_219 : decode cX11_goOn 219 = .ok (.getfield 215, 3) := by decide +kernel
theorem dX11_goOn_222 : decode cX11_goOn 222 = .ok (.invokestatic 219, 3) := by decide +kernel
theorem dX11_goOn_225 : decode cX11_goOn 225 = .ok (.ifCond .eq 7, 3) := by decide +kernel
theorem dX11_goOn_228 : decode cX11_goOn 228 = .ok (.iconst 3, 1) := by decide +kernel
theorem dX11_goOn_229 : decode cX11_goOn 229 = .ok (.goto 4, 3) := by decide +kernel
theorem dX11_goOn_232 : decode cX11_goOn 232 = .ok (.iconst 2, 1) := by decide +kernel
theorem dX11_goOn_233 : decode cX11_goOn 233 = .ok (.putfield 208, 3) := by decide +kernel
theorem dX11_goOn_236 : decode cX11_goOn 236 = .ok (.goto 141, 3) := by decide +kernel
theorem dX11_goOn_239 : decode cX11_goOn 239 = .ok (.iload_n 1, 1) := by decide +kernel
theorem dX11_goOn_240 : decode cX11_goOn 240 = .ok (.invokestatic 223, 3) := by decide +kernel
theorem dX11_goOn_243 : decode cX11_goOn 243 = .ok (.ifCond .eq 118, 3) := by decide +kernel
theorem dX11_goOn_246 : decode cX11_goOn 246 = .ok (.aload_n 0, 1) := by decide +kernel
theorem dX11_goOn_247 : decode cX11_goOn 247 = .ok (.iconst 0, 1) := by decide +kernel
theorem dX11_goOn_248 : decode cX11_goOn 248 = .ok (.putfield 226, 3) := by decide +kernel
theorem dX11_goOn_251 : decode cX11_goOn 251 = .ok (.aload_n 0, 1) := by decide +kernel
theorem dX11_goOn_252 : decode cX11_goOn 252 = .ok (.aload_n 0, 1) := by decide +kernel
theorem dX11_goOn_253 : decode cX11_goOn 253 = .ok (.getfield 201, 3) := by decide +kernel
theorem dX11_goOn_256 : decode cX11_goOn 256 = .ok (.putfield 198, 3) := by decide +kernel
theorem dX11_goOn_259 : decode cX11_goOn 259 = .ok (.aload_n 0, 1) := by decide +kernel
theorem dX11_goOn_260 : decode cX11_goOn 260 = .ok (.aload_n 0, 1) := by decide +kernel
theorem dX11_goOn_261 : decode cX11_goOn 261 = .ok (.getfield 198, 3) := by decide +kernel
theorem dX11_goOn_264 : decode cX11_goOn 264 = .ok (.invokevirtual 204, 3) := by decide +kernel
theorem dX11_goOn_267 : decode cX11_goOn 267 = .ok (.invokestatic 223, 3) := by decide +kernel
theorem dX11_goOn_270 : decode cX11_goOn 270 = .ok (.ifCond .eq 52, 3) := by decide +kernel
theorem dX11_goOn_273 : decode cX11_goOn 273 = .ok (.aload_n 0, 1) := by decide +kernel
theorem dX11_goOn_274 : decode cX11_goOn 274 = .ok (.getfield 198, 3) := by decide +kernel
theorem dX11_goOn_277 : decode cX11_goOn 277 = .ok (.aload_n 0, 1) := by decide +kernel
theorem dX11_goOn_278 : decode cX11_goOn 278 = .ok (.getfield 201, 3) := by decide +kernel
theorem dX11_goOn_281 : decode cX11_goOn 281 = .ok (.isub, 1) := by decide +kernel
theorem dX11_goOn_282 : decode cX11_goOn 282 = .ok (.iconst 4, 1) := by decide +kernel
theorem dX11_goOn_283 : decode cX11_goOn 283 = .ok (.if_icmp .ge 26, 3) := by decide +kernel
theorem dX11_goOn_286 : decode cX11_goOn 286 = .ok (.aload_n 0, 1) := by decide +kernel
theorem dX11_goOn_287 : decode cX11_goOn 287 = .ok (.bipush 10, 2) := by decide +kernel
theorem dX11_goOn_289 : decode cX11_goOn 289 = .ok (.aload_n 0, 1) := by decide +kernel
theorem dX11_goOn_290 : decode cX11_goOn 290 = .ok (.getfield 226, 3) := by decide +kernel
theorem dX11_goOn_293 : decode cX11_goOn 293 = .ok (.imul, 1) := by decide +kernel
theorem dX11_goOn_294 : decode cX11_goOn 294 = .ok (.aload_n 0, 1) := by decide +kernel
theorem dX11_goOn_295 : decode cX11_goOn 295 = .ok (.aload_n 0, 1) := by decide +kernel
theorem dX11_goOn_296 : decode cX11_goOn 296 = .ok (.getfield 198, 3) := by decide +kernel
theorem dX11_goOn_299 : decode cX11_goOn 299 = .ok (.invokevirtual 204, 3) := by decide +kernel
theorem dX11_goOn_302 : decode cX11_goOn 302 = .ok (.iadd, 1) := by decide +kernel
theorem dX11_goOn_303 : decode cX11_goOn 303 = .ok (.bipush 48, 2) := by decide +kernel
theorem dX11_goOn_305 : decode cX11_goOn 305 = .ok (.isub, 1) := by decide +kernel
theorem dX11_goOn_306 : decode cX11_goOn 306 = .ok (.putfield 226, 3) := by decide +kernel
theorem dX11_goOn_309 : decode cX11_goOn 309 = .ok (.aload_n 0, 1) := by decide +kernel
theorem dX11_goOn_310 : decode cX11_goOn 310 = .ok (.dup, 1) := by decide +kernel
theorem dX11_goOn_311 : decode cX11_goOn 311 = .ok (.getfield 198, 3) := by decide +kernel
theorem dX11_goOn_314 : decode cX11_goOn 314 = .ok (.iconst 1, 1) := by decide +kernel
theorem dX11_goOn_315 : decode cX11_goOn 315 = .ok (.iadd, 1) := by decide +kernel
theorem dX11_goOn_316 : decode cX11_goOn 316 = .ok (.putfield 198, 3) := by decide +kernel
theorem dX11_goOn_319 : decode cX11_goOn 319 = .ok (.goto (-60), 3) := by decide +kernel
theorem dX11_goOn_322 : decode cX11_goOn 322 = .ok (.aload_n 0, 1) := by decide +kernel
theorem dX11_goOn_323 : decode cX11_goOn 323 = .ok (.aload_n 0, 1) := by decide +kernel
theorem dX11_goOn_324 : decode cX11_goOn 324 = .ok (.getfield 198, 3) := by decide +kernel
theorem dX11_goOn_327 : decode cX11_goOn 327 = .ok (.aload_n 0, 1) := by decide +kernel
theorem dX11_goOn_328 : decode cX11_goOn 328 = .ok (.getfield 201, 3) := by decide +kernel
theorem dX11_goOn_331 : decode cX11_goOn 331 = .ok (.isub, 1) := by decide +kernel
theorem dX11_goOn_332 : decode cX11_goOn 332 = .ok (.iconst 4, 1) := by decide +kernel
theorem dX11_goOn_333 : decode cX11_goOn 333 = .ok (.if_icmp .gt 17, 3) := by decide +kernel
theorem dX11_goOn_336 : decode cX11_goOn 336 = .ok (.aload_n 0, 1) := by decide +kernel
theorem dX11_goOn_337 : decode cX11_goOn 337 = .ok (.aload_n 0, 1) := by decide +kernel
theorem dX11_goOn_338 : decode cX11_goOn 338 = .ok (.getfield 198, 3) := by decide +kernel
theorem dX11_goOn_341 : decode cX11_goOn 341 = .ok (.invokevirtual 204, 3) := by decide +kernel
theorem dX11_goOn_344 : decode cX11_goOn 344 = .ok (.invokestatic 211, 3) := by decide +kernel
theorem dX11_goOn_347 : decode cX11_goOn 347 = .ok (.ifCond .eq 7, 3) := by decide +kernel
theorem dX11_goOn_350 : decode cX11_goOn 350 = .ok (.iconst 1, 1) := by decide +kernel
theorem dX11_goOn_351 : decode cX11_goOn 351 = .ok (.goto 4, 3) := by decide +kernel
theorem dX11_goOn_354 : decode cX11_goOn 354 = .ok (.iconst 4, 1) := by decide +kernel
theorem dX11_goOn_355 : decode cX11_goOn 355 = .ok (.putfield 208, 3) := by decide +kernel
theorem dX11_goOn_358 : decode cX11_goOn 358 = .ok (.goto 19, 3) := by decide +kernel
theorem dX11_goOn_361 : decode cX11_goOn 361 = .ok (.aload_n 0, 1) := by decide +kernel
theorem dX11_goOn_362 : decode cX11_goOn 362 = .ok (.iload_n 1, 1) := by decide +kernel
theorem dX11_goOn_363 : decode cX11_goOn 363 = .ok (.invokestatic 229, 3) := by decide +kernel
theorem dX11_goOn_366 : decode cX11_goOn 366 = .ok (.ifCond .eq 7, 3) := by decide +kernel
theorem dX11_goOn_369 : decode cX11_goOn 369 = .ok (.iconst 5, 1) := by decide +kernel
theorem dX11_goOn_370 : decode cX11_goOn 370 = .ok (.goto 4, 3) := by decide +kernel
theorem dX11_goOn_373 : decode cX11_goOn 373 = .ok (.iconst 1, 1) := by decide +kernel
theorem dX11_goOn_374 : decode cX11_goOn 374 = .ok (.putfield 208, 3) := by decide +kernel
theorem dX11_goOn_377 : decode cX11_goOn 377 = .ok (.return_, 1) := by decide +kernel
theorem wd_1559 : (Cond.code ⟨"WebCourtModel", "goOn", "()V"⟩ prog_13_method_9_code (3 : Nat) (Option.none : Option FieldType)) ∈ gtb := gtb_c7 10 (by decide +kernel) rfl
theorem wd_1363 : (Cond.fieldLink "WebCourtModel" (198 : Nat) "WebCourtModel" "end" "I") ∈ gtb := gtb_c6 54 (by decide +kernel) rfl
theorem gf_RX11_198 {p : Program} {l : Launch} {e : Env} {R : Room} {s : State} {m : MethodId} {args : Array Value} {below : List Frame} {meth : Method} {c : Code} {H : Heap} {locs : List Loc} {cells slots : Nat} {Q : State → Prop} {cc : ByteArray} {pc nL : Nat} {ls : Array Slot} {rest : List Value} {D : va_G} {cy : Nat → ClassId} {A : Nat → Prop} {ws : va_W} {b : Nat} {fs : List Value} {v : Value} (C : Cx p s m args c cc nL RX11 D cy A) (hO : Wo D A ws s.heap H locs) (q0 : Nat) (he : ws[q0]? = some (b, .inr (11, fs))) (hv : fs[7]? = some v) (hdg : decode cc pc = .ok (.getfield 198, 3)) (kk : W p l e R s m args below meth c H locs cells slots Q (F0 m (pc + 3) ls (v :: rest))) : W p l e R s m args below meth c H locs cells slots Q (F0 m pc ls (.ref b :: rest)) := gF (k := 7) C hO q0 he rfl inFX11 (by decide) wd_1363 rfl hv hdg kk
theorem pf_RX11_201 {p : Program} {l : Launch} {e : Env} {R : Room} {s : State} {m : MethodId} {args : Array Value} {below : List Frame} {meth : Method} {c : Code} {H : Heap} {locs : List Loc} {cells slots : Nat} {Q : State → Prop} {cc : ByteArray} {pc nL : Nat} {ls : Array Slot} {rest : List Value} {D : va_G} {cy : Nat → ClassId} {A : Nat → Prop} {ws : va_W} {b : Nat} {fs : List Value} {v : Int32} {ws' : va_W} (C : Cx p s m args c cc nL RX11 D cy A) (hO : Wo D A ws s.heap H locs) (q0 : Nat) (he : ws[q0]? = some (b, .inr (11, fs))) (hlen : 6 < fs.length) (hw : ws.set q0 (b, .inr (11, fs.set 6 (.int v))) = ws') (hdg : decode cc pc = .ok (.putfield 201, 3)) (kk : ∀ (H : Heap) (locs : List Loc), Wo D A ws' s.heap H locs → W p l e R s m args below meth c H locs cells slots Q (F0 m (pc + 3) ls rest)) : W p l e R s m args below meth c H locs cells slots Q (F0 m pc ls (.int v :: .ref b :: rest)) := pF (k := 6) (ty := .int) C hO q0 he rfl inFX11 (by decide) wd_1362 rfl tyX11 tyX11_ok nmX11 rfl (by decide +kernel) rfl rfl hlen hw hdg kk
theorem Km26_wI6 {u v : St} {x : Int32} (h : Km26 u v) : Km26 u (sI v 0 6 x) := ⟨h.1, h.2.1, h.2.2.1, h.2.2.2.1, h.2.2.2.2.1, h.2.2.2.2.2.1, h.2.2.2.2.2.2.1, h.2.2.2.2.2.2.2.1, h.2.2.2.2.2.2.2.2.1, h.2.2.2.2.2.2.2.2.2.1, h.2.2.2.2.2.2.2.2.2.2.1, h.2.2.2.2.2.2.2.2.2.2.2.1, h.2.2.2.2.2.2.2.2.2.2.2.2.1, h.2.2.2.2.2.2.2.2.2.2.2.2.2.1, h.2.2.2.2.2.2.2.2.2.2.2.2.2.2.1, h.2.2.2.2.2.2.2.2.2.2.2.2.2.2.2.1, h.2.2.2.2.2.2.2.2.2.2.2.2.2.2.2.2.1, h.2.2.2.2.2.2.2.2.2.2.2.2.2.2.2.2.2.1, h.2.2.2.2.2.2.2.2.2.2.2.2.2.2.2.2.2.2.1, h.2.2.2.2.2.2.2.2.2.2.2.2.2.2.2.2.2.2.2.1, h.2.2.2.2.2.2.2.2.2.2.2.2.2.2.2.2.2.2.2.2.1, h.2.2.2.2.2.2.2.2.2.2.2.2.2.2.2.2.2.2.2.2.2.1, h.2.2.2.2.2.2.2.2.2.2.2.2.2.2.2.2.2.2.2.2.2.2.1, h.2.2.2.2.2.2.2.2.2.2.2.2.2.2.2.2.2.2.2.2.2.2.2.1, h.2.2.2.2.2.2.2.2.2.2.2.2.2.2.2.2.2.2.2.2.2.2.2.2.1, h.2.2.2.2.2.2.2.2.2.2.2.2.2.2.2.2.2.2.2.2.2.2.2.2.2.1, h.2.2.2.2.2.2.2.2.2.2.2.2.2.2.2.2.2.2.2.2.2.2.2.2.2.2.1, h.2.2.2.2.2.2.2.2.2.2.2.2.2.2.2.2.2.2.2.2.2.2.2.2.2.2.2.1, h.2.2.2.2.2.2.2.2.2.2.2.2.2.2.2.2.2.2.2.2.2.2.2.2.2.2.2.2.1, h.2.2.2.2.2.2.2.2.2.2.2.2.2.2.2.2.2.2.2.2.2.2.2.2.2.2.2.2.2.1, h.2.2.2.2.2.2.2.2.2.2.2.2.2.2.2.2.2.2.2.2.2.2.2.2.2.2.2.2.2.2.1, h.2.2.2.2.2.2.2.2.2.2.2.2.2.2.2.2.2.2.2.2.2.2.2.2.2.2.2.2.2.2.2.1, h.2.2.2.2.2.2.2.2.2.2.2.2.2.2.2.2.2.2.2.2.2.2.2.2.2.2.2.2.2.2.2.2.1, h.2.2.2.2.2.2.2.2.2.2.2.2.2.2.2.2.2.2.2.2.2.2.2.2.2.2.2.2.2.2.2.2.2.1, h.2.2.2.2.2.2.2.2.2.2.2.2.2.2.2.2.2.2.2.2.2.2.2.2.2.2.2.2.2.2.2.2.2.2.1, h.2.2.2.2.2.2.2.2.2.2.2.2.2.2.2.2.2.2.2.2.2.2.2.2.2.2.2.2.2.2.2.2.2.2.2.1, h.2.2.2.2.2.2.2.2.2.2.2.2.2.2.2.2.2.2.2.2.2.2.2.2.2.2.2.2.2.2.2.2.2.2.2.2.1, h.2.2.2.2.2.2.2.2.2.2.2.2.2.2.2.2.2.2.2.2.2.2.2.2.2.2.2.2.2.2.2.2.2.2.2.2.2.1, h.2.2.2.2.2.2.2.2.2.2.2.2.2.2.2.2.2.2.2.2.2.2.2.2.2.2.2.2.2.2.2.2.2.2.2.2.2.2.1, h.2.2.2.2.2.2.2.2.2.2.2.2.2.2.2.2.2.2.2.2.2.2.2.2.2.2.2.2.2.2.2.2.2.2.2.2.2.2.2.1, h.2.2.2.2.2.2.2.2.2.2.2.2.2.2.2.2.2.2.2.2.2.2.2.2.2.2.2.2.2.2.2.2.2.2.2.2.2.2.2.2.1, h.2.2.2.2.2.2.2.2.2.2.2.2.2.2.2.2.2.2.2.2.2.2.2.2.2.2.2.2.2.2.2.2.2.2.2.2.2.2.2.2.2.1, h.2.2.2.2.2.2.2.2.2.2.2.2.2.2.2.2.2.2.2.2.2.2.2.2.2.2.2.2.2.2.2.2.2.2.2.2.2.2.2.2.2.2.1, h.2.2.2.2.2.2.2.2.2.2.2.2.2.2.2.2.2.2.2.2.2.2.2.2.2.2.2.2.2.2.2.2.2.2.2.2.2.2.2.2.2.2.2.1, h.2.2.2.2.2.2.2.2.2.2.2.2.2.2.2.2.2.2.2.2.2.2.2.2.2.2.2.2.2.2.2.2.2.2.2.2.2.2.2.2.2.2.2.2.1, h.2.2.2.2.2.2.2.2.2.2.2.2.2.2.2.2.2.2.2.2.2.2.2.2.2.2.2.2.2.2.2.2.2.2.2.2.2.2.2.2.2.2.2.2.2.1, h.2.2.2.2.2.2.2.2.2.2.2.2.2.2.2.2.2.2.2.2.2.2.2.2.2.2.2.2.2.2.2.2.2.2.2.2.2.2.2.2.2.2.2.2.2.2.1, h.2.2.2.2.2.2.2.2.2.2.2.2.2.2.2.2.2.2.2.2.2.2.2.2.2.2.2.2.2.2.2.2.2.2.2.2.2.2.2.2.2.2.2.2.2.2.2.1, h.2.2.2.2.2.2.2.2.2.2.2.2.2.2.2.2.2.2.2.2.2.2.2.2.2.2.2.2.2.2.2.2.2.2.2.2.2.2.2.2.2.2.2.2.2.2.2.2.1, h.2.2.2.2.2.2.2.2.2.2.2.2.2.2.2.2.2.2.2.2.2.2.2.2.2.2.2.2.2.2.2.2.2.2.2.2.2.2.2.2.2.2.2.2.2.2.2.2.2.1, h.2.2.2.2.2.2.2.2.2.2.2.2.2.2.2.2.2.2.2.2.2.2.2.2.2.2.2.2.2.2.2.2.2.2.2.2.2.2.2.2.2.2.2.2.2.2.2.2.2.2.1, h.2.2.2.2.2.2.2.2.2.2.2.2.2.2.2.2.2.2.2.2.2.2.2.2.2.2.2.2.2.2.2.2.2.2.2.2.2.2.2.2.2.2.2.2.2.2.2.2.2.2.2.1, h.2.2.2.2.2.2.2.2.2.2.2.2.2.2.2.2.2.2.2.2.2.2.2.2.2.2.2.2.2.2.2.2.2.2.2.2.2.2.2.2.2.2.2.2.2.2.2.2.2.2.2.2.1, h.2.2.2.2.2.2.2.2.2.2.2.2.2.2.2.2.2.2.2.2.2.2.2.2.2.2.2.2.2.2.2.2.2.2.2.2.2.2.2.2.2.2.2.2.2.2.2.2.2.2.2.2.2.1, h.2.2.2.2.2.2.2.2.2.2.2.2.2.2.2.2.2.2.2.2.2.2.2.2.2.2.2.2.2.2.2.2.2.2.2.2.2.2.2.2.2.2.2.2.2.2.2.2.2.2.2.2.2.2.1, h.2.2.2.2.2.2.2.2.2.2.2.2.2.2.2.2.2.2.2.2.2.2.2.2.2.2.2.2.2.2.2.2.2.2.2.2.2.2.2.2.2.2.2.2.2.2.2.2.2.2.2.2.2.2.2.1, h.2.2.2.2.2.2.2.2.2.2.2.2.2.2.2.2.2.2.2.2.2.2.2.2.2.2.2.2.2.2.2.2.2.2.2.2.2.2.2.2.2.2.2.2.2.2.2.2.2.2.2.2.2.2.2.2.1, h.2.2.2.2.2.2.2.2.2.2.2.2.2.2.2.2.2.2.2.2.2.2.2.2.2.2.2.2.2.2.2.2.2.2.2.2.2.2.2.2.2.2.2.2.2.2.2.2.2.2.2.2.2.2.2.2.2.1, h.2.2.2.2.2.2.2.2.2.2.2.2.2.2.2.2.2.2.2.2.2.2.2.2.2.2.2.2.2.2.2.2.2.2.2.2.2.2.2.2.2.2.2.2.2.2.2.2.2.2.2.2.2.2.2.2.2.2.1, h.2.2.2.2.2.2.2.2.2.2.2.2.2.2.2.2.2.2.2.2.2.2.2.2.2.2.2.2.2.2.2.2.2.2.2.2.2.2.2.2.2.2.2.2.2.2.2.2.2.2.2.2.2.2.2.2.2.2.2⟩
theorem Km26_I3 {u v : St} (h : Km26 u v) : fI v 0 3 = fI u 0 3 := h.2.1
theorem wd_1560 : (Cond.methodLink "WebCourtModel" (204 : Nat) ⟨"WebCourtModel", "sign", "(I)I"⟩) ∈ gtb := gtb_c7 11 (by decide +kernel) rfl
theorem wd_1562 : (Cond.instanceMethod ⟨"WebCourtModel", "sign", "(I)I"⟩) ∈ gtb := gtb_c7 13 (by decide +kernel) rfl
theorem wd_49 : (Cond.selects "WebCourtModel" ⟨"WebCourtModel", "sign", "(I)I"⟩ ⟨"WebCourtModel", "sign", "(I)I"⟩) ∈ gtb := gtb_p 49 (by decide +kernel) rfl
theorem hd_yX11_sign : yX11_sign.cls = RX11 ∧ yX11_sign.cls ≠ "java/lang/invoke/MethodHandle" ∧ yX11_sign.cls ≠ "java/lang/invoke/VarHandle" ∧ (parseMethodDescriptor yX11_sign.desc).map (fun d => d.parameters.length) = some 1 := by decide +kernel
theorem Km26_A2 {u v : St} (h : Km26 u v) : fA v 2 = fA u 2 := h.2.2.2.2.2.2.2.2.2.2.2.2.2.2.2.2.2.2.2.1
theorem pf_RX11_198 {p : Program} {l : Launch} {e : Env} {R : Room} {s : State} {m : MethodId} {args : Array Value} {below : List Frame} {meth : Method} {c : Code} {H : Heap} {locs : List Loc} {cells slots : Nat} {Q : State → Prop} {cc : ByteArray} {pc nL : Nat} {ls : Array Slot} {rest : List Value} {D : va_G} {cy : Nat → ClassId} {A : Nat → Prop} {ws : va_W} {b : Nat} {fs : List Value} {v : Int32} {ws' : va_W} (C : Cx p s m args c cc nL RX11 D cy A) (hO : Wo D A ws s.heap H locs) (q0 : Nat) (he : ws[q0]? = some (b, .inr (11, fs))) (hlen : 7 < fs.length) (hw : ws.set q0 (b, .inr (11, fs.set 7 (.int v))) = ws') (hdg : decode cc pc = .ok (.putfield 198, 3)) (kk : ∀ (H : Heap) (locs : List Loc), Wo D A ws' s.heap H locs → W p l e R s m args below meth c H locs cells slots Q (F0 m (pc + 3) ls rest)) : W p l e R s m args below meth c H locs cells slots Q (F0 m pc ls (.int v :: .ref b :: rest)) := pF (k := 7) (ty := .int) C hO q0 he rfl inFX11 (by decide) wd_1363 rfl tyX11 tyX11_ok nmX11 rfl (by decide +kernel) rfl rfl hlen hw hdg kk
theorem Km26_wI7 {u v : St} {x : Int32} (h : Km26 u v) : Km26 u (sI v 0 7 x) := ⟨h.1, h.2.1, h.2.2.1, h.2.2.2.1, h.2.2.2.2.1, h.2.2.2.2.2.1, h.2.2.2.2.2.2.1, h.2.2.2.2.2.2.2.1, h.2.2.2.2.2.2.2.2.1, h.2.2.2.2.2.2.2.2.2.1, h.2.2.2.2.2.2.2.2.2.2.1, h.2.2.2.2.2.2.2.2.2.2.2.1, h.2.2.2.2.2.2.2.2.2.2.2.2.1, h.2.2.2.2.2.2.2.2.2.2.2.2.2.1, h.2.2.2.2.2.2.2.2.2.2.2.2.2.2.1, h.2.2.2.2.2.2.2.2.2.2.2.2.2.2.2.1, h.2.2.2.2.2.2.2.2.2.2.2.2.2.2.2.2.1, h.2.2.2.2.2.2.2.2.2.2.2.2.2.2.2.2.2.1, h.2.2.2.2.2.2.2.2.2.2.2.2.2.2.2.2.2.2.1, h.2.2.2.2.2.2.2.2.2.2.2.2.2.2.2.2.2.2.2.1, h.2.2.2.2.2.2.2.2.2.2.2.2.2.2.2.2.2.2.2.2.1, h.2.2.2.2.2.2.2.2.2.2.2.2.2.2.2.2.2.2.2.2.2.1, h.2.2.2.2.2.2.2.2.2.2.2.2.2.2.2.2.2.2.2.2.2.2.1, h.2.2.2.2.2.2.2.2.2.2.2.2.2.2.2.2.2.2.2.2.2.2.2.1, h.2.2.2.2.2.2.2.2.2.2.2.2.2.2.2.2.2.2.2.2.2.2.2.2.1, h.2.2.2.2.2.2.2.2.2.2.2.2.2.2.2.2.2.2.2.2.2.2.2.2.2.1, h.2.2.2.2.2.2.2.2.2.2.2.2.2.2.2.2.2.2.2.2.2.2.2.2.2.2.1, h.2.2.2.2.2.2.2.2.2.2.2.2.2.2.2.2.2.2.2.2.2.2.2.2.2.2.2.1, h.2.2.2.2.2.2.2.2.2.2.2.2.2.2.2.2.2.2.2.2.2.2.2.2.2.2.2.2.1, h.2.2.2.2.2.2.2.2.2.2.2.2.2.2.2.2.2.2.2.2.2.2.2.2.2.2.2.2.2.1, h.2.2.2.2.2.2.2.2.2.2.2.2.2.2.2.2.2.2.2.2.2.2.2.2.2.2.2.2.2.2.1, h.2.2.2.2.2.2.2.2.2.2.2.2.2.2.2.2.2.2.2.2.2.2.2.2.2.2.2.2.2.2.2.1, h.2.2.2.2.2.2.2.2.2.2.2.2.2.2.2.2.2.2.2.2.2.2.2.2.2.2.2.2.2.2.2.2.1, h.2.2.2.2.2.2.2.2.2.2.2.2.2.2.2.2.2.2.2.2.2.2.2.2.2.2.2.2.2.2.2.2.2.1, h.2.2.2.2.2.2.2.2.2.2.2.2.2.2.2.2.2.2.2.2.2.2.2.2.2.2.2.2.2.2.2.2.2.2.1, h.2.2.2.2.2.2.2.2.2.2.2.2.2.2.2.2.2.2.2.2.2.2.2.2.2.2.2.2.2.2.2.2.2.2.2.1, h.2.2.2.2.2.2.2.2.2.2.2.2.2.2.2.2.2.2.2.2.2.2.2.2.2.2.2.2.2.2.2.2.2.2.2.2.1, h.2.2.2.2.2.2.2.2.2.2.2.2.2.2.2.2.2.2.2.2.2.2.2.2.2.2.2.2.2.2.2.2.2.2.2.2.2.1, h.2.2.2.2.2.2.2.2.2.2.2.2.2.2.2.2.2.2.2.2.2.2.2.2.2.2.2.2.2.2.2.2.2.2.2.2.2.2.1, h.2.2.2.2.2.2.2.2.2.2.2.2.2.2.2.2.2.2.2.2.2.2.2.2.2.2.2.2.2.2.2.2.2.2.2.2.2.2.2.1, h.2.2.2.2.2.2.2.2.2.2.2.2.2.2.2.2.2.2.2.2.2.2.2.2.2.2.2.2.2.2.2.2.2.2.2.2.2.2.2.2.1, h.2.2.2.2.2.2.2.2.2.2.2.2.2.2.2.2.2.2.2.2.2.2.2.2.2.2.2.2.2.2.2.2.2.2.2.2.2.2.2.2.2.1, h.2.2.2.2.2.2.2.2.2.2.2.2.2.2.2.2.2.2.2.2.2.2.2.2.2.2.2.2.2.2.2.2.2.2.2.2.2.2.2.2.2.2.1, h.2.2.2.2.2.2.2.2.2.2.2.2.2.2.2.2.2.2.2.2.2.2.2.2.2.2.2.2.2.2.2.2.2.2.2.2.2.2.2.2.2.2.2.1, h.2.2.2.2.2.2.2.2.2.2.2.2.2.2.2.2.2.2.2.2.2.2.2.2.2.2.2.2.2.2.2.2.2.2.2.2.2.2.2.2.2.2.2.2.1, h.2.2.2.2.2.2.2.2.2.2.2.2.2.2.2.2.2.2.2.2.2.2.2.2.2.2.2.2.2.2.2.2.2.2.2.2.2.2.2.2.2.2.2.2.2.1, h.2.2.2.2.2.2.2.2.2.2.2.2.2.2.2.2.2.2.2.2.2.2.2.2.2.2.2.2.2.2.2.2.2.2.2.2.2.2.2.2.2.2.2.2.2.2.1, h.2.2.2.2.2.2.2.2.2.2.2.2.2.2.2.2.2.2.2.2.2.2.2.2.2.2.2.2.2.2.2.2.2.2.2.2.2.2.2.2.2.2.2.2.2.2.2.1, h.2.2.2.2.2.2.2.2.2.2.2.2.2.2.2.2.2.2.2.2.2.2.2.2.2.2.2.2.2.2.2.2.2.2.2.2.2.2.2.2.2.2.2.2.2.2.2.2.1, h.2.2.2.2.2.2.2.2.2.2.2.2.2.2.2.2.2.2.2.2.2.2.2.2.2.2.2.2.2.2.2.2.2.2.2.2.2.2.2.2.2.2.2.2.2.2.2.2.2.1, h.2.2.2.2.2.2.2.2.2.2.2.2.2.2.2.2.2.2.2.2.2.2.2.2.2.2.2.2.2.2.2.2.2.2.2.2.2.2.2.2.2.2.2.2.2.2.2.2.2.2.1, h.2.2.2.2.2.2.2.2.2.2.2.2.2.2.2.2.2.2.2.2.2.2.2.2.2.2.2.2.2.2.2.2.2.2.2.2.2.2.2.2.2.2.2.2.2.2.2.2.2.2.2.1, h.2.2.2.2.2.2.2.2.2.2.2.2.2.2.2.2.2.2.2.2.2.2.2.2.2.2.2.2.2.2.2.2.2.2.2.2.2.2.2.2.2.2.2.2.2.2.2.2.2.2.2.2.1, h.2.2.2.2.2.2.2.2.2.2.2.2.2.2.2.2.2.2.2.2.2.2.2.2.2.2.2.2.2.2.2.2.2.2.2.2.2.2.2.2.2.2.2.2.2.2.2.2.2.2.2.2.2.1, h.2.2.2.2.2.2.2.2.2.2.2.2.2.2.2.2.2.2.2.2.2.2.2.2.2.2.2.2.2.2.2.2.2.2.2.2.2.2.2.2.2.2.2.2.2.2.2.2.2.2.2.2.2.2.1, h.2.2.2.2.2.2.2.2.2.2.2.2.2.2.2.2.2.2.2.2.2.2.2.2.2.2.2.2.2.2.2.2.2.2.2.2.2.2.2.2.2.2.2.2.2.2.2.2.2.2.2.2.2.2.2.1, h.2.2.2.2.2.2.2.2.2.2.2.2.2.2.2.2.2.2.2.2.2.2.2.2.2.2.2.2.2.2.2.2.2.2.2.2.2.2.2.2.2.2.2.2.2.2.2.2.2.2.2.2.2.2.2.2.1, h.2.2.2.2.2.2.2.2.2.2.2.2.2.2.2.2.2.2.2.2.2.2.2.2.2.2.2.2.2.2.2.2.2.2.2.2.2.2.2.2.2.2.2.2.2.2.2.2.2.2.2.2.2.2.2.2.2.1, h.2.2.2.2.2.2.2.2.2.2.2.2.2.2.2.2.2.2.2.2.2.2.2.2.2.2.2.2.2.2.2.2.2.2.2.2.2.2.2.2.2.2.2.2.2.2.2.2.2.2.2.2.2.2.2.2.2.2.1, h.2.2.2.2.2.2.2.2.2.2.2.2.2.2.2.2.2.2.2.2.2.2.2.2.2.2.2.2.2.2.2.2.2.2.2.2.2.2.2.2.2.2.2.2.2.2.2.2.2.2.2.2.2.2.2.2.2.2.2⟩
theorem wd_1366 : (Cond.fieldLink "WebCourtModel" (215 : Nat) "WebCourtModel" "name" "J") ∈ gtb := gtb_c6 57 (by decide +kernel) rfl
theorem pf_RX11_215 {p : Program} {l : Launch} {e : Env} {R : Room} {s : State} {m : MethodId} {args : Array Value} {below : List Frame} {meth : Method} {c : Code} {H : Heap} {locs : List Loc} {cells slots : Nat} {Q : State → Prop} {cc : ByteArray} {pc nL : Nat} {ls : Array Slot} {rest : List Value} {D : va_G} {cy : Nat → ClassId} {A : Nat → Prop} {ws : va_W} {b : Nat} {fs : List Value} {v : Int64} {ws' : va_W} (C : Cx p s m args c cc nL RX11 D cy A) (hO : Wo D A ws s.heap H locs) (q0 : Nat) (he : ws[q0]? = some (b, .inr (11, fs))) (hlen : 10 < fs.length) (hw : ws.set q0 (b, .inr (11, fs.set 10 (.long v))) = ws') (hdg : decode cc pc = .ok (.putfield 215, 3)) (kk : ∀ (H : Heap) (locs : List Loc), Wo D A ws' s.heap H locs → W p l e R s m args below meth c H locs cells slots Q (F0 m (pc + 3) ls rest)) : W p l e R s m args below meth c H locs cells slots Q (F0 m pc ls (.long v :: .ref b :: rest)) := pF (k := 10) (ty := .long) C hO q0 he rfl inFX11 (by decide) wd_1366 rfl tyX11 tyX11_ok nmX11 rfl (by decide +kernel) rfl rfl hlen hw hdg kk
theorem Km26_wL10 {u v : St} {x : Int64} (h : Km26 u v) : Km26 u (sL v 0 10 x) := ⟨h.1, h.2.1, h.2.2.1, h.2.2.2.1, h.2.2.2.2.1, h.2.2.2.2.2.1, h.2.2.2.2.2.2.1, h.2.2.2.2.2.2.2.1, h.2.2.2.2.2.2.2.2.1, h.2.2.2.2.2.2.2.2.2.1, h.2.2.2.2.2.2.2.2.2.2.1, h.2.2.2.2.2.2.2.2.2.2.2.1, h.2.2.2.2.2.2.2.2.2.2.2.2.1, h.2.2.2.2.2.2.2.2.2.2.2.2.2.1, h.2.2.2.2.2.2.2.2.2.2.2.2.2.2.1, h.2.2.2.2.2.2.2.2.2.2.2.2.2.2.2.1, h.2.2.2.2.2.2.2.2.2.2.2.2.2.2.2.2.1, h.2.2.2.2.2.2.2.2.2.2.2.2.2.2.2.2.2.1, h.2.2.2.2.2.2.2.2.2.2.2.2.2.2.2.2.2.2.1, h.2.2.2.2.2.2.2.2.2.2.2.2.2.2.2.2.2.2.2.1, h.2.2.2.2.2.2.2.2.2.2.2.2.2.2.2.2.2.2.2.2.1, h.2.2.2.2.2.2.2.2.2.2.2.2.2.2.2.2.2.2.2.2.2.1, h.2.2.2.2.2.2.2.2.2.2.2.2.2.2.2.2.2.2.2.2.2.2.1, h.2.2.2.2.2.2.2.2.2.2.2.2.2.2.2.2.2.2.2.2.2.2.2.1, h.2.2.2.2.2.2.2.2.2.2.2.2.2.2.2.2.2.2.2.2.2.2.2.2.1, h.2.2.2.2.2.2.2.2.2.2.2.2.2.2.2.2.2.2.2.2.2.2.2.2.2.1, h.2.2.2.2.2.2.2.2.2.2.2.2.2.2.2.2.2.2.2.2.2.2.2.2.2.2.1, h.2.2.2.2.2.2.2.2.2.2.2.2.2.2.2.2.2.2.2.2.2.2.2.2.2.2.2.1, h.2.2.2.2.2.2.2.2.2.2.2.2.2.2.2.2.2.2.2.2.2.2.2.2.2.2.2.2.1, h.2.2.2.2.2.2.2.2.2.2.2.2.2.2.2.2.2.2.2.2.2.2.2.2.2.2.2.2.2.1, h.2.2.2.2.2.2.2.2.2.2.2.2.2.2.2.2.2.2.2.2.2.2.2.2.2.2.2.2.2.2.1, h.2.2.2.2.2.2.2.2.2.2.2.2.2.2.2.2.2.2.2.2.2.2.2.2.2.2.2.2.2.2.2.1, h.2.2.2.2.2.2.2.2.2.2.2.2.2.2.2.2.2.2.2.2.2.2.2.2.2.2.2.2.2.2.2.2.1, h.2.2.2.2.2.2.2.2.2.2.2.2.2.2.2.2.2.2.2.2.2.2.2.2.2.2.2.2.2.2.2.2.2.1, h.2.2.2.2.2.2.2.2.2.2.2.2.2.2.2.2.2.2.2.2.2.2.2.2.2.2.2.2.2.2.2.2.2.2.1, h.2.2.2.2.2.2.2.2.2.2.2.2.2.2.2.2.2.2.2.2.2.2.2.2.2.2.2.2.2.2.2.2.2.2.2.1, h.2.2.2.2.2.2.2.2.2.2.2.2.2.2.2.2.2.2.2.2.2.2.2.2.2.2.2.2.2.2.2.2.2.2.2.2.1, h.2.2.2.2.2.2.2.2.2.2.2.2.2.2.2.2.2.2.2.2.2.2.2.2.2.2.2.2.2.2.2.2.2.2.2.2.2.1, h.2.2.2.2.2.2.2.2.2.2.2.2.2.2.2.2.2.2.2.2.2.2.2.2.2.2.2.2.2.2.2.2.2.2.2.2.2.2.1, h.2.2.2.2.2.2.2.2.2.2.2.2.2.2.2.2.2.2.2.2.2.2.2.2.2.2.2.2.2.2.2.2.2.2.2.2.2.2.2.1, h.2.2.2.2.2.2.2.2.2.2.2.2.2.2.2.2.2.2.2.2.2.2.2.2.2.2.2.2.2.2.2.2.2.2.2.2.2.2.2.2.1, h.2.2.2.2.2.2.2.2.2.2.2.2.2.2.2.2.2.2.2.2.2.2.2.2.2.2.2.2.2.2.2.2.2.2.2.2.2.2.2.2.2.1, h.2.2.2.2.2.2.2.2.2.2.2.2.2.2.2.2.2.2.2.2.2.2.2.2.2.2.2.2.2.2.2.2.2.2.2.2.2.2.2.2.2.2.1, h.2.2.2.2.2.2.2.2.2.2.2.2.2.2.2.2.2.2.2.2.2.2.2.2.2.2.2.2.2.2.2.2.2.2.2.2.2.2.2.2.2.2.2.1, h.2.2.2.2.2.2.2.2.2.2.2.2.2.2.2.2.2.2.2.2.2.2.2.2.2.2.2.2.2.2.2.2.2.2.2.2.2.2.2.2.2.2.2.2.1, h.2.2.2.2.2.2.2.2.2.2.2.2.2.2.2.2.2.2.2.2.2.2.2.2.2.2.2.2.2.2.2.2.2.2.2.2.2.2.2.2.2.2.2.2.2.1, h.2.2.2.2.2.2.2.2.2.2.2.2.2.2.2.2.2.2.2.2.2.2.2.2.2.2.2.2.2.2.2.2.2.2.2.2.2.2.2.2.2.2.2.2.2.2.1, h.2.2.2.2.2.2.2.2.2.2.2.2.2.2.2.2.2.2.2.2.2.2.2.2.2.2.2.2.2.2.2.2.2.2.2.2.2.2.2.2.2.2.2.2.2.2.2.1, h.2.2.2.2.2.2.2.2.2.2.2.2.2.2.2.2.2.2.2.2.2.2.2.2.2.2.2.2.2.2.2.2.2.2.2.2.2.2.2.2.2.2.2.2.2.2.2.2.1, h.2.2.2.2.2.2.2.2.2.2.2.2.2.2.2.2.2.2.2.2.2.2.2.2.2.2.2.2.2.2.2.2.2.2.2.2.2.2.2.2.2.2.2.2.2.2.2.2.2.1, h.2.2.2.2.2.2.2.2.2.2.2.2.2.2.2.2.2.2.2.2.2.2.2.2.2.2.2.2.2.2.2.2.2.2.2.2.2.2.2.2.2.2.2.2.2.2.2.2.2.2.1, h.2.2.2.2.2.2.2.2.2.2.2.2.2.2.2.2.2.2.2.2.2.2.2.2.2.2.2.2.2.2.2.2.2.2.2.2.2.2.2.2.2.2.2.2.2.2.2.2.2.2.2.1, h.2.2.2.2.2.2.2.2.2.2.2.2.2.2.2.2.2.2.2.2.2.2.2.2.2.2.2.2.2.2.2.2.2.2.2.2.2.2.2.2.2.2.2.2.2.2.2.2.2.2.2.2.1, h.2.2.2.2.2.2.2.2.2.2.2.2.2.2.2.2.2.2.2.2.2.2.2.2.2.2.2.2.2.2.2.2.2.2.2.2.2.2.2.2.2.2.2.2.2.2.2.2.2.2.2.2.2.1, h.2.2.2.2.2.2.2.2.2.2.2.2.2.2.2.2.2.2.2.2.2.2.2.2.2.2.2.2.2.2.2.2.2.2.2.2.2.2.2.2.2.2.2.2.2.2.2.2.2.2.2.2.2.2.1, h.2.2.2.2.2.2.2.2.2.2.2.2.2.2.2.2.2.2.2.2.2.2.2.2.2.2.2.2.2.2.2.2.2.2.2.2.2.2.2.2.2.2.2.2.2.2.2.2.2.2.2.2.2.2.2.1, h.2.2.2.2.2.2.2.2.2.2.2.2.2.2.2.2.2.2.2.2.2.2.2.2.2.2.2.2.2.2.2.2.2.2.2.2.2.2.2.2.2.2.2.2.2.2.2.2.2.2.2.2.2.2.2.2.1, h.2.2.2.2.2.2.2.2.2.2.2.2.2.2.2.2.2.2.2.2.2.2.2.2.2.2.2.2.2.2.2.2.2.2.2.2.2.2.2.2.2.2.2.2.2.2.2.2.2.2.2.2.2.2.2.2.2.1, h.2.2.2.2.2.2.2.2.2.2.2.2.2.2.2.2.2.2.2.2.2.2.2.2.2.2.2.2.2.2.2.2.2.2.2.2.2.2.2.2.2.2.2.2.2.2.2.2.2.2.2.2.2.2.2.2.2.2.1, h.2.2.2.2.2.2.2.2.2.2.2.2.2.2.2.2.2.2.2.2.2.2.2.2.2.2.2.2.2.2.2.2.2.2.2.2.2.2.2.2.2.2.2.2.2.2.2.2.2.2.2.2.2.2.2.2.2.2.2⟩
theorem gf_RX11_215 {p : Program} {l : Launch} {e : Env} {R : Room} {s : State} {m : MethodId} {args : Array Value} {below : List Frame} {meth : Method} {c : Code} {H : Heap} {locs : List Loc} {cells slots : Nat} {Q : State → Prop} {cc : ByteArray} {pc nL : Nat} {ls : Array Slot} {rest : List Value} {D : va_G} {cy : Nat → ClassId} {A : Nat → Prop} {ws : va_W} {b : Nat} {fs : List Value} {v : Value} (C : Cx p s m args c cc nL RX11 D cy A) (hO : Wo D A ws s.heap H locs) (q0 : Nat) (he : ws[q0]? = some (b, .inr (11, fs))) (hv : fs[10]? = some v) (hdg : decode cc pc = .ok (.getfield 215, 3)) (kk : W p l e R s m args below meth c H locs cells slots Q (F0 m (pc + 3) ls (v :: rest))) : W p l e R s m args below meth c H locs cells slots Q (F0 m pc ls (.ref b :: rest)) := gF (k := 10) C hO q0 he rfl inFX11 (by decide) wd_1366 rfl hv hdg kk
theorem wd_1567 : (Cond.methodLink "WebCourtModel" (219 : Nat) ⟨"WebCourtModel", "isKept", "(J)Z"⟩) ∈ gtb := gtb_c7 18 (by decide +kernel) rfl
theorem wd_1568 : (Cond.static ⟨"WebCourtModel", "isKept", "(J)Z"⟩) ∈ gtb := gtb_c7 19 (by decide +kernel) rfl
theorem hd_yX11_isKept : yX11_isKept.cls ≠ "java/lang/invoke/MethodHandle" ∧ yX11_isKept.cls ≠ "java/lang/invoke/VarHandle" ∧ (parseMethodDescriptor yX11_isKept.desc).map (fun d => d.parameters.length) = some 1 := by decide +kernel
theorem pf_RX11_208 {p : Program} {l : Launch} {e : Env} {R : Room} {s : State} {m : MethodId} {args : Array Value} {below : List Frame} {meth : Method} {c : Code} {H : Heap} {locs : List Loc} {cells slots : Nat} {Q : State → Prop} {cc : ByteArray} {pc nL : Nat} {ls : Array Slot} {rest : List Value} {D : va_G} {cy : Nat → ClassId} {A : Nat → Prop} {ws : va_W} {b : Nat} {fs : List Value} {v : Int32} {ws' : va_W} (C : Cx p s m args c cc nL RX11 D cy A) (hO : Wo D A ws s.heap H locs) (q0 : Nat) (he : ws[q0]? = some (b, .inr (11, fs))) (hlen : 8 < fs.length) (hw : ws.set q0 (b, .inr (11, fs.set 8 (.int v))) = ws') (hdg : decode cc pc = .ok (.putfield 208, 3)) (kk : ∀ (H : Heap) (locs : List Loc), Wo D A ws' s.heap H locs → W p l e R s m args below meth c H locs cells slots Q (F0 m (pc + 3) ls rest)) : W p l e R s m args below meth c H locs cells slots Q (F0 m pc ls (.int v :: .ref b :: rest)) := pF (k := 8) (ty := .int) C hO q0 he rfl inFX11 (by decide) wd_1364 rfl tyX11 tyX11_ok nmX11 rfl (by decide +kernel) rfl rfl hlen hw hdg kk
theorem Km26_wI8 {u v : St} {x : Int32} (h : Km26 u v) : Km26 u (sI v 0 8 x) := ⟨h.1, h.2.1, h.2.2.1, h.2.2.2.1, h.2.2.2.2.1, h.2.2.2.2.2.1, h.2.2.2.2.2.2.1, h.2.2.2.2.2.2.2.1, h.2.2.2.2.2.2.2.2.1, h.2.2.2.2.2.2.2.2.2.1, h.2.2.2.2.2.2.2.2.2.2.1, h.2.2.2.2.2.2.2.2.2.2.2.1, h.2.2.2.2.2.2.2.2.2.2.2.2.1, h.2.2.2.2.2.2.2.2.2.2.2.2.2.1, h.2.2.2.2.2.2.2.2.2.2.2.2.2.2.1, h.2.2.2.2.2.2.2.2.2.2.2.2.2.2.2.1, h.2.2.2.2.2.2.2.2.2.2.2.2.2.2.2.2.1, h.2.2.2.2.2.2.2.2.2.2.2.2.2.2.2.2.2.1, h.2.2.2.2.2.2.2.2.2.2.2.2.2.2.2.2.2.2.1, h.2.2.2.2.2.2.2.2.2.2.2.2.2.2.2.2.2.2.2.1, h.2.2.2.2.2.2.2.2.2.2.2.2.2.2.2.2.2.2.2.2.1, h.2.2.2.2.2.2.2.2.2.2.2.2.2.2.2.2.2.2.2.2.2.1, h.2.2.2.2.2.2.2.2.2.2.2.2.2.2.2.2.2.2.2.2.2.2.1, h.2.2.2.2.2.2.2.2.2.2.2.2.2.2.2.2.2.2.2.2.2.2.2.1, h.2.2.2.2.2.2.2.2.2.2.2.2.2.2.2.2.2.2.2.2.2.2.2.2.1, h.2.2.2.2.2.2.2.2.2.2.2.2.2.2.2.2.2.2.2.2.2.2.2.2.2.1, h.2.2.2.2.2.2.2.2.2.2.2.2.2.2.2.2.2.2.2.2.2.2.2.2.2.2.1, h.2.2.2.2.2.2.2.2.2.2.2.2.2.2.2.2.2.2.2.2.2.2.2.2.2.2.2.1, h.2.2.2.2.2.2.2.2.2.2.2.2.2.2.2.2.2.2.2.2.2.2.2.2.2.2.2.2.1, h.2.2.2.2.2.2.2.2.2.2.2.2.2.2.2.2.2.2.2.2.2.2.2.2.2.2.2.2.2.1, h.2.2.2.2.2.2.2.2.2.2.2.2.2.2.2.2.2.2.2.2.2.2.2.2.2.2.2.2.2.2.1, h.2.2.2.2.2.2.2.2.2.2.2.2.2.2.2.2.2.2.2.2.2.2.2.2.2.2.2.2.2.2.2.1, h.2.2.2.2.2.2.2.2.2.2.2.2.2.2.2.2.2.2.2.2.2.2.2.2.2.2.2.2.2.2.2.2.1, h.2.2.2.2.2.2.2.2.2.2.2.2.2.2.2.2.2.2.2.2.2.2.2.2.2.2.2.2.2.2.2.2.2.1, h.2.2.2.2.2.2.2.2.2.2.2.2.2.2.2.2.2.2.2.2.2.2.2.2.2.2.2.2.2.2.2.2.2.2.1, h.2.2.2.2.2.2.2.2.2.2.2.2.2.2.2.2.2.2.2.2.2.2.2.2.2.2.2.2.2.2.2.2.2.2.2.1, h.2.2.2.2.2.2.2.2.2.2.2.2.2.2.2.2.2.2.2.2.2.2.2.2.2.2.2.2.2.2.2.2.2.2.2.2.1, h.2.2.2.2.2.2.2.2.2.2.2.2.2.2.2.2.2.2.2.2.2.2.2.2.2.2.2.2.2.2.2.2.2.2.2.2.2.1, h.2.2.2.2.2.2.2.2.2.2.2.2.2.2.2.2.2.2.2.2.2.2.2.2.2.2.2.2.2.2.2.2.2.2.2.2.2.2.1, h.2.2.2.2.2.2.2.2.2.2.2.2.2.2.2.2.2.2.2.2.2.2.2.2.2.2.2.2.2.2.2.2.2.2.2.2.2.2.2.1, h.2.2.2.2.2.2.2.2.2.2.2.2.2.2.2.2.2.2.2.2.2.2.2.2.2.2.2.2.2.2.2.2.2.2.2.2.2.2.2.2.1, h.2.2.2.2.2.2.2.2.2.2.2.2.2.2.2.2.2.2.2.2.2.2.2.2.2.2.2.2.2.2.2.2.2.2.2.2.2.2.2.2.2.1, h.2.2.2.2.2.2.2.2.2.2.2.2.2.2.2.2.2.2.2.2.2.2.2.2.2.2.2.2.2.2.2.2.2.2.2.2.2.2.2.2.2.2.1, h.2.2.2.2.2.2.2.2.2.2.2.2.2.2.2.2.2.2.2.2.2.2.2.2.2.2.2.2.2.2.2.2.2.2.2.2.2.2.2.2.2.2.2.1, h.2.2.2.2.2.2.2.2.2.2.2.2.2.2.2.2.2.2.2.2.2.2.2.2.2.2.2.2.2.2.2.2.2.2.2.2.2.2.2.2.2.2.2.2.1, h.2.2.2.2.2.2.2.2.2.2.2.2.2.2.2.2.2.2.2.2.2.2.2.2.2.2.2.2.2.2.2.2.2.2.2.2.2.2.2.2.2.2.2.2.2.1, h.2.2.2.2.2.2.2.2.2.2.2.2.2.2.2.2.2.2.2.2.2.2.2.2.2.2.2.2.2.2.2.2.2.2.2.2.2.2.2.2.2.2.2.2.2.2.1, h.2.2.2.2.2.2.2.2.2.2.2.2.2.2.2.2.2.2.2.2.2.2.2.2.2.2.2.2.2.2.2.2.2.2.2.2.2.2.2.2.2.2.2.2.2.2.2.1, h.2.2.2.2.2.2.2.2.2.2.2.2.2.2.2.2.2.2.2.2.2.2.2.2.2.2.2.2.2.2.2.2.2.2.2.2.2.2.2.2.2.2.2.2.2.2.2.2.1, h.2.2.2.2.2.2.2.2.2.2.2.2.2.2.2.2.2.2.2.2.2.2.2.2.2.2.2.2.2.2.2.2.2.2.2.2.2.2.2.2.2.2.2.2.2.2.2.2.2.1, h.2.2.2.2.2.2.2.2.2.2.2.2.2.2.2.2.2.2.2.2.2.2.2.2.2.2.2.2.2.2.2.2.2.2.2.2.2.2.2.2.2.2.2.2.2.2.2.2.2.2.1, h.2.2.2.2.2.2.2.2.2.2.2.2.2.2.2.2.2.2.2.2.2.2.2.2.2.2.2.2.2.2.2.2.2.2.2.2.2.2.2.2.2.2.2.2.2.2.2.2.2.2.2.1, h.2.2.2.2.2.2.2.2.2.2.2.2.2.2.2.2.2.2.2.2.2.2.2.2.2.2.2.2.2.2.2.2.2.2.2.2.2.2.2.2.2.2.2.2.2.2.2.2.2.2.2.2.1, h.2.2.2.2.2.2.2.2.2.2.2.2.2.2.2.2.2.2.2.2.2.2.2.2.2.2.2.2.2.2.2.2.2.2.2.2.2.2.2.2.2.2.2.2.2.2.2.2.2.2.2.2.2.1, h.2.2.2.2.2.2.2.2.2.2.2.2.2.2.2.2.2.2.2.2.2.2.2.2.2.2.2.2.2.2.2.2.2.2.2.2.2.2.2.2.2.2.2.2.2.2.2.2.2.2.2.2.2.2.1, h.2.2.2.2.2.2.2.2.2.2.2.2.2.2.2.2.2.2.2.2.2.2.2.2.2.2.2.2.2.2.2.2.2.2.2.2.2.2.2.2.2.2.2.2.2.2.2.2.2.2.2.2.2.2.2.1, h.2.2.2.2.2.2.2.2.2.2.2.2.2.2.2.2.2.2.2.2.2.2.2.2.2.2.2.2.2.2.2.2.2.2.2.2.2.2.2.2.2.2.2.2.2.2.2.2.2.2.2.2.2.2.2.2.1, h.2.2.2.2.2.2.2.2.2.2.2.2.2.2.2.2.2.2.2.2.2.2.2.2.2.2.2.2.2.2.2.2.2.2.2.2.2.2.2.2.2.2.2.2.2.2.2.2.2.2.2.2.2.2.2.2.2.1, h.2.2.2.2.2.2.2.2.2.2.2.2.2.2.2.2.2.2.2.2.2.2.2.2.2.2.2.2.2.2.2.2.2.2.2.2.2.2.2.2.2.2.2.2.2.2.2.2.2.2.2.2.2.2.2.2.2.2.1, h.2.2.2.2.2.2.2.2.2.2.2.2.2.2.2.2.2.2.2.2.2.2.2.2.2.2.2.2.2.2.2.2.2.2.2.2.2.2.2.2.2.2.2.2.2.2.2.2.2.2.2.2.2.2.2.2.2.2.2⟩
theorem wd_1590 : (Cond.methodLink "WebCourtModel" (223 : Nat) ⟨"WebCourtModel", "isDigit", "(I)Z"⟩) ∈ gtb := gtb_c7 41 (by decide +kernel) rfl
theorem wd_1591 : (Cond.static ⟨"WebCourtModel", "isDigit", "(I)Z"⟩) ∈ gtb := gtb_c7 42 (by decide +kernel) rfl
theorem hd_yX11_isDigit : yX11_isDigit.cls ≠ "java/lang/invoke/MethodHandle" ∧ yX11_isDigit.cls ≠ "java/lang/invoke/VarHandle" ∧ (parseMethodDescriptor yX11_isDigit.desc).map (fun d => d.parameters.length) = some 1 := by decide +kernel
theorem wd_1365 : (Cond.fieldLink "WebCourtModel" (226 : Nat) "WebCourtModel" "number" "I") ∈ gtb := gtb_c6 56 (by decide +kernel) rfl
theorem pf_RX11_226 {p : Program} {l : Launch} {e : Env} {R : Room} {s : State} {m : MethodId} {args : Array Value} {below : List Frame} {meth : Method} {c : Code} {H : Heap} {locs : List Loc} {cells slots : Nat} {Q : State → Prop} {cc : ByteArray} {pc nL : Nat} {ls : Array Slot} {rest : List Value} {D : va_G} {cy : Nat → ClassId} {A : Nat → Prop} {ws : va_W} {b : Nat} {fs : List Value} {v : Int32} {ws' : va_W} (C : Cx p s m args c cc nL RX11 D cy A) (hO : Wo D A ws s.heap H locs) (q0 : Nat) (he : ws[q0]? = some (b, .inr (11, fs))) (hlen : 9 < fs.length) (hw : ws.set q0 (b, .inr (11, fs.set 9 (.int v))) = ws') (hdg : decode cc pc = .ok (.putfield 226, 3)) (kk : ∀ (H : Heap) (locs : List Loc), Wo D A ws' s.heap H locs → W p l e R s m args below meth c H locs cells slots Q (F0 m (pc + 3) ls rest)) : W p l e R s m args below meth c H locs cells slots Q (F0 m pc ls (.int v :: .ref b :: rest)) := pF (k := 9) (ty := .int) C hO q0 he rfl inFX11 (by decide) wd_1365 rfl tyX11 tyX11_ok nmX11 rfl (by decide +kernel) rfl rfl hlen hw hdg kk
theorem Km26_wI9 {u v : St} {x : Int32} (h : Km26 u v) : Km26 u (sI v 0 9 x) := ⟨h.1, h.2.1, h.2.2.1, h.2.2.2.1, h.2.2.2.2.1, h.2.2.2.2.2.1, h.2.2.2.2.2.2.1, h.2.2.2.2.2.2.2.1, h.2.2.2.2.2.2.2.2.1, h.2.2.2.2.2.2.2.2.2.1, h.2.2.2.2.2.2.2.2.2.2.1, h.2.2.2.2.2.2.2.2.2.2.2.1, h.2.2.2.2.2.2.2.2.2.2.2.2.1, h.2.2.2.2.2.2.2.2.2.2.2.2.2.1, h.2.2.2.2.2.2.2.2.2.2.2.2.2.2.1, h.2.2.2.2.2.2.2.2.2.2.2.2.2.2.2.1, h.2.2.2.2.2.2.2.2.2.2.2.2.2.2.2.2.1, h.2.2.2.2.2.2.2.2.2.2.2.2.2.2.2.2.2.1, h.2.2.2.2.2.2.2.2.2.2.2.2.2.2.2.2.2.2.1, h.2.2.2.2.2.2.2.2.2.2.2.2.2.2.2.2.2.2.2.1, h.2.2.2.2.2.2.2.2.2.2.2.2.2.2.2.2.2.2.2.2.1, h.2.2.2.2.2.2.2.2.2.2.2.2.2.2.2.2.2.2.2.2.2.1, h.2.2.2.2.2.2.2.2.2.2.2.2.2.2.2.2.2.2.2.2.2.2.1, h.2.2.2.2.2.2.2.2.2.2.2.2.2.2.2.2.2.2.2.2.2.2.2.1, h.2.2.2.2.2.2.2.2.2.2.2.2.2.2.2.2.2.2.2.2.2.2.2.2.1, h.2.2.2.2.2.2.2.2.2.2.2.2.2.2.2.2.2.2.2.2.2.2.2.2.2.1, h.2.2.2.2.2.2.2.2.2.2.2.2.2.2.2.2.2.2.2.2.2.2.2.2.2.2.1, h.2.2.2.2.2.2.2.2.2.2.2.2.2.2.2.2.2.2.2.2.2.2.2.2.2.2.2.1, h.2.2.2.2.2.2.2.2.2.2.2.2.2.2.2.2.2.2.2.2.2.2.2.2.2.2.2.2.1, h.2.2.2.2.2.2.2.2.2.2.2.2.2.2.2.2.2.2.2.2.2.2.2.2.2.2.2.2.2.1, h.2.2.2.2.2.2.2.2.2.2.2.2.2.2.2.2.2.2.2.2.2.2.2.2.2.2.2.2.2.2.1, h.2.2.2.2.2.2.2.2.2.2.2.2.2.2.2.2.2.2.2.2.2.2.2.2.2.2.2.2.2.2.2.1, h.2.2.2.2.2.2.2.2.2.2.2.2.2.2.2.2.2.2.2.2.2.2.2.2.2.2.2.2.2.2.2.2.1, h.2.2.2.2.2.2.2.2.2.2.2.2.2.2.2.2.2.2.2.2.2.2.2.2.2.2.2.2.2.2.2.2.2.1, h.2.2.2.2.2.2.2.2.2.2.2.2.2.2.2.2.2.2.2.2.2.2.2.2.2.2.2.2.2.2.2.2.2.2.1, h.2.2.2.2.2.2.2.2.2.2.2.2.2.2.2.2.2.2.2.2.2.2.2.2.2.2.2.2.2.2.2.2.2.2.2.1, h.2.2.2.2.2.2.2.2.2.2.2.2.2.2.2.2.2.2.2.2.2.2.2.2.2.2.2.2.2.2.2.2.2.2.2.2.1, h.2.2.2.2.2.2.2.2.2.2.2.2.2.2.2.2.2.2.2.2.2.2.2.2.2.2.2.2.2.2.2.2.2.2.2.2.2.1, h.2.2.2.2.2.2.2.2.2.2.2.2.2.2.2.2.2.2.2.2.2.2.2.2.2.2.2.2.2.2.2.2.2.2.2.2.2.2.1, h.2.2.2.2.2.2.2.2.2.2.2.2.2.2.2.2.2.2.2.2.2.2.2.2.2.2.2.2.2.2.2.2.2.2.2.2.2.2.2.1, h.2.2.2.2.2.2.2.2.2.2.2.2.2.2.2.2.2.2.2.2.2.2.2.2.2.2.2.2.2.2.2.2.2.2.2.2.2.2.2.2.1, h.2.2.2.2.2.2.2.2.2.2.2.2.2.2.2.2.2.2.2.2.2.2.2.2.2.2.2.2.2.2.2.2.2.2.2.2.2.2.2.2.2.1, h.2.2.2.2.2.2.2.2.2.2.2.2.2.2.2.2.2.2.2.2.2.2.2.2.2.2.2.2.2.2.2.2.2.2.2.2.2.2.2.2.2.2.1, h.2.2.2.2.2.2.2.2.2.2.2.2.2.2.2.2.2.2.2.2.2.2.2.2.2.2.2.2.2.2.2.2.2.2.2.2.2.2.2.2.2.2.2.1, h.2.2.2.2.2.2.2.2.2.2.2.2.2.2.2.2.2.2.2.2.2.2.2.2.2.2.2.2.2.2.2.2.2.2.2.2.2.2.2.2.2.2.2.2.1, h.2.2.2.2.2.2.2.2.2.2.2.2.2.2.2.2.2.2.2.2.2.2.2.2.2.2.2.2.2.2.2.2.2.2.2.2.2.2.2.2.2.2.2.2.2.1, h.2.2.2.2.2.2.2.2.2.2.2.2.2.2.2.2.2.2.2.2.2.2.2.2.2.2.2.2.2.2.2.2.2.2.2.2.2.2.2.2.2.2.2.2.2.2.1, h.2.2.2.2.2.2.2.2.2.2.2.2.2.2.2.2.2.2.2.2.2.2.2.2.2.2.2.2.2.2.2.2.2.2.2.2.2.2.2.2.2.2.2.2.2.2.2.1, h.2.2.2.2.2.2.2.2.2.2.2.2.2.2.2.2.2.2.2.2.2.2.2.2.2.2.2.2.2.2.2.2.2.2.2.2.2.2.2.2.2.2.2.2.2.2.2.2.1, h.2.2.2.2.2.2.2.2.2.2.2.2.2.2.2.2.2.2.2.2.2.2.2.2.2.2.2.2.2.2.2.2.2.2.2.2.2.2.2.2.2.2.2.2.2.2.2.2.2.1, h.2.2.2.2.2.2.2.2.2.2.2.2.2.2.2.2.2.2.2.2.2.2.2.2.2.2.2.2.2.2.2.2.2.2.2.2.2.2.2.2.2.2.2.2.2.2.2.2.2.2.1, h.2.2.2.2.2.2.2.2.2.2.2.2.2.2.2.2.2.2.2.2.2.2.2.2.2.2.2.2.2.2.2.2.2.2.2.2.2.2.2.2.2.2.2.2.2.2.2.2.2.2.2.1, h.2.2.2.2.2.2.2.2.2.2.2.2.2.2.2.2.2.2.2.2.2.2.2.2.2.2.2.2.2.2.2.2.2.2.2.2.2.2.2.2.2.2.2.2.2.2.2.2.2.2.2.2.1, h.2.2.2.2.2.2.2.2.2.2.2.2.2.2.2.2.2.2.2.2.2.2.2.2.2.2.2.2.2.2.2.2.2.2.2.2.2.2.2.2.2.2.2.2.2.2.2.2.2.2.2.2.2.1, h.2.2.2.2.2.2.2.2.2.2.2.2.2.2.2.2.2.2.2.2.2.2.2.2.2.2.2.2.2.2.2.2.2.2.2.2.2.2.2.2.2.2.2.2.2.2.2.2.2.2.2.2.2.2.1, h.2.2.2.2.2.2.2.2.2.2.2.2.2.2.2.2.2.2.2.2.2.2.2.2.2.2.2.2.2.2.2.2.2.2.2.2.2.2.2.2.2.2.2.2.2.2.2.2.2.2.2.2.2.2.2.1, h.2.2.2.2.2.2.2.2.2.2.2.2.2.2.2.2.2.2.2.2.2.2.2.2.2.2.2.2.2.2.2.2.2.2.2.2.2.2.2.2.2.2.2.2.2.2.2.2.2.2.2.2.2.2.2.2.1, h.2.2.2.2.2.2.2.2.2.2.2.2.2.2.2.2.2.2.2.2.2.2.2.2.2.2.2.2.2.2.2.2.2.2.2.2.2.2.2.2.2.2.2.2.2.2.2.2.2.2.2.2.2.2.2.2.2.1, h.2.2.2.2.2.2.2.2.2.2.2.2.2.2.2.2.2.2.2.2.2.2.2.2.2.2.2.2.2.2.2.2.2.2.2.2.2.2.2.2.2.2.2.2.2.2.2.2.2.2.2.2.2.2.2.2.2.2.1, h.2.2.2.2.2.2.2.2.2.2.2.2.2.2.2.2.2.2.2.2.2.2.2.2.2.2.2.2.2.2.2.2.2.2.2.2.2.2.2.2.2.2.2.2.2.2.2.2.2.2.2.2.2.2.2.2.2.2.2⟩
theorem gf_RX11_226 {p : Program} {l : Launch} {e : Env} {R : Room} {s : State} {m : MethodId} {args : Array Value} {below : List Frame} {meth : Method} {c : Code} {H : Heap} {locs : List Loc} {cells slots : Nat} {Q : State → Prop} {cc : ByteArray} {pc nL : Nat} {ls : Array Slot} {rest : List Value} {D : va_G} {cy : Nat → ClassId} {A : Nat → Prop} {ws : va_W} {b : Nat} {fs : List Value} {v : Value} (C : Cx p s m args c cc nL RX11 D cy A) (hO : Wo D A ws s.heap H locs) (q0 : Nat) (he : ws[q0]? = some (b, .inr (11, fs))) (hv : fs[9]? = some v) (hdg : decode cc pc = .ok (.getfield 226, 3)) (kk : W p l e R s m args below meth c H locs cells slots Q (F0 m (pc + 3) ls (v :: rest))) : W p l e R s m args below meth c H locs cells slots Q (F0 m pc ls (.ref b :: rest)) := gF (k := 9) C hO q0 he rfl inFX11 (by decide) wd_1365 rfl hv hdg kk
theorem wd_1593 : (Cond.methodLink "WebCourtModel" (229 : Nat) ⟨"WebCourtModel", "isSign", "(I)Z"⟩) ∈ gtb := gtb_c7 44 (by decide +kernel) rfl
theorem wd_1594 : (Cond.static ⟨"WebCourtModel", "isSign", "(I)Z"⟩) ∈ gtb := gtb_c7 45 (by decide +kernel) rfl
theorem hd_yX11_isSign : yX11_isSign.cls ≠ "java/lang/invoke/MethodHandle" ∧ yX11_isSign.cls ≠ "java/lang/invoke/VarHandle" ∧ (parseMethodDescriptor yX11_isSign.desc).map (fun d => d.parameters.length) = some 1 := by decide +kernel
set_option maxHeartbeats 4000000 in
set_option maxRecDepth 100000 in
theorem T_X11_goOn (l : Launch) (D : va_G) (cy : Nat → ClassId) (a : Nat → Nat) (u : St) (hJ : MI a u) (hp0 : (fI u 0 7).toInt ≤ (fI u 0 3).toInt)   : Mv l D cy (mW cy a) yX11_goOn (.code yX11_goOn cX11_goOn 3 none) (rmo 1 22) [.ref (a 0)] u (fun (u' : St) => (MI a u') ∧ (Km26 u u') ∧ ((fI u' 0 7).toInt ≤ (fI u' 0 3).toInt) ∧ ((fI u' 0 6).toInt ≤ (fI u' 0 7).toInt) ∧ ((fI u' 0 8).toInt = 0 ∨ (fI u' 0 6).toInt < (fI u' 0 7).toInt) ∧ ((fI u 0 7).toInt ≤ (fI u' 0 6).toInt)) := by
  refine Mv.of (own := RX11) rfl (by decide) (Nat.le_of_ble_eq_true rfl) ?_
  have hT : Km26 u u := Km26.rf
  have hJ0 := hJ
  intro p e s m below meth c A Q ls C hret hO hl
  obtain ⟨hx, hb, hml, hown, ht, hK, hA⟩ := id C
  have hl : lv_has ls 3 [(0, .ref (a 0))] := hl
  refine lv_aload_n hx hb dX11_goOn_0 rfl (lv_at hl 0 rfl) ?_
  refine lv_aload_n hx hb dX11_goOn_1 rfl (lv_at hl 0 rfl) ?_
  have g1 : 0 ≤ (fI u 0 7).toInt ∧ (fI u 0 7).toInt ≤ 1601 := by have h := MI_7 hJ0; exact h
  refine gf_RX11_198 (v := .int (fI u 0 7)) C hO 0 mW_0 rfl dX11_goOn_2 ?_
  refine pf_RX11_201 C hO 0 mW_0 (Nat.le_of_ble_eq_true rfl) mW_s0_6 dX11_goOn_5 (fun H locs hO => ?_)
  have hT := Km26_wI6 (x := (fI u 0 7)) hT
  have hJ := MIs_6 (v := (fI u 0 7)) hJ (by first | decide | omega)
  have LP_8_k3 : ∀ (n : Nat) (u2 : St) (H : Heap) (locs : List Loc) (ls : Array Slot) (at_k3 : Int32) (en_k3 : Int32), Wo D A (mW cy a u2) s.heap H locs → lv_has ls 3 [(0, .ref (a 0))] → MI a u2 → Km26 u u2 → fI u2 0 6 = at_k3 → fI u2 0 7 = en_k3 → at_k3.toInt ≤ (fI u 0 3).toInt → (fI u 0 7).toInt ≤ at_k3.toInt → 0 ≤ at_k3.toInt ∧ at_k3.toInt ≤ 1600 → 0 ≤ en_k3.toInt ∧ en_k3.toInt ≤ 1601 → 1600 - at_k3.toInt < (n : Int) → W p l e (rmo 1 22) s m [.ref (a 0)].toArray below meth c H locs 0 0 Q (F0 m 8 ls []) := by
    intro n
    induction n with
    | zero =>
      intro u2 H locs ls at_k3 en_k3 hO hl hJ hT hat_k3 hen_k3 iv0_k3 iv1_k3 iv2_k3 iv3_k3 hm_k3
      exact absurd hm_k3 (by omega)
    | succ n ih_k3 =>
      intro u2 H locs ls at_k3 en_k3 hO hl hJ hT hat_k3 hen_k3 iv0_k3 iv1_k3 iv2_k3 iv3_k3 hm_k3
      refine lv_aload_n hx hb dX11_goOn_8 rfl (lv_at hl 0 rfl) ?_
      refine gf_RX11_201 (v := .int at_k3) C hO 0 mW_0 (congrArg (fun z : Int32 => some (Value.int z)) hat_k3) dX11_goOn_9 ?_
      refine lv_aload_n hx hb dX11_goOn_12 rfl (lv_at hl 0 rfl) ?_
      have g4 : 0 ≤ (fI u 0 3).toInt ∧ (fI u 0 3).toInt ≤ 1600 := by have h := MI_3 hJ0; exact h
      refine gf_RX11_152 (v := .int (fI u 0 3)) C hO 0 mW_0 (congrArg (fun z : Int32 => some (Value.int z)) (Km26_I3 hT)) dX11_goOn_13 ?_
      refine cs_ge (tgt := 58) (X := (at_k3).toInt) (Y := ((fI u 0 3)).toInt) hx hb dX11_goOn_16 (by decide) rfl rfl (fun c5 => ?_) (fun c5 => ?_)
      · refine lv_aload_n hx hb dX11_goOn_58 rfl (lv_at hl 0 rfl) ?_
        refine lv_aload_n hx hb dX11_goOn_59 rfl (lv_at hl 0 rfl) ?_
        refine gf_RX11_201 (v := .int at_k3) C hO 0 mW_0 (congrArg (fun z : Int32 => some (Value.int z)) hat_k3) dX11_goOn_60 ?_
        refine cVi (w := mW cy a) (As := [.int at_k3]) (rest := []) C hO (T_X11_sign l D cy a _ (by exact hJ) (at_k3) (by first | omega | decide)) (cwV 1 ht (gV wd_1560 wd_1562 wd_49 wd_121 wd_1563) rfl rfl rfl hd_yX11_sign ⟨Nat.le_of_ble_eq_true rfl, Nat.le_of_ble_eq_true rfl⟩) 0 rfl mW_0 rfl rfl hl.1 (Nat.le_of_ble_eq_true rfl) dX11_goOn_63 rfl ⟨Nat.zero_le _, Nat.zero_le _⟩ (fun r6 u7 H locs hp8 hO => ?_)
        obtain ⟨hr6, hu7⟩ := hp8
        rw [hu7] at hO
        have gr6 : (0 ≤ r6.toInt ∧ r6.toInt ≤ 255) ∧ (r6.toInt = 0 ∨ (at_k3 : Int32).toInt < ((fI u 0 3)).toInt) := by have h := sgF_b (u := _) (k := at_k3); rw [← hr6] at h; rw [(Km26_I3 hT)] at h; exact h
        have hr6 : r6 = sgF u at_k3 := hr6.trans (sgF_eq (Km26_A2 hT) (Km26_I3 hT))
        refine lv_istore_n (lv' := [(1, .int r6), (0, .ref (a 0))]) hx hb dX11_goOn_66 rfl hl (by decide) rfl (fun ls hl => ?_)
        refine lv_aload_n hx hb dX11_goOn_67 rfl (lv_at hl 1 rfl) ?_
        refine lv_aload_n hx hb dX11_goOn_68 rfl (lv_at hl 1 rfl) ?_
        refine gf_RX11_201 (v := .int at_k3) C hO 0 mW_0 (congrArg (fun z : Int32 => some (Value.int z)) hat_k3) dX11_goOn_69 ?_
        refine lv_iconst (v := 1) hx hb dX11_goOn_72 (by decide) ?_
        refine lv_iadd hx hb dX11_goOn_73 ?_
        refine lv_topi (fun z9 ez9 => ?_)
        have e10 : z9.toInt = (at_k3).toInt + 1 := by rw [ez9]; exact i_add rfl rfl (by omega)
        refine pf_RX11_198 C hO 0 mW_0 (Nat.le_of_ble_eq_true rfl) mW_s0_7 dX11_goOn_74 (fun H locs hO => ?_)
        have hT := Km26_wI7 (x := z9) hT
        have hJ := MIs_7 (v := z9) hJ (by first | decide | omega)
        refine lv_aload_n hx hb dX11_goOn_77 rfl (lv_at hl 1 rfl) ?_
        refine gf_RX11_201 (v := .int at_k3) C hO 0 mW_0 (congrArg (fun z : Int32 => some (Value.int z)) hat_k3) dX11_goOn_78 ?_
        refine lv_aload_n hx hb dX11_goOn_81 rfl (lv_at hl 1 rfl) ?_
        refine gf_RX11_152 (v := .int (fI u 0 3)) C hO 0 mW_0 (congrArg (fun z : Int32 => some (Value.int z)) (Km26_I3 hT)) dX11_goOn_82 ?_
        refine cs_lt (tgt := 112) (X := (at_k3).toInt) (Y := ((fI u 0 3)).toInt) hx hb dX11_goOn_85 (by decide) rfl rfl (fun c11 => ?_) (fun c11 => ?_)
        · refine lv_iload_n hx hb dX11_goOn_112 rfl (lv_at hl 0 rfl) ?_
          refine cSi (w := mW cy a) (As := [.int r6]) (rest := []) C hO (T_X11_isLetter l D cy a _ (by exact hJ) (r6)) (va_cwS 1 ht (gSS wd_1564 wd_1565 wd_121 wd_1566) rfl rfl rfl hd_yX11_isLetter ⟨Nat.le_of_ble_eq_true rfl, Nat.le_of_ble_eq_true rfl⟩)  rfl hl.1 (Nat.le_of_ble_eq_true rfl) dX11_goOn_113 rfl ⟨Nat.zero_le _, Nat.zero_le _⟩ (fun r12 u13 H locs hp14 hO => ?_)
          obtain ⟨hr12, hu13⟩ := hp14
          rw [hu13] at hO
          rcases hr12 with ⟨hcr12, hvr12⟩ | ⟨hcr12, hvr12⟩
          · subst hvr12
            refine bn_eq (X := 1) hx hb dX11_goOn_116 rfl (by omega) ?_ (tgt := 239) (by decide)
            have LP_119_k16 : ∀ (n : Nat) (u15 : St) (H : Heap) (locs : List Loc) (ls : Array Slot) (at_k16 : Int32) (en_k16 : Int32), Wo D A (mW cy a u15) s.heap H locs → lv_has ls 3 [(1, .int r6), (0, .ref (a 0))] → MI a u15 → Km26 u u15 → fI u15 0 6 = at_k16 → fI u15 0 7 = en_k16 → at_k16.toInt < en_k16.toInt → en_k16.toInt ≤ (fI u 0 3).toInt → (fI u 0 7).toInt ≤ at_k16.toInt → 0 ≤ at_k16.toInt ∧ at_k16.toInt ≤ 1600 → 0 ≤ en_k16.toInt ∧ en_k16.toInt ≤ 1601 → 1601 - en_k16.toInt < (n : Int) → W p l e (rmo 1 22) s m [.ref (a 0)].toArray below meth c H locs 0 0 Q (F0 m 119 ls []) := by
              intro n
              induction n with
              | zero =>
                intro u15 H locs ls at_k16 en_k16 hO hl hJ hT hat_k16 hen_k16 iv0_k16 iv1_k16 iv2_k16 iv3_k16 iv4_k16 hm_k16
                exact absurd hm_k16 (by omega)
              | succ n ih_k16 =>
                intro u15 H locs ls at_k16 en_k16 hO hl hJ hT hat_k16 hen_k16 iv0_k16 iv1_k16 iv2_k16 iv3_k16 iv4_k16 hm_k16
                refine lv_aload_n hx hb dX11_goOn_119 rfl (lv_at hl 1 rfl) ?_
                refine lv_aload_n hx hb dX11_goOn_120 rfl (lv_at hl 1 rfl) ?_
                refine gf_RX11_198 (v := .int en_k16) C hO 0 mW_0 (congrArg (fun z : Int32 => some (Value.int z)) hen_k16) dX11_goOn_121 ?_
                refine cVi (w := mW cy a) (As := [.int en_k16]) (rest := []) C hO (T_X11_sign l D cy a _ (by exact hJ) (en_k16) (by first | omega | decide)) (cwV 1 ht (gV wd_1560 wd_1562 wd_49 wd_121 wd_1563) rfl rfl rfl hd_yX11_sign ⟨Nat.le_of_ble_eq_true rfl, Nat.le_of_ble_eq_true rfl⟩) 0 rfl mW_0 rfl rfl hl.1 (Nat.le_of_ble_eq_true rfl) dX11_goOn_124 rfl ⟨Nat.zero_le _, Nat.zero_le _⟩ (fun r17 u18 H locs hp19 hO => ?_)
                obtain ⟨hr17, hu18⟩ := hp19
                rw [hu18] at hO
                have g20 : 0 ≤ (fI u 0 3).toInt ∧ (fI u 0 3).toInt ≤ 1600 := by have h := MI_3 hJ0; exact h
                have gr17 : (0 ≤ r17.toInt ∧ r17.toInt ≤ 255) ∧ (r17.toInt = 0 ∨ (en_k16 : Int32).toInt < ((fI u 0 3)).toInt) := by have h := sgF_b (u := _) (k := en_k16); rw [← hr17] at h; rw [(Km26_I3 hT)] at h; exact h
                have hr17 : r17 = sgF u en_k16 := hr17.trans (sgF_eq (Km26_A2 hT) (Km26_I3 hT))
                refine cSi (w := mW cy a) (As := [.int r17]) (rest := []) C hO (T_X11_isLetter l D cy a _ (by exact hJ) (r17)) (va_cwS 1 ht (gSS wd_1564 wd_1565 wd_121 wd_1566) rfl rfl rfl hd_yX11_isLetter ⟨Nat.le_of_ble_eq_true rfl, Nat.le_of_ble_eq_true rfl⟩)  rfl hl.1 (Nat.le_of_ble_eq_true rfl) dX11_goOn_127 rfl ⟨Nat.zero_le _, Nat.zero_le _⟩ (fun r21 u22 H locs hp23 hO => ?_)
                obtain ⟨hr21, hu22⟩ := hp23
                rw [hu22] at hO
                rcases hr21 with ⟨hcr21, hvr21⟩ | ⟨hcr21, hvr21⟩
                · subst hvr21
                  refine bn_eq (X := 1) hx hb dX11_goOn_130 rfl (by omega) ?_ (tgt := 146) (by decide)
                  refine lv_aload_n hx hb dX11_goOn_133 rfl (lv_at hl 1 rfl) ?_
                  refine lv_dup hx hb dX11_goOn_134 rfl ?_
                  refine gf_RX11_198 (v := .int en_k16) C hO 0 mW_0 (congrArg (fun z : Int32 => some (Value.int z)) hen_k16) dX11_goOn_135 ?_
                  refine lv_iconst (v := 1) hx hb dX11_goOn_138 (by decide) ?_
                  refine lv_iadd hx hb dX11_goOn_139 ?_
                  refine lv_topi (fun z24 ez24 => ?_)
                  have e25 : z24.toInt = (en_k16).toInt + 1 := by rw [ez24]; exact i_add rfl rfl (by omega)
                  refine pf_RX11_198 C hO 0 mW_0 (Nat.le_of_ble_eq_true rfl) mW_s0_7 dX11_goOn_140 (fun H locs hO => ?_)
                  have hT := Km26_wI7 (x := z24) hT
                  have hJ := MIs_7 (v := z24) hJ (by first | decide | omega)
                  refine lv_goto (tgt := 119) hx hb dX11_goOn_143 (by decide) ?_
                  exact ih_k16 _ _ _ _ (at_k16) (z24) hO (lv_sub hl [0, 1] rfl) (by exact hJ) (by exact hT) (by exact hat_k16) (by exact rfl) (by first | decide | omega) (by first | decide | omega) (by first | decide | omega) (by first | decide | omega) (by first | decide | omega) (by first | decide | omega)
                · subst hvr21
                  refine bt_eq (tgt := 146) (X := 0) hx hb dX11_goOn_130 (by decide) rfl (by omega) ?_
                  refine lv_aload_n hx hb dX11_goOn_146 rfl (lv_at hl 1 rfl) ?_
                  refine lv_lconst (v := 0) hx hb dX11_goOn_147 rfl ?_
                  refine pf_RX11_215 C hO 0 mW_0 (Nat.le_of_ble_eq_true rfl) mW_s0_10 dX11_goOn_148 (fun H locs hO => ?_)
                  have hT := Km26_wL10 (x := 0) hT
                  have hJ := MIs_10 (v := 0) hJ
                  refine lv_aload_n hx hb dX11_goOn_151 rfl (lv_at hl 1 rfl) ?_
                  refine gf_RX11_201 (v := .int at_k16) C hO 0 mW_0 (congrArg (fun z : Int32 => some (Value.int z)) hat_k16) dX11_goOn_152 ?_
                  refine lv_istore_n (lv' := [(2, .int at_k16), (1, .int r6), (0, .ref (a 0))]) hx hb dX11_goOn_155 rfl hl (by decide) rfl (fun ls hl => ?_)
                  have LP_156_k27 : ∀ (n : Nat) (u26 : St) (H : Heap) (locs : List Loc) (ls : Array Slot) (k_k27 : Int32) (at_k27 : Int32) (en_k27 : Int32), Wo D A (mW cy a u26) s.heap H locs → lv_has ls 3 [(2, .int k_k27), (1, .int r6), (0, .ref (a 0))] → MI a u26 → Km26 u u26 → fI u26 0 6 = at_k27 → fI u26 0 7 = en_k27 → at_k27.toInt < en_k27.toInt → en_k27.toInt ≤ (fI u 0 3).toInt → (fI u 0 7).toInt ≤ at_k27.toInt → 0 ≤ k_k27.toInt ∧ k_k27.toInt ≤ 1601 → 0 ≤ at_k27.toInt ∧ at_k27.toInt ≤ 1600 → 0 ≤ en_k27.toInt ∧ en_k27.toInt ≤ 1601 → 1601 - k_k27.toInt < (n : Int) → W p l e (rmo 1 22) s m [.ref (a 0)].toArray below meth c H locs 0 0 Q (F0 m 156 ls []) := by
                    intro n
                    induction n with
                    | zero =>
                      intro u26 H locs ls k_k27 at_k27 en_k27 hO hl hJ hT hat_k27 hen_k27 iv0_k27 iv1_k27 iv2_k27 iv3_k27 iv4_k27 iv5_k27 hm_k27
                      exact absurd hm_k27 (by omega)
                    | succ n ih_k27 =>
                      intro u26 H locs ls k_k27 at_k27 en_k27 hO hl hJ hT hat_k27 hen_k27 iv0_k27 iv1_k27 iv2_k27 iv3_k27 iv4_k27 iv5_k27 hm_k27
                      refine lv_iload_n hx hb dX11_goOn_156 rfl (lv_at hl 0 rfl) ?_
                      refine lv_aload_n hx hb dX11_goOn_157 rfl (lv_at hl 2 rfl) ?_
                      refine gf_RX11_198 (v := .int en_k27) C hO 0 mW_0 (congrArg (fun z : Int32 => some (Value.int z)) hen_k27) dX11_goOn_158 ?_
                      refine cs_ge (tgt := 199) (X := (k_k27).toInt) (Y := (en_k27).toInt) hx hb dX11_goOn_161 (by decide) rfl rfl (fun c28 => ?_) (fun c28 => ?_)
                      · refine lv_aload_n hx hb dX11_goOn_199 rfl (lv_at hl 2 rfl) ?_
                        refine lv_aload_n hx hb dX11_goOn_200 rfl (lv_at hl 2 rfl) ?_
                        refine gf_RX11_198 (v := .int en_k27) C hO 0 mW_0 (congrArg (fun z : Int32 => some (Value.int z)) hen_k27) dX11_goOn_201 ?_
                        refine lv_aload_n hx hb dX11_goOn_204 rfl (lv_at hl 2 rfl) ?_
                        refine gf_RX11_201 (v := .int at_k27) C hO 0 mW_0 (congrArg (fun z : Int32 => some (Value.int z)) hat_k27) dX11_goOn_205 ?_
                        refine lv_isub hx hb dX11_goOn_208 ?_
                        refine lv_topi (fun z29 ez29 => ?_)
                        have e30 : z29.toInt = (en_k27).toInt - (at_k27).toInt := by rw [ez29]; exact i_sub rfl rfl (by omega)
                        refine lv_bipush (v := 8) hx hb dX11_goOn_209 (by decide) ?_
                        refine cs_le (tgt := 218) (X := ((en_k27).toInt - (at_k27).toInt)) (Y := 8) hx hb dX11_goOn_211 (by decide) e30 rfl (fun c31 => ?_) (fun c31 => ?_)
                        · refine lv_aload_n hx hb dX11_goOn_218 rfl (lv_at hl 2 rfl) ?_
                          refine gf_RX11_215 (v := .long ((fL u26 0 10))) C hO 0 mW_0 rfl dX11_goOn_219 ?_
                          refine cSi (w := mW cy a) (As := [.long ((fL u26 0 10))]) (rest := [.ref (a 0)]) C hO (T_X11_isKept l D cy a _ (by exact hJ) ((fL u26 0 10))) (va_cwS 1 ht (gSS wd_1567 wd_1568 wd_121 wd_1569) rfl rfl rfl hd_yX11_isKept ⟨Nat.le_of_ble_eq_true rfl, Nat.le_of_ble_eq_true rfl⟩)  rfl hl.1 (Nat.le_of_ble_eq_true rfl) dX11_goOn_222 rfl ⟨Nat.zero_le _, Nat.zero_le _⟩ (fun r32 u33 H locs hp34 hO => ?_)
                          obtain ⟨hr32, hu33⟩ := hp34
                          have gr32 : 0 ≤ r32.toInt ∧ r32.toInt ≤ 1 := by rcases hr32 with h | h <;> rw [h] <;> decide
                          rw [hu33] at hO
                          refine bs_eq (tgt := 232) (X := (r32).toInt) hx hb dX11_goOn_225 (by decide) rfl (fun c35 => ?_) (fun c35 => ?_)
                          · refine lv_iconst (v := 2) hx hb dX11_goOn_232 (by decide) ?_
                            refine pf_RX11_208 C hO 0 mW_0 (Nat.le_of_ble_eq_true rfl) mW_s0_8 dX11_goOn_233 (fun H locs hO => ?_)
                            have hT := Km26_wI8 (x := 2) hT
                            have hJ := MIs_8 (v := 2) hJ (by first | decide | omega)
                            refine lv_goto (tgt := 377) hx hb dX11_goOn_236 (by decide) ?_
                            have g36 : 0 ≤ (fI u 0 3).toInt ∧ (fI u 0 3).toInt ≤ 1600 := by have h := MI_3 hJ0; exact h
                            have q37 : (en_k27 : Int32).toInt ≤ ((fI u 0 3) : Int32).toInt := by first | omega | decide
                            have q38 : (at_k27 : Int32).toInt ≤ (en_k27 : Int32).toInt := by first | omega | decide
                            have q39 : (2 : Int32).toInt = 0 ∨ (at_k27 : Int32).toInt < (en_k27 : Int32).toInt := by first | omega | decide
                            have g40 : 0 ≤ (fI u 0 7).toInt ∧ (fI u 0 7).toInt ≤ 1601 := by have h := MI_7 hJ0; exact h
                            have q41 : ((fI u 0 7) : Int32).toInt ≤ (at_k27 : Int32).toInt := by first | omega | decide
                            refine hret _ _ _ _ _ dX11_goOn_377 ?_ hO
                            exact ⟨hJ, hT, q37, q38, q39, q41⟩
                          · refine lv_iconst (v := 3) hx hb dX11_goOn_228 (by decide) ?_
                            refine lv_goto (tgt := 233) hx hb dX11_goOn_229 (by decide) ?_
                            refine pf_RX11_208 C hO 0 mW_0 (Nat.le_of_ble_eq_true rfl) mW_s0_8 dX11_goOn_233 (fun H locs hO => ?_)
                            have hT := Km26_wI8 (x := 3) hT
                            have hJ := MIs_8 (v := 3) hJ (by first | decide | omega)
                            refine lv_goto (tgt := 377) hx hb dX11_goOn_236 (by decide) ?_
                            have g42 : 0 ≤ (fI u 0 3).toInt ∧ (fI u 0 3).toInt ≤ 1600 := by have h := MI_3 hJ0; exact h
                            have q43 : (en_k27 : Int32).toInt ≤ ((fI u 0 3) : Int32).toInt := by first | omega | decide
                            have q44 : (at_k27 : Int32).toInt ≤ (en_k27 : Int32).toInt := by first | omega | decide
                            have q45 : (3 : Int32).toInt = 0 ∨ (at_k27 : Int32).toInt < (en_k27 : Int32).toInt := by first | omega | decide
                            have g46 : 0 ≤ (fI u 0 7).toInt ∧ (fI u 0 7).toInt ≤ 1601 := by have h := MI_7 hJ0; exact h
                            have q47 : ((fI u 0 7) : Int32).toInt ≤ (at_k27 : Int32).toInt := by first | omega | decide
                            refine hret _ _ _ _ _ dX11_goOn_377 ?_ hO
                            exact ⟨hJ, hT, q43, q44, q45, q47⟩
                        · refine lv_iconst (v := 1) hx hb dX11_goOn_214 (by decide) ?_
                          refine lv_goto (tgt := 233) hx hb dX11_goOn_215 (by decide) ?_
                          refine pf_RX11_208 C hO 0 mW_0 (Nat.le_of_ble_eq_true rfl) mW_s0_8 dX11_goOn_233 (fun H locs hO => ?_)
                          have hT := Km26_wI8 (x := 1) hT
                          have hJ := MIs_8 (v := 1) hJ (by first | decide | omega)
                          refine lv_goto (tgt := 377) hx hb dX11_goOn_236 (by decide) ?_
                          have g48 : 0 ≤ (fI u 0 3).toInt ∧ (fI u 0 3).toInt ≤ 1600 := by have h := MI_3 hJ0; exact h
                          have q49 : (en_k27 : Int32).toInt ≤ ((fI u 0 3) : Int32).toInt := by first | omega | decide
                          have q50 : (at_k27 : Int32).toInt ≤ (en_k27 : Int32).toInt := by first | omega | decide
                          have q51 : (1 : Int32).toInt = 0 ∨ (at_k27 : Int32).toInt < (en_k27 : Int32).toInt := by first | omega | decide
                          have g52 : 0 ≤ (fI u 0 7).toInt ∧ (fI u 0 7).toInt ≤ 1601 := by have h := MI_7 hJ0; exact h
                          have q53 : ((fI u 0 7) : Int32).toInt ≤ (at_k27 : Int32).toInt := by first | omega | decide
                          refine hret _ _ _ _ _ dX11_goOn_377 ?_ hO
                          exact ⟨hJ, hT, q49, q50, q51, q53⟩
                      · refine lv_iload_n hx hb dX11_goOn_164 rfl (lv_at hl 0 rfl) ?_
                        refine lv_aload_n hx hb dX11_goOn_165 rfl (lv_at hl 2 rfl) ?_
                        refine gf_RX11_201 (v := .int at_k27) C hO 0 mW_0 (congrArg (fun z : Int32 => some (Value.int z)) hat_k27) dX11_goOn_166 ?_
                        refine lv_bipush (v := 8) hx hb dX11_goOn_169 (by decide) ?_
                        refine lv_iadd hx hb dX11_goOn_171 ?_
                        refine lv_topi (fun z54 ez54 => ?_)
                        have e55 : z54.toInt = (at_k27).toInt + 8 := by rw [ez54]; exact i_add rfl rfl (by omega)
                        refine cs_ge (tgt := 199) (X := (k_k27).toInt) (Y := ((at_k27).toInt + 8)) hx hb dX11_goOn_172 (by decide) rfl e55 (fun c56 => ?_) (fun c56 => ?_)
                        · refine lv_aload_n hx hb dX11_goOn_199 rfl (lv_at hl 2 rfl) ?_
                          refine lv_aload_n hx hb dX11_goOn_200 rfl (lv_at hl 2 rfl) ?_
                          refine gf_RX11_198 (v := .int en_k27) C hO 0 mW_0 (congrArg (fun z : Int32 => some (Value.int z)) hen_k27) dX11_goOn_201 ?_
                          refine lv_aload_n hx hb dX11_goOn_204 rfl (lv_at hl 2 rfl) ?_
                          refine gf_RX11_201 (v := .int at_k27) C hO 0 mW_0 (congrArg (fun z : Int32 => some (Value.int z)) hat_k27) dX11_goOn_205 ?_
                          refine lv_isub hx hb dX11_goOn_208 ?_
                          refine lv_topi (fun z57 ez57 => ?_)
                          have e58 : z57.toInt = (en_k27).toInt - (at_k27).toInt := by rw [ez57]; exact i_sub rfl rfl (by omega)
                          refine lv_bipush (v := 8) hx hb dX11_goOn_209 (by decide) ?_
                          refine cs_le (tgt := 218) (X := ((en_k27).toInt - (at_k27).toInt)) (Y := 8) hx hb dX11_goOn_211 (by decide) e58 rfl (fun c59 => ?_) (fun c59 => ?_)
                          · refine lv_aload_n hx hb dX11_goOn_218 rfl (lv_at hl 2 rfl) ?_
                            refine gf_RX11_215 (v := .long ((fL u26 0 10))) C hO 0 mW_0 rfl dX11_goOn_219 ?_
                            refine cSi (w := mW cy a) (As := [.long ((fL u26 0 10))]) (rest := [.ref (a 0)]) C hO (T_X11_isKept l D cy a _ (by exact hJ) ((fL u26 0 10))) (va_cwS 1 ht (gSS wd_1567 wd_1568 wd_121 wd_1569) rfl rfl rfl hd_yX11_isKept ⟨Nat.le_of_ble_eq_true rfl, Nat.le_of_ble_eq_true rfl⟩)  rfl hl.1 (Nat.le_of_ble_eq_true rfl) dX11_goOn_222 rfl ⟨Nat.zero_le _, Nat.zero_le _⟩ (fun r60 u61 H locs hp62 hO => ?_)
                            obtain ⟨hr60, hu61⟩ := hp62
                            have gr60 : 0 ≤ r60.toInt ∧ r60.toInt ≤ 1 := by rcases hr60 with h | h <;> rw [h] <;> decide
                            rw [hu61] at hO
                            refine bs_eq (tgt := 232) (X := (r60).toInt) hx hb dX11_goOn_225 (by decide) rfl (fun c63 => ?_) (fun c63 => ?_)
                            · refine lv_iconst (v := 2) hx hb dX11_goOn_232 (by decide) ?_
                              refine pf_RX11_208 C hO 0 mW_0 (Nat.le_of_ble_eq_true rfl) mW_s0_8 dX11_goOn_233 (fun H locs hO => ?_)
                              have hT := Km26_wI8 (x := 2) hT
                              have hJ := MIs_8 (v := 2) hJ (by first | decide | omega)
                              refine lv_goto (tgt := 377) hx hb dX11_goOn_236 (by decide) ?_
                              have g64 : 0 ≤ (fI u 0 3).toInt ∧ (fI u 0 3).toInt ≤ 1600 := by have h := MI_3 hJ0; exact h
                              have q65 : (en_k27 : Int32).toInt ≤ ((fI u 0 3) : Int32).toInt := by first | omega | decide
                              have q66 : (at_k27 : Int32).toInt ≤ (en_k27 : Int32).toInt := by first | omega | decide
                              have q67 : (2 : Int32).toInt = 0 ∨ (at_k27 : Int32).toInt < (en_k27 : Int32).toInt := by first | omega | decide
                              have g68 : 0 ≤ (fI u 0 7).toInt ∧ (fI u 0 7).toInt ≤ 1601 := by have h := MI_7 hJ0; exact h
                              have q69 : ((fI u 0 7) : Int32).toInt ≤ (at_k27 : Int32).toInt := by first | omega | decide
                              refine hret _ _ _ _ _ dX11_goOn_377 ?_ hO
                              exact ⟨hJ, hT, q65, q66, q67, q69⟩
                            · refine lv_iconst (v := 3) hx hb dX11_goOn_228 (by decide) ?_
                              refine lv_goto (tgt := 233) hx hb dX11_goOn_229 (by decide) ?_
                              refine pf_RX11_208 C hO 0 mW_0 (Nat.le_of_ble_eq_true rfl) mW_s0_8 dX11_goOn_233 (fun H locs hO => ?_)
                              have hT := Km26_wI8 (x := 3) hT
                              have hJ := MIs_8 (v := 3) hJ (by first | decide | omega)
                              refine lv_goto (tgt := 377) hx hb dX11_goOn_236 (by decide) ?_
                              have g70 : 0 ≤ (fI u 0 3).toInt ∧ (fI u 0 3).toInt ≤ 1600 := by have h := MI_3 hJ0; exact h
                              have q71 : (en_k27 : Int32).toInt ≤ ((fI u 0 3) : Int32).toInt := by first | omega | decide
                              have q72 : (at_k27 : Int32).toInt ≤ (en_k27 : Int32).toInt := by first | omega | decide
                              have q73 : (3 : Int32).toInt = 0 ∨ (at_k27 : Int32).toInt < (en_k27 : Int32).toInt := by first | omega | decide
                              have g74 : 0 ≤ (fI u 0 7).toInt ∧ (fI u 0 7).toInt ≤ 1601 := by have h := MI_7 hJ0; exact h
                              have q75 : ((fI u 0 7) : Int32).toInt ≤ (at_k27 : Int32).toInt := by first | omega | decide
                              refine hret _ _ _ _ _ dX11_goOn_377 ?_ hO
                              exact ⟨hJ, hT, q71, q72, q73, q75⟩
                          · refine lv_iconst (v := 1) hx hb dX11_goOn_214 (by decide) ?_
                            refine lv_goto (tgt := 233) hx hb dX11_goOn_215 (by decide) ?_
                            refine pf_RX11_208 C hO 0 mW_0 (Nat.le_of_ble_eq_true rfl) mW_s0_8 dX11_goOn_233 (fun H locs hO => ?_)
                            have hT := Km26_wI8 (x := 1) hT
                            have hJ := MIs_8 (v := 1) hJ (by first | decide | omega)
                            refine lv_goto (tgt := 377) hx hb dX11_goOn_236 (by decide) ?_
                            have g76 : 0 ≤ (fI u 0 3).toInt ∧ (fI u 0 3).toInt ≤ 1600 := by have h := MI_3 hJ0; exact h
                            have q77 : (en_k27 : Int32).toInt ≤ ((fI u 0 3) : Int32).toInt := by first | omega | decide
                            have q78 : (at_k27 : Int32).toInt ≤ (en_k27 : Int32).toInt := by first | omega | decide
                            have q79 : (1 : Int32).toInt = 0 ∨ (at_k27 : Int32).toInt < (en_k27 : Int32).toInt := by first | omega | decide
                            have g80 : 0 ≤ (fI u 0 7).toInt ∧ (fI u 0 7).toInt ≤ 1601 := by have h := MI_7 hJ0; exact h
                            have q81 : ((fI u 0 7) : Int32).toInt ≤ (at_k27 : Int32).toInt := by first | omega | decide
                            refine hret _ _ _ _ _ dX11_goOn_377 ?_ hO
                            exact ⟨hJ, hT, q77, q78, q79, q81⟩
                        · refine lv_aload_n hx hb dX11_goOn_175 rfl (lv_at hl 2 rfl) ?_
                          refine lv_aload_n hx hb dX11_goOn_176 rfl (lv_at hl 2 rfl) ?_
                          refine gf_RX11_215 (v := .long ((fL u26 0 10))) C hO 0 mW_0 rfl dX11_goOn_177 ?_
                          refine lv_bipush (v := 8) hx hb dX11_goOn_180 (by decide) ?_
                          refine lv_lshl hx hb dX11_goOn_182 rfl ?_
                          refine lv_topl (fun w82 ew82 => ?_)
                          refine lv_aload_n hx hb dX11_goOn_183 rfl (lv_at hl 2 rfl) ?_
                          refine lv_iload_n hx hb dX11_goOn_184 rfl (lv_at hl 0 rfl) ?_
                          refine cVi (w := mW cy a) (As := [.int k_k27]) (rest := [.long w82, .ref (a 0)]) C hO (T_X11_sign l D cy a _ (by exact hJ) (k_k27) (by first | omega | decide)) (cwV 1 ht (gV wd_1560 wd_1562 wd_49 wd_121 wd_1563) rfl rfl rfl hd_yX11_sign ⟨Nat.le_of_ble_eq_true rfl, Nat.le_of_ble_eq_true rfl⟩) 0 rfl mW_0 rfl rfl hl.1 (Nat.le_of_ble_eq_true rfl) dX11_goOn_185 rfl ⟨Nat.zero_le _, Nat.zero_le _⟩ (fun r83 u84 H locs hp85 hO => ?_)
                          obtain ⟨hr83, hu84⟩ := hp85
                          rw [hu84] at hO
                          have g86 : 0 ≤ (fI u 0 3).toInt ∧ (fI u 0 3).toInt ≤ 1600 := by have h := MI_3 hJ0; exact h
                          have gr83 : (0 ≤ r83.toInt ∧ r83.toInt ≤ 255) ∧ (r83.toInt = 0 ∨ (k_k27 : Int32).toInt < ((fI u 0 3)).toInt) := by have h := sgF_b (u := _) (k := k_k27); rw [← hr83] at h; rw [(Km26_I3 hT)] at h; exact h
                          have hr83 : r83 = sgF u k_k27 := hr83.trans (sgF_eq (Km26_A2 hT) (Km26_I3 hT))
                          refine lv_i2l hx hb dX11_goOn_188 rfl ?_
                          refine lv_topl (fun w87 ew87 => ?_)
                          refine lv_lor hx hb dX11_goOn_189 ?_
                          refine lv_topl (fun w88 ew88 => ?_)
                          refine pf_RX11_215 C hO 0 mW_0 (Nat.le_of_ble_eq_true rfl) mW_s0_10 dX11_goOn_190 (fun H locs hO => ?_)
                          have hT := Km26_wL10 (x := w88) hT
                          have hJ := MIs_10 (v := w88) hJ
                          obtain ⟨z89, ez89⟩ : ∃ z : Int32, z = k_k27 + Int32.ofInt 1 := ⟨_, rfl⟩
                          have e90 : z89.toInt = (k_k27).toInt + 1 := by rw [ez89]; exact i_add rfl rfl (by omega)
                          refine lv_iinc (v := z89) (lv' := [(2, .int z89), (1, .int r6), (0, .ref (a 0))]) hx hb dX11_goOn_193 hl (k := 0) rfl ez89.symm (by decide) rfl (fun ls hl => ?_)
                          refine lv_goto (tgt := 156) hx hb dX11_goOn_196 (by decide) ?_
                          exact ih_k27 _ _ _ _ (z89) (at_k27) (en_k27) hO (lv_sub hl [0, 1, 2] rfl) (by exact hJ) (by exact hT) (by exact hat_k27) (by exact hen_k27) (by first | decide | omega) (by first | decide | omega) (by first | decide | omega) (by first | decide | omega) (by first | decide | omega) (by first | decide | omega) (by first | decide | omega)
                  exact LP_156_k27 4000 _ _ _ _ (at_k16) (at_k16) (en_k16) hO (lv_sub hl [0, 1, 2] rfl) (by exact hJ) (by exact hT) (by exact hat_k16) (by exact hen_k16) (by first | decide | omega) (by first | decide | omega) (by first | decide | omega) (by first | decide | omega) (by first | decide | omega) (by first | decide | omega) (by first | decide | omega)
            exact LP_119_k16 4000 _ _ _ _ (at_k3) (z9) hO (lv_sub hl [0, 1] rfl) (by exact hJ) (by exact hT) (by exact hat_k3) (by exact rfl) (by first | decide | omega) (by first | decide | omega) (by first | decide | omega) (by first | decide | omega) (by first | decide | omega) (by first | decide | omega)
          · subst hvr12
            refine bt_eq (tgt := 239) (X := 0) hx hb dX11_goOn_116 (by decide) rfl (by omega) ?_
            refine lv_iload_n hx hb dX11_goOn_239 rfl (lv_at hl 0 rfl) ?_
            refine cSi (w := mW cy a) (As := [.int r6]) (rest := []) C hO (T_X11_isDigit l D cy a _ (by exact hJ) (r6)) (va_cwS 1 ht (gSS wd_1590 wd_1591 wd_121 wd_1592) rfl rfl rfl hd_yX11_isDigit ⟨Nat.le_of_ble_eq_true rfl, Nat.le_of_ble_eq_true rfl⟩)  rfl hl.1 (Nat.le_of_ble_eq_true rfl) dX11_goOn_240 rfl ⟨Nat.zero_le _, Nat.zero_le _⟩ (fun r91 u92 H locs hp93 hO => ?_)
            obtain ⟨hr91, hu92⟩ := hp93
            rw [hu92] at hO
            rcases hr91 with ⟨hcr91, hvr91⟩ | ⟨hcr91, hvr91⟩
            · subst hvr91
              refine bn_eq (X := 1) hx hb dX11_goOn_243 rfl (by omega) ?_ (tgt := 361) (by decide)
              refine lv_aload_n hx hb dX11_goOn_246 rfl (lv_at hl 1 rfl) ?_
              refine lv_iconst (v := 0) hx hb dX11_goOn_247 (by decide) ?_
              refine pf_RX11_226 C hO 0 mW_0 (Nat.le_of_ble_eq_true rfl) mW_s0_9 dX11_goOn_248 (fun H locs hO => ?_)
              have hT := Km26_wI9 (x := 0) hT
              have hJ := MIs_9 (v := 0) hJ
              refine lv_aload_n hx hb dX11_goOn_251 rfl (lv_at hl 1 rfl) ?_
              refine lv_aload_n hx hb dX11_goOn_252 rfl (lv_at hl 1 rfl) ?_
              refine gf_RX11_201 (v := .int at_k3) C hO 0 mW_0 (congrArg (fun z : Int32 => some (Value.int z)) hat_k3) dX11_goOn_253 ?_
              refine pf_RX11_198 C hO 0 mW_0 (Nat.le_of_ble_eq_true rfl) mW_s0_7 dX11_goOn_256 (fun H locs hO => ?_)
              have hT := Km26_wI7 (x := at_k3) hT
              have hJ := MIs_7 (v := at_k3) hJ (by first | decide | omega)
              have LP_259_k95 : ∀ (n : Nat) (u94 : St) (H : Heap) (locs : List Loc) (ls : Array Slot) (at_k95 : Int32) (en_k95 : Int32), Wo D A (mW cy a u94) s.heap H locs → lv_has ls 3 [(1, .int r6), (0, .ref (a 0))] → MI a u94 → Km26 u u94 → fI u94 0 6 = at_k95 → fI u94 0 7 = en_k95 → at_k95.toInt ≤ en_k95.toInt → en_k95.toInt ≤ (fI u 0 3).toInt → (fI u 0 7).toInt ≤ at_k95.toInt → at_k95.toInt < (fI u 0 3).toInt → 0 ≤ at_k95.toInt ∧ at_k95.toInt ≤ 1600 → 0 ≤ en_k95.toInt ∧ en_k95.toInt ≤ 1601 → (r6 = sgF u at_k95) → 1601 - en_k95.toInt < (n : Int) → W p l e (rmo 1 22) s m [.ref (a 0)].toArray below meth c H locs 0 0 Q (F0 m 259 ls []) := by
                intro n
                induction n with
                | zero =>
                  intro u94 H locs ls at_k95 en_k95 hO hl hJ hT hat_k95 hen_k95 iv0_k95 iv1_k95 iv2_k95 iv3_k95 iv4_k95 iv5_k95 cv0_k95 hm_k95
                  exact absurd hm_k95 (by omega)
                | succ n ih_k95 =>
                  intro u94 H locs ls at_k95 en_k95 hO hl hJ hT hat_k95 hen_k95 iv0_k95 iv1_k95 iv2_k95 iv3_k95 iv4_k95 iv5_k95 cv0_k95 hm_k95
                  refine lv_aload_n hx hb dX11_goOn_259 rfl (lv_at hl 1 rfl) ?_
                  refine lv_aload_n hx hb dX11_goOn_260 rfl (lv_at hl 1 rfl) ?_
                  refine gf_RX11_198 (v := .int en_k95) C hO 0 mW_0 (congrArg (fun z : Int32 => some (Value.int z)) hen_k95) dX11_goOn_261 ?_
                  refine cVi (w := mW cy a) (As := [.int en_k95]) (rest := []) C hO (T_X11_sign l D cy a _ (by exact hJ) (en_k95) (by first | omega | decide)) (cwV 1 ht (gV wd_1560 wd_1562 wd_49 wd_121 wd_1563) rfl rfl rfl hd_yX11_sign ⟨Nat.le_of_ble_eq_true rfl, Nat.le_of_ble_eq_true rfl⟩) 0 rfl mW_0 rfl rfl hl.1 (Nat.le_of_ble_eq_true rfl) dX11_goOn_264 rfl ⟨Nat.zero_le _, Nat.zero_le _⟩ (fun r96 u97 H locs hp98 hO => ?_)
                  obtain ⟨hr96, hu97⟩ := hp98
                  rw [hu97] at hO
                  have g99 : 0 ≤ (fI u 0 3).toInt ∧ (fI u 0 3).toInt ≤ 1600 := by have h := MI_3 hJ0; exact h
                  have gr96 : (0 ≤ r96.toInt ∧ r96.toInt ≤ 255) ∧ (r96.toInt = 0 ∨ (en_k95 : Int32).toInt < ((fI u 0 3)).toInt) := by have h := sgF_b (u := _) (k := en_k95); rw [← hr96] at h; rw [(Km26_I3 hT)] at h; exact h
                  have hr96 : r96 = sgF u en_k95 := hr96.trans (sgF_eq (Km26_A2 hT) (Km26_I3 hT))
                  refine cSi (w := mW cy a) (As := [.int r96]) (rest := []) C hO (T_X11_isDigit l D cy a _ (by exact hJ) (r96)) (va_cwS 1 ht (gSS wd_1590 wd_1591 wd_121 wd_1592) rfl rfl rfl hd_yX11_isDigit ⟨Nat.le_of_ble_eq_true rfl, Nat.le_of_ble_eq_true rfl⟩)  rfl hl.1 (Nat.le_of_ble_eq_true rfl) dX11_goOn_267 rfl ⟨Nat.zero_le _, Nat.zero_le _⟩ (fun r100 u101 H locs hp102 hO => ?_)
                  obtain ⟨hr100, hu101⟩ := hp102
                  rw [hu101] at hO
                  rcases hr100 with ⟨hcr100, hvr100⟩ | ⟨hcr100, hvr100⟩
                  · subst hvr100
                    refine bn_eq (X := 1) hx hb dX11_goOn_270 rfl (by omega) ?_ (tgt := 322) (by decide)
                    refine lv_aload_n hx hb dX11_goOn_273 rfl (lv_at hl 1 rfl) ?_
                    refine gf_RX11_198 (v := .int en_k95) C hO 0 mW_0 (congrArg (fun z : Int32 => some (Value.int z)) hen_k95) dX11_goOn_274 ?_
                    refine lv_aload_n hx hb dX11_goOn_277 rfl (lv_at hl 1 rfl) ?_
                    refine gf_RX11_201 (v := .int at_k95) C hO 0 mW_0 (congrArg (fun z : Int32 => some (Value.int z)) hat_k95) dX11_goOn_278 ?_
                    refine lv_isub hx hb dX11_goOn_281 ?_
                    refine lv_topi (fun z103 ez103 => ?_)
                    have e104 : z103.toInt = (en_k95).toInt - (at_k95).toInt := by rw [ez103]; exact i_sub rfl rfl (by omega)
                    refine lv_iconst (v := 4) hx hb dX11_goOn_282 (by decide) ?_
                    refine cs_ge (tgt := 309) (X := ((en_k95).toInt - (at_k95).toInt)) (Y := 4) hx hb dX11_goOn_283 (by decide) e104 rfl (fun c105 => ?_) (fun c105 => ?_)
                    · refine lv_aload_n hx hb dX11_goOn_309 rfl (lv_at hl 1 rfl) ?_
                      refine lv_dup hx hb dX11_goOn_310 rfl ?_
                      refine gf_RX11_198 (v := .int en_k95) C hO 0 mW_0 (congrArg (fun z : Int32 => some (Value.int z)) hen_k95) dX11_goOn_311 ?_
                      refine lv_iconst (v := 1) hx hb dX11_goOn_314 (by decide) ?_
                      refine lv_iadd hx hb dX11_goOn_315 ?_
                      refine lv_topi (fun z106 ez106 => ?_)
                      have e107 : z106.toInt = (en_k95).toInt + 1 := by rw [ez106]; exact i_add rfl rfl (by omega)
                      refine pf_RX11_198 C hO 0 mW_0 (Nat.le_of_ble_eq_true rfl) mW_s0_7 dX11_goOn_316 (fun H locs hO => ?_)
                      have hT := Km26_wI7 (x := z106) hT
                      have hJ := MIs_7 (v := z106) hJ (by first | decide | omega)
                      refine lv_goto (tgt := 259) hx hb dX11_goOn_319 (by decide) ?_
                      exact ih_k95 _ _ _ _ (at_k95) (z106) hO (lv_sub hl [0, 1] rfl) (by exact hJ) (by exact hT) (by exact hat_k95) (by exact rfl) (by first | decide | omega) (by first | decide | omega) (by first | decide | omega) (by first | decide | omega) (by first | decide | omega) (by first | decide | omega) (by exact cv0_k95) (by first | decide | omega)
                    · refine lv_aload_n hx hb dX11_goOn_286 rfl (lv_at hl 1 rfl) ?_
                      refine lv_bipush (v := 10) hx hb dX11_goOn_287 (by decide) ?_
                      refine lv_aload_n hx hb dX11_goOn_289 rfl (lv_at hl 1 rfl) ?_
                      refine gf_RX11_226 (v := .int (fI u94 0 9)) C hO 0 mW_0 rfl dX11_goOn_290 ?_
                      refine lv_imul hx hb dX11_goOn_293 ?_
                      refine lv_topi (fun z108 ez108 => ?_)
                      refine lv_aload_n hx hb dX11_goOn_294 rfl (lv_at hl 1 rfl) ?_
                      refine lv_aload_n hx hb dX11_goOn_295 rfl (lv_at hl 1 rfl) ?_
                      refine gf_RX11_198 (v := .int en_k95) C hO 0 mW_0 (congrArg (fun z : Int32 => some (Value.int z)) hen_k95) dX11_goOn_296 ?_
                      refine cVi (w := mW cy a) (As := [.int en_k95]) (rest := [.int z108, .ref (a 0)]) C hO (T_X11_sign l D cy a _ (by exact hJ) (en_k95) (by first | omega | decide)) (cwV 1 ht (gV wd_1560 wd_1562 wd_49 wd_121 wd_1563) rfl rfl rfl hd_yX11_sign ⟨Nat.le_of_ble_eq_true rfl, Nat.le_of_ble_eq_true rfl⟩) 0 rfl mW_0 rfl rfl hl.1 (Nat.le_of_ble_eq_true rfl) dX11_goOn_299 rfl ⟨Nat.zero_le _, Nat.zero_le _⟩ (fun r109 u110 H locs hp111 hO => ?_)
                      obtain ⟨hr109, hu110⟩ := hp111
                      rw [hu110] at hO
                      have gr109 : (0 ≤ r109.toInt ∧ r109.toInt ≤ 255) ∧ (r109.toInt = 0 ∨ (en_k95 : Int32).toInt < ((fI u 0 3)).toInt) := by have h := sgF_b (u := _) (k := en_k95); rw [← hr109] at h; rw [(Km26_I3 hT)] at h; exact h
                      have hr109 : r109 = sgF u en_k95 := hr109.trans (sgF_eq (Km26_A2 hT) (Km26_I3 hT))
                      refine lv_iadd hx hb dX11_goOn_302 ?_
                      refine lv_topi (fun z112 ez112 => ?_)
                      refine lv_bipush (v := 48) hx hb dX11_goOn_303 (by decide) ?_
                      refine lv_isub hx hb dX11_goOn_305 ?_
                      refine lv_topi (fun z113 ez113 => ?_)
                      refine pf_RX11_226 C hO 0 mW_0 (Nat.le_of_ble_eq_true rfl) mW_s0_9 dX11_goOn_306 (fun H locs hO => ?_)
                      have hT := Km26_wI9 (x := z113) hT
                      have hJ := MIs_9 (v := z113) hJ
                      refine lv_aload_n hx hb dX11_goOn_309 rfl (lv_at hl 1 rfl) ?_
                      refine lv_dup hx hb dX11_goOn_310 rfl ?_
                      refine gf_RX11_198 (v := .int en_k95) C hO 0 mW_0 (congrArg (fun z : Int32 => some (Value.int z)) hen_k95) dX11_goOn_311 ?_
                      refine lv_iconst (v := 1) hx hb dX11_goOn_314 (by decide) ?_
                      refine lv_iadd hx hb dX11_goOn_315 ?_
                      refine lv_topi (fun z114 ez114 => ?_)
                      have e115 : z114.toInt = (en_k95).toInt + 1 := by rw [ez114]; exact i_add rfl rfl (by omega)
                      refine pf_RX11_198 C hO 0 mW_0 (Nat.le_of_ble_eq_true rfl) mW_s0_7 dX11_goOn_316 (fun H locs hO => ?_)
                      have hT := Km26_wI7 (x := z114) hT
                      have hJ := MIs_7 (v := z114) hJ (by first | decide | omega)
                      refine lv_goto (tgt := 259) hx hb dX11_goOn_319 (by decide) ?_
                      exact ih_k95 _ _ _ _ (at_k95) (z114) hO (lv_sub hl [0, 1] rfl) (by exact hJ) (by exact hT) (by exact hat_k95) (by exact rfl) (by first | decide | omega) (by first | decide | omega) (by first | decide | omega) (by first | decide | omega) (by first | decide | omega) (by first | decide | omega) (by exact cv0_k95) (by first | decide | omega)
                  · subst hvr100
                    refine bt_eq (tgt := 322) (X := 0) hx hb dX11_goOn_270 (by decide) rfl (by omega) ?_
                    have hlt116 : at_k95.toInt < en_k95.toInt := by
                      by_cases q : en_k95.toInt = at_k95.toInt
                      · exfalso
                        have e1 : en_k95 = at_k95 := i32_eq.mpr q
                        rw [e1, ← cv0_k95] at hr96
                        have e2 := congrArg Int32.toInt hr96
                        omega
                      · omega
                    refine lv_aload_n hx hb dX11_goOn_322 rfl (lv_at hl 1 rfl) ?_
                    refine lv_aload_n hx hb dX11_goOn_323 rfl (lv_at hl 1 rfl) ?_
                    refine gf_RX11_198 (v := .int en_k95) C hO 0 mW_0 (congrArg (fun z : Int32 => some (Value.int z)) hen_k95) dX11_goOn_324 ?_
                    refine lv_aload_n hx hb dX11_goOn_327 rfl (lv_at hl 1 rfl) ?_
                    refine gf_RX11_201 (v := .int at_k95) C hO 0 mW_0 (congrArg (fun z : Int32 => some (Value.int z)) hat_k95) dX11_goOn_328 ?_
                    refine lv_isub hx hb dX11_goOn_331 ?_
                    refine lv_topi (fun z117 ez117 => ?_)
                    have e118 : z117.toInt = (en_k95).toInt - (at_k95).toInt := by rw [ez117]; exact i_sub rfl rfl (by omega)
                    refine lv_iconst (v := 4) hx hb dX11_goOn_332 (by decide) ?_
                    refine cs_gt (tgt := 350) (X := ((en_k95).toInt - (at_k95).toInt)) (Y := 4) hx hb dX11_goOn_333 (by decide) e118 rfl (fun c119 => ?_) (fun c119 => ?_)
                    · refine lv_iconst (v := 1) hx hb dX11_goOn_350 (by decide) ?_
                      refine lv_goto (tgt := 355) hx hb dX11_goOn_351 (by decide) ?_
                      refine pf_RX11_208 C hO 0 mW_0 (Nat.le_of_ble_eq_true rfl) mW_s0_8 dX11_goOn_355 (fun H locs hO => ?_)
                      have hT := Km26_wI8 (x := 1) hT
                      have hJ := MIs_8 (v := 1) hJ (by first | decide | omega)
                      refine lv_goto (tgt := 377) hx hb dX11_goOn_358 (by decide) ?_
                      have q120 : (en_k95 : Int32).toInt ≤ ((fI u 0 3) : Int32).toInt := by first | omega | decide
                      have q121 : (at_k95 : Int32).toInt ≤ (en_k95 : Int32).toInt := by first | omega | decide
                      have q122 : (1 : Int32).toInt = 0 ∨ (at_k95 : Int32).toInt < (en_k95 : Int32).toInt := by first | omega | decide
                      have g123 : 0 ≤ (fI u 0 7).toInt ∧ (fI u 0 7).toInt ≤ 1601 := by have h := MI_7 hJ0; exact h
                      have q124 : ((fI u 0 7) : Int32).toInt ≤ (at_k95 : Int32).toInt := by first | omega | decide
                      refine hret _ _ _ _ _ dX11_goOn_377 ?_ hO
                      exact ⟨hJ, hT, q120, q121, q122, q124⟩
                    · refine lv_aload_n hx hb dX11_goOn_336 rfl (lv_at hl 1 rfl) ?_
                      refine lv_aload_n hx hb dX11_goOn_337 rfl (lv_at hl 1 rfl) ?_
                      refine gf_RX11_198 (v := .int en_k95) C hO 0 mW_0 (congrArg (fun z : Int32 => some (Value.int z)) hen_k95) dX11_goOn_338 ?_
                      refine cVi (w := mW cy a) (As := [.int en_k95]) (rest := [.ref (a 0)]) C hO (T_X11_sign l D cy a _ (by exact hJ) (en_k95) (by first | omega | decide)) (cwV 1 ht (gV wd_1560 wd_1562 wd_49 wd_121 wd_1563) rfl rfl rfl hd_yX11_sign ⟨Nat.le_of_ble_eq_true rfl, Nat.le_of_ble_eq_true rfl⟩) 0 rfl mW_0 rfl rfl hl.1 (Nat.le_of_ble_eq_true rfl) dX11_goOn_341 rfl ⟨Nat.zero_le _, Nat.zero_le _⟩ (fun r125 u126 H locs hp127 hO => ?_)
                      obtain ⟨hr125, hu126⟩ := hp127
                      rw [hu126] at hO
                      have gr125 : (0 ≤ r125.toInt ∧ r125.toInt ≤ 255) ∧ (r125.toInt = 0 ∨ (en_k95 : Int32).toInt < ((fI u 0 3)).toInt) := by have h := sgF_b (u := _) (k := en_k95); rw [← hr125] at h; rw [(Km26_I3 hT)] at h; exact h
                      have hr125 : r125 = sgF u en_k95 := hr125.trans (sgF_eq (Km26_A2 hT) (Km26_I3 hT))
                      refine cSi (w := mW cy a) (As := [.int r125]) (rest := [.ref (a 0)]) C hO (T_X11_isLetter l D cy a _ (by exact hJ) (r125)) (va_cwS 1 ht (gSS wd_1564 wd_1565 wd_121 wd_1566) rfl rfl rfl hd_yX11_isLetter ⟨Nat.le_of_ble_eq_true rfl, Nat.le_of_ble_eq_true rfl⟩)  rfl hl.1 (Nat.le_of_ble_eq_true rfl) dX11_goOn_344 rfl ⟨Nat.zero_le _, Nat.zero_le _⟩ (fun r128 u129 H locs hp130 hO => ?_)
                      obtain ⟨hr128, hu129⟩ := hp130
                      rw [hu129] at hO
                      rcases hr128 with ⟨hcr128, hvr128⟩ | ⟨hcr128, hvr128⟩
                      · subst hvr128
                        refine bn_eq (X := 1) hx hb dX11_goOn_347 rfl (by omega) ?_ (tgt := 354) (by decide)
                        refine lv_iconst (v := 1) hx hb dX11_goOn_350 (by decide) ?_
                        refine lv_goto (tgt := 355) hx hb dX11_goOn_351 (by decide) ?_
                        refine pf_RX11_208 C hO 0 mW_0 (Nat.le_of_ble_eq_true rfl) mW_s0_8 dX11_goOn_355 (fun H locs hO => ?_)
                        have hT := Km26_wI8 (x := 1) hT
                        have hJ := MIs_8 (v := 1) hJ (by first | decide | omega)
                        refine lv_goto (tgt := 377) hx hb dX11_goOn_358 (by decide) ?_
                        have q131 : (en_k95 : Int32).toInt ≤ ((fI u 0 3) : Int32).toInt := by first | omega | decide
                        have q132 : (at_k95 : Int32).toInt ≤ (en_k95 : Int32).toInt := by first | omega | decide
                        have q133 : (1 : Int32).toInt = 0 ∨ (at_k95 : Int32).toInt < (en_k95 : Int32).toInt := by first | omega | decide
                        have g134 : 0 ≤ (fI u 0 7).toInt ∧ (fI u 0 7).toInt ≤ 1601 := by have h := MI_7 hJ0; exact h
                        have q135 : ((fI u 0 7) : Int32).toInt ≤ (at_k95 : Int32).toInt := by first | omega | decide
                        refine hret _ _ _ _ _ dX11_goOn_377 ?_ hO
                        exact ⟨hJ, hT, q131, q132, q133, q135⟩
                      · subst hvr128
                        refine bt_eq (tgt := 354) (X := 0) hx hb dX11_goOn_347 (by decide) rfl (by omega) ?_
                        refine lv_iconst (v := 4) hx hb dX11_goOn_354 (by decide) ?_
                        refine pf_RX11_208 C hO 0 mW_0 (Nat.le_of_ble_eq_true rfl) mW_s0_8 dX11_goOn_355 (fun H locs hO => ?_)
                        have hT := Km26_wI8 (x := 4) hT
                        have hJ := MIs_8 (v := 4) hJ (by first | decide | omega)
                        refine lv_goto (tgt := 377) hx hb dX11_goOn_358 (by decide) ?_
                        have q136 : (en_k95 : Int32).toInt ≤ ((fI u 0 3) : Int32).toInt := by first | omega | decide
                        have q137 : (at_k95 : Int32).toInt ≤ (en_k95 : Int32).toInt := by first | omega | decide
                        have q138 : (4 : Int32).toInt = 0 ∨ (at_k95 : Int32).toInt < (en_k95 : Int32).toInt := by first | omega | decide
                        have g139 : 0 ≤ (fI u 0 7).toInt ∧ (fI u 0 7).toInt ≤ 1601 := by have h := MI_7 hJ0; exact h
                        have q140 : ((fI u 0 7) : Int32).toInt ≤ (at_k95 : Int32).toInt := by first | omega | decide
                        refine hret _ _ _ _ _ dX11_goOn_377 ?_ hO
                        exact ⟨hJ, hT, q136, q137, q138, q140⟩
              exact LP_259_k95 4000 _ _ _ _ (at_k3) (at_k3) hO (lv_sub hl [0, 1] rfl) (by exact hJ) (by exact hT) (by exact hat_k3) (by exact rfl) (by first | decide | omega) (by first | decide | omega) (by first | decide | omega) (by first | decide | omega) (by first | decide | omega) (by first | decide | omega) (by exact hr6) (by first | decide | omega)
            · subst hvr91
              refine bt_eq (tgt := 361) (X := 0) hx hb dX11_goOn_243 (by decide) rfl (by omega) ?_
              refine lv_aload_n hx hb dX11_goOn_361 rfl (lv_at hl 1 rfl) ?_
              refine lv_iload_n hx hb dX11_goOn_362 rfl (lv_at hl 0 rfl) ?_
              refine cSi (w := mW cy a) (As := [.int r6]) (rest := [.ref (a 0)]) C hO (T_X11_isSign l D cy a _ (by exact hJ) (r6)) (va_cwS 1 ht (gSS wd_1593 wd_1594 wd_121 wd_1595) rfl rfl rfl hd_yX11_isSign ⟨Nat.le_of_ble_eq_true rfl, Nat.le_of_ble_eq_true rfl⟩)  rfl hl.1 (Nat.le_of_ble_eq_true rfl) dX11_goOn_363 rfl ⟨Nat.zero_le _, Nat.zero_le _⟩ (fun r141 u142 H locs hp143 hO => ?_)
              obtain ⟨hr141, hu142⟩ := hp143
              have gr141 : 0 ≤ r141.toInt ∧ r141.toInt ≤ 1 := by rcases hr141 with h | h <;> rw [h] <;> decide
              rw [hu142] at hO
              refine bs_eq (tgt := 373) (X := (r141).toInt) hx hb dX11_goOn_366 (by decide) rfl (fun c144 => ?_) (fun c144 => ?_)
              · refine lv_iconst (v := 1) hx hb dX11_goOn_373 (by decide) ?_
                refine pf_RX11_208 C hO 0 mW_0 (Nat.le_of_ble_eq_true rfl) mW_s0_8 dX11_goOn_374 (fun H locs hO => ?_)
                have hT := Km26_wI8 (x := 1) hT
                have hJ := MIs_8 (v := 1) hJ (by first | decide | omega)
                have q145 : (z9 : Int32).toInt ≤ ((fI u 0 3) : Int32).toInt := by first | omega | decide
                have q146 : (at_k3 : Int32).toInt ≤ (z9 : Int32).toInt := by first | omega | decide
                have q147 : (1 : Int32).toInt = 0 ∨ (at_k3 : Int32).toInt < (z9 : Int32).toInt := by first | omega | decide
                have g148 : 0 ≤ (fI u 0 7).toInt ∧ (fI u 0 7).toInt ≤ 1601 := by have h := MI_7 hJ0; exact h
                have q149 : ((fI u 0 7) : Int32).toInt ≤ (at_k3 : Int32).toInt := by first | omega | decide
                refine hret _ _ _ _ _ dX11_goOn_377 ?_ hO
                exact ⟨hJ, hT, q145, q146, q147, q149⟩
              · refine lv_iconst (v := 5) hx hb dX11_goOn_369 (by decide) ?_
                refine lv_goto (tgt := 374) hx hb dX11_goOn_370 (by decide) ?_
                refine pf_RX11_208 C hO 0 mW_0 (Nat.le_of_ble_eq_true rfl) mW_s0_8 dX11_goOn_374 (fun H locs hO => ?_)
                have hT := Km26_wI8 (x := 5) hT
                have hJ := MIs_8 (v := 5) hJ (by first | decide | omega)
                have q150 : (z9 : Int32).toInt ≤ ((fI u 0 3) : Int32).toInt := by first | omega | decide
                have q151 : (at_k3 : Int32).toInt ≤ (z9 : Int32).toInt := by first | omega | decide
                have q152 : (5 : Int32).toInt = 0 ∨ (at_k3 : Int32).toInt < (z9 : Int32).toInt := by first | omega | decide
                have g153 : 0 ≤ (fI u 0 7).toInt ∧ (fI u 0 7).toInt ≤ 1601 := by have h := MI_7 hJ0; exact h
                have q154 : ((fI u 0 7) : Int32).toInt ≤ (at_k3 : Int32).toInt := by first | omega | decide
                refine hret _ _ _ _ _ dX11_goOn_377 ?_ hO
                exact ⟨hJ, hT, q150, q151, q152, q154⟩
        · refine lv_aload_n hx hb dX11_goOn_88 rfl (lv_at hl 1 rfl) ?_
          refine lv_iconst (v := 0) hx hb dX11_goOn_89 (by decide) ?_
          refine pf_RX11_208 C hO 0 mW_0 (Nat.le_of_ble_eq_true rfl) mW_s0_8 dX11_goOn_90 (fun H locs hO => ?_)
          have hT := Km26_wI8 (x := 0) hT
          have hJ := MIs_8 (v := 0) hJ (by first | decide | omega)
          refine lv_aload_n hx hb dX11_goOn_93 rfl (lv_at hl 1 rfl) ?_
          refine lv_aload_n hx hb dX11_goOn_94 rfl (lv_at hl 1 rfl) ?_
          refine gf_RX11_152 (v := .int (fI u 0 3)) C hO 0 mW_0 (congrArg (fun z : Int32 => some (Value.int z)) (Km26_I3 hT)) dX11_goOn_95 ?_
          refine pf_RX11_201 C hO 0 mW_0 (Nat.le_of_ble_eq_true rfl) mW_s0_6 dX11_goOn_98 (fun H locs hO => ?_)
          have hT := Km26_wI6 (x := (fI u 0 3)) hT
          have hJ := MIs_6 (v := (fI u 0 3)) hJ (by first | decide | omega)
          refine lv_aload_n hx hb dX11_goOn_101 rfl (lv_at hl 1 rfl) ?_
          refine lv_aload_n hx hb dX11_goOn_102 rfl (lv_at hl 1 rfl) ?_
          refine gf_RX11_152 (v := .int (fI u 0 3)) C hO 0 mW_0 (congrArg (fun z : Int32 => some (Value.int z)) (Km26_I3 hT)) dX11_goOn_103 ?_
          refine pf_RX11_198 C hO 0 mW_0 (Nat.le_of_ble_eq_true rfl) mW_s0_7 dX11_goOn_106 (fun H locs hO => ?_)
          have hT := Km26_wI7 (x := (fI u 0 3)) hT
          have hJ := MIs_7 (v := (fI u 0 3)) hJ (by first | decide | omega)
          refine lv_goto (tgt := 377) hx hb dX11_goOn_109 (by decide) ?_
          have q155 : ((fI u 0 3) : Int32).toInt ≤ ((fI u 0 3) : Int32).toInt := by first | omega | decide
          have q156 : ((fI u 0 3) : Int32).toInt ≤ ((fI u 0 3) : Int32).toInt := by first | omega | decide
          have q157 : (0 : Int32).toInt = 0 ∨ ((fI u 0 3) : Int32).toInt < ((fI u 0 3) : Int32).toInt := by first | omega | decide
          have g158 : 0 ≤ (fI u 0 7).toInt ∧ (fI u 0 7).toInt ≤ 1601 := by have h := MI_7 hJ0; exact h
          have q159 : ((fI u 0 7) : Int32).toInt ≤ ((fI u 0 3) : Int32).toInt := by first | omega | decide
          refine hret _ _ _ _ _ dX11_goOn_377 ?_ hO
          exact ⟨hJ, hT, q155, q156, q157, q159⟩
      · refine lv_aload_n hx hb dX11_goOn_19 rfl (lv_at hl 0 rfl) ?_
        refine lv_aload_n hx hb dX11_goOn_20 rfl (lv_at hl 0 rfl) ?_
        refine gf_RX11_201 (v := .int at_k3) C hO 0 mW_0 (congrArg (fun z : Int32 => some (Value.int z)) hat_k3) dX11_goOn_21 ?_
        refine cVi (w := mW cy a) (As := [.int at_k3]) (rest := []) C hO (T_X11_sign l D cy a _ (by exact hJ) (at_k3) (by first | omega | decide)) (cwV 1 ht (gV wd_1560 wd_1562 wd_49 wd_121 wd_1563) rfl rfl rfl hd_yX11_sign ⟨Nat.le_of_ble_eq_true rfl, Nat.le_of_ble_eq_true rfl⟩) 0 rfl mW_0 rfl rfl hl.1 (Nat.le_of_ble_eq_true rfl) dX11_goOn_24 rfl ⟨Nat.zero_le _, Nat.zero_le _⟩ (fun r160 u161 H locs hp162 hO => ?_)
        obtain ⟨hr160, hu161⟩ := hp162
        rw [hu161] at hO
        have gr160 : (0 ≤ r160.toInt ∧ r160.toInt ≤ 255) ∧ (r160.toInt = 0 ∨ (at_k3 : Int32).toInt < ((fI u 0 3)).toInt) := by have h := sgF_b (u := _) (k := at_k3); rw [← hr160] at h; rw [(Km26_I3 hT)] at h; exact h
        have hr160 : r160 = sgF u at_k3 := hr160.trans (sgF_eq (Km26_A2 hT) (Km26_I3 hT))
        refine lv_bipush (v := 32) hx hb dX11_goOn_27 (by decide) ?_
        refine cs_eq (tgt := 45) (X := (r160).toInt) (Y := 32) hx hb dX11_goOn_29 (by decide) rfl rfl (fun c163 => ?_) (fun c163 => ?_)
        · refine lv_aload_n hx hb dX11_goOn_45 rfl (lv_at hl 0 rfl) ?_
          refine lv_dup hx hb dX11_goOn_46 rfl ?_
          refine gf_RX11_201 (v := .int at_k3) C hO 0 mW_0 (congrArg (fun z : Int32 => some (Value.int z)) hat_k3) dX11_goOn_47 ?_
          refine lv_iconst (v := 1) hx hb dX11_goOn_50 (by decide) ?_
          refine lv_iadd hx hb dX11_goOn_51 ?_
          refine lv_topi (fun z164 ez164 => ?_)
          have e165 : z164.toInt = (at_k3).toInt + 1 := by rw [ez164]; exact i_add rfl rfl (by omega)
          refine pf_RX11_201 C hO 0 mW_0 (Nat.le_of_ble_eq_true rfl) mW_s0_6 dX11_goOn_52 (fun H locs hO => ?_)
          have hT := Km26_wI6 (x := z164) hT
          have hJ := MIs_6 (v := z164) hJ (by first | decide | omega)
          refine lv_goto (tgt := 8) hx hb dX11_goOn_55 (by decide) ?_
          exact ih_k3 _ _ _ _ (z164) (en_k3) hO (lv_sub hl [0] rfl) (by exact hJ) (by exact hT) (by exact rfl) (by exact hen_k3) (by first | decide | omega) (by first | decide | omega) (by first | decide | omega) (by first | decide | omega) (by first | decide | omega)
        · refine lv_aload_n hx hb dX11_goOn_32 rfl (lv_at hl 0 rfl) ?_
          refine lv_aload_n hx hb dX11_goOn_33 rfl (lv_at hl 0 rfl) ?_
          refine gf_RX11_201 (v := .int at_k3) C hO 0 mW_0 (congrArg (fun z : Int32 => some (Value.int z)) hat_k3) dX11_goOn_34 ?_
          refine cVi (w := mW cy a) (As := [.int at_k3]) (rest := []) C hO (T_X11_sign l D cy a _ (by exact hJ) (at_k3) (by first | omega | decide)) (cwV 1 ht (gV wd_1560 wd_1562 wd_49 wd_121 wd_1563) rfl rfl rfl hd_yX11_sign ⟨Nat.le_of_ble_eq_true rfl, Nat.le_of_ble_eq_true rfl⟩) 0 rfl mW_0 rfl rfl hl.1 (Nat.le_of_ble_eq_true rfl) dX11_goOn_37 rfl ⟨Nat.zero_le _, Nat.zero_le _⟩ (fun r166 u167 H locs hp168 hO => ?_)
          obtain ⟨hr166, hu167⟩ := hp168
          rw [hu167] at hO
          have gr166 : (0 ≤ r166.toInt ∧ r166.toInt ≤ 255) ∧ (r166.toInt = 0 ∨ (at_k3 : Int32).toInt < ((fI u 0 3)).toInt) := by have h := sgF_b (u := _) (k := at_k3); rw [← hr166] at h; rw [(Km26_I3 hT)] at h; exact h
          have hr166 : r166 = sgF u at_k3 := hr166.trans (sgF_eq (Km26_A2 hT) (Km26_I3 hT))
          refine lv_bipush (v := 10) hx hb dX11_goOn_40 (by decide) ?_
          refine cs_ne (tgt := 58) (X := (r166).toInt) (Y := 10) hx hb dX11_goOn_42 (by decide) rfl rfl (fun c169 => ?_) (fun c169 => ?_)
          · refine lv_aload_n hx hb dX11_goOn_58 rfl (lv_at hl 0 rfl) ?_
            refine lv_aload_n hx hb dX11_goOn_59 rfl (lv_at hl 0 rfl) ?_
            refine gf_RX11_201 (v := .int at_k3) C hO 0 mW_0 (congrArg (fun z : Int32 => some (Value.int z)) hat_k3) dX11_goOn_60 ?_
            refine cVi (w := mW cy a) (As := [.int at_k3]) (rest := []) C hO (T_X11_sign l D cy a _ (by exact hJ) (at_k3) (by first | omega | decide)) (cwV 1 ht (gV wd_1560 wd_1562 wd_49 wd_121 wd_1563) rfl rfl rfl hd_yX11_sign ⟨Nat.le_of_ble_eq_true rfl, Nat.le_of_ble_eq_true rfl⟩) 0 rfl mW_0 rfl rfl hl.1 (Nat.le_of_ble_eq_true rfl) dX11_goOn_63 rfl ⟨Nat.zero_le _, Nat.zero_le _⟩ (fun r170 u171 H locs hp172 hO => ?_)
            obtain ⟨hr170, hu171⟩ := hp172
            rw [hu171] at hO
            have gr170 : (0 ≤ r170.toInt ∧ r170.toInt ≤ 255) ∧ (r170.toInt = 0 ∨ (at_k3 : Int32).toInt < ((fI u 0 3)).toInt) := by have h := sgF_b (u := _) (k := at_k3); rw [← hr170] at h; rw [(Km26_I3 hT)] at h; exact h
            have hr170 : r170 = sgF u at_k3 := hr170.trans (sgF_eq (Km26_A2 hT) (Km26_I3 hT))
            refine lv_istore_n (lv' := [(1, .int r170), (0, .ref (a 0))]) hx hb dX11_goOn_66 rfl hl (by decide) rfl (fun ls hl => ?_)
            refine lv_aload_n hx hb dX11_goOn_67 rfl (lv_at hl 1 rfl) ?_
            refine lv_aload_n hx hb dX11_goOn_68 rfl (lv_at hl 1 rfl) ?_
            refine gf_RX11_201 (v := .int at_k3) C hO 0 mW_0 (congrArg (fun z : Int32 => some (Value.int z)) hat_k3) dX11_goOn_69 ?_
            refine lv_iconst (v := 1) hx hb dX11_goOn_72 (by decide) ?_
            refine lv_iadd hx hb dX11_goOn_73 ?_
            refine lv_topi (fun z173 ez173 => ?_)
            have e174 : z173.toInt = (at_k3).toInt + 1 := by rw [ez173]; exact i_add rfl rfl (by omega)
            refine pf_RX11_198 C hO 0 mW_0 (Nat.le_of_ble_eq_true rfl) mW_s0_7 dX11_goOn_74 (fun H locs hO => ?_)
            have hT := Km26_wI7 (x := z173) hT
            have hJ := MIs_7 (v := z173) hJ (by first | decide | omega)
            refine lv_aload_n hx hb dX11_goOn_77 rfl (lv_at hl 1 rfl) ?_
            refine gf_RX11_201 (v := .int at_k3) C hO 0 mW_0 (congrArg (fun z : Int32 => some (Value.int z)) hat_k3) dX11_goOn_78 ?_
            refine lv_aload_n hx hb dX11_goOn_81 rfl (lv_at hl 1 rfl) ?_
            refine gf_RX11_152 (v := .int (fI u 0 3)) C hO 0 mW_0 (congrArg (fun z : Int32 => some (Value.int z)) (Km26_I3 hT)) dX11_goOn_82 ?_
            refine cs_lt (tgt := 112) (X := (at_k3).toInt) (Y := ((fI u 0 3)).toInt) hx hb dX11_goOn_85 (by decide) rfl rfl (fun c175 => ?_) (fun c175 => ?_)
            · refine lv_iload_n hx hb dX11_goOn_112 rfl (lv_at hl 0 rfl) ?_
              refine cSi (w := mW cy a) (As := [.int r170]) (rest := []) C hO (T_X11_isLetter l D cy a _ (by exact hJ) (r170)) (va_cwS 1 ht (gSS wd_1564 wd_1565 wd_121 wd_1566) rfl rfl rfl hd_yX11_isLetter ⟨Nat.le_of_ble_eq_true rfl, Nat.le_of_ble_eq_true rfl⟩)  rfl hl.1 (Nat.le_of_ble_eq_true rfl) dX11_goOn_113 rfl ⟨Nat.zero_le _, Nat.zero_le _⟩ (fun r176 u177 H locs hp178 hO => ?_)
              obtain ⟨hr176, hu177⟩ := hp178
              rw [hu177] at hO
              rcases hr176 with ⟨hcr176, hvr176⟩ | ⟨hcr176, hvr176⟩
              · subst hvr176
                refine bn_eq (X := 1) hx hb dX11_goOn_116 rfl (by omega) ?_ (tgt := 239) (by decide)
                have LP_119_k180 : ∀ (n : Nat) (u179 : St) (H : Heap) (locs : List Loc) (ls : Array Slot) (at_k180 : Int32) (en_k180 : Int32), Wo D A (mW cy a u179) s.heap H locs → lv_has ls 3 [(1, .int r170), (0, .ref (a 0))] → MI a u179 → Km26 u u179 → fI u179 0 6 = at_k180 → fI u179 0 7 = en_k180 → at_k180.toInt < en_k180.toInt → en_k180.toInt ≤ (fI u 0 3).toInt → (fI u 0 7).toInt ≤ at_k180.toInt → 0 ≤ at_k180.toInt ∧ at_k180.toInt ≤ 1600 → 0 ≤ en_k180.toInt ∧ en_k180.toInt ≤ 1601 → 1601 - en_k180.toInt < (n : Int) → W p l e (rmo 1 22) s m [.ref (a 0)].toArray below meth c H locs 0 0 Q (F0 m 119 ls []) := by
                  intro n
                  induction n with
                  | zero =>
                    intro u179 H locs ls at_k180 en_k180 hO hl hJ hT hat_k180 hen_k180 iv0_k180 iv1_k180 iv2_k180 iv3_k180 iv4_k180 hm_k180
                    exact absurd hm_k180 (by omega)
                  | succ n ih_k180 =>
                    intro u179 H locs ls at_k180 en_k180 hO hl hJ hT hat_k180 hen_k180 iv0_k180 iv1_k180 iv2_k180 iv3_k180 iv4_k180 hm_k180
                    refine lv_aload_n hx hb dX11_goOn_119 rfl (lv_at hl 1 rfl) ?_
                    refine lv_aload_n hx hb dX11_goOn_120 rfl (lv_at hl 1 rfl) ?_
                    refine gf_RX11_198 (v := .int en_k180) C hO 0 mW_0 (congrArg (fun z : Int32 => some (Value.int z)) hen_k180) dX11_goOn_121 ?_
                    refine cVi (w := mW cy a) (As := [.int en_k180]) (rest := []) C hO (T_X11_sign l D cy a _ (by exact hJ) (en_k180) (by first | omega | decide)) (cwV 1 ht (gV wd_1560 wd_1562 wd_49 wd_121 wd_1563) rfl rfl rfl hd_yX11_sign ⟨Nat.le_of_ble_eq_true rfl, Nat.le_of_ble_eq_true rfl⟩) 0 rfl mW_0 rfl rfl hl.1 (Nat.le_of_ble_eq_true rfl) dX11_goOn_124 rfl ⟨Nat.zero_le _, Nat.zero_le _⟩ (fun r181 u182 H locs hp183 hO => ?_)
                    obtain ⟨hr181, hu182⟩ := hp183
                    rw [hu182] at hO
                    have g184 : 0 ≤ (fI u 0 3).toInt ∧ (fI u 0 3).toInt ≤ 1600 := by have h := MI_3 hJ0; exact h
                    have gr181 : (0 ≤ r181.toInt ∧ r181.toInt ≤ 255) ∧ (r181.toInt = 0 ∨ (en_k180 : Int32).toInt < ((fI u 0 3)).toInt) := by have h := sgF_b (u := _) (k := en_k180); rw [← hr181] at h; rw [(Km26_I3 hT)] at h; exact h
                    have hr181 : r181 = sgF u en_k180 := hr181.trans (sgF_eq (Km26_A2 hT) (Km26_I3 hT))
                    refine cSi (w := mW cy a) (As := [.int r181]) (rest := []) C hO (T_X11_isLetter l D cy a _ (by exact hJ) (r181)) (va_cwS 1 ht (gSS wd_1564 wd_1565 wd_121 wd_1566) rfl rfl rfl hd_yX11_isLetter ⟨Nat.le_of_ble_eq_true rfl, Nat.le_of_ble_eq_true rfl⟩)  rfl hl.1 (Nat.le_of_ble_eq_true rfl) dX11_goOn_127 rfl ⟨Nat.zero_le _, Nat.zero_le _⟩ (fun r185 u186 H locs hp187 hO => ?_)
                    obtain ⟨hr185, hu186⟩ := hp187
                    rw [hu186] at hO
                    rcases hr185 with ⟨hcr185, hvr185⟩ | ⟨hcr185, hvr185⟩
                    · subst hvr185
                      refine bn_eq (X := 1) hx hb dX11_goOn_130 rfl (by omega) ?_ (tgt := 146) (by decide)
                      refine lv_aload_n hx hb dX11_goOn_133 rfl (lv_at hl 1 rfl) ?_
                      refine lv_dup hx hb dX11_goOn_134 rfl ?_
                      refine gf_RX11_198 (v := .int en_k180) C hO 0 mW_0 (congrArg (fun z : Int32 => some (Value.int z)) hen_k180) dX11_goOn_135 ?_
                      refine lv_iconst (v := 1) hx hb dX11_goOn_138 (by decide) ?_
                      refine lv_iadd hx hb dX11_goOn_139 ?_
                      refine lv_topi (fun z188 ez188 => ?_)
                      have e189 : z188.toInt = (en_k180).toInt + 1 := by rw [ez188]; exact i_add rfl rfl (by omega)
                      refine pf_RX11_198 C hO 0 mW_0 (Nat.le_of_ble_eq_true rfl) mW_s0_7 dX11_goOn_140 (fun H locs hO => ?_)
                      have hT := Km26_wI7 (x := z188) hT
                      have hJ := MIs_7 (v := z188) hJ (by first | decide | omega)
                      refine lv_goto (tgt := 119) hx hb dX11_goOn_143 (by decide) ?_
                      exact ih_k180 _ _ _ _ (at_k180) (z188) hO (lv_sub hl [0, 1] rfl) (by exact hJ) (by exact hT) (by exact hat_k180) (by exact rfl) (by first | decide | omega) (by first | decide | omega) (by first | decide | omega) (by first | decide | omega) (by first | decide | omega) (by first | decide | omega)
                    · subst hvr185
                      refine bt_eq (tgt := 146) (X := 0) hx hb dX11_goOn_130 (by decide) rfl (by omega) ?_
                      refine lv_aload_n hx hb dX11_goOn_146 rfl (lv_at hl 1 rfl) ?_
                      refine lv_lconst (v := 0) hx hb dX11_goOn_147 rfl ?_
                      refine pf_RX11_215 C hO 0 mW_0 (Nat.le_of_ble_eq_true rfl) mW_s0_10 dX11_goOn_148 (fun H locs hO => ?_)
                      have hT := Km26_wL10 (x := 0) hT
                      have hJ := MIs_10 (v := 0) hJ
                      refine lv_aload_n hx hb dX11_goOn_151 rfl (lv_at hl 1 rfl) ?_
                      refine gf_RX11_201 (v := .int at_k180) C hO 0 mW_0 (congrArg (fun z : Int32 => some (Value.int z)) hat_k180) dX11_goOn_152 ?_
                      refine lv_istore_n (lv' := [(2, .int at_k180), (1, .int r170), (0, .ref (a 0))]) hx hb dX11_goOn_155 rfl hl (by decide) rfl (fun ls hl => ?_)
                      have LP_156_k191 : ∀ (n : Nat) (u190 : St) (H : Heap) (locs : List Loc) (ls : Array Slot) (k_k191 : Int32) (at_k191 : Int32) (en_k191 : Int32), Wo D A (mW cy a u190) s.heap H locs → lv_has ls 3 [(2, .int k_k191), (1, .int r170), (0, .ref (a 0))] → MI a u190 → Km26 u u190 → fI u190 0 6 = at_k191 → fI u190 0 7 = en_k191 → at_k191.toInt < en_k191.toInt → en_k191.toInt ≤ (fI u 0 3).toInt → (fI u 0 7).toInt ≤ at_k191.toInt → 0 ≤ k_k191.toInt ∧ k_k191.toInt ≤ 1601 → 0 ≤ at_k191.toInt ∧ at_k191.toInt ≤ 1600 → 0 ≤ en_k191.toInt ∧ en_k191.toInt ≤ 1601 → 1601 - k_k191.toInt < (n : Int) → W p l e (rmo 1 22) s m [.ref (a 0)].toArray below meth c H locs 0 0 Q (F0 m 156 ls []) := by
                        intro n
                        induction n with
                        | zero =>
                          intro u190 H locs ls k_k191 at_k191 en_k191 hO hl hJ hT hat_k191 hen_k191 iv0_k191 iv1_k191 iv2_k191 iv3_k191 iv4_k191 iv5_k191 hm_k191
                          exact absurd hm_k191 (by omega)
                        | succ n ih_k191 =>
                          intro u190 H locs ls k_k191 at_k191 en_k191 hO hl hJ hT hat_k191 hen_k191 iv0_k191 iv1_k191 iv2_k191 iv3_k191 iv4_k191 iv5_k191 hm_k191
                          refine lv_iload_n hx hb dX11_goOn_156 rfl (lv_at hl 0 rfl) ?_
                          refine lv_aload_n hx hb dX11_goOn_157 rfl (lv_at hl 2 rfl) ?_
                          refine gf_RX11_198 (v := .int en_k191) C hO 0 mW_0 (congrArg (fun z : Int32 => some (Value.int z)) hen_k191) dX11_goOn_158 ?_
                          refine cs_ge (tgt := 199) (X := (k_k191).toInt) (Y := (en_k191).toInt) hx hb dX11_goOn_161 (by decide) rfl rfl (fun c192 => ?_) (fun c192 => ?_)
                          · refine lv_aload_n hx hb dX11_goOn_199 rfl (lv_at hl 2 rfl) ?_
                            refine lv_aload_n hx hb dX11_goOn_200 rfl (lv_at hl 2 rfl) ?_
                            refine gf_RX11_198 (v := .int en_k191) C hO 0 mW_0 (congrArg (fun z : Int32 => some (Value.int z)) hen_k191) dX11_goOn_201 ?_
                            refine lv_aload_n hx hb dX11_goOn_204 rfl (lv_at hl 2 rfl) ?_
                            refine gf_RX11_201 (v := .int at_k191) C hO 0 mW_0 (congrArg (fun z : Int32 => some (Value.int z)) hat_k191) dX11_goOn_205 ?_
                            refine lv_isub hx hb dX11_goOn_208 ?_
                            refine lv_topi (fun z193 ez193 => ?_)
                            have e194 : z193.toInt = (en_k191).toInt - (at_k191).toInt := by rw [ez193]; exact i_sub rfl rfl (by omega)
                            refine lv_bipush (v := 8) hx hb dX11_goOn_209 (by decide) ?_
                            refine cs_le (tgt := 218) (X := ((en_k191).toInt - (at_k191).toInt)) (Y := 8) hx hb dX11_goOn_211 (by decide) e194 rfl (fun c195 => ?_) (fun c195 => ?_)
                            · refine lv_aload_n hx hb dX11_goOn_218 rfl (lv_at hl 2 rfl) ?_
                              refine gf_RX11_215 (v := .long ((fL u190 0 10))) C hO 0 mW_0 rfl dX11_goOn_219 ?_
                              refine cSi (w := mW cy a) (As := [.long ((fL u190 0 10))]) (rest := [.ref (a 0)]) C hO (T_X11_isKept l D cy a _ (by exact hJ) ((fL u190 0 10))) (va_cwS 1 ht (gSS wd_1567 wd_1568 wd_121 wd_1569) rfl rfl rfl hd_yX11_isKept ⟨Nat.le_of_ble_eq_true rfl, Nat.le_of_ble_eq_true rfl⟩)  rfl hl.1 (Nat.le_of_ble_eq_true rfl) dX11_goOn_222 rfl ⟨Nat.zero_le _, Nat.zero_le _⟩ (fun r196 u197 H locs hp198 hO => ?_)
                              obtain ⟨hr196, hu197⟩ := hp198
                              have gr196 : 0 ≤ r196.toInt ∧ r196.toInt ≤ 1 := by rcases hr196 with h | h <;> rw [h] <;> decide
                              rw [hu197] at hO
                              refine bs_eq (tgt := 232) (X := (r196).toInt) hx hb dX11_goOn_225 (by decide) rfl (fun c199 => ?_) (fun c199 => ?_)
                              · refine lv_iconst (v := 2) hx hb dX11_goOn_232 (by decide) ?_
                                refine pf_RX11_208 C hO 0 mW_0 (Nat.le_of_ble_eq_true rfl) mW_s0_8 dX11_goOn_233 (fun H locs hO => ?_)
                                have hT := Km26_wI8 (x := 2) hT
                                have hJ := MIs_8 (v := 2) hJ (by first | decide | omega)
                                refine lv_goto (tgt := 377) hx hb dX11_goOn_236 (by decide) ?_
                                have g200 : 0 ≤ (fI u 0 3).toInt ∧ (fI u 0 3).toInt ≤ 1600 := by have h := MI_3 hJ0; exact h
                                have q201 : (en_k191 : Int32).toInt ≤ ((fI u 0 3) : Int32).toInt := by first | omega | decide
                                have q202 : (at_k191 : Int32).toInt ≤ (en_k191 : Int32).toInt := by first | omega | decide
                                have q203 : (2 : Int32).toInt = 0 ∨ (at_k191 : Int32).toInt < (en_k191 : Int32).toInt := by first | omega | decide
                                have g204 : 0 ≤ (fI u 0 7).toInt ∧ (fI u 0 7).toInt ≤ 1601 := by have h := MI_7 hJ0; exact h
                                have q205 : ((fI u 0 7) : Int32).toInt ≤ (at_k191 : Int32).toInt := by first | omega | decide
                                refine hret _ _ _ _ _ dX11_goOn_377 ?_ hO
                                exact ⟨hJ, hT, q201, q202, q203, q205⟩
                              · refine lv_iconst (v := 3) hx hb dX11_goOn_228 (by decide) ?_
                                refine lv_goto (tgt := 233) hx hb dX11_goOn_229 (by decide) ?_
                                refine pf_RX11_208 C hO 0 mW_0 (Nat.le_of_ble_eq_true rfl) mW_s0_8 dX11_goOn_233 (fun H locs hO => ?_)
                                have hT := Km26_wI8 (x := 3) hT
                                have hJ := MIs_8 (v := 3) hJ (by first | decide | omega)
                                refine lv_goto (tgt := 377) hx hb dX11_goOn_236 (by decide) ?_
                                have g206 : 0 ≤ (fI u 0 3).toInt ∧ (fI u 0 3).toInt ≤ 1600 := by have h := MI_3 hJ0; exact h
                                have q207 : (en_k191 : Int32).toInt ≤ ((fI u 0 3) : Int32).toInt := by first | omega | decide
                                have q208 : (at_k191 : Int32).toInt ≤ (en_k191 : Int32).toInt := by first | omega | decide
                                have q209 : (3 : Int32).toInt = 0 ∨ (at_k191 : Int32).toInt < (en_k191 : Int32).toInt := by first | omega | decide
                                have g210 : 0 ≤ (fI u 0 7).toInt ∧ (fI u 0 7).toInt ≤ 1601 := by have h := MI_7 hJ0; exact h
                                have q211 : ((fI u 0 7) : Int32).toInt ≤ (at_k191 : Int32).toInt := by first | omega | decide
                                refine hret _ _ _ _ _ dX11_goOn_377 ?_ hO
                                exact ⟨hJ, hT, q207, q208, q209, q211⟩
                            · refine lv_iconst (v := 1) hx hb dX11_goOn_214 (by decide) ?_
                              refine lv_goto (tgt := 233) hx hb dX11_goOn_215 (by decide) ?_
                              refine pf_RX11_208 C hO 0 mW_0 (Nat.le_of_ble_eq_true rfl) mW_s0_8 dX11_goOn_233 (fun H locs hO => ?_)
                              have hT := Km26_wI8 (x := 1) hT
                              have hJ := MIs_8 (v := 1) hJ (by first | decide | omega)
                              refine lv_goto (tgt := 377) hx hb dX11_goOn_236 (by decide) ?_
                              have g212 : 0 ≤ (fI u 0 3).toInt ∧ (fI u 0 3).toInt ≤ 1600 := by have h := MI_3 hJ0; exact h
                              have q213 : (en_k191 : Int32).toInt ≤ ((fI u 0 3) : Int32).toInt := by first | omega | decide
                              have q214 : (at_k191 : Int32).toInt ≤ (en_k191 : Int32).toInt := by first | omega | decide
                              have q215 : (1 : Int32).toInt = 0 ∨ (at_k191 : Int32).toInt < (en_k191 : Int32).toInt := by first | omega | decide
                              have g216 : 0 ≤ (fI u 0 7).toInt ∧ (fI u 0 7).toInt ≤ 1601 := by have h := MI_7 hJ0; exact h
                              have q217 : ((fI u 0 7) : Int32).toInt ≤ (at_k191 : Int32).toInt := by first | omega | decide
                              refine hret _ _ _ _ _ dX11_goOn_377 ?_ hO
                              exact ⟨hJ, hT, q213, q214, q215, q217⟩
                          · refine lv_iload_n hx hb dX11_goOn_164 rfl (lv_at hl 0 rfl) ?_
                            refine lv_aload_n hx hb dX11_goOn_165 rfl (lv_at hl 2 rfl) ?_
                            refine gf_RX11_201 (v := .int at_k191) C hO 0 mW_0 (congrArg (fun z : Int32 => some (Value.int z)) hat_k191) dX11_goOn_166 ?_
                            refine lv_bipush (v := 8) hx hb dX11_goOn_169 (by decide) ?_
                            refine lv_iadd hx hb dX11_goOn_171 ?_
                            refine lv_topi (fun z218 ez218 => ?_)
                            have e219 : z218.toInt = (at_k191).toInt + 8 := by rw [ez218]; exact i_add rfl rfl (by omega)
                            refine cs_ge (tgt := 199) (X := (k_k191).toInt) (Y := ((at_k191).toInt + 8)) hx hb dX11_goOn_172 (by decide) rfl e219 (fun c220 => ?_) (fun c220 => ?_)
                            · refine lv_aload_n hx hb dX11_goOn_199 rfl (lv_at hl 2 rfl) ?_
                              refine lv_aload_n hx hb dX11_goOn_200 rfl (lv_at hl 2 rfl) ?_
                              refine gf_RX11_198 (v := .int en_k191) C hO 0 mW_0 (congrArg (fun z : Int32 => some (Value.int z)) hen_k191) dX11_goOn_201 ?_
                              refine lv_aload_n hx hb dX11_goOn_204 rfl (lv_at hl 2 rfl) ?_
                              refine gf_RX11_201 (v := .int at_k191) C hO 0 mW_0 (congrArg (fun z : Int32 => some (Value.int z)) hat_k191) dX11_goOn_205 ?_
                              refine lv_isub hx hb dX11_goOn_208 ?_
                              refine lv_topi (fun z221 ez221 => ?_)
                              have e222 : z221.toInt = (en_k191).toInt - (at_k191).toInt := by rw [ez221]; exact i_sub rfl rfl (by omega)
                              refine lv_bipush (v := 8) hx hb dX11_goOn_209 (by decide) ?_
                              refine cs_le (tgt := 218) (X := ((en_k191).toInt - (at_k191).toInt)) (Y := 8) hx hb dX11_goOn_211 (by decide) e222 rfl (fun c223 => ?_) (fun c223 => ?_)
                              · refine lv_aload_n hx hb dX11_goOn_218 rfl (lv_at hl 2 rfl) ?_
                                refine gf_RX11_215 (v := .long ((fL u190 0 10))) C hO 0 mW_0 rfl dX11_goOn_219 ?_
                                refine cSi (w := mW cy a) (As := [.long ((fL u190 0 10))]) (rest := [.ref (a 0)]) C hO (T_X11_isKept l D cy a _ (by exact hJ) ((fL u190 0 10))) (va_cwS 1 ht (gSS wd_1567 wd_1568 wd_121 wd_1569) rfl rfl rfl hd_yX11_isKept ⟨Nat.le_of_ble_eq_true rfl, Nat.le_of_ble_eq_true rfl⟩)  rfl hl.1 (Nat.le_of_ble_eq_true rfl) dX11_goOn_222 rfl ⟨Nat.zero_le _, Nat.zero_le _⟩ (fun r224 u225 H locs hp226 hO => ?_)
                                obtain ⟨hr224, hu225⟩ := hp226
                                have gr224 : 0 ≤ r224.toInt ∧ r224.toInt ≤ 1 := by rcases hr224 with h | h <;> rw [h] <;> decide
                                rw [hu225] at hO
                                refine bs_eq (tgt := 232) (X := (r224).toInt) hx hb dX11_goOn_225 (by decide) rfl (fun c227 => ?_) (fun c227 => ?_)
                                · refine lv_iconst (v := 2) hx hb dX11_goOn_232 (by decide) ?_
                                  refine pf_RX11_208 C hO 0 mW_0 (Nat.le_of_ble_eq_true rfl) mW_s0_8 dX11_goOn_233 (fun H locs hO => ?_)
                                  have hT := Km26_wI8 (x := 2) hT
                                  have hJ := MIs_8 (v := 2) hJ (by first | decide | omega)
                                  refine lv_goto (tgt := 377) hx hb dX11_goOn_236 (by decide) ?_
                                  have g228 : 0 ≤ (fI u 0 3).toInt ∧ (fI u 0 3).toInt ≤ 1600 := by have h := MI_3 hJ0; exact h
                                  have q229 : (en_k191 : Int32).toInt ≤ ((fI u 0 3) : Int32).toInt := by first | omega | decide
                                  have q230 : (at_k191 : Int32).toInt ≤ (en_k191 : Int32).toInt := by first | omega | decide
                                  have q231 : (2 : Int32).toInt = 0 ∨ (at_k191 : Int32).toInt < (en_k191 : Int32).toInt := by first | omega | decide
                                  have g232 : 0 ≤ (fI u 0 7).toInt ∧ (fI u 0 7).toInt ≤ 1601 := by have h := MI_7 hJ0; exact h
                                  have q233 : ((fI u 0 7) : Int32).toInt ≤ (at_k191 : Int32).toInt := by first | omega | decide
                                  refine hret _ _ _ _ _ dX11_goOn_377 ?_ hO
                                  exact ⟨hJ, hT, q229, q230, q231, q233⟩
                                · refine lv_iconst (v := 3) hx hb dX11_goOn_228 (by decide) ?_
                                  refine lv_goto (tgt := 233) hx hb dX11_goOn_229 (by decide) ?_
                                  refine pf_RX11_208 C hO 0 mW_0 (Nat.le_of_ble_eq_true rfl) mW_s0_8 dX11_goOn_233 (fun H locs hO => ?_)
                                  have hT := Km26_wI8 (x := 3) hT
                                  have hJ := MIs_8 (v := 3) hJ (by first | decide | omega)
                                  refine lv_goto (tgt := 377) hx hb dX11_goOn_236 (by decide) ?_
                                  have g234 : 0 ≤ (fI u 0 3).toInt ∧ (fI u 0 3).toInt ≤ 1600 := by have h := MI_3 hJ0; exact h
                                  have q235 : (en_k191 : Int32).toInt ≤ ((fI u 0 3) : Int32).toInt := by first | omega | decide
                                  have q236 : (at_k191 : Int32).toInt ≤ (en_k191 : Int32).toInt := by first | omega | decide
                                  have q237 : (3 : Int32).toInt = 0 ∨ (at_k191 : Int32).toInt < (en_k191 : Int32).toInt := by first | omega | decide
                                  have g238 : 0 ≤ (fI u 0 7).toInt ∧ (fI u 0 7).toInt ≤ 1601 := by have h := MI_7 hJ0; exact h
                                  have q239 : ((fI u 0 7) : Int32).toInt ≤ (at_k191 : Int32).toInt := by first | omega | decide
                                  refine hret _ _ _ _ _ dX11_goOn_377 ?_ hO
                                  exact ⟨hJ, hT, q235, q236, q237, q239⟩
                              · refine lv_iconst (v := 1) hx hb dX11_goOn_214 (by decide) ?_
                                refine lv_goto (tgt := 233) hx hb dX11_goOn_215 (by decide) ?_
                                refine pf_RX11_208 C hO 0 mW_0 (Nat.le_of_ble_eq_true rfl) mW_s0_8 dX11_goOn_233 (fun H locs hO => ?_)
                                have hT := Km26_wI8 (x := 1) hT
                                have hJ := MIs_8 (v := 1) hJ (by first | decide | omega)
                                refine lv_goto (tgt := 377) hx hb dX11_goOn_236 (by decide) ?_
                                have g240 : 0 ≤ (fI u 0 3).toInt ∧ (fI u 0 3).toInt ≤ 1600 := by have h := MI_3 hJ0; exact h
                                have q241 : (en_k191 : Int32).toInt ≤ ((fI u 0 3) : Int32).toInt := by first | omega | decide
                                have q242 : (at_k191 : Int32).toInt ≤ (en_k191 : Int32).toInt := by first | omega | decide
                                have q243 : (1 : Int32).toInt = 0 ∨ (at_k191 : Int32).toInt < (en_k191 : Int32).toInt := by first | omega | decide
                                have g244 : 0 ≤ (fI u 0 7).toInt ∧ (fI u 0 7).toInt ≤ 1601 := by have h := MI_7 hJ0; exact h
                                have q245 : ((fI u 0 7) : Int32).toInt ≤ (at_k191 : Int32).toInt := by first | omega | decide
                                refine hret _ _ _ _ _ dX11_goOn_377 ?_ hO
                                exact ⟨hJ, hT, q241, q242, q243, q245⟩
                            · refine lv_aload_n hx hb dX11_goOn_175 rfl (lv_at hl 2 rfl) ?_
                              refine lv_aload_n hx hb dX11_goOn_176 rfl (lv_at hl 2 rfl) ?_
                              refine gf_RX11_215 (v := .long ((fL u190 0 10))) C hO 0 mW_0 rfl dX11_goOn_177 ?_
                              refine lv_bipush (v := 8) hx hb dX11_goOn_180 (by decide) ?_
                              refine lv_lshl hx hb dX11_goOn_182 rfl ?_
                              refine lv_topl (fun w246 ew246 => ?_)
                              refine lv_aload_n hx hb dX11_goOn_183 rfl (lv_at hl 2 rfl) ?_
                              refine lv_iload_n hx hb dX11_goOn_184 rfl (lv_at hl 0 rfl) ?_
                              refine cVi (w := mW cy a) (As := [.int k_k191]) (rest := [.long w246, .ref (a 0)]) C hO (T_X11_sign l D cy a _ (by exact hJ) (k_k191) (by first | omega | decide)) (cwV 1 ht (gV wd_1560 wd_1562 wd_49 wd_121 wd_1563) rfl rfl rfl hd_yX11_sign ⟨Nat.le_of_ble_eq_true rfl, Nat.le_of_ble_eq_true rfl⟩) 0 rfl mW_0 rfl rfl hl.1 (Nat.le_of_ble_eq_true rfl) dX11_goOn_185 rfl ⟨Nat.zero_le _, Nat.zero_le _⟩ (fun r247 u248 H locs hp249 hO => ?_)
                              obtain ⟨hr247, hu248⟩ := hp249
                              rw [hu248] at hO
                              have g250 : 0 ≤ (fI u 0 3).toInt ∧ (fI u 0 3).toInt ≤ 1600 := by have h := MI_3 hJ0; exact h
                              have gr247 : (0 ≤ r247.toInt ∧ r247.toInt ≤ 255) ∧ (r247.toInt = 0 ∨ (k_k191 : Int32).toInt < ((fI u 0 3)).toInt) := by have h := sgF_b (u := _) (k := k_k191); rw [← hr247] at h; rw [(Km26_I3 hT)] at h; exact h
                              have hr247 : r247 = sgF u k_k191 := hr247.trans (sgF_eq (Km26_A2 hT) (Km26_I3 hT))
                              refine lv_i2l hx hb dX11_goOn_188 rfl ?_
                              refine lv_topl (fun w251 ew251 => ?_)
                              refine lv_lor hx hb dX11_goOn_189 ?_
                              refine lv_topl (fun w252 ew252 => ?_)
                              refine pf_RX11_215 C hO 0 mW_0 (Nat.le_of_ble_eq_true rfl) mW_s0_10 dX11_goOn_190 (fun H locs hO => ?_)
                              have hT := Km26_wL10 (x := w252) hT
                              have hJ := MIs_10 (v := w252) hJ
                              obtain ⟨z253, ez253⟩ : ∃ z : Int32, z = k_k191 + Int32.ofInt 1 := ⟨_, rfl⟩
                              have e254 : z253.toInt = (k_k191).toInt + 1 := by rw [ez253]; exact i_add rfl rfl (by omega)
                              refine lv_iinc (v := z253) (lv' := [(2, .int z253), (1, .int r170), (0, .ref (a 0))]) hx hb dX11_goOn_193 hl (k := 0) rfl ez253.symm (by decide) rfl (fun ls hl => ?_)
                              refine lv_goto (tgt := 156) hx hb dX11_goOn_196 (by decide) ?_
                              exact ih_k191 _ _ _ _ (z253) (at_k191) (en_k191) hO (lv_sub hl [0, 1, 2] rfl) (by exact hJ) (by exact hT) (by exact hat_k191) (by exact hen_k191) (by first | decide | omega) (by first | decide | omega) (by first | decide | omega) (by first | decide | omega) (by first | decide | omega) (by first | decide | omega) (by first | decide | omega)
                      exact LP_156_k191 4000 _ _ _ _ (at_k180) (at_k180) (en_k180) hO (lv_sub hl [0, 1, 2] rfl) (by exact hJ) (by exact hT) (by exact hat_k180) (by exact hen_k180) (by first | decide | omega) (by first | decide | omega) (by first | decide | omega) (by first | decide | omega) (by first | decide | omega) (by first | decide | omega) (by first | decide | omega)
                exact LP_119_k180 4000 _ _ _ _ (at_k3) (z173) hO (lv_sub hl [0, 1] rfl) (by exact hJ) (by exact hT) (by exact hat_k3) (by exact rfl) (by first | decide | omega) (by first | decide | omega) (by first | decide | omega) (by first | decide | omega) (by first | decide | omega) (by first | decide | omega)
              · subst hvr176
                refine bt_eq (tgt := 239) (X := 0) hx hb dX11_goOn_116 (by decide) rfl (by omega) ?_
                refine lv_iload_n hx hb dX11_goOn_239 rfl (lv_at hl 0 rfl) ?_
                refine cSi (w := mW cy a) (As := [.int r170]) (rest := []) C hO (T_X11_isDigit l D cy a _ (by exact hJ) (r170)) (va_cwS 1 ht (gSS wd_1590 wd_1591 wd_121 wd_1592) rfl rfl rfl hd_yX11_isDigit ⟨Nat.le_of_ble_eq_true rfl, Nat.le_of_ble_eq_true rfl⟩)  rfl hl.1 (Nat.le_of_ble_eq_true rfl) dX11_goOn_240 rfl ⟨Nat.zero_le _, Nat.zero_le _⟩ (fun r255 u256 H locs hp257 hO => ?_)
                obtain ⟨hr255, hu256⟩ := hp257
                rw [hu256] at hO
                rcases hr255 with ⟨hcr255, hvr255⟩ | ⟨hcr255, hvr255⟩
                · subst hvr255
                  refine bn_eq (X := 1) hx hb dX11_goOn_243 rfl (by omega) ?_ (tgt := 361) (by decide)
                  refine lv_aload_n hx hb dX11_goOn_246 rfl (lv_at hl 1 rfl) ?_
                  refine lv_iconst (v := 0) hx hb dX11_goOn_247 (by decide) ?_
                  refine pf_RX11_226 C hO 0 mW_0 (Nat.le_of_ble_eq_true rfl) mW_s0_9 dX11_goOn_248 (fun H locs hO => ?_)
                  have hT := Km26_wI9 (x := 0) hT
                  have hJ := MIs_9 (v := 0) hJ
                  refine lv_aload_n hx hb dX11_goOn_251 rfl (lv_at hl 1 rfl) ?_
                  refine lv_aload_n hx hb dX11_goOn_252 rfl (lv_at hl 1 rfl) ?_
                  refine gf_RX11_201 (v := .int at_k3) C hO 0 mW_0 (congrArg (fun z : Int32 => some (Value.int z)) hat_k3) dX11_goOn_253 ?_
                  refine pf_RX11_198 C hO 0 mW_0 (Nat.le_of_ble_eq_true rfl) mW_s0_7 dX11_goOn_256 (fun H locs hO => ?_)
                  have hT := Km26_wI7 (x := at_k3) hT
                  have hJ := MIs_7 (v := at_k3) hJ (by first | decide | omega)
                  have LP_259_k259 : ∀ (n : Nat) (u258 : St) (H : Heap) (locs : List Loc) (ls : Array Slot) (at_k259 : Int32) (en_k259 : Int32), Wo D A (mW cy a u258) s.heap H locs → lv_has ls 3 [(1, .int r170), (0, .ref (a 0))] → MI a u258 → Km26 u u258 → fI u258 0 6 = at_k259 → fI u258 0 7 = en_k259 → at_k259.toInt ≤ en_k259.toInt → en_k259.toInt ≤ (fI u 0 3).toInt → (fI u 0 7).toInt ≤ at_k259.toInt → at_k259.toInt < (fI u 0 3).toInt → 0 ≤ at_k259.toInt ∧ at_k259.toInt ≤ 1600 → 0 ≤ en_k259.toInt ∧ en_k259.toInt ≤ 1601 → (r170 = sgF u at_k259) → 1601 - en_k259.toInt < (n : Int) → W p l e (rmo 1 22) s m [.ref (a 0)].toArray below meth c H locs 0 0 Q (F0 m 259 ls []) := by
                    intro n
                    induction n with
                    | zero =>
                      intro u258 H locs ls at_k259 en_k259 hO hl hJ hT hat_k259 hen_k259 iv0_k259 iv1_k259 iv2_k259 iv3_k259 iv4_k259 iv5_k259 cv0_k259 hm_k259
                      exact absurd hm_k259 (by omega)
                    | succ n ih_k259 =>
                      intro u258 H locs ls at_k259 en_k259 hO hl hJ hT hat_k259 hen_k259 iv0_k259 iv1_k259 iv2_k259 iv3_k259 iv4_k259 iv5_k259 cv0_k259 hm_k259
                      refine lv_aload_n hx hb dX11_goOn_259 rfl (lv_at hl 1 rfl) ?_
                      refine lv_aload_n hx hb dX11_goOn_260 rfl (lv_at hl 1 rfl) ?_
                      refine gf_RX11_198 (v := .int en_k259) C hO 0 mW_0 (congrArg (fun z : Int32 => some (Value.int z)) hen_k259) dX11_goOn_261 ?_
                      refine cVi (w := mW cy a) (As := [.int en_k259]) (rest := []) C hO (T_X11_sign l D cy a _ (by exact hJ) (en_k259) (by first | omega | decide)) (cwV 1 ht (gV wd_1560 wd_1562 wd_49 wd_121 wd_1563) rfl rfl rfl hd_yX11_sign ⟨Nat.le_of_ble_eq_true rfl, Nat.le_of_ble_eq_true rfl⟩) 0 rfl mW_0 rfl rfl hl.1 (Nat.le_of_ble_eq_true rfl) dX11_goOn_264 rfl ⟨Nat.zero_le _, Nat.zero_le _⟩ (fun r260 u261 H locs hp262 hO => ?_)
                      obtain ⟨hr260, hu261⟩ := hp262
                      rw [hu261] at hO
                      have g263 : 0 ≤ (fI u 0 3).toInt ∧ (fI u 0 3).toInt ≤ 1600 := by have h := MI_3 hJ0; exact h
                      have gr260 : (0 ≤ r260.toInt ∧ r260.toInt ≤ 255) ∧ (r260.toInt = 0 ∨ (en_k259 : Int32).toInt < ((fI u 0 3)).toInt) := by have h := sgF_b (u := _) (k := en_k259); rw [← hr260] at h; rw [(Km26_I3 hT)] at h; exact h
                      have hr260 : r260 = sgF u en_k259 := hr260.trans (sgF_eq (Km26_A2 hT) (Km26_I3 hT))
                      refine cSi (w := mW cy a) (As := [.int r260]) (rest := []) C hO (T_X11_isDigit l D cy a _ (by exact hJ) (r260)) (va_cwS 1 ht (gSS wd_1590 wd_1591 wd_121 wd_1592) rfl rfl rfl hd_yX11_isDigit ⟨Nat.le_of_ble_eq_true rfl, Nat.le_of_ble_eq_true rfl⟩)  rfl hl.1 (Nat.le_of_ble_eq_true rfl) dX11_goOn_267 rfl ⟨Nat.zero_le _, Nat.zero_le _⟩ (fun r264 u265 H locs hp266 hO => ?_)
                      obtain ⟨hr264, hu265⟩ := hp266
                      rw [hu265] at hO
                      rcases hr264 with ⟨hcr264, hvr264⟩ | ⟨hcr264, hvr264⟩
                      · subst hvr264
                        refine bn_eq (X := 1) hx hb dX11_goOn_270 rfl (by omega) ?_ (tgt := 322) (by decide)
                        refine lv_aload_n hx hb dX11_goOn_273 rfl (lv_at hl 1 rfl) ?_
                        refine gf_RX11_198 (v := .int en_k259) C hO 0 mW_0 (congrArg (fun z : Int32 => some (Value.int z)) hen_k259) dX11_goOn_274 ?_
                        refine lv_aload_n hx hb dX11_goOn_277 rfl (lv_at hl 1 rfl) ?_
                        refine gf_RX11_201 (v := .int at_k259) C hO 0 mW_0 (congrArg (fun z : Int32 => some (Value.int z)) hat_k259) dX11_goOn_278 ?_
                        refine lv_isub hx hb dX11_goOn_281 ?_
                        refine lv_topi (fun z267 ez267 => ?_)
                        have e268 : z267.toInt = (en_k259).toInt - (at_k259).toInt := by rw [ez267]; exact i_sub rfl rfl (by omega)
                        refine lv_iconst (v := 4) hx hb dX11_goOn_282 (by decide) ?_
                        refine cs_ge (tgt := 309) (X := ((en_k259).toInt - (at_k259).toInt)) (Y := 4) hx hb dX11_goOn_283 (by decide) e268 rfl (fun c269 => ?_) (fun c269 => ?_)
                        · refine lv_aload_n hx hb dX11_goOn_309 rfl (lv_at hl 1 rfl) ?_
                          refine lv_dup hx hb dX11_goOn_310 rfl ?_
                          refine gf_RX11_198 (v := .int en_k259) C hO 0 mW_0 (congrArg (fun z : Int32 => some (Value.int z)) hen_k259) dX11_goOn_311 ?_
                          refine lv_iconst (v := 1) hx hb dX11_goOn_314 (by decide) ?_
                          refine lv_iadd hx hb dX11_goOn_315 ?_
                          refine lv_topi (fun z270 ez270 => ?_)
                          have e271 : z270.toInt = (en_k259).toInt + 1 := by rw [ez270]; exact i_add rfl rfl (by omega)
                          refine pf_RX11_198 C hO 0 mW_0 (Nat.le_of_ble_eq_true rfl) mW_s0_7 dX11_goOn_316 (fun H locs hO => ?_)
                          have hT := Km26_wI7 (x := z270) hT
                          have hJ := MIs_7 (v := z270) hJ (by first | decide | omega)
                          refine lv_goto (tgt := 259) hx hb dX11_goOn_319 (by decide) ?_
                          exact ih_k259 _ _ _ _ (at_k259) (z270) hO (lv_sub hl [0, 1] rfl) (by exact hJ) (by exact hT) (by exact hat_k259) (by exact rfl) (by first | decide | omega) (by first | decide | omega) (by first | decide | omega) (by first | decide | omega) (by first | decide | omega) (by first | decide | omega) (by exact cv0_k259) (by first | decide | omega)
                        · refine lv_aload_n hx hb dX11_goOn_286 rfl (lv_at hl 1 rfl) ?_
                          refine lv_bipush (v := 10) hx hb dX11_goOn_287 (by decide) ?_
                          refine lv_aload_n hx hb dX11_goOn_289 rfl (lv_at hl 1 rfl) ?_
                          refine gf_RX11_226 (v := .int (fI u258 0 9)) C hO 0 mW_0 rfl dX11_goOn_290 ?_
                          refine lv_imul hx hb dX11_goOn_293 ?_
                          refine lv_topi (fun z272 ez272 => ?_)
                          refine lv_aload_n hx hb dX11_goOn_294 rfl (lv_at hl 1 rfl) ?_
                          refine lv_aload_n hx hb dX11_goOn_295 rfl (lv_at hl 1 rfl) ?_
                          refine gf_RX11_198 (v := .int en_k259) C hO 0 mW_0 (congrArg (fun z : Int32 => some (Value.int z)) hen_k259) dX11_goOn_296 ?_
                          refine cVi (w := mW cy a) (As := [.int en_k259]) (rest := [.int z272, .ref (a 0)]) C hO (T_X11_sign l D cy a _ (by exact hJ) (en_k259) (by first | omega | decide)) (cwV 1 ht (gV wd_1560 wd_1562 wd_49 wd_121 wd_1563) rfl rfl rfl hd_yX11_sign ⟨Nat.le_of_ble_eq_true rfl, Nat.le_of_ble_eq_true rfl⟩) 0 rfl mW_0 rfl rfl hl.1 (Nat.le_of_ble_eq_true rfl) dX11_goOn_299 rfl ⟨Nat.zero_le _, Nat.zero_le _⟩ (fun r273 u274 H locs hp275 hO => ?_)
                          obtain ⟨hr273, hu274⟩ := hp275
                          rw [hu274] at hO
                          have gr273 : (0 ≤ r273.toInt ∧ r273.toInt ≤ 255) ∧ (r273.toInt = 0 ∨ (en_k259 : Int32).toInt < ((fI u 0 3)).toInt) := by have h := sgF_b (u := _) (k := en_k259); rw [← hr273] at h; rw [(Km26_I3 hT)] at h; exact h
                          have hr273 : r273 = sgF u en_k259 := hr273.trans (sgF_eq (Km26_A2 hT) (Km26_I3 hT))
                          refine lv_iadd hx hb dX11_goOn_302 ?_
                          refine lv_topi (fun z276 ez276 => ?_)
                          refine lv_bipush (v := 48) hx hb dX11_goOn_303 (by decide) ?_
                          refine lv_isub hx hb dX11_goOn_305 ?_
                          refine lv_topi (fun z277 ez277 => ?_)
                          refine pf_RX11_226 C hO 0 mW_0 (Nat.le_of_ble_eq_true rfl) mW_s0_9 dX11_goOn_306 (fun H locs hO => ?_)
                          have hT := Km26_wI9 (x := z277) hT
                          have hJ := MIs_9 (v := z277) hJ
                          refine lv_aload_n hx hb dX11_goOn_309 rfl (lv_at hl 1 rfl) ?_
                          refine lv_dup hx hb dX11_goOn_310 rfl ?_
                          refine gf_RX11_198 (v := .int en_k259) C hO 0 mW_0 (congrArg (fun z : Int32 => some (Value.int z)) hen_k259) dX11_goOn_311 ?_
                          refine lv_iconst (v := 1) hx hb dX11_goOn_314 (by decide) ?_
                          refine lv_iadd hx hb dX11_goOn_315 ?_
                          refine lv_topi (fun z278 ez278 => ?_)
                          have e279 : z278.toInt = (en_k259).toInt + 1 := by rw [ez278]; exact i_add rfl rfl (by omega)
                          refine pf_RX11_198 C hO 0 mW_0 (Nat.le_of_ble_eq_true rfl) mW_s0_7 dX11_goOn_316 (fun H locs hO => ?_)
                          have hT := Km26_wI7 (x := z278) hT
                          have hJ := MIs_7 (v := z278) hJ (by first | decide | omega)
                          refine lv_goto (tgt := 259) hx hb dX11_goOn_319 (by decide) ?_
                          exact ih_k259 _ _ _ _ (at_k259) (z278) hO (lv_sub hl [0, 1] rfl) (by exact hJ) (by exact hT) (by exact hat_k259) (by exact rfl) (by first | decide | omega) (by first | decide | omega) (by first | decide | omega) (by first | decide | omega) (by first | decide | omega) (by first | decide | omega) (by exact cv0_k259) (by first | decide | omega)
                      · subst hvr264
                        refine bt_eq (tgt := 322) (X := 0) hx hb dX11_goOn_270 (by decide) rfl (by omega) ?_
                        have hlt280 : at_k259.toInt < en_k259.toInt := by
                          by_cases q : en_k259.toInt = at_k259.toInt
                          · exfalso
                            have e1 : en_k259 = at_k259 := i32_eq.mpr q
                            rw [e1, ← cv0_k259] at hr260
                            have e2 := congrArg Int32.toInt hr260
                            omega
                          · omega
                        refine lv_aload_n hx hb dX11_goOn_322 rfl (lv_at hl 1 rfl) ?_
                        refine lv_aload_n hx hb dX11_goOn_323 rfl (lv_at hl 1 rfl) ?_
                        refine gf_RX11_198 (v := .int en_k259) C hO 0 mW_0 (congrArg (fun z : Int32 => some (Value.int z)) hen_k259) dX11_goOn_324 ?_
                        refine lv_aload_n hx hb dX11_goOn_327 rfl (lv_at hl 1 rfl) ?_
                        refine gf_RX11_201 (v := .int at_k259) C hO 0 mW_0 (congrArg (fun z : Int32 => some (Value.int z)) hat_k259) dX11_goOn_328 ?_
                        refine lv_isub hx hb dX11_goOn_331 ?_
                        refine lv_topi (fun z281 ez281 => ?_)
                        have e282 : z281.toInt = (en_k259).toInt - (at_k259).toInt := by rw [ez281]; exact i_sub rfl rfl (by omega)
                        refine lv_iconst (v := 4) hx hb dX11_goOn_332 (by decide) ?_
                        refine cs_gt (tgt := 350) (X := ((en_k259).toInt - (at_k259).toInt)) (Y := 4) hx hb dX11_goOn_333 (by decide) e282 rfl (fun c283 => ?_) (fun c283 => ?_)
                        · refine lv_iconst (v := 1) hx hb dX11_goOn_350 (by decide) ?_
                          refine lv_goto (tgt := 355) hx hb dX11_goOn_351 (by decide) ?_
                          refine pf_RX11_208 C hO 0 mW_0 (Nat.le_of_ble_eq_true rfl) mW_s0_8 dX11_goOn_355 (fun H locs hO => ?_)
                          have hT := Km26_wI8 (x := 1) hT
                          have hJ := MIs_8 (v := 1) hJ (by first | decide | omega)
                          refine lv_goto (tgt := 377) hx hb dX11_goOn_358 (by decide) ?_
                          have q284 : (en_k259 : Int32).toInt ≤ ((fI u 0 3) : Int32).toInt := by first | omega | decide
                          have q285 : (at_k259 : Int32).toInt ≤ (en_k259 : Int32).toInt := by first | omega | decide
                          have q286 : (1 : Int32).toInt = 0 ∨ (at_k259 : Int32).toInt < (en_k259 : Int32).toInt := by first | omega | decide
                          have g287 : 0 ≤ (fI u 0 7).toInt ∧ (fI u 0 7).toInt ≤ 1601 := by have h := MI_7 hJ0; exact h
                          have q288 : ((fI u 0 7) : Int32).toInt ≤ (at_k259 : Int32).toInt := by first | omega | decide
                          refine hret _ _ _ _ _ dX11_goOn_377 ?_ hO
                          exact ⟨hJ, hT, q284, q285, q286, q288⟩
                        · refine lv_aload_n hx hb dX11_goOn_336 rfl (lv_at hl 1 rfl) ?_
                          refine lv_aload_n hx hb dX11_goOn_337 rfl (lv_at hl 1 rfl) ?_
                          refine gf_RX11_198 (v := .int en_k259) C hO 0 mW_0 (congrArg (fun z : Int32 => some (Value.int z)) hen_k259) dX11_goOn_338 ?_
                          refine cVi (w := mW cy a) (As := [.int en_k259]) (rest := [.ref (a 0)]) C hO (T_X11_sign l D cy a _ (by exact hJ) (en_k259) (by first | omega | decide)) (cwV 1 ht (gV wd_1560 wd_1562 wd_49 wd_121 wd_1563) rfl rfl rfl hd_yX11_sign ⟨Nat.le_of_ble_eq_true rfl, Nat.le_of_ble_eq_true rfl⟩) 0 rfl mW_0 rfl rfl hl.1 (Nat.le_of_ble_eq_true rfl) dX11_goOn_341 rfl ⟨Nat.zero_le _, Nat.zero_le _⟩ (fun r289 u290 H locs hp291 hO => ?_)
                          obtain ⟨hr289, hu290⟩ := hp291
                          rw [hu290] at hO
                          have gr289 : (0 ≤ r289.toInt ∧ r289.toInt ≤ 255) ∧ (r289.toInt = 0 ∨ (en_k259 : Int32).toInt < ((fI u 0 3)).toInt) := by have h := sgF_b (u := _) (k := en_k259); rw [← hr289] at h; rw [(Km26_I3 hT)] at h; exact h
                          have hr289 : r289 = sgF u en_k259 := hr289.trans (sgF_eq (Km26_A2 hT) (Km26_I3 hT))
                          refine cSi (w := mW cy a) (As := [.int r289]) (rest := [.ref (a 0)]) C hO (T_X11_isLetter l D cy a _ (by exact hJ) (r289)) (va_cwS 1 ht (gSS wd_1564 wd_1565 wd_121 wd_1566) rfl rfl rfl hd_yX11_isLetter ⟨Nat.le_of_ble_eq_true rfl, Nat.le_of_ble_eq_true rfl⟩)  rfl hl.1 (Nat.le_of_ble_eq_true rfl) dX11_goOn_344 rfl ⟨Nat.zero_le _, Nat.zero_le _⟩ (fun r292 u293 H locs hp294 hO => ?_)
                          obtain ⟨hr292, hu293⟩ := hp294
                          rw [hu293] at hO
                          rcases hr292 with ⟨hcr292, hvr292⟩ | ⟨hcr292, hvr292⟩
                          · subst hvr292
                            refine bn_eq (X := 1) hx hb dX11_goOn_347 rfl (by omega) ?_ (tgt := 354) (by decide)
                            refine lv_iconst (v := 1) hx hb dX11_goOn_350 (by decide) ?_
                            refine lv_goto (tgt := 355) hx hb dX11_goOn_351 (by decide) ?_
                            refine pf_RX11_208 C hO 0 mW_0 (Nat.le_of_ble_eq_true rfl) mW_s0_8 dX11_goOn_355 (fun H locs hO => ?_)
                            have hT := Km26_wI8 (x := 1) hT
                            have hJ := MIs_8 (v := 1) hJ (by first | decide | omega)
                            refine lv_goto (tgt := 377) hx hb dX11_goOn_358 (by decide) ?_
                            have q295 : (en_k259 : Int32).toInt ≤ ((fI u 0 3) : Int32).toInt := by first | omega | decide
                            have q296 : (at_k259 : Int32).toInt ≤ (en_k259 : Int32).toInt := by first | omega | decide
                            have q297 : (1 : Int32).toInt = 0 ∨ (at_k259 : Int32).toInt < (en_k259 : Int32).toInt := by first | omega | decide
                            have g298 : 0 ≤ (fI u 0 7).toInt ∧ (fI u 0 7).toInt ≤ 1601 := by have h := MI_7 hJ0; exact h
                            have q299 : ((fI u 0 7) : Int32).toInt ≤ (at_k259 : Int32).toInt := by first | omega | decide
                            refine hret _ _ _ _ _ dX11_goOn_377 ?_ hO
                            exact ⟨hJ, hT, q295, q296, q297, q299⟩
                          · subst hvr292
                            refine bt_eq (tgt := 354) (X := 0) hx hb dX11_goOn_347 (by decide) rfl (by omega) ?_
                            refine lv_iconst (v := 4) hx hb dX11_goOn_354 (by decide) ?_
                            refine pf_RX11_208 C hO 0 mW_0 (Nat.le_of_ble_eq_true rfl) mW_s0_8 dX11_goOn_355 (fun H locs hO => ?_)
                            have hT := Km26_wI8 (x := 4) hT
                            have hJ := MIs_8 (v := 4) hJ (by first | decide | omega)
                            refine lv_goto (tgt := 377) hx hb dX11_goOn_358 (by decide) ?_
                            have q300 : (en_k259 : Int32).toInt ≤ ((fI u 0 3) : Int32).toInt := by first | omega | decide
                            have q301 : (at_k259 : Int32).toInt ≤ (en_k259 : Int32).toInt := by first | omega | decide
                            have q302 : (4 : Int32).toInt = 0 ∨ (at_k259 : Int32).toInt < (en_k259 : Int32).toInt := by first | omega | decide
                            have g303 : 0 ≤ (fI u 0 7).toInt ∧ (fI u 0 7).toInt ≤ 1601 := by have h := MI_7 hJ0; exact h
                            have q304 : ((fI u 0 7) : Int32).toInt ≤ (at_k259 : Int32).toInt := by first | omega | decide
                            refine hret _ _ _ _ _ dX11_goOn_377 ?_ hO
                            exact ⟨hJ, hT, q300, q301, q302, q304⟩
                  exact LP_259_k259 4000 _ _ _ _ (at_k3) (at_k3) hO (lv_sub hl [0, 1] rfl) (by exact hJ) (by exact hT) (by exact hat_k3) (by exact rfl) (by first | decide | omega) (by first | decide | omega) (by first | decide | omega) (by first | decide | omega) (by first | decide | omega) (by first | decide | omega) (by exact hr170) (by first | decide | omega)
                · subst hvr255
                  refine bt_eq (tgt := 361) (X := 0) hx hb dX11_goOn_243 (by decide) rfl (by omega) ?_
                  refine lv_aload_n hx hb dX11_goOn_361 rfl (lv_at hl 1 rfl) ?_
                  refine lv_iload_n hx hb dX11_goOn_362 rfl (lv_at hl 0 rfl) ?_
                  refine cSi (w := mW cy a) (As := [.int r170]) (rest := [.ref (a 0)]) C hO (T_X11_isSign l D cy a _ (by exact hJ) (r170)) (va_cwS 1 ht (gSS wd_1593 wd_1594 wd_121 wd_1595) rfl rfl rfl hd_yX11_isSign ⟨Nat.le_of_ble_eq_true rfl, Nat.le_of_ble_eq_true rfl⟩)  rfl hl.1 (Nat.le_of_ble_eq_true rfl) dX11_goOn_363 rfl ⟨Nat.zero_le _, Nat.zero_le _⟩ (fun r305 u306 H locs hp307 hO => ?_)
                  obtain ⟨hr305, hu306⟩ := hp307
                  have gr305 : 0 ≤ r305.toInt ∧ r305.toInt ≤ 1 := by rcases hr305 with h | h <;> rw [h] <;> decide
                  rw [hu306] at hO
                  refine bs_eq (tgt := 373) (X := (r305).toInt) hx hb dX11_goOn_366 (by decide) rfl (fun c308 => ?_) (fun c308 => ?_)
                  · refine lv_iconst (v := 1) hx hb dX11_goOn_373 (by decide) ?_
                    refine pf_RX11_208 C hO 0 mW_0 (Nat.le_of_ble_eq_true rfl) mW_s0_8 dX11_goOn_374 (fun H locs hO => ?_)
                    have hT := Km26_wI8 (x := 1) hT
                    have hJ := MIs_8 (v := 1) hJ (by first | decide | omega)
                    have q309 : (z173 : Int32).toInt ≤ ((fI u 0 3) : Int32).toInt := by first | omega | decide
                    have q310 : (at_k3 : Int32).toInt ≤ (z173 : Int32).toInt := by first | omega | decide
                    have q311 : (1 : Int32).toInt = 0 ∨ (at_k3 : Int32).toInt < (z173 : Int32).toInt := by first | omega | decide
                    have g312 : 0 ≤ (fI u 0 7).toInt ∧ (fI u 0 7).toInt ≤ 1601 := by have h := MI_7 hJ0; exact h
                    have q313 : ((fI u 0 7) : Int32).toInt ≤ (at_k3 : Int32).toInt := by first | omega | decide
                    refine hret _ _ _ _ _ dX11_goOn_377 ?_ hO
                    exact ⟨hJ, hT, q309, q310, q311, q313⟩
                  · refine lv_iconst (v := 5) hx hb dX11_goOn_369 (by decide) ?_
                    refine lv_goto (tgt := 374) hx hb dX11_goOn_370 (by decide) ?_
                    refine pf_RX11_208 C hO 0 mW_0 (Nat.le_of_ble_eq_true rfl) mW_s0_8 dX11_goOn_374 (fun H locs hO => ?_)
                    have hT := Km26_wI8 (x := 5) hT
                    have hJ := MIs_8 (v := 5) hJ (by first | decide | omega)
                    have q314 : (z173 : Int32).toInt ≤ ((fI u 0 3) : Int32).toInt := by first | omega | decide
                    have q315 : (at_k3 : Int32).toInt ≤ (z173 : Int32).toInt := by first | omega | decide
                    have q316 : (5 : Int32).toInt = 0 ∨ (at_k3 : Int32).toInt < (z173 : Int32).toInt := by first | omega | decide
                    have g317 : 0 ≤ (fI u 0 7).toInt ∧ (fI u 0 7).toInt ≤ 1601 := by have h := MI_7 hJ0; exact h
                    have q318 : ((fI u 0 7) : Int32).toInt ≤ (at_k3 : Int32).toInt := by first | omega | decide
                    refine hret _ _ _ _ _ dX11_goOn_377 ?_ hO
                    exact ⟨hJ, hT, q314, q315, q316, q318⟩
            · refine lv_aload_n hx hb dX11_goOn_88 rfl (lv_at hl 1 rfl) ?_
              refine lv_iconst (v := 0) hx hb dX11_goOn_89 (by decide) ?_
              refine pf_RX11_208 C hO 0 mW_0 (Nat.le_of_ble_eq_true rfl) mW_s0_8 dX11_goOn_90 (fun H locs hO => ?_)
              have hT := Km26_wI8 (x := 0) hT
              have hJ := MIs_8 (v := 0) hJ (by first | decide | omega)
              refine lv_aload_n hx hb dX11_goOn_93 rfl (lv_at hl 1 rfl) ?_
              refine lv_aload_n hx hb dX11_goOn_94 rfl (lv_at hl 1 rfl) ?_
              refine gf_RX11_152 (v := .int (fI u 0 3)) C hO 0 mW_0 (congrArg (fun z : Int32 => some (Value.int z)) (Km26_I3 hT)) dX11_goOn_95 ?_
              refine pf_RX11_201 C hO 0 mW_0 (Nat.le_of_ble_eq_true rfl) mW_s0_6 dX11_goOn_98 (fun H locs hO => ?_)
              have hT := Km26_wI6 (x := (fI u 0 3)) hT
              have hJ := MIs_6 (v := (fI u 0 3)) hJ (by first | decide | omega)
              refine lv_aload_n hx hb dX11_goOn_101 rfl (lv_at hl 1 rfl) ?_
              refine lv_aload_n hx hb dX11_goOn_102 rfl (lv_at hl 1 rfl) ?_
              refine gf_RX11_152 (v := .int (fI u 0 3)) C hO 0 mW_0 (congrArg (fun z : Int32 => some (Value.int z)) (Km26_I3 hT)) dX11_goOn_103 ?_
              refine pf_RX11_198 C hO 0 mW_0 (Nat.le_of_ble_eq_true rfl) mW_s0_7 dX11_goOn_106 (fun H locs hO => ?_)
              have hT := Km26_wI7 (x := (fI u 0 3)) hT
              have hJ := MIs_7 (v := (fI u 0 3)) hJ (by first | decide | omega)
              refine lv_goto (tgt := 377) hx hb dX11_goOn_109 (by decide) ?_
              have q319 : ((fI u 0 3) : Int32).toInt ≤ ((fI u 0 3) : Int32).toInt := by first | omega | decide
              have q320 : ((fI u 0 3) : Int32).toInt ≤ ((fI u 0 3) : Int32).toInt := by first | omega | decide
              have q321 : (0 : Int32).toInt = 0 ∨ ((fI u 0 3) : Int32).toInt < ((fI u 0 3) : Int32).toInt := by first | omega | decide
              have g322 : 0 ≤ (fI u 0 7).toInt ∧ (fI u 0 7).toInt ≤ 1601 := by have h := MI_7 hJ0; exact h
              have q323 : ((fI u 0 7) : Int32).toInt ≤ ((fI u 0 3) : Int32).toInt := by first | omega | decide
              refine hret _ _ _ _ _ dX11_goOn_377 ?_ hO
              exact ⟨hJ, hT, q319, q320, q321, q323⟩
          · refine lv_aload_n hx hb dX11_goOn_45 rfl (lv_at hl 0 rfl) ?_
            refine lv_dup hx hb dX11_goOn_46 rfl ?_
            refine gf_RX11_201 (v := .int at_k3) C hO 0 mW_0 (congrArg (fun z : Int32 => some (Value.int z)) hat_k3) dX11_goOn_47 ?_
            refine lv_iconst (v := 1) hx hb dX11_goOn_50 (by decide) ?_
            refine lv_iadd hx hb dX11_goOn_51 ?_
            refine lv_topi (fun z324 ez324 => ?_)
            have e325 : z324.toInt = (at_k3).toInt + 1 := by rw [ez324]; exact i_add rfl rfl (by omega)
            refine pf_RX11_201 C hO 0 mW_0 (Nat.le_of_ble_eq_true rfl) mW_s0_6 dX11_goOn_52 (fun H locs hO => ?_)
            have hT := Km26_wI6 (x := z324) hT
            have hJ := MIs_6 (v := z324) hJ (by first | decide | omega)
            refine lv_goto (tgt := 8) hx hb dX11_goOn_55 (by decide) ?_
            exact ih_k3 _ _ _ _ (z324) (en_k3) hO (lv_sub hl [0] rfl) (by exact hJ) (by exact hT) (by exact rfl) (by exact hen_k3) (by first | decide | omega) (by first | decide | omega) (by first | decide | omega) (by first | decide | omega) (by first | decide | omega)
  exact LP_8_k3 4000 _ _ _ _ ((fI u 0 7)) ((fI u 0 7)) hO (lv_sub hl [0] rfl) (by exact hJ) (by exact hT) (by exact rfl) (by exact rfl) (by first | decide | omega) (by first | decide | omega) (by first | decide | omega) (by first | decide | omega) (by first | decide | omega)
def Km27 (u v : St) : Prop := fI v 0 2 = fI u 0 2 ∧ fI v 0 3 = fI u 0 3 ∧ fI v 0 36 = fI u 0 36 ∧ fI v 0 37 = fI u 0 37 ∧ fI v 0 38 = fI u 0 38 ∧ fI v 0 39 = fI u 0 39 ∧ fI v 0 40 = fI u 0 40 ∧ fI v 0 41 = fI u 0 41 ∧ fI v 0 42 = fI u 0 42 ∧ fI v 0 43 = fI u 0 43 ∧ fI v 0 45 = fI u 0 45 ∧ fI v 0 47 = fI u 0 47 ∧ fI v 0 48 = fI u 0 48 ∧ fI v 0 50 = fI u 0 50 ∧ fI v 0 61 = fI u 0 61 ∧ fI v 0 62 = fI u 0 62 ∧ fA v 1 = fA u 1 ∧ fA v 2 = fA u 2 ∧ fA v 3 = fA u 3 ∧ fA v 4 = fA u 4 ∧ fA v 5 = fA u 5 ∧ fA v 6 = fA u 6 ∧ fA v 7 = fA u 7 ∧ fA v 8 = fA u 8 ∧ fA v 9 = fA u 9 ∧ fA v 10 = fA u 10 ∧ fA v 11 = fA u 11 ∧ fA v 12 = fA u 12 ∧ fA v 13 = fA u 13 ∧ fA v 14 = fA u 14 ∧ fA v 15 = fA u 15 ∧ fA v 16 = fA u 16 ∧ fA v 17 = fA u 17 ∧ fA v 18 = fA u 18 ∧ fA v 19 = fA u 19 ∧ fJ v 20 = fJ u 20 ∧ fJ v 21 = fJ u 21 ∧ fJ v 22 = fJ u 22 ∧ fA v 23 = fA u 23 ∧ fA v 24 = fA u 24 ∧ fA v 25 = fA u 25 ∧ fA v 26 = fA u 26 ∧ fA v 27 = fA u 27 ∧ fA v 28 = fA u 28 ∧ fA v 29 = fA u 29 ∧ fA v 30 = fA u 30 ∧ fA v 31 = fA u 31 ∧ fA v 32 = fA u 32 ∧ fA v 33 = fA u 33 ∧ fA v 34 = fA u 34 ∧ fA v 35 = fA u 35 ∧ fA v 36 = fA u 36 ∧ fA v 37 = fA u 37 ∧ fA v 38 = fA u 38 ∧ fA v 39 = fA u 39 ∧ fA v 40 = fA u 40 ∧ fA v 41 = fA u 41 ∧ fA v 42 = fA u 42
theorem Km27.rf {u : St} : Km27 u u := ⟨rfl, rfl, rfl, rfl, rfl, rfl, rfl, rfl, rfl, rfl, rfl, rfl, rfl, rfl, rfl, rfl, rfl, rfl, rfl, rfl, rfl, rfl, rfl, rfl, rfl, rfl, rfl, rfl, rfl, rfl, rfl, rfl, rfl, rfl, rfl, rfl, rfl, rfl, rfl, rfl, rfl, rfl, rfl, rfl, rfl, rfl, rfl, rfl, rfl, rfl, rfl, rfl, rfl, rfl, rfl, rfl, rfl, rfl⟩
theorem Km27.tr {u v w : St} (h1 : Km27 u v) (h2 : Km27 v w) : Km27 u w := ⟨(h2.1).trans h1.1, (h2.2.1).trans h1.2.1, (h2.2.2.1).trans h1.2.2.1, (h2.2.2.2.1).trans h1.2.2.2.1, (h2.2.2.2.2.1).trans h1.2.2.2.2.1, (h2.2.2.2.2.2.1).trans h1.2.2.2.2.2.1, (h2.2.2.2.2.2.2.1).trans h1.2.2.2.2.2.2.1, (h2.2.2.2.2.2.2.2.1).trans h1.2.2.2.2.2.2.2.1, (h2.2.2.2.2.2.2.2.2.1).trans h1.2.2.2.2.2.2.2.2.1, (h2.2.2.2.2.2.2.2.2.2.1).trans h1.2.2.2.2.2.2.2.2.2.1, (h2.2.2.2.2.2.2.2.2.2.2.1).trans h1.2.2.2.2.2.2.2.2.2.2.1, (h2.2.2.2.2.2.2.2.2.2.2.2.1).trans h1.2.2.2.2.2.2.2.2.2.2.2.1, (h2.2.2.2.2.2.2.2.2.2.2.2.2.1).trans h1.2.2.2.2.2.2.2.2.2.2.2.2.1, (h2.2.2.2.2.2.2.2.2.2.2.2.2.2.1).trans h1.2.2.2.2.2.2.2.2.2.2.2.2.2.1, (h2.2.2.2.2.2.2.2.2.2.2.2.2.2.2.1).trans h1.2.2.2.2.2.2.2.2.2.2.2.2.2.2.1, (h2.2.2.2.2.2.2.2.2.2.2.2.2.2.2.2.1).trans h1.2.2.2.2.2.2.2.2.2.2.2.2.2.2.2.1, (h2.2.2.2.2.2.2.2.2.2.2.2.2.2.2.2.2.1).trans h1.2.2.2.2.2.2.2.2.2.2.2.2.2.2.2.2.1, (h2.2.2.2.2.2.2.2.2.2.2.2.2.2.2.2.2.2.1).trans h1.2.2.2.2.2.2.2.2.2.2.2.2.2.2.2.2.2.1, (h2.2.2.2.2.2.2.2.2.2.2.2.2.2.2.2.2.2.2.1).trans h1.2.2.2.2.2.2.2.2.2.2.2.2.2.2.2.2.2.2.1, (h2.2.2.2.2.2.2.2.2.2.2.2.2.2.2.2.2.2.2.2.1).trans h1.2.2.2.2.2.2.2.2.2.2.2.2.2.2.2.2.2.2.2.1, (h2.2.2.2.2.2.2.2.2.2.2.2.2.2.2.2.2.2.2.2.2.1).trans h1.2.2.2.2.2.2.2.2.2.2.2.2.2.2.2.2.2.2.2.2.1, (h2.2.2.2.2.2.2.2.2.2.2.2.2.2.2.2.2.2.2.2.2.2.1).trans h1.2.2.2.2.2.2.2.2.2.2.2.2.2.2.2.2.2.2.2.2.2.1, (h2.2.2.2.2.2.2.2.2.2.2.2.2.2.2.2.2.2.2.2.2.2.2.1).trans h1.2.2.2.2.2.2.2.2.2.2.2.2.2.2.2.2.2.2.2.2.2.2.1, (h2.2.2.2.2.2.2.2.2.2.2.2.2.2.2.2.2.2.2.2.2.2.2.2.1).trans h1.2.2.2.2.2.2.2.2.2.2.2.2.2.2.2.2.2.2.2.2.2.2.2.1, (h2.2.2.2.2.2.2.2.2.2.2.2.2.2.2.2.2.2.2.2.2.2.2.2.2.1).trans h1.2.2.2.2.2.2.2.2.2.2.2.2.2.2.2.2.2.2.2.2.2.2.2.2.1, (h2.2.2.2.2.2.2.2.2.2.2.2.2.2.2.2.2.2.2.2.2.2.2.2.2.2.1).trans h1.2.2.2.2.2.2.2.2.2.2.2.2.2.2.2.2.2.2.2.2.2.2.2.2.2.1, (h2.2.2.2.2.2.2.2.2.2.2.2.2.2.2.2.2.2.2.2.2.2.2.2.2.2.2.1).trans h1.2.2.2.2.2.2.2.2.2.2.2.2.2.2.2.2.2.2.2.2.2.2.2.2.2.2.1, (h2.2.2.2.2.2.2.2.2.2.2.2.2.2.2.2.2.2.2.2.2.2.2.2.2.2.2.2.1).trans h1.2.2.2.2.2.2.2.2.2.2.2.2.2.2.2.2.2.2.2.2.2.2.2.2.2.2.2.1, (h2.2.2.2.2.2.2.2.2.2.2.2.2.2.2.2.2.2.2.2.2.2.2.2.2.2.2.2.2.1).trans h1.2.2.2.2.2.2.2.2.2.2.2.2.2.2.2.2.2.2.2.2.2.2.2.2.2.2.2.2.1, (h2.2.2.2.2.2.2.2.2.2.2.2.2.2.2.2.2.2.2.2.2.2.2.2.2.2.2.2.2.2.1).trans h1.2.2.2.2.2.2.2.2.2.2.2.2.2.2.2.2.2.2.2.2.2.2.2.2.2.2.2.2.2.1, (h2.2.2.2.2.2.2.2.2.2.2.2.2.2.2.2.2.2.2.2.2.2.2.2.2.2.2.2.2.2.2.1).trans h1.2.2.2.2.2.2.2.2.2.2.2.2.2.2.2.2.2.2.2.2.2.2.2.2.2.2.2.2.2.2.1, (h2.2.2.2.2.2.2.2.2.2.2.2.2.2.2.2.2.2.2.2.2.2.2.2.2.2.2.2.2.2.2.2.1).trans h1.2.2.2.2.2.2.2.2.2.2.2.2.2.2.2.2.2.2.2.2.2.2.2.2.2.2.2.2.2.2.2.1, (h2.2.2.2.2.2.2.2.2.2.2.2.2.2.2.2.2.2.2.2.2.2.2.2.2.2.2.2.2.2.2.2.2.1).trans h1.2.2.2.2.2.2.2.2.2.2.2.2.2.2.2.2.2.2.2.2.2.2.2.2.2.2.2.2.2.2.2.2.1, (h2.2.2.2.2.2.2.2.2.2.2.2.2.2.2.2.2.2.2.2.2.2.2.2.2.2.2.2.2.2.2.2.2.2.1).trans h1.2.2.2.2.2.2.2.2.2.2.2.2.2.2.2.2.2.2.2.2.2.2.2.2.2.2.2.2.2.2.2.2.2.1, (h2.2.2.2.2.2.2.2.2.2.2.2.2.2.2.2.2.2.2.2.2.2.2.2.2.2.2.2.2.2.2.2.2.2.2.1).trans h1.2.2.2.2.2.2.2.2.2.2.2.2.2.2.2.2.2.2.2.2.2.2.2.2.2.2.2.2.2.2.2.2.2.2.1, (h2.2.2.2.2.2.2.2.2.2.2.2.2.2.2.2.2.2.2.2.2.2.2.2.2.2.2.2.2.2.2.2.2.2.2.2.1).trans h1.2.2.2.2.2.2.2.2.2.2.2.2.2.2.2.2.2.2.2.2.2.2.2.2.2.2.2.2.2.2.2.2.2.2.2.1, (h2.2.2.2.2.2.2.2.2.2.2.2.2.2.2.2.2.2.2.2.2.2.2.2.2.2.2.2.2.2.2.2.2.2.2.2.2.1).trans h1.2.2.2.2.2.2.2.2.2.2.2.2.2.2.2.2.2.2.2.2.2.2.2.2.2.2.2.2.2.2.2.2.2.2.2.2.1, (h2.2.2.2.2.2.2.2.2.2.2.2.2.2.2.2.2.2.2.2.2.2.2.2.2.2.2.2.2.2.2.2.2.2.2.2.2.2.1).trans h1.2.2.2.2.2.2.2.2.2.2.2.2.2.2.2.2.2.2.2.2.2.2.2.2.2.2.2.2.2.2.2.2.2.2.2.2.2.1, (h2.2.2.2.2.2.2.2.2.2.2.2.2.2.2.2.2.2.2.2.2.2.2.2.2.2.2.2.2.2.2.2.2.2.2.2.2.2.2.1).trans h1.2.2.2.2.2.2.2.2.2.2.2.2.2.2.2.2.2.2.2.2.2.2.2.2.2.2.2.2.2.2.2.2.2.2.2.2.2.2.1, (h2.2.2.2.2.2.2.2.2.2.2.2.2.2.2.2.2.2.2.2.2.2.2.2.2.2.2.2.2.2.2.2.2.2.2.2.2.2.2.2.1).trans h1.2.2.2.2.2.2.2.2.2.2.2.2.2.2.2.2.2.2.2.2.2.2.2.2.2.2.2.2.2.2.2.2.2.2.2.2.2.2.2.1, (h2.2.2.2.2.2.2.2.2.2.2.2.2.2.2.2.2.2.2.2.2.2.2.2.2.2.2.2.2.2.2.2.2.2.2.2.2.2.2.2.2.1).trans h1.2.2.2.2.2.2.2.2.2.2.2.2.2.2.2.2.2.2.2.2.2.2.2.2.2.2.2.2.2.2.2.2.2.2.2.2.2.2.2.2.1, (h2.2.2.2.2.2.2.2.2.2.2.2.2.2.2.2.2.2.2.2.2.2.2.2.2.2.2.2.2.2.2.2.2.2.2.2.2.2.2.2.2.2.1).trans h1.2.2.2.2.2.2.2.2.2.2.2.2.2.2.2.2.2.2.2.2.2.2.2.2.2.2.2.2.2.2.2.2.2.2.2.2.2.2.2.2.2.1, (h2.2.2.2.2.2.2.2.2.2.2.2.2.2.2.2.2.2.2.2.2.2.2.2.2.2.2.2.2.2.2.2.2.2.2.2.2.2.2.2.2.2.2.1).trans h1.2.2.2.2.2.2.2.2.2.2.2.2.2.2.2.2.2.2.2.2.2.2.2.2.2.2.2.2.2.2.2.2.2.2.2.2.2.2.2.2.2.2.1, (h2.2.2.2.2.2.2.2.2.2.2.2.2.2.2.2.2.2.2.2.2.2.2.2.2.2.2.2.2.2.2.2.2.2.2.2.2.2.2.2.2.2.2.2.1).trans h1.2.2.2.2.2.2.2.2.2.2.2.2.2.2.2.2.2.2.2.2.2.2.2.2.2.2.2.2.2.2.2.2.2.2.2.2.2.2.2.2.2.2.2.1, (h2.2.2.2.2.2.2.2.2.2.2.2.2.2.2.2.2.2.2.2.2.2.2.2.2.2.2.2.2.2.2.2.2.2.2.2.2.2.2.2.2.2.2.2.2.1).trans h1.2.2.2.2.2.2.2.2.2.2.2.2.2.2.2.2.2.2.2.2.2.2.2.2.2.2.2.2.2.2.2.2.2.2.2.2.2.2.2.2.2.2.2.2.1, (h2.2.2.2.2.2.2.2.2.2.2.2.2.2.2.2.2.2.2.2.2.2.2.2.2.2.2.2.2.2.2.2.2.2.2.2.2.2.2.2.2.2.2.2.2.2.1).trans h1.2.2.2.2.2.2.2.2.2.2.2.2.2.2.2.2.2.2.2.2.2.2.2.2.2.2.2.2.2.2.2.2.2.2.2.2.2.2.2.2.2.2.2.2.2.1, (h2.2.2.2.2.2.2.2.2.2.2.2.2.2.2.2.2.2.2.2.2.2.2.2.2.2.2.2.2.2.2.2.2.2.2.2.2.2.2.2.2.2.2.2.2.2.2.1).trans h1.2.2.2.2.2.2.2.2.2.2.2.2.2.2.2.2.2.2.2.2.2.2.2.2.2.2.2.2.2.2.2.2.2.2.2.2.2.2.2.2.2.2.2.2.2.2.1, (h2.2.2.2.2.2.2.2.2.2.2.2.2.2.2.2.2.2.2.2.2.2.2.2.2.2.2.2.2.2.2.2.2.2.2.2.2.2.2.2.2.2.2.2.2.2.2.2.1).trans h1.2.2.2.2.2.2.2.2.2.2.2.2.2.2.2.2.2.2.2.2.2.2.2.2.2.2.2.2.2.2.2.2.2.2.2.2.2.2.2.2.2.2.2.2.2.2.2.1, (h2.2.2.2.2.2.2.2.2.2.2.2.2.2.2.2.2.2.2.2.2.2.2.2.2.2.2.2.2.2.2.2.2.2.2.2.2.2.2.2.2.2.2.2.2.2.2.2.2.1).trans h1.2.2.2.2.2.2.2.2.2.2.2.2.2.2.2.2.2.2.2.2.2.2.2.2.2.2.2.2.2.2.2.2.2.2.2.2.2.2.2.2.2.2.2.2.2.2.2.2.1, (h2.2.2.2.2.2.2.2.2.2.2.2.2.2.2.2.2.2.2.2.2.2.2.2.2.2.2.2.2.2.2.2.2.2.2.2.2.2.2.2.2.2.2.2.2.2.2.2.2.2.1).trans h1.2.2.2.2.2.2.2.2.2.2.2.2.2.2.2.2.2.2.2.2.2.2.2.2.2.2.2.2.2.2.2.2.2.2.2.2.2.2.2.2.2.2.2.2.2.2.2.2.2.1, (h2.2.2.2.2.2.2.2.2.2.2.2.2.2.2.2.2.2.2.2.2.2.2.2.2.2.2.2.2.2.2.2.2.2.2.2.2.2.2.2.2.2.2.2.2.2.2.2.2.2.2.1).trans h1.2.2.2.2.2.2.2.2.2.2.2.2.2.2.2.2.2.2.2.2.2.2.2.2.2.2.2.2.2.2.2.2.2.2.2.2.2.2.2.2.2.2.2.2.2.2.2.2.2.2.1, (h2.2.2.2.2.2.2.2.2.2.2.2.2.2.2.2.2.2.2.2.2.2.2.2.2.2.2.2.2.2.2.2.2.2.2.2.2.2.2.2.2.2.2.2.2.2.2.2.2.2.2.2.1).trans h1.2.2.2.2.2.2.2.2.2.2.2.2.2.2.2.2.2.2.2.2.2.2.2.2.2.2.2.2.2.2.2.2.2.2.2.2.2.2.2.2.2.2.2.2.2.2.2.2.2.2.2.1, (h2.2.2.2.2.2.2.2.2.2.2.2.2.2.2.2.2.2.2.2.2.2.2.2.2.2.2.2.2.2.2.2.2.2.2.2.2.2.2.2.2.2.2.2.2.2.2.2.2.2.2.2.2.1).trans h1.2.2.2.2.2.2.2.2.2.2.2.2.2.2.2.2.2.2.2.2.2.2.2.2.2.2.2.2.2.2.2.2.2.2.2.2.2.2.2.2.2.2.2.2.2.2.2.2.2.2.2.2.1, (h2.2.2.2.2.2.2.2.2.2.2.2.2.2.2.2.2.2.2.2.2.2.2.2.2.2.2.2.2.2.2.2.2.2.2.2.2.2.2.2.2.2.2.2.2.2.2.2.2.2.2.2.2.2.1).trans h1.2.2.2.2.2.2.2.2.2.2.2.2.2.2.2.2.2.2.2.2.2.2.2.2.2.2.2.2.2.2.2.2.2.2.2.2.2.2.2.2.2.2.2.2.2.2.2.2.2.2.2.2.2.1, (h2.2.2.2.2.2.2.2.2.2.2.2.2.2.2.2.2.2.2.2.2.2.2.2.2.2.2.2.2.2.2.2.2.2.2.2.2.2.2.2.2.2.2.2.2.2.2.2.2.2.2.2.2.2.2.1).trans h1.2.2.2.2.2.2.2.2.2.2.2.2.2.2.2.2.2.2.2.2.2.2.2.2.2.2.2.2.2.2.2.2.2.2.2.2.2.2.2.2.2.2.2.2.2.2.2.2.2.2.2.2.2.2.1, (h2.2.2.2.2.2.2.2.2.2.2.2.2.2.2.2.2.2.2.2.2.2.2.2.2.2.2.2.2.2.2.2.2.2.2.2.2.2.2.2.2.2.2.2.2.2.2.2.2.2.2.2.2.2.2.2.1).trans h1.2.2.2.2.2.2.2.2.2.2.2.2.2.2.2.2.2.2.2.2.2.2.2.2.2.2.2.2.2.2.2.2.2.2.2.2.2.2.2.2.2.2.2.2.2.2.2.2.2.2.2.2.2.2.2.1, (h2.2.2.2.2.2.2.2.2.2.2.2.2.2.2.2.2.2.2.2.2.2.2.2.2.2.2.2.2.2.2.2.2.2.2.2.2.2.2.2.2.2.2.2.2.2.2.2.2.2.2.2.2.2.2.2.2.1).trans h1.2.2.2.2.2.2.2.2.2.2.2.2.2.2.2.2.2.2.2.2.2.2.2.2.2.2.2.2.2.2.2.2.2.2.2.2.2.2.2.2.2.2.2.2.2.2.2.2.2.2.2.2.2.2.2.2.1, (h2.2.2.2.2.2.2.2.2.2.2.2.2.2.2.2.2.2.2.2.2.2.2.2.2.2.2.2.2.2.2.2.2.2.2.2.2.2.2.2.2.2.2.2.2.2.2.2.2.2.2.2.2.2.2.2.2.2).trans h1.2.2.2.2.2.2.2.2.2.2.2.2.2.2.2.2.2.2.2.2.2.2.2.2.2.2.2.2.2.2.2.2.2.2.2.2.2.2.2.2.2.2.2.2.2.2.2.2.2.2.2.2.2.2.2.2.2⟩
theorem dX11_must_0 : decode cX11_must 0 = .ok (.aload_n 0, 1) := by decide +kernel
theorem dX11_must_1 : decode cX11_must 1 = .ok (.invokevirtual 236, 3) := by decide +kernel
theorem dX11_must_4 : decode cX11_must 4 = .ok (.ifCond .ne 4, 3) := by decide +kernel
theorem dX11_must_7 : decode cX11_must 7 = .ok (.return_, 1) := by decide +kernel
theorem dX11_must_8 : decode cX11_must 8 = .ok (.iload_n 1, 1) := by decide +kernel
theorem dX11_must_9 : decode cX11_must 9 = .ok (.ifCond .eq 10, 3) := by decide +kernel
theorem dX11_must_12 : decode cX11_must 12 = .ok (.aload_n 0, 1) := by decide +kernel
theorem dX11_must_13 : decode cX11_must 13 = .ok (.invokevirtual 240, 3) := by decide +kernel
theorem dX11_must_16 : decode cX11_must 16 = .ok (.goto 7, 3) := by decide +kernel
theorem dX11_must_19 : decode cX11_must 19 = .ok (.aload_n 0, 1) := by decide +kernel
theorem dX11_must_20 : decode cX11_must 20 = .ok (.invokevirtual 243, 3) := by decide +kernel
theorem dX11_must_23 : decode cX11_must 23 = .ok (.return_, 1) := by decide +kernel
theorem wd_1654 : (Cond.code ⟨"WebCourtModel", "must", "(Z)V"⟩ prog_13_method_13_code (2 : Nat) (Option.none : Option FieldType)) ∈ gtb := gtb_c7 105 (by decide +kernel) rfl
theorem wd_1596 : (Cond.methodLink "WebCourtModel" (236 : Nat) ⟨"WebCourtModel", "isGood", "()Z"⟩) ∈ gtb := gtb_c7 47 (by decide +kernel) rfl
theorem wd_1598 : (Cond.instanceMethod ⟨"WebCourtModel", "isGood", "()Z"⟩) ∈ gtb := gtb_c7 49 (by decide +kernel) rfl
theorem wd_50 : (Cond.selects "WebCourtModel" ⟨"WebCourtModel", "isGood", "()Z"⟩ ⟨"WebCourtModel", "isGood", "()Z"⟩) ∈ gtb := gtb_p 50 (by decide +kernel) rfl
theorem hd_yX11_isGood : yX11_isGood.cls = RX11 ∧ yX11_isGood.cls ≠ "java/lang/invoke/MethodHandle" ∧ yX11_isGood.cls ≠ "java/lang/invoke/VarHandle" ∧ (parseMethodDescriptor yX11_isGood.desc).map (fun d => d.parameters.length) = some 0 := by decide +kernel
theorem wd_1615 : (Cond.methodLink "WebCourtModel" (243 : Nat) ⟨"WebCourtModel", "misplaced", "()V"⟩) ∈ gtb := gtb_c7 66 (by decide +kernel) rfl
theorem wd_1617 : (Cond.instanceMethod ⟨"WebCourtModel", "misplaced", "()V"⟩) ∈ gtb := gtb_c7 68 (by decide +kernel) rfl
theorem wd_54 : (Cond.selects "WebCourtModel" ⟨"WebCourtModel", "misplaced", "()V"⟩ ⟨"WebCourtModel", "misplaced", "()V"⟩) ∈ gtb := gtb_p 54 (by decide +kernel) rfl
theorem hd_yX11_misplaced : yX11_misplaced.cls = RX11 ∧ yX11_misplaced.cls ≠ "java/lang/invoke/MethodHandle" ∧ yX11_misplaced.cls ≠ "java/lang/invoke/VarHandle" ∧ (parseMethodDescriptor yX11_misplaced.desc).map (fun d => d.parameters.length) = some 0 := by decide +kernel
theorem Km25_to_Km27 {u v : St} (h : Km25 u v) : Km27 u v := ⟨h.1, h.2.1, h.2.2.2.2.2.2.2.1, h.2.2.2.2.2.2.2.2.1, h.2.2.2.2.2.2.2.2.2.1, h.2.2.2.2.2.2.2.2.2.2.1, h.2.2.2.2.2.2.2.2.2.2.2.1, h.2.2.2.2.2.2.2.2.2.2.2.2.1, h.2.2.2.2.2.2.2.2.2.2.2.2.2.1, h.2.2.2.2.2.2.2.2.2.2.2.2.2.2.1, h.2.2.2.2.2.2.2.2.2.2.2.2.2.2.2.1, h.2.2.2.2.2.2.2.2.2.2.2.2.2.2.2.2.1, h.2.2.2.2.2.2.2.2.2.2.2.2.2.2.2.2.2.1, h.2.2.2.2.2.2.2.2.2.2.2.2.2.2.2.2.2.2.1, h.2.2.2.2.2.2.2.2.2.2.2.2.2.2.2.2.2.2.2.1, h.2.2.2.2.2.2.2.2.2.2.2.2.2.2.2.2.2.2.2.2.1, h.2.2.2.2.2.2.2.2.2.2.2.2.2.2.2.2.2.2.2.2.2.1, h.2.2.2.2.2.2.2.2.2.2.2.2.2.2.2.2.2.2.2.2.2.2.1, h.2.2.2.2.2.2.2.2.2.2.2.2.2.2.2.2.2.2.2.2.2.2.2.1, h.2.2.2.2.2.2.2.2.2.2.2.2.2.2.2.2.2.2.2.2.2.2.2.2.1, h.2.2.2.2.2.2.2.2.2.2.2.2.2.2.2.2.2.2.2.2.2.2.2.2.2.1, h.2.2.2.2.2.2.2.2.2.2.2.2.2.2.2.2.2.2.2.2.2.2.2.2.2.2.1, h.2.2.2.2.2.2.2.2.2.2.2.2.2.2.2.2.2.2.2.2.2.2.2.2.2.2.2.1, h.2.2.2.2.2.2.2.2.2.2.2.2.2.2.2.2.2.2.2.2.2.2.2.2.2.2.2.2.1, h.2.2.2.2.2.2.2.2.2.2.2.2.2.2.2.2.2.2.2.2.2.2.2.2.2.2.2.2.2.1, h.2.2.2.2.2.2.2.2.2.2.2.2.2.2.2.2.2.2.2.2.2.2.2.2.2.2.2.2.2.2.1, h.2.2.2.2.2.2.2.2.2.2.2.2.2.2.2.2.2.2.2.2.2.2.2.2.2.2.2.2.2.2.2.1, h.2.2.2.2.2.2.2.2.2.2.2.2.2.2.2.2.2.2.2.2.2.2.2.2.2.2.2.2.2.2.2.2.1, h.2.2.2.2.2.2.2.2.2.2.2.2.2.2.2.2.2.2.2.2.2.2.2.2.2.2.2.2.2.2.2.2.2.1, h.2.2.2.2.2.2.2.2.2.2.2.2.2.2.2.2.2.2.2.2.2.2.2.2.2.2.2.2.2.2.2.2.2.2.1, h.2.2.2.2.2.2.2.2.2.2.2.2.2.2.2.2.2.2.2.2.2.2.2.2.2.2.2.2.2.2.2.2.2.2.2.1, h.2.2.2.2.2.2.2.2.2.2.2.2.2.2.2.2.2.2.2.2.2.2.2.2.2.2.2.2.2.2.2.2.2.2.2.2.1, h.2.2.2.2.2.2.2.2.2.2.2.2.2.2.2.2.2.2.2.2.2.2.2.2.2.2.2.2.2.2.2.2.2.2.2.2.2.1, h.2.2.2.2.2.2.2.2.2.2.2.2.2.2.2.2.2.2.2.2.2.2.2.2.2.2.2.2.2.2.2.2.2.2.2.2.2.2.1, h.2.2.2.2.2.2.2.2.2.2.2.2.2.2.2.2.2.2.2.2.2.2.2.2.2.2.2.2.2.2.2.2.2.2.2.2.2.2.2.1, h.2.2.2.2.2.2.2.2.2.2.2.2.2.2.2.2.2.2.2.2.2.2.2.2.2.2.2.2.2.2.2.2.2.2.2.2.2.2.2.2.1, h.2.2.2.2.2.2.2.2.2.2.2.2.2.2.2.2.2.2.2.2.2.2.2.2.2.2.2.2.2.2.2.2.2.2.2.2.2.2.2.2.2.1, h.2.2.2.2.2.2.2.2.2.2.2.2.2.2.2.2.2.2.2.2.2.2.2.2.2.2.2.2.2.2.2.2.2.2.2.2.2.2.2.2.2.2.1, h.2.2.2.2.2.2.2.2.2.2.2.2.2.2.2.2.2.2.2.2.2.2.2.2.2.2.2.2.2.2.2.2.2.2.2.2.2.2.2.2.2.2.2.1, h.2.2.2.2.2.2.2.2.2.2.2.2.2.2.2.2.2.2.2.2.2.2.2.2.2.2.2.2.2.2.2.2.2.2.2.2.2.2.2.2.2.2.2.2.1, h.2.2.2.2.2.2.2.2.2.2.2.2.2.2.2.2.2.2.2.2.2.2.2.2.2.2.2.2.2.2.2.2.2.2.2.2.2.2.2.2.2.2.2.2.2.1, h.2.2.2.2.2.2.2.2.2.2.2.2.2.2.2.2.2.2.2.2.2.2.2.2.2.2.2.2.2.2.2.2.2.2.2.2.2.2.2.2.2.2.2.2.2.2.1, h.2.2.2.2.2.2.2.2.2.2.2.2.2.2.2.2.2.2.2.2.2.2.2.2.2.2.2.2.2.2.2.2.2.2.2.2.2.2.2.2.2.2.2.2.2.2.2.1, h.2.2.2.2.2.2.2.2.2.2.2.2.2.2.2.2.2.2.2.2.2.2.2.2.2.2.2.2.2.2.2.2.2.2.2.2.2.2.2.2.2.2.2.2.2.2.2.2.1, h.2.2.2.2.2.2.2.2.2.2.2.2.2.2.2.2.2.2.2.2.2.2.2.2.2.2.2.2.2.2.2.2.2.2.2.2.2.2.2.2.2.2.2.2.2.2.2.2.2.1, h.2.2.2.2.2.2.2.2.2.2.2.2.2.2.2.2.2.2.2.2.2.2.2.2.2.2.2.2.2.2.2.2.2.2.2.2.2.2.2.2.2.2.2.2.2.2.2.2.2.2.1, h.2.2.2.2.2.2.2.2.2.2.2.2.2.2.2.2.2.2.2.2.2.2.2.2.2.2.2.2.2.2.2.2.2.2.2.2.2.2.2.2.2.2.2.2.2.2.2.2.2.2.2.1, h.2.2.2.2.2.2.2.2.2.2.2.2.2.2.2.2.2.2.2.2.2.2.2.2.2.2.2.2.2.2.2.2.2.2.2.2.2.2.2.2.2.2.2.2.2.2.2.2.2.2.2.2.1, h.2.2.2.2.2.2.2.2.2.2.2.2.2.2.2.2.2.2.2.2.2.2.2.2.2.2.2.2.2.2.2.2.2.2.2.2.2.2.2.2.2.2.2.2.2.2.2.2.2.2.2.2.2.1, h.2.2.2.2.2.2.2.2.2.2.2.2.2.2.2.2.2.2.2.2.2.2.2.2.2.2.2.2.2.2.2.2.2.2.2.2.2.2.2.2.2.2.2.2.2.2.2.2.2.2.2.2.2.2.1, h.2.2.2.2.2.2.2.2.2.2.2.2.2.2.2.2.2.2.2.2.2.2.2.2.2.2.2.2.2.2.2.2.2.2.2.2.2.2.2.2.2.2.2.2.2.2.2.2.2.2.2.2.2.2.2.1, h.2.2.2.2.2.2.2.2.2.2.2.2.2.2.2.2.2.2.2.2.2.2.2.2.2.2.2.2.2.2.2.2.2.2.2.2.2.2.2.2.2.2.2.2.2.2.2.2.2.2.2.2.2.2.2.2.1, h.2.2.2.2.2.2.2.2.2.2.2.2.2.2.2.2.2.2.2.2.2.2.2.2.2.2.2.2.2.2.2.2.2.2.2.2.2.2.2.2.2.2.2.2.2.2.2.2.2.2.2.2.2.2.2.2.2.1, h.2.2.2.2.2.2.2.2.2.2.2.2.2.2.2.2.2.2.2.2.2.2.2.2.2.2.2.2.2.2.2.2.2.2.2.2.2.2.2.2.2.2.2.2.2.2.2.2.2.2.2.2.2.2.2.2.2.2.1, h.2.2.2.2.2.2.2.2.2.2.2.2.2.2.2.2.2.2.2.2.2.2.2.2.2.2.2.2.2.2.2.2.2.2.2.2.2.2.2.2.2.2.2.2.2.2.2.2.2.2.2.2.2.2.2.2.2.2.2.1, h.2.2.2.2.2.2.2.2.2.2.2.2.2.2.2.2.2.2.2.2.2.2.2.2.2.2.2.2.2.2.2.2.2.2.2.2.2.2.2.2.2.2.2.2.2.2.2.2.2.2.2.2.2.2.2.2.2.2.2.2.1, h.2.2.2.2.2.2.2.2.2.2.2.2.2.2.2.2.2.2.2.2.2.2.2.2.2.2.2.2.2.2.2.2.2.2.2.2.2.2.2.2.2.2.2.2.2.2.2.2.2.2.2.2.2.2.2.2.2.2.2.2.2.1, h.2.2.2.2.2.2.2.2.2.2.2.2.2.2.2.2.2.2.2.2.2.2.2.2.2.2.2.2.2.2.2.2.2.2.2.2.2.2.2.2.2.2.2.2.2.2.2.2.2.2.2.2.2.2.2.2.2.2.2.2.2.2⟩
theorem Km25_I7 {u v : St} (h : Km25 u v) : fI v 0 7 = fI u 0 7 := h.2.2.2.1
theorem Km27_I3 {u v : St} (h : Km27 u v) : fI v 0 3 = fI u 0 3 := h.2.1
theorem Km25_I6 {u v : St} (h : Km25 u v) : fI v 0 6 = fI u 0 6 := h.2.2.1
theorem Km25_I8 {u v : St} (h : Km25 u v) : fI v 0 8 = fI u 0 8 := h.2.2.2.2.1
theorem wd_1556 : (Cond.methodLink "WebCourtModel" (240 : Nat) ⟨"WebCourtModel", "goOn", "()V"⟩) ∈ gtb := gtb_c7 7 (by decide +kernel) rfl
theorem wd_1558 : (Cond.instanceMethod ⟨"WebCourtModel", "goOn", "()V"⟩) ∈ gtb := gtb_c7 9 (by decide +kernel) rfl
theorem wd_48 : (Cond.selects "WebCourtModel" ⟨"WebCourtModel", "goOn", "()V"⟩ ⟨"WebCourtModel", "goOn", "()V"⟩) ∈ gtb := gtb_p 48 (by decide +kernel) rfl
theorem hd_yX11_goOn : yX11_goOn.cls = RX11 ∧ yX11_goOn.cls ≠ "java/lang/invoke/MethodHandle" ∧ yX11_goOn.cls ≠ "java/lang/invoke/VarHandle" ∧ (parseMethodDescriptor yX11_goOn.desc).map (fun d => d.parameters.length) = some 0 := by decide +kernel
theorem Km26_to_Km27 {u v : St} (h : Km26 u v) : Km27 u v := ⟨h.1, h.2.1, h.2.2.2.2.1, h.2.2.2.2.2.1, h.2.2.2.2.2.2.1, h.2.2.2.2.2.2.2.1, h.2.2.2.2.2.2.2.2.1, h.2.2.2.2.2.2.2.2.2.1, h.2.2.2.2.2.2.2.2.2.2.1, h.2.2.2.2.2.2.2.2.2.2.2.1, h.2.2.2.2.2.2.2.2.2.2.2.2.1, h.2.2.2.2.2.2.2.2.2.2.2.2.2.1, h.2.2.2.2.2.2.2.2.2.2.2.2.2.2.1, h.2.2.2.2.2.2.2.2.2.2.2.2.2.2.2.1, h.2.2.2.2.2.2.2.2.2.2.2.2.2.2.2.2.1, h.2.2.2.2.2.2.2.2.2.2.2.2.2.2.2.2.2.1, h.2.2.2.2.2.2.2.2.2.2.2.2.2.2.2.2.2.2.1, h.2.2.2.2.2.2.2.2.2.2.2.2.2.2.2.2.2.2.2.1, h.2.2.2.2.2.2.2.2.2.2.2.2.2.2.2.2.2.2.2.2.1, h.2.2.2.2.2.2.2.2.2.2.2.2.2.2.2.2.2.2.2.2.2.1, h.2.2.2.2.2.2.2.2.2.2.2.2.2.2.2.2.2.2.2.2.2.2.1, h.2.2.2.2.2.2.2.2.2.2.2.2.2.2.2.2.2.2.2.2.2.2.2.1, h.2.2.2.2.2.2.2.2.2.2.2.2.2.2.2.2.2.2.2.2.2.2.2.2.1, h.2.2.2.2.2.2.2.2.2.2.2.2.2.2.2.2.2.2.2.2.2.2.2.2.2.1, h.2.2.2.2.2.2.2.2.2.2.2.2.2.2.2.2.2.2.2.2.2.2.2.2.2.2.1, h.2.2.2.2.2.2.2.2.2.2.2.2.2.2.2.2.2.2.2.2.2.2.2.2.2.2.2.1, h.2.2.2.2.2.2.2.2.2.2.2.2.2.2.2.2.2.2.2.2.2.2.2.2.2.2.2.2.1, h.2.2.2.2.2.2.2.2.2.2.2.2.2.2.2.2.2.2.2.2.2.2.2.2.2.2.2.2.2.1, h.2.2.2.2.2.2.2.2.2.2.2.2.2.2.2.2.2.2.2.2.2.2.2.2.2.2.2.2.2.2.1, h.2.2.2.2.2.2.2.2.2.2.2.2.2.2.2.2.2.2.2.2.2.2.2.2.2.2.2.2.2.2.2.1, h.2.2.2.2.2.2.2.2.2.2.2.2.2.2.2.2.2.2.2.2.2.2.2.2.2.2.2.2.2.2.2.2.1, h.2.2.2.2.2.2.2.2.2.2.2.2.2.2.2.2.2.2.2.2.2.2.2.2.2.2.2.2.2.2.2.2.2.1, h.2.2.2.2.2.2.2.2.2.2.2.2.2.2.2.2.2.2.2.2.2.2.2.2.2.2.2.2.2.2.2.2.2.2.1, h.2.2.2.2.2.2.2.2.2.2.2.2.2.2.2.2.2.2.2.2.2.2.2.2.2.2.2.2.2.2.2.2.2.2.2.1, h.2.2.2.2.2.2.2.2.2.2.2.2.2.2.2.2.2.2.2.2.2.2.2.2.2.2.2.2.2.2.2.2.2.2.2.2.1, h.2.2.2.2.2.2.2.2.2.2.2.2.2.2.2.2.2.2.2.2.2.2.2.2.2.2.2.2.2.2.2.2.2.2.2.2.2.1, h.2.2.2.2.2.2.2.2.2.2.2.2.2.2.2.2.2.2.2.2.2.2.2.2.2.2.2.2.2.2.2.2.2.2.2.2.2.2.1, h.2.2.2.2.2.2.2.2.2.2.2.2.2.2.2.2.2.2.2.2.2.2.2.2.2.2.2.2.2.2.2.2.2.2.2.2.2.2.2.1, h.2.2.2.2.2.2.2.2.2.2.2.2.2.2.2.2.2.2.2.2.2.2.2.2.2.2.2.2.2.2.2.2.2.2.2.2.2.2.2.2.1, h.2.2.2.2.2.2.2.2.2.2.2.2.2.2.2.2.2.2.2.2.2.2.2.2.2.2.2.2.2.2.2.2.2.2.2.2.2.2.2.2.2.1, h.2.2.2.2.2.2.2.2.2.2.2.2.2.2.2.2.2.2.2.2.2.2.2.2.2.2.2.2.2.2.2.2.2.2.2.2.2.2.2.2.2.2.1, h.2.2.2.2.2.2.2.2.2.2.2.2.2.2.2.2.2.2.2.2.2.2.2.2.2.2.2.2.2.2.2.2.2.2.2.2.2.2.2.2.2.2.2.1, h.2.2.2.2.2.2.2.2.2.2.2.2.2.2.2.2.2.2.2.2.2.2.2.2.2.2.2.2.2.2.2.2.2.2.2.2.2.2.2.2.2.2.2.2.1, h.2.2.2.2.2.2.2.2.2.2.2.2.2.2.2.2.2.2.2.2.2.2.2.2.2.2.2.2.2.2.2.2.2.2.2.2.2.2.2.2.2.2.2.2.2.1, h.2.2.2.2.2.2.2.2.2.2.2.2.2.2.2.2.2.2.2.2.2.2.2.2.2.2.2.2.2.2.2.2.2.2.2.2.2.2.2.2.2.2.2.2.2.2.1, h.2.2.2.2.2.2.2.2.2.2.2.2.2.2.2.2.2.2.2.2.2.2.2.2.2.2.2.2.2.2.2.2.2.2.2.2.2.2.2.2.2.2.2.2.2.2.2.1, h.2.2.2.2.2.2.2.2.2.2.2.2.2.2.2.2.2.2.2.2.2.2.2.2.2.2.2.2.2.2.2.2.2.2.2.2.2.2.2.2.2.2.2.2.2.2.2.2.1, h.2.2.2.2.2.2.2.2.2.2.2.2.2.2.2.2.2.2.2.2.2.2.2.2.2.2.2.2.2.2.2.2.2.2.2.2.2.2.2.2.2.2.2.2.2.2.2.2.2.1, h.2.2.2.2.2.2.2.2.2.2.2.2.2.2.2.2.2.2.2.2.2.2.2.2.2.2.2.2.2.2.2.2.2.2.2.2.2.2.2.2.2.2.2.2.2.2.2.2.2.2.1, h.2.2.2.2.2.2.2.2.2.2.2.2.2.2.2.2.2.2.2.2.2.2.2.2.2.2.2.2.2.2.2.2.2.2.2.2.2.2.2.2.2.2.2.2.2.2.2.2.2.2.2.1, h.2.2.2.2.2.2.2.2.2.2.2.2.2.2.2.2.2.2.2.2.2.2.2.2.2.2.2.2.2.2.2.2.2.2.2.2.2.2.2.2.2.2.2.2.2.2.2.2.2.2.2.2.1, h.2.2.2.2.2.2.2.2.2.2.2.2.2.2.2.2.2.2.2.2.2.2.2.2.2.2.2.2.2.2.2.2.2.2.2.2.2.2.2.2.2.2.2.2.2.2.2.2.2.2.2.2.2.1, h.2.2.2.2.2.2.2.2.2.2.2.2.2.2.2.2.2.2.2.2.2.2.2.2.2.2.2.2.2.2.2.2.2.2.2.2.2.2.2.2.2.2.2.2.2.2.2.2.2.2.2.2.2.2.1, h.2.2.2.2.2.2.2.2.2.2.2.2.2.2.2.2.2.2.2.2.2.2.2.2.2.2.2.2.2.2.2.2.2.2.2.2.2.2.2.2.2.2.2.2.2.2.2.2.2.2.2.2.2.2.2.1, h.2.2.2.2.2.2.2.2.2.2.2.2.2.2.2.2.2.2.2.2.2.2.2.2.2.2.2.2.2.2.2.2.2.2.2.2.2.2.2.2.2.2.2.2.2.2.2.2.2.2.2.2.2.2.2.2.1, h.2.2.2.2.2.2.2.2.2.2.2.2.2.2.2.2.2.2.2.2.2.2.2.2.2.2.2.2.2.2.2.2.2.2.2.2.2.2.2.2.2.2.2.2.2.2.2.2.2.2.2.2.2.2.2.2.2.1, h.2.2.2.2.2.2.2.2.2.2.2.2.2.2.2.2.2.2.2.2.2.2.2.2.2.2.2.2.2.2.2.2.2.2.2.2.2.2.2.2.2.2.2.2.2.2.2.2.2.2.2.2.2.2.2.2.2.2.1, h.2.2.2.2.2.2.2.2.2.2.2.2.2.2.2.2.2.2.2.2.2.2.2.2.2.2.2.2.2.2.2.2.2.2.2.2.2.2.2.2.2.2.2.2.2.2.2.2.2.2.2.2.2.2.2.2.2.2.2⟩
theorem Km26_I4 {u v : St} (h : Km26 u v) : fI v 0 4 = fI u 0 4 := h.2.2.1
set_option maxHeartbeats 4000000 in
set_option maxRecDepth 100000 in
theorem T_X11_must (l : Launch) (D : va_G) (cy : Nat → ClassId) (a : Nat → Nat) (u : St) (hJ : MI a u) (hp0 : (fI u 0 7).toInt ≤ (fI u 0 3).toInt) (hp1 : (fI u 0 6).toInt ≤ (fI u 0 7).toInt) (hp2 : (fI u 0 8).toInt = 0 ∨ (fI u 0 6).toInt < (fI u 0 7).toInt) (x1 : Int32)  : Mv l D cy (mW cy a) yX11_must (.code yX11_must cX11_must 2 none) (rmo 2 44) [.ref (a 0), .int x1] u (fun (u' : St) => (MI a u') ∧ (Km27 u u') ∧ ((fI u' 0 7).toInt ≤ (fI u' 0 3).toInt) ∧ ((fI u' 0 6).toInt ≤ (fI u' 0 7).toInt) ∧ ((fI u' 0 8).toInt = 0 ∨ (fI u' 0 6).toInt < (fI u' 0 7).toInt) ∧ ((fI u 0 6).toInt ≤ (fI u' 0 6).toInt) ∧ ((fI u 0 4).toInt = 0 ∨ ¬ (fI u' 0 4).toInt = 0)) := by
  refine Mv.of (own := RX11) rfl (by decide) (Nat.le_of_ble_eq_true rfl) ?_
  have hT : Km27 u u := Km27.rf
  have hJ0 := hJ
  intro p e s m below meth c A Q ls C hret hO hl
  obtain ⟨hx, hb, hml, hown, ht, hK, hA⟩ := id C
  have hl : lv_has ls 2 [(0, .ref (a 0)), (1, .int x1)] := hl
  refine lv_aload_n hx hb dX11_must_0 rfl (lv_at hl 0 rfl) ?_
  have g1 : 0 ≤ (fI u 0 4).toInt ∧ (fI u 0 4).toInt ≤ 5 := by have h := MI_4 hJ0; exact h
  refine cVi (w := mW cy a) (As := []) (rest := []) C hO (T_X11_isGood l D cy a _ (by exact hJ) ((fI u 0 4)) (by exact rfl)) (cwV 0 ht (gV wd_1596 wd_1598 wd_50 wd_121 wd_1599) rfl rfl rfl hd_yX11_isGood ⟨Nat.le_of_ble_eq_true rfl, Nat.le_of_ble_eq_true rfl⟩) 0 rfl mW_0 rfl rfl hl.1 (Nat.le_of_ble_eq_true rfl) dX11_must_1 rfl ⟨Nat.zero_le _, Nat.zero_le _⟩ (fun r2 u3 H locs hp4 hO => ?_)
  obtain ⟨hr2, hu3⟩ := hp4
  rw [hu3] at hO
  rcases hr2 with ⟨hcr2, hvr2⟩ | ⟨hcr2, hvr2⟩
  · subst hvr2
    refine bt_ne (tgt := 8) (X := 1) hx hb dX11_must_4 (by decide) rfl (by omega) ?_
    refine lv_iload_n hx hb dX11_must_8 rfl (lv_at hl 1 rfl) ?_
    refine bs_eq (tgt := 19) (X := (x1).toInt) hx hb dX11_must_9 (by decide) rfl (fun c5 => ?_) (fun c5 => ?_)
    · refine lv_aload_n hx hb dX11_must_19 rfl (lv_at hl 0 rfl) ?_
      refine cVv (w := mW cy a) (As := []) (rest := []) C hO (T_X11_misplaced l D cy a _ (by exact hJ)) (cwV 0 ht (gV wd_1615 wd_1617 wd_54 wd_121 wd_1618) rfl rfl rfl hd_yX11_misplaced ⟨Nat.le_of_ble_eq_true rfl, Nat.le_of_ble_eq_true rfl⟩) 0 rfl mW_0 rfl rfl hl.1 (Nat.le_of_ble_eq_true rfl) dX11_must_20 rfl ⟨Nat.zero_le _, Nat.zero_le _⟩ (fun u7 H locs hp8 hO => ?_)
      obtain ⟨hJ, hTu7, hx0u7⟩ := hp8
      have hT : Km27 u u7 := Km27.tr (by exact hT) (Km25_to_Km27 hTu7)
      have g9 : 0 ≤ (fI u7 0 4).toInt ∧ (fI u7 0 4).toInt ≤ 5 := by have h := MI_4 hJ; exact h
      have y0u7 : ¬ ((fI u7 0 4) : Int32).toInt = 0 := by exact hx0u7
      have g10 : 0 ≤ (fI u 0 7).toInt ∧ (fI u 0 7).toInt ≤ 1601 := by have h := MI_7 hJ0; exact h
      have g11 : 0 ≤ (fI u 0 3).toInt ∧ (fI u 0 3).toInt ≤ 1600 := by have h := MI_3 hJ0; exact h
      have q12 : ((fI u 0 7) : Int32).toInt ≤ ((fI u 0 3) : Int32).toInt := by first | omega | decide
      have g13 : 0 ≤ (fI u 0 6).toInt ∧ (fI u 0 6).toInt ≤ 1600 := by have h := MI_6 hJ0; exact h
      have q14 : ((fI u 0 6) : Int32).toInt ≤ ((fI u 0 7) : Int32).toInt := by first | omega | decide
      have g15 : 0 ≤ (fI u 0 8).toInt ∧ (fI u 0 8).toInt ≤ 5 := by have h := MI_8 hJ0; exact h
      have q16 : ((fI u 0 8) : Int32).toInt = 0 ∨ ((fI u 0 6) : Int32).toInt < ((fI u 0 7) : Int32).toInt := by first | omega | decide
      have q17 : ((fI u 0 6) : Int32).toInt ≤ ((fI u 0 6) : Int32).toInt := by first | omega | decide
      have q18 : ((fI u 0 4) : Int32).toInt = 0 ∨ ¬ ((fI u7 0 4) : Int32).toInt = 0 := by first | omega | decide
      refine hret _ _ _ _ _ dX11_must_23 ?_ hO
      exact ⟨hJ, hT, q12, q14, q16, q17, q18⟩
    · refine lv_aload_n hx hb dX11_must_12 rfl (lv_at hl 0 rfl) ?_
      have g19 : 0 ≤ (fI u 0 7).toInt ∧ (fI u 0 7).toInt ≤ 1601 := by have h := MI_7 hJ0; exact h
      have g20 : 0 ≤ (fI u 0 3).toInt ∧ (fI u 0 3).toInt ≤ 1600 := by have h := MI_3 hJ0; exact h
      refine cVv (w := mW cy a) (As := []) (rest := []) C hO (T_X11_goOn l D cy a _ (by exact hJ) (by exact (show ((fI u 0 7) : Int32).toInt ≤ ((fI u 0 3) : Int32).toInt from by first | omega | decide))) (cwV 0 ht (gV wd_1556 wd_1558 wd_48 wd_121 wd_1559) rfl rfl rfl hd_yX11_goOn ⟨Nat.le_of_ble_eq_true rfl, Nat.le_of_ble_eq_true rfl⟩) 0 rfl mW_0 rfl rfl hl.1 (Nat.le_of_ble_eq_true rfl) dX11_must_13 rfl ⟨Nat.zero_le _, Nat.zero_le _⟩ (fun u22 H locs hp23 hO => ?_)
      obtain ⟨hJ, hTu22, hx0u22, hx1u22, hx2u22, hx3u22⟩ := hp23
      have hT : Km27 u u22 := Km27.tr (by exact hT) (Km26_to_Km27 hTu22)
      have g24 : 0 ≤ (fI u22 0 7).toInt ∧ (fI u22 0 7).toInt ≤ 1601 := by have h := MI_7 hJ; exact h
      have y0u22 : ((fI u22 0 7) : Int32).toInt ≤ ((fI u 0 3) : Int32).toInt := by have h := hx0u22; simp only [(Km27_I3 hT)] at h; exact h
      have g25 : 0 ≤ (fI u22 0 6).toInt ∧ (fI u22 0 6).toInt ≤ 1600 := by have h := MI_6 hJ; exact h
      have y1u22 : ((fI u22 0 6) : Int32).toInt ≤ ((fI u22 0 7) : Int32).toInt := by exact hx1u22
      have g26 : 0 ≤ (fI u22 0 8).toInt ∧ (fI u22 0 8).toInt ≤ 5 := by have h := MI_8 hJ; exact h
      have y2u22 : ((fI u22 0 8) : Int32).toInt = 0 ∨ ((fI u22 0 6) : Int32).toInt < ((fI u22 0 7) : Int32).toInt := by exact hx2u22
      have y3u22 : ((fI u 0 7) : Int32).toInt ≤ ((fI u22 0 6) : Int32).toInt := by exact hx3u22
      refine lv_goto (tgt := 23) hx hb dX11_must_16 (by decide) ?_
      have q27 : ((fI u22 0 7) : Int32).toInt ≤ ((fI u 0 3) : Int32).toInt := by first | omega | decide
      have q28 : ((fI u22 0 6) : Int32).toInt ≤ ((fI u22 0 7) : Int32).toInt := by first | omega | decide
      have q29 : ((fI u22 0 8) : Int32).toInt = 0 ∨ ((fI u22 0 6) : Int32).toInt < ((fI u22 0 7) : Int32).toInt := by first | omega | decide
      have g30 : 0 ≤ (fI u 0 6).toInt ∧ (fI u 0 6).toInt ≤ 1600 := by have h := MI_6 hJ0; exact h
      have q31 : ((fI u 0 6) : Int32).toInt ≤ ((fI u22 0 6) : Int32).toInt := by first | omega | decide
      have q32 : ((fI u 0 4) : Int32).toInt = 0 ∨ ¬ ((fI u 0 4) : Int32).toInt = 0 := by first | omega | decide
      refine hret _ _ _ _ _ dX11_must_23 ?_ hO
      exact ⟨hJ, hT, q27, q28, q29, q31, q32⟩
  · subst hvr2
    refine bn_ne (X := 0) hx hb dX11_must_4 rfl (by omega) ?_ (tgt := 8) (by decide)
    have g33 : 0 ≤ (fI u 0 7).toInt ∧ (fI u 0 7).toInt ≤ 1601 := by have h := MI_7 hJ0; exact h
    have g34 : 0 ≤ (fI u 0 3).toInt ∧ (fI u 0 3).toInt ≤ 1600 := by have h := MI_3 hJ0; exact h
    have q35 : ((fI u 0 7) : Int32).toInt ≤ ((fI u 0 3) : Int32).toInt := by first | omega | decide
    have g36 : 0 ≤ (fI u 0 6).toInt ∧ (fI u 0 6).toInt ≤ 1600 := by have h := MI_6 hJ0; exact h
    have q37 : ((fI u 0 6) : Int32).toInt ≤ ((fI u 0 7) : Int32).toInt := by first | omega | decide
    have g38 : 0 ≤ (fI u 0 8).toInt ∧ (fI u 0 8).toInt ≤ 5 := by have h := MI_8 hJ0; exact h
    have q39 : ((fI u 0 8) : Int32).toInt = 0 ∨ ((fI u 0 6) : Int32).toInt < ((fI u 0 7) : Int32).toInt := by first | omega | decide
    have q40 : ((fI u 0 6) : Int32).toInt ≤ ((fI u 0 6) : Int32).toInt := by first | omega | decide
    have q41 : ((fI u 0 4) : Int32).toInt = 0 ∨ ¬ ((fI u 0 4) : Int32).toInt = 0 := by first | omega | decide
    refine hret _ _ _ _ _ dX11_must_7 ?_ hO
    exact ⟨hJ, hT, q35, q37, q39, q40, q41⟩
theorem dX11_numeral_0 : decode cX11_numeral 0 = .ok (.aload_n 0, 1) := by decide +kernel
theorem dX11_numeral_1 : decode cX11_numeral 1 = .ok (.invokevirtual 236, 3) := by decide +kernel
theorem dX11_numeral_4 : decode cX11_numeral 4 = .ok (.ifCond .ne 5, 3) := by decide +kernel
theorem dX11_numeral_7 : decode cX11_numeral 7 = .ok (.iload_n 1, 1) := by decide +kernel
theorem dX11_numeral_8 : decode cX11_numeral 8 = .ok (.ireturn, 1) := by decide +kernel
theorem dX11_numeral_9 : decode cX11_numeral 9 = .ok (.aload_n 0, 1) := by decide +kernel
theorem dX11_numeral_10 : decode cX11_numeral 10 = .ok (.getfield 208, 3) := by decide +kernel
theorem dX11_numeral_13 : decode cX11_numeral 13 = .ok (.iconst 4, 1) := by decide +kernel
theorem dX11_numeral_14 : decode cX11_numeral 14 = .ok (.if_icmp .eq 7, 3) := by decide +kernel
theorem dX11_numeral_17 : decode cX11_numeral 17 = .ok (.aload_n 0, 1) := by decide +kernel
theorem dX11_numeral_18 : decode cX11_numeral 18 = .ok (.invokevirtual 243, 3) := by decide +kernel
theorem dX11_numeral_21 : decode cX11_numeral 21 = .ok (.aload_n 0, 1) := by decide +kernel
theorem dX11_numeral_22 : decode cX11_numeral 22 = .ok (.invokevirtual 236, 3) := by decide +kernel
theorem dX11_numeral_25 : decode cX11_numeral 25 = .ok (.ifCond .eq 28, 3) := by decide +kernel
theorem dX11_numeral_28 : decode cX11_numeral 28 = .ok (.aload_n 0, 1) := by decide +kernel
theorem dX11_numeral_29 : decode cX11_numeral 29 = .ok (.getfield 226, 3) := by decide +kernel
theorem dX11_numeral_32 : decode cX11_numeral 32 = .ok (.iload_n 1, 1) := by decide +kernel
theorem dX11_numeral_33 : decode cX11_numeral 33 = .ok (.if_icmp .lt 11, 3) := by decide +kernel
theorem dX11_numeral_36 : decode cX11_numeral 36 = .ok (.aload_n 0, 1) := by decide +kernel
theorem dX11_numeral_37 : decode cX11_numeral 37 = .ok (.getfield 226, 3) := by decide +kernel
theorem dX11_numeral_40 : decode cX11_numeral 40 = .ok (.iload_n 2, 1) := by decide +kernel
theorem dX11_numeral_41 : decode cX11_numeral 41 = .ok (.if_icmp .le 12, 3) := by decide +kernel
theorem dX11_numeral_44 : decode cX11_numeral 44 = .ok (.aload_n 0, 1) := by decide +kernel
theorem dX11_numeral_45 : decode cX11_numeral 45 = .ok (.iconst 4, 1) := by decide +kernel
theorem dX11_numeral_46 : decode cX11_numeral 46 = .ok (.aload_n 0, 1) := by decide +kernel
theorem dX11_numeral_47 : decode cX11_numeral 47 = .ok (.getfield 201, 3) := by decide +kernel
theorem dX11_numeral_50 : decode cX11_numeral 50 = .ok (.invokevirtual 232, 3) := by decide +kernel
theorem dX11_numeral_53 : decode cX11_numeral 53 = .ok (.aload_n 0, 1) := by decide +kernel
theorem dX11_numeral_54 : decode cX11_numeral 54 = .ok (.getfield 226, 3) := by decide +kernel
theorem dX11_numeral_57 : decode cX11_numeral 57 = .ok (.istore_n 3, 1) := by decide +kernel
theorem dX11_numeral_58 : decode cX11_numeral 58 = .ok (.aload_n 0, 1) := by decide +kernel
theorem dX11_numeral_59 : decode cX11_numeral 59 = .ok (.invokevirtual 236, 3) := by decide +kernel
theorem dX11_numeral_62 : decode cX11_numeral 62 = .ok (.ifCond .eq 7, 3) := by decide +kernel
theorem dX11_numeral_65 : decode cX11_numeral 65 = .ok (.aload_n 0, 1) := by decide +kernel
theorem dX11_numeral_66 : decode cX11_numeral 66 = .ok (.invokevirtual 240, 3) := by decide +kernel
theorem dX11_numeral_69 : decode cX11_numeral 69 = .ok (.aload_n 0, 1) := by decide +kernel
theorem dX11_numeral_70 : decode cX11_numeral 70 = .ok (.invokevirtual 236, 3) := by decide +kernel
theorem dX11_numeral_73 : decode cX11_numeral 73 = .ok (.ifCond .eq 7, 3) := by decide +kernel
theorem dX11_numeral_76 : decode cX11_numeral 76 = .ok (.iload_n 3, 1) := by decide +kernel
theorem dX11_numeral_77 : decode cX11_numeral 77 = .ok (.goto 4, 3) := by decide +kernel
theorem dX11_numeral_80 : decode cX11_numeral 80 = .ok (.iload_n 1, 1) := by decide +kernel
theorem dX11_numeral_81 : decode cX11_numeral 81 = .ok (.ireturn, 1) := by decide +kernel
theorem wd_1658 : (Cond.code ⟨"WebCourtModel", "numeral", "(II)I"⟩ prog_13_method_14_code (4 : Nat) (Option.some FieldType.int)) ∈ gtb := gtb_c7 109 (by decide +kernel) rfl
theorem Km25_I9 {u v : St} (h : Km25 u v) : fI v 0 9 = fI u 0 9 := h.2.2.2.2.2.1
set_option maxHeartbeats 4000000 in
set_option maxRecDepth 100000 in
theorem T_X11_numeral (l : Launch) (D : va_G) (cy : Nat → ClassId) (a : Nat → Nat) (u : St) (hJ : MI a u) (hp0 : (fI u 0 7).toInt ≤ (fI u 0 3).toInt) (hp1 : (fI u 0 6).toInt ≤ (fI u 0 7).toInt) (hp2 : (fI u 0 8).toInt = 0 ∨ (fI u 0 6).toInt < (fI u 0 7).toInt) (x1 : Int32) (x2 : Int32)  : Mi l D cy (mW cy a) yX11_numeral (.code yX11_numeral cX11_numeral 4 (some .int)) (rmo 2 44) [.ref (a 0), .int x1, .int x2] u (fun (r : Int32) (u' : St) => (MI a u') ∧ (Km27 u u') ∧ ((fI u' 0 7).toInt ≤ (fI u' 0 3).toInt) ∧ ((fI u' 0 6).toInt ≤ (fI u' 0 7).toInt) ∧ ((fI u' 0 8).toInt = 0 ∨ (fI u' 0 6).toInt < (fI u' 0 7).toInt) ∧ ((fI u 0 6).toInt ≤ (fI u' 0 6).toInt) ∧ ((fI u 0 4).toInt = 0 ∨ ¬ (fI u' 0 4).toInt = 0)) := by
  refine Mi.of (own := RX11) rfl (by decide) (Nat.le_of_ble_eq_true rfl) ?_
  have hT : Km27 u u := Km27.rf
  have hJ0 := hJ
  intro p e s m below meth c A Q ls C hret hO hl
  obtain ⟨hx, hb, hml, hown, ht, hK, hA⟩ := id C
  have hl : lv_has ls 4 [(0, .ref (a 0)), (1, .int x1), (2, .int x2)] := hl
  refine lv_aload_n hx hb dX11_numeral_0 rfl (lv_at hl 0 rfl) ?_
  have g1 : 0 ≤ (fI u 0 4).toInt ∧ (fI u 0 4).toInt ≤ 5 := by have h := MI_4 hJ0; exact h
  refine cVi (w := mW cy a) (As := []) (rest := []) C hO (T_X11_isGood l D cy a _ (by exact hJ) ((fI u 0 4)) (by exact rfl)) (cwV 0 ht (gV wd_1596 wd_1598 wd_50 wd_121 wd_1599) rfl rfl rfl hd_yX11_isGood ⟨Nat.le_of_ble_eq_true rfl, Nat.le_of_ble_eq_true rfl⟩) 0 rfl mW_0 rfl rfl hl.1 (Nat.le_of_ble_eq_true rfl) dX11_numeral_1 rfl ⟨Nat.zero_le _, Nat.zero_le _⟩ (fun r2 u3 H locs hp4 hO => ?_)
  obtain ⟨hr2, hu3⟩ := hp4
  rw [hu3] at hO
  rcases hr2 with ⟨hcr2, hvr2⟩ | ⟨hcr2, hvr2⟩
  · subst hvr2
    refine bt_ne (tgt := 9) (X := 1) hx hb dX11_numeral_4 (by decide) rfl (by omega) ?_
    refine lv_aload_n hx hb dX11_numeral_9 rfl (lv_at hl 0 rfl) ?_
    have g5 : 0 ≤ (fI u 0 8).toInt ∧ (fI u 0 8).toInt ≤ 5 := by have h := MI_8 hJ0; exact h
    refine gf_RX11_208 (v := .int (fI u 0 8)) C hO 0 mW_0 rfl dX11_numeral_10 ?_
    refine lv_iconst (v := 4) hx hb dX11_numeral_13 (by decide) ?_
    refine cs_eq (tgt := 21) (X := ((fI u 0 8)).toInt) (Y := 4) hx hb dX11_numeral_14 (by decide) rfl rfl (fun c6 => ?_) (fun c6 => ?_)
    · refine lv_aload_n hx hb dX11_numeral_21 rfl (lv_at hl 0 rfl) ?_
      refine cVi (w := mW cy a) (As := []) (rest := []) C hO (T_X11_isGood l D cy a _ (by exact hJ) ((fI u 0 4)) (by exact rfl)) (cwV 0 ht (gV wd_1596 wd_1598 wd_50 wd_121 wd_1599) rfl rfl rfl hd_yX11_isGood ⟨Nat.le_of_ble_eq_true rfl, Nat.le_of_ble_eq_true rfl⟩) 0 rfl mW_0 rfl rfl hl.1 (Nat.le_of_ble_eq_true rfl) dX11_numeral_22 rfl ⟨Nat.zero_le _, Nat.zero_le _⟩ (fun r7 u8 H locs hp9 hO => ?_)
      obtain ⟨hr7, hu8⟩ := hp9
      rw [hu8] at hO
      rcases hr7 with ⟨hcr7, hvr7⟩ | ⟨hcr7, hvr7⟩
      · subst hvr7
        refine bn_eq (X := 1) hx hb dX11_numeral_25 rfl (by omega) ?_ (tgt := 53) (by decide)
        refine lv_aload_n hx hb dX11_numeral_28 rfl (lv_at hl 0 rfl) ?_
        refine gf_RX11_226 (v := .int (fI u 0 9)) C hO 0 mW_0 rfl dX11_numeral_29 ?_
        refine lv_iload_n hx hb dX11_numeral_32 rfl (lv_at hl 1 rfl) ?_
        refine cs_lt (tgt := 44) (X := ((fI u 0 9)).toInt) (Y := (x1).toInt) hx hb dX11_numeral_33 (by decide) rfl rfl (fun c10 => ?_) (fun c10 => ?_)
        · refine lv_aload_n hx hb dX11_numeral_44 rfl (lv_at hl 0 rfl) ?_
          refine lv_iconst (v := 4) hx hb dX11_numeral_45 (by decide) ?_
          refine lv_aload_n hx hb dX11_numeral_46 rfl (lv_at hl 0 rfl) ?_
          have g11 : 0 ≤ (fI u 0 6).toInt ∧ (fI u 0 6).toInt ≤ 1600 := by have h := MI_6 hJ0; exact h
          refine gf_RX11_201 (v := .int (fI u 0 6)) C hO 0 mW_0 rfl dX11_numeral_47 ?_
          refine cVv (w := mW cy a) (As := [.int 4, .int (fI u 0 6)]) (rest := []) C hO (T_X11_fails l D cy a _ (by exact hJ) (4) ((fI u 0 6)) (by first | omega | decide)) (cwV 2 ht (gV wd_1619 wd_1621 wd_55 wd_121 wd_1622) rfl rfl rfl hd_yX11_fails ⟨Nat.le_of_ble_eq_true rfl, Nat.le_of_ble_eq_true rfl⟩) 0 rfl mW_0 rfl rfl hl.1 (Nat.le_of_ble_eq_true rfl) dX11_numeral_50 rfl ⟨Nat.zero_le _, Nat.zero_le _⟩ (fun u13 H locs hp14 hO => ?_)
          obtain ⟨hJ, hTu13, hx0u13⟩ := hp14
          have hT : Km27 u u13 := Km27.tr (by exact hT) (Km25_to_Km27 hTu13)
          have g15 : 0 ≤ (fI u13 0 4).toInt ∧ (fI u13 0 4).toInt ≤ 5 := by have h := MI_4 hJ; exact h
          have y0u13 : ¬ ((fI u13 0 4) : Int32).toInt = 0 := by exact hx0u13
          refine lv_aload_n hx hb dX11_numeral_53 rfl (lv_at hl 0 rfl) ?_
          refine gf_RX11_226 (v := .int (fI u 0 9)) C hO 0 mW_0 (congrArg (fun z : Int32 => some (Value.int z)) (Km25_I9 hTu13)) dX11_numeral_54 ?_
          refine lv_istore_n (lv' := [(3, .int (fI u 0 9)), (0, .ref (a 0)), (1, .int x1), (2, .int x2)]) hx hb dX11_numeral_57 rfl hl (by decide) rfl (fun ls hl => ?_)
          refine lv_aload_n hx hb dX11_numeral_58 rfl (lv_at hl 1 rfl) ?_
          refine cVi (w := mW cy a) (As := []) (rest := []) C hO (T_X11_isGood l D cy a _ (by exact hJ) ((fI u13 0 4)) (by exact rfl)) (cwV 0 ht (gV wd_1596 wd_1598 wd_50 wd_121 wd_1599) rfl rfl rfl hd_yX11_isGood ⟨Nat.le_of_ble_eq_true rfl, Nat.le_of_ble_eq_true rfl⟩) 0 rfl mW_0 rfl rfl hl.1 (Nat.le_of_ble_eq_true rfl) dX11_numeral_59 rfl ⟨Nat.zero_le _, Nat.zero_le _⟩ (fun r16 u17 H locs hp18 hO => ?_)
          obtain ⟨hr16, hu17⟩ := hp18
          rw [hu17] at hO
          rcases hr16 with ⟨hcr16, hvr16⟩ | ⟨hcr16, hvr16⟩
          · exfalso
            omega
          · subst hvr16
            refine bt_eq (tgt := 69) (X := 0) hx hb dX11_numeral_62 (by decide) rfl (by omega) ?_
            refine lv_aload_n hx hb dX11_numeral_69 rfl (lv_at hl 1 rfl) ?_
            refine cVi (w := mW cy a) (As := []) (rest := []) C hO (T_X11_isGood l D cy a _ (by exact hJ) ((fI u13 0 4)) (by exact rfl)) (cwV 0 ht (gV wd_1596 wd_1598 wd_50 wd_121 wd_1599) rfl rfl rfl hd_yX11_isGood ⟨Nat.le_of_ble_eq_true rfl, Nat.le_of_ble_eq_true rfl⟩) 0 rfl mW_0 rfl rfl hl.1 (Nat.le_of_ble_eq_true rfl) dX11_numeral_70 rfl ⟨Nat.zero_le _, Nat.zero_le _⟩ (fun r19 u20 H locs hp21 hO => ?_)
            obtain ⟨hr19, hu20⟩ := hp21
            rw [hu20] at hO
            rcases hr19 with ⟨hcr19, hvr19⟩ | ⟨hcr19, hvr19⟩
            · exfalso
              omega
            · subst hvr19
              refine bt_eq (tgt := 80) (X := 0) hx hb dX11_numeral_73 (by decide) rfl (by omega) ?_
              refine lv_iload_n hx hb dX11_numeral_80 rfl (lv_at hl 2 rfl) ?_
              have g22 : 0 ≤ (fI u 0 7).toInt ∧ (fI u 0 7).toInt ≤ 1601 := by have h := MI_7 hJ0; exact h
              have g23 : 0 ≤ (fI u 0 3).toInt ∧ (fI u 0 3).toInt ≤ 1600 := by have h := MI_3 hJ0; exact h
              have q24 : ((fI u 0 7) : Int32).toInt ≤ ((fI u 0 3) : Int32).toInt := by first | omega | decide
              have q25 : ((fI u 0 6) : Int32).toInt ≤ ((fI u 0 7) : Int32).toInt := by first | omega | decide
              have q26 : ((fI u 0 8) : Int32).toInt = 0 ∨ ((fI u 0 6) : Int32).toInt < ((fI u 0 7) : Int32).toInt := by first | omega | decide
              have q27 : ((fI u 0 6) : Int32).toInt ≤ ((fI u 0 6) : Int32).toInt := by first | omega | decide
              have q28 : ((fI u 0 4) : Int32).toInt = 0 ∨ ¬ ((fI u13 0 4) : Int32).toInt = 0 := by first | omega | decide
              refine hret _ _ _ _ _ _ dX11_numeral_81 rfl ?_ hO
              exact ⟨hJ, hT, q24, q25, q26, q27, q28⟩
        · refine lv_aload_n hx hb dX11_numeral_36 rfl (lv_at hl 0 rfl) ?_
          refine gf_RX11_226 (v := .int (fI u 0 9)) C hO 0 mW_0 rfl dX11_numeral_37 ?_
          refine lv_iload_n hx hb dX11_numeral_40 rfl (lv_at hl 2 rfl) ?_
          refine cs_le (tgt := 53) (X := ((fI u 0 9)).toInt) (Y := (x2).toInt) hx hb dX11_numeral_41 (by decide) rfl rfl (fun c29 => ?_) (fun c29 => ?_)
          · refine lv_aload_n hx hb dX11_numeral_53 rfl (lv_at hl 0 rfl) ?_
            refine gf_RX11_226 (v := .int (fI u 0 9)) C hO 0 mW_0 rfl dX11_numeral_54 ?_
            refine lv_istore_n (lv' := [(3, .int (fI u 0 9)), (0, .ref (a 0)), (1, .int x1), (2, .int x2)]) hx hb dX11_numeral_57 rfl hl (by decide) rfl (fun ls hl => ?_)
            refine lv_aload_n hx hb dX11_numeral_58 rfl (lv_at hl 1 rfl) ?_
            refine cVi (w := mW cy a) (As := []) (rest := []) C hO (T_X11_isGood l D cy a _ (by exact hJ) ((fI u 0 4)) (by exact rfl)) (cwV 0 ht (gV wd_1596 wd_1598 wd_50 wd_121 wd_1599) rfl rfl rfl hd_yX11_isGood ⟨Nat.le_of_ble_eq_true rfl, Nat.le_of_ble_eq_true rfl⟩) 0 rfl mW_0 rfl rfl hl.1 (Nat.le_of_ble_eq_true rfl) dX11_numeral_59 rfl ⟨Nat.zero_le _, Nat.zero_le _⟩ (fun r30 u31 H locs hp32 hO => ?_)
            obtain ⟨hr30, hu31⟩ := hp32
            rw [hu31] at hO
            rcases hr30 with ⟨hcr30, hvr30⟩ | ⟨hcr30, hvr30⟩
            · subst hvr30
              refine bn_eq (X := 1) hx hb dX11_numeral_62 rfl (by omega) ?_ (tgt := 69) (by decide)
              refine lv_aload_n hx hb dX11_numeral_65 rfl (lv_at hl 1 rfl) ?_
              have g33 : 0 ≤ (fI u 0 7).toInt ∧ (fI u 0 7).toInt ≤ 1601 := by have h := MI_7 hJ0; exact h
              have g34 : 0 ≤ (fI u 0 3).toInt ∧ (fI u 0 3).toInt ≤ 1600 := by have h := MI_3 hJ0; exact h
              refine cVv (w := mW cy a) (As := []) (rest := []) C hO (T_X11_goOn l D cy a _ (by exact hJ) (by exact (show ((fI u 0 7) : Int32).toInt ≤ ((fI u 0 3) : Int32).toInt from by first | omega | decide))) (cwV 0 ht (gV wd_1556 wd_1558 wd_48 wd_121 wd_1559) rfl rfl rfl hd_yX11_goOn ⟨Nat.le_of_ble_eq_true rfl, Nat.le_of_ble_eq_true rfl⟩) 0 rfl mW_0 rfl rfl hl.1 (Nat.le_of_ble_eq_true rfl) dX11_numeral_66 rfl ⟨Nat.zero_le _, Nat.zero_le _⟩ (fun u36 H locs hp37 hO => ?_)
              obtain ⟨hJ, hTu36, hx0u36, hx1u36, hx2u36, hx3u36⟩ := hp37
              have hT : Km27 u u36 := Km27.tr (by exact hT) (Km26_to_Km27 hTu36)
              have g38 : 0 ≤ (fI u36 0 7).toInt ∧ (fI u36 0 7).toInt ≤ 1601 := by have h := MI_7 hJ; exact h
              have y0u36 : ((fI u36 0 7) : Int32).toInt ≤ ((fI u 0 3) : Int32).toInt := by have h := hx0u36; simp only [(Km27_I3 hT)] at h; exact h
              have g39 : 0 ≤ (fI u36 0 6).toInt ∧ (fI u36 0 6).toInt ≤ 1600 := by have h := MI_6 hJ; exact h
              have y1u36 : ((fI u36 0 6) : Int32).toInt ≤ ((fI u36 0 7) : Int32).toInt := by exact hx1u36
              have g40 : 0 ≤ (fI u36 0 8).toInt ∧ (fI u36 0 8).toInt ≤ 5 := by have h := MI_8 hJ; exact h
              have y2u36 : ((fI u36 0 8) : Int32).toInt = 0 ∨ ((fI u36 0 6) : Int32).toInt < ((fI u36 0 7) : Int32).toInt := by exact hx2u36
              have y3u36 : ((fI u 0 7) : Int32).toInt ≤ ((fI u36 0 6) : Int32).toInt := by exact hx3u36
              refine lv_aload_n hx hb dX11_numeral_69 rfl (lv_at hl 1 rfl) ?_
              refine cVi (w := mW cy a) (As := []) (rest := []) C hO (T_X11_isGood l D cy a _ (by exact hJ) ((fI u 0 4)) (by exact (Km26_I4 hTu36))) (cwV 0 ht (gV wd_1596 wd_1598 wd_50 wd_121 wd_1599) rfl rfl rfl hd_yX11_isGood ⟨Nat.le_of_ble_eq_true rfl, Nat.le_of_ble_eq_true rfl⟩) 0 rfl mW_0 rfl rfl hl.1 (Nat.le_of_ble_eq_true rfl) dX11_numeral_70 rfl ⟨Nat.zero_le _, Nat.zero_le _⟩ (fun r41 u42 H locs hp43 hO => ?_)
              obtain ⟨hr41, hu42⟩ := hp43
              rw [hu42] at hO
              rcases hr41 with ⟨hcr41, hvr41⟩ | ⟨hcr41, hvr41⟩
              · subst hvr41
                refine bn_eq (X := 1) hx hb dX11_numeral_73 rfl (by omega) ?_ (tgt := 80) (by decide)
                refine lv_iload_n hx hb dX11_numeral_76 rfl (lv_at hl 0 rfl) ?_
                refine lv_goto (tgt := 81) hx hb dX11_numeral_77 (by decide) ?_
                have q44 : ((fI u36 0 7) : Int32).toInt ≤ ((fI u 0 3) : Int32).toInt := by first | omega | decide
                have q45 : ((fI u36 0 6) : Int32).toInt ≤ ((fI u36 0 7) : Int32).toInt := by first | omega | decide
                have q46 : ((fI u36 0 8) : Int32).toInt = 0 ∨ ((fI u36 0 6) : Int32).toInt < ((fI u36 0 7) : Int32).toInt := by first | omega | decide
                have g47 : 0 ≤ (fI u 0 6).toInt ∧ (fI u 0 6).toInt ≤ 1600 := by have h := MI_6 hJ0; exact h
                have q48 : ((fI u 0 6) : Int32).toInt ≤ ((fI u36 0 6) : Int32).toInt := by first | omega | decide
                have q49 : ((fI u 0 4) : Int32).toInt = 0 ∨ ¬ ((fI u 0 4) : Int32).toInt = 0 := by first | omega | decide
                refine hret _ _ _ _ _ _ dX11_numeral_81 rfl ?_ hO
                exact ⟨hJ, hT, q44, q45, q46, q48, q49⟩
              · exfalso
                omega
            · exfalso
              omega
          · refine lv_aload_n hx hb dX11_numeral_44 rfl (lv_at hl 0 rfl) ?_
            refine lv_iconst (v := 4) hx hb dX11_numeral_45 (by decide) ?_
            refine lv_aload_n hx hb dX11_numeral_46 rfl (lv_at hl 0 rfl) ?_
            have g50 : 0 ≤ (fI u 0 6).toInt ∧ (fI u 0 6).toInt ≤ 1600 := by have h := MI_6 hJ0; exact h
            refine gf_RX11_201 (v := .int (fI u 0 6)) C hO 0 mW_0 rfl dX11_numeral_47 ?_
            refine cVv (w := mW cy a) (As := [.int 4, .int (fI u 0 6)]) (rest := []) C hO (T_X11_fails l D cy a _ (by exact hJ) (4) ((fI u 0 6)) (by first | omega | decide)) (cwV 2 ht (gV wd_1619 wd_1621 wd_55 wd_121 wd_1622) rfl rfl rfl hd_yX11_fails ⟨Nat.le_of_ble_eq_true rfl, Nat.le_of_ble_eq_true rfl⟩) 0 rfl mW_0 rfl rfl hl.1 (Nat.le_of_ble_eq_true rfl) dX11_numeral_50 rfl ⟨Nat.zero_le _, Nat.zero_le _⟩ (fun u52 H locs hp53 hO => ?_)
            obtain ⟨hJ, hTu52, hx0u52⟩ := hp53
            have hT : Km27 u u52 := Km27.tr (by exact hT) (Km25_to_Km27 hTu52)
            have g54 : 0 ≤ (fI u52 0 4).toInt ∧ (fI u52 0 4).toInt ≤ 5 := by have h := MI_4 hJ; exact h
            have y0u52 : ¬ ((fI u52 0 4) : Int32).toInt = 0 := by exact hx0u52
            refine lv_aload_n hx hb dX11_numeral_53 rfl (lv_at hl 0 rfl) ?_
            refine gf_RX11_226 (v := .int (fI u 0 9)) C hO 0 mW_0 (congrArg (fun z : Int32 => some (Value.int z)) (Km25_I9 hTu52)) dX11_numeral_54 ?_
            refine lv_istore_n (lv' := [(3, .int (fI u 0 9)), (0, .ref (a 0)), (1, .int x1), (2, .int x2)]) hx hb dX11_numeral_57 rfl hl (by decide) rfl (fun ls hl => ?_)
            refine lv_aload_n hx hb dX11_numeral_58 rfl (lv_at hl 1 rfl) ?_
            refine cVi (w := mW cy a) (As := []) (rest := []) C hO (T_X11_isGood l D cy a _ (by exact hJ) ((fI u52 0 4)) (by exact rfl)) (cwV 0 ht (gV wd_1596 wd_1598 wd_50 wd_121 wd_1599) rfl rfl rfl hd_yX11_isGood ⟨Nat.le_of_ble_eq_true rfl, Nat.le_of_ble_eq_true rfl⟩) 0 rfl mW_0 rfl rfl hl.1 (Nat.le_of_ble_eq_true rfl) dX11_numeral_59 rfl ⟨Nat.zero_le _, Nat.zero_le _⟩ (fun r55 u56 H locs hp57 hO => ?_)
            obtain ⟨hr55, hu56⟩ := hp57
            rw [hu56] at hO
            rcases hr55 with ⟨hcr55, hvr55⟩ | ⟨hcr55, hvr55⟩
            · exfalso
              omega
            · subst hvr55
              refine bt_eq (tgt := 69) (X := 0) hx hb dX11_numeral_62 (by decide) rfl (by omega) ?_
              refine lv_aload_n hx hb dX11_numeral_69 rfl (lv_at hl 1 rfl) ?_
              refine cVi (w := mW cy a) (As := []) (rest := []) C hO (T_X11_isGood l D cy a _ (by exact hJ) ((fI u52 0 4)) (by exact rfl)) (cwV 0 ht (gV wd_1596 wd_1598 wd_50 wd_121 wd_1599) rfl rfl rfl hd_yX11_isGood ⟨Nat.le_of_ble_eq_true rfl, Nat.le_of_ble_eq_true rfl⟩) 0 rfl mW_0 rfl rfl hl.1 (Nat.le_of_ble_eq_true rfl) dX11_numeral_70 rfl ⟨Nat.zero_le _, Nat.zero_le _⟩ (fun r58 u59 H locs hp60 hO => ?_)
              obtain ⟨hr58, hu59⟩ := hp60
              rw [hu59] at hO
              rcases hr58 with ⟨hcr58, hvr58⟩ | ⟨hcr58, hvr58⟩
              · exfalso
                omega
              · subst hvr58
                refine bt_eq (tgt := 80) (X := 0) hx hb dX11_numeral_73 (by decide) rfl (by omega) ?_
                refine lv_iload_n hx hb dX11_numeral_80 rfl (lv_at hl 2 rfl) ?_
                have g61 : 0 ≤ (fI u 0 7).toInt ∧ (fI u 0 7).toInt ≤ 1601 := by have h := MI_7 hJ0; exact h
                have g62 : 0 ≤ (fI u 0 3).toInt ∧ (fI u 0 3).toInt ≤ 1600 := by have h := MI_3 hJ0; exact h
                have q63 : ((fI u 0 7) : Int32).toInt ≤ ((fI u 0 3) : Int32).toInt := by first | omega | decide
                have q64 : ((fI u 0 6) : Int32).toInt ≤ ((fI u 0 7) : Int32).toInt := by first | omega | decide
                have q65 : ((fI u 0 8) : Int32).toInt = 0 ∨ ((fI u 0 6) : Int32).toInt < ((fI u 0 7) : Int32).toInt := by first | omega | decide
                have q66 : ((fI u 0 6) : Int32).toInt ≤ ((fI u 0 6) : Int32).toInt := by first | omega | decide
                have q67 : ((fI u 0 4) : Int32).toInt = 0 ∨ ¬ ((fI u52 0 4) : Int32).toInt = 0 := by first | omega | decide
                refine hret _ _ _ _ _ _ dX11_numeral_81 rfl ?_ hO
                exact ⟨hJ, hT, q63, q64, q65, q66, q67⟩
      · subst hvr7
        refine bt_eq (tgt := 53) (X := 0) hx hb dX11_numeral_25 (by decide) rfl (by omega) ?_
        refine lv_aload_n hx hb dX11_numeral_53 rfl (lv_at hl 0 rfl) ?_
        refine gf_RX11_226 (v := .int (fI u 0 9)) C hO 0 mW_0 rfl dX11_numeral_54 ?_
        refine lv_istore_n (lv' := [(3, .int (fI u 0 9)), (0, .ref (a 0)), (1, .int x1), (2, .int x2)]) hx hb dX11_numeral_57 rfl hl (by decide) rfl (fun ls hl => ?_)
        refine lv_aload_n hx hb dX11_numeral_58 rfl (lv_at hl 1 rfl) ?_
        refine cVi (w := mW cy a) (As := []) (rest := []) C hO (T_X11_isGood l D cy a _ (by exact hJ) ((fI u 0 4)) (by exact rfl)) (cwV 0 ht (gV wd_1596 wd_1598 wd_50 wd_121 wd_1599) rfl rfl rfl hd_yX11_isGood ⟨Nat.le_of_ble_eq_true rfl, Nat.le_of_ble_eq_true rfl⟩) 0 rfl mW_0 rfl rfl hl.1 (Nat.le_of_ble_eq_true rfl) dX11_numeral_59 rfl ⟨Nat.zero_le _, Nat.zero_le _⟩ (fun r68 u69 H locs hp70 hO => ?_)
        obtain ⟨hr68, hu69⟩ := hp70
        rw [hu69] at hO
        rcases hr68 with ⟨hcr68, hvr68⟩ | ⟨hcr68, hvr68⟩
        · subst hvr68
          refine bn_eq (X := 1) hx hb dX11_numeral_62 rfl (by omega) ?_ (tgt := 69) (by decide)
          refine lv_aload_n hx hb dX11_numeral_65 rfl (lv_at hl 1 rfl) ?_
          have g71 : 0 ≤ (fI u 0 7).toInt ∧ (fI u 0 7).toInt ≤ 1601 := by have h := MI_7 hJ0; exact h
          have g72 : 0 ≤ (fI u 0 3).toInt ∧ (fI u 0 3).toInt ≤ 1600 := by have h := MI_3 hJ0; exact h
          refine cVv (w := mW cy a) (As := []) (rest := []) C hO (T_X11_goOn l D cy a _ (by exact hJ) (by exact (show ((fI u 0 7) : Int32).toInt ≤ ((fI u 0 3) : Int32).toInt from by first | omega | decide))) (cwV 0 ht (gV wd_1556 wd_1558 wd_48 wd_121 wd_1559) rfl rfl rfl hd_yX11_goOn ⟨Nat.le_of_ble_eq_true rfl, Nat.le_of_ble_eq_true rfl⟩) 0 rfl mW_0 rfl rfl hl.1 (Nat.le_of_ble_eq_true rfl) dX11_numeral_66 rfl ⟨Nat.zero_le _, Nat.zero_le _⟩ (fun u74 H locs hp75 hO => ?_)
          obtain ⟨hJ, hTu74, hx0u74, hx1u74, hx2u74, hx3u74⟩ := hp75
          have hT : Km27 u u74 := Km27.tr (by exact hT) (Km26_to_Km27 hTu74)
          have g76 : 0 ≤ (fI u74 0 7).toInt ∧ (fI u74 0 7).toInt ≤ 1601 := by have h := MI_7 hJ; exact h
          have y0u74 : ((fI u74 0 7) : Int32).toInt ≤ ((fI u 0 3) : Int32).toInt := by have h := hx0u74; simp only [(Km27_I3 hT)] at h; exact h
          have g77 : 0 ≤ (fI u74 0 6).toInt ∧ (fI u74 0 6).toInt ≤ 1600 := by have h := MI_6 hJ; exact h
          have y1u74 : ((fI u74 0 6) : Int32).toInt ≤ ((fI u74 0 7) : Int32).toInt := by exact hx1u74
          have g78 : 0 ≤ (fI u74 0 8).toInt ∧ (fI u74 0 8).toInt ≤ 5 := by have h := MI_8 hJ; exact h
          have y2u74 : ((fI u74 0 8) : Int32).toInt = 0 ∨ ((fI u74 0 6) : Int32).toInt < ((fI u74 0 7) : Int32).toInt := by exact hx2u74
          have y3u74 : ((fI u 0 7) : Int32).toInt ≤ ((fI u74 0 6) : Int32).toInt := by exact hx3u74
          refine lv_aload_n hx hb dX11_numeral_69 rfl (lv_at hl 1 rfl) ?_
          refine cVi (w := mW cy a) (As := []) (rest := []) C hO (T_X11_isGood l D cy a _ (by exact hJ) ((fI u 0 4)) (by exact (Km26_I4 hTu74))) (cwV 0 ht (gV wd_1596 wd_1598 wd_50 wd_121 wd_1599) rfl rfl rfl hd_yX11_isGood ⟨Nat.le_of_ble_eq_true rfl, Nat.le_of_ble_eq_true rfl⟩) 0 rfl mW_0 rfl rfl hl.1 (Nat.le_of_ble_eq_true rfl) dX11_numeral_70 rfl ⟨Nat.zero_le _, Nat.zero_le _⟩ (fun r79 u80 H locs hp81 hO => ?_)
          obtain ⟨hr79, hu80⟩ := hp81
          rw [hu80] at hO
          rcases hr79 with ⟨hcr79, hvr79⟩ | ⟨hcr79, hvr79⟩
          · subst hvr79
            refine bn_eq (X := 1) hx hb dX11_numeral_73 rfl (by omega) ?_ (tgt := 80) (by decide)
            refine lv_iload_n hx hb dX11_numeral_76 rfl (lv_at hl 0 rfl) ?_
            refine lv_goto (tgt := 81) hx hb dX11_numeral_77 (by decide) ?_
            have q82 : ((fI u74 0 7) : Int32).toInt ≤ ((fI u 0 3) : Int32).toInt := by first | omega | decide
            have q83 : ((fI u74 0 6) : Int32).toInt ≤ ((fI u74 0 7) : Int32).toInt := by first | omega | decide
            have q84 : ((fI u74 0 8) : Int32).toInt = 0 ∨ ((fI u74 0 6) : Int32).toInt < ((fI u74 0 7) : Int32).toInt := by first | omega | decide
            have g85 : 0 ≤ (fI u 0 6).toInt ∧ (fI u 0 6).toInt ≤ 1600 := by have h := MI_6 hJ0; exact h
            have q86 : ((fI u 0 6) : Int32).toInt ≤ ((fI u74 0 6) : Int32).toInt := by first | omega | decide
            have q87 : ((fI u 0 4) : Int32).toInt = 0 ∨ ¬ ((fI u 0 4) : Int32).toInt = 0 := by first | omega | decide
            refine hret _ _ _ _ _ _ dX11_numeral_81 rfl ?_ hO
            exact ⟨hJ, hT, q82, q83, q84, q86, q87⟩
          · exfalso
            omega
        · exfalso
          omega
    · refine lv_aload_n hx hb dX11_numeral_17 rfl (lv_at hl 0 rfl) ?_
      refine cVv (w := mW cy a) (As := []) (rest := []) C hO (T_X11_misplaced l D cy a _ (by exact hJ)) (cwV 0 ht (gV wd_1615 wd_1617 wd_54 wd_121 wd_1618) rfl rfl rfl hd_yX11_misplaced ⟨Nat.le_of_ble_eq_true rfl, Nat.le_of_ble_eq_true rfl⟩) 0 rfl mW_0 rfl rfl hl.1 (Nat.le_of_ble_eq_true rfl) dX11_numeral_18 rfl ⟨Nat.zero_le _, Nat.zero_le _⟩ (fun u89 H locs hp90 hO => ?_)
      obtain ⟨hJ, hTu89, hx0u89⟩ := hp90
      have hT : Km27 u u89 := Km27.tr (by exact hT) (Km25_to_Km27 hTu89)
      have g91 : 0 ≤ (fI u89 0 4).toInt ∧ (fI u89 0 4).toInt ≤ 5 := by have h := MI_4 hJ; exact h
      have y0u89 : ¬ ((fI u89 0 4) : Int32).toInt = 0 := by exact hx0u89
      refine lv_aload_n hx hb dX11_numeral_21 rfl (lv_at hl 0 rfl) ?_
      refine cVi (w := mW cy a) (As := []) (rest := []) C hO (T_X11_isGood l D cy a _ (by exact hJ) ((fI u89 0 4)) (by exact rfl)) (cwV 0 ht (gV wd_1596 wd_1598 wd_50 wd_121 wd_1599) rfl rfl rfl hd_yX11_isGood ⟨Nat.le_of_ble_eq_true rfl, Nat.le_of_ble_eq_true rfl⟩) 0 rfl mW_0 rfl rfl hl.1 (Nat.le_of_ble_eq_true rfl) dX11_numeral_22 rfl ⟨Nat.zero_le _, Nat.zero_le _⟩ (fun r92 u93 H locs hp94 hO => ?_)
      obtain ⟨hr92, hu93⟩ := hp94
      rw [hu93] at hO
      rcases hr92 with ⟨hcr92, hvr92⟩ | ⟨hcr92, hvr92⟩
      · exfalso
        omega
      · subst hvr92
        refine bt_eq (tgt := 53) (X := 0) hx hb dX11_numeral_25 (by decide) rfl (by omega) ?_
        refine lv_aload_n hx hb dX11_numeral_53 rfl (lv_at hl 0 rfl) ?_
        refine gf_RX11_226 (v := .int (fI u 0 9)) C hO 0 mW_0 (congrArg (fun z : Int32 => some (Value.int z)) (Km25_I9 hTu89)) dX11_numeral_54 ?_
        refine lv_istore_n (lv' := [(3, .int (fI u 0 9)), (0, .ref (a 0)), (1, .int x1), (2, .int x2)]) hx hb dX11_numeral_57 rfl hl (by decide) rfl (fun ls hl => ?_)
        refine lv_aload_n hx hb dX11_numeral_58 rfl (lv_at hl 1 rfl) ?_
        refine cVi (w := mW cy a) (As := []) (rest := []) C hO (T_X11_isGood l D cy a _ (by exact hJ) ((fI u89 0 4)) (by exact rfl)) (cwV 0 ht (gV wd_1596 wd_1598 wd_50 wd_121 wd_1599) rfl rfl rfl hd_yX11_isGood ⟨Nat.le_of_ble_eq_true rfl, Nat.le_of_ble_eq_true rfl⟩) 0 rfl mW_0 rfl rfl hl.1 (Nat.le_of_ble_eq_true rfl) dX11_numeral_59 rfl ⟨Nat.zero_le _, Nat.zero_le _⟩ (fun r95 u96 H locs hp97 hO => ?_)
        obtain ⟨hr95, hu96⟩ := hp97
        rw [hu96] at hO
        rcases hr95 with ⟨hcr95, hvr95⟩ | ⟨hcr95, hvr95⟩
        · exfalso
          omega
        · subst hvr95
          refine bt_eq (tgt := 69) (X := 0) hx hb dX11_numeral_62 (by decide) rfl (by omega) ?_
          refine lv_aload_n hx hb dX11_numeral_69 rfl (lv_at hl 1 rfl) ?_
          refine cVi (w := mW cy a) (As := []) (rest := []) C hO (T_X11_isGood l D cy a _ (by exact hJ) ((fI u89 0 4)) (by exact rfl)) (cwV 0 ht (gV wd_1596 wd_1598 wd_50 wd_121 wd_1599) rfl rfl rfl hd_yX11_isGood ⟨Nat.le_of_ble_eq_true rfl, Nat.le_of_ble_eq_true rfl⟩) 0 rfl mW_0 rfl rfl hl.1 (Nat.le_of_ble_eq_true rfl) dX11_numeral_70 rfl ⟨Nat.zero_le _, Nat.zero_le _⟩ (fun r98 u99 H locs hp100 hO => ?_)
          obtain ⟨hr98, hu99⟩ := hp100
          rw [hu99] at hO
          rcases hr98 with ⟨hcr98, hvr98⟩ | ⟨hcr98, hvr98⟩
          · exfalso
            omega
          · subst hvr98
            refine bt_eq (tgt := 80) (X := 0) hx hb dX11_numeral_73 (by decide) rfl (by omega) ?_
            refine lv_iload_n hx hb dX11_numeral_80 rfl (lv_at hl 2 rfl) ?_
            have g101 : 0 ≤ (fI u 0 7).toInt ∧ (fI u 0 7).toInt ≤ 1601 := by have h := MI_7 hJ0; exact h
            have g102 : 0 ≤ (fI u 0 3).toInt ∧ (fI u 0 3).toInt ≤ 1600 := by have h := MI_3 hJ0; exact h
            have q103 : ((fI u 0 7) : Int32).toInt ≤ ((fI u 0 3) : Int32).toInt := by first | omega | decide
            have g104 : 0 ≤ (fI u 0 6).toInt ∧ (fI u 0 6).toInt ≤ 1600 := by have h := MI_6 hJ0; exact h
            have q105 : ((fI u 0 6) : Int32).toInt ≤ ((fI u 0 7) : Int32).toInt := by first | omega | decide
            have q106 : ((fI u 0 8) : Int32).toInt = 0 ∨ ((fI u 0 6) : Int32).toInt < ((fI u 0 7) : Int32).toInt := by first | omega | decide
            have q107 : ((fI u 0 6) : Int32).toInt ≤ ((fI u 0 6) : Int32).toInt := by first | omega | decide
            have q108 : ((fI u 0 4) : Int32).toInt = 0 ∨ ¬ ((fI u89 0 4) : Int32).toInt = 0 := by first | omega | decide
            refine hret _ _ _ _ _ _ dX11_numeral_81 rfl ?_ hO
            exact ⟨hJ, hT, q103, q105, q106, q107, q108⟩
  · subst hvr2
    refine bn_ne (X := 0) hx hb dX11_numeral_4 rfl (by omega) ?_ (tgt := 9) (by decide)
    refine lv_iload_n hx hb dX11_numeral_7 rfl (lv_at hl 1 rfl) ?_
    have g109 : 0 ≤ (fI u 0 7).toInt ∧ (fI u 0 7).toInt ≤ 1601 := by have h := MI_7 hJ0; exact h
    have g110 : 0 ≤ (fI u 0 3).toInt ∧ (fI u 0 3).toInt ≤ 1600 := by have h := MI_3 hJ0; exact h
    have q111 : ((fI u 0 7) : Int32).toInt ≤ ((fI u 0 3) : Int32).toInt := by first | omega | decide
    have g112 : 0 ≤ (fI u 0 6).toInt ∧ (fI u 0 6).toInt ≤ 1600 := by have h := MI_6 hJ0; exact h
    have q113 : ((fI u 0 6) : Int32).toInt ≤ ((fI u 0 7) : Int32).toInt := by first | omega | decide
    have g114 : 0 ≤ (fI u 0 8).toInt ∧ (fI u 0 8).toInt ≤ 5 := by have h := MI_8 hJ0; exact h
    have q115 : ((fI u 0 8) : Int32).toInt = 0 ∨ ((fI u 0 6) : Int32).toInt < ((fI u 0 7) : Int32).toInt := by first | omega | decide
    have q116 : ((fI u 0 6) : Int32).toInt ≤ ((fI u 0 6) : Int32).toInt := by first | omega | decide
    have q117 : ((fI u 0 4) : Int32).toInt = 0 ∨ ¬ ((fI u 0 4) : Int32).toInt = 0 := by first | omega | decide
    refine hret _ _ _ _ _ _ dX11_numeral_8 rfl ?_ hO
    exact ⟨hJ, hT, q111, q113, q115, q116, q117⟩
theorem dX11_isWord_0 : decode cX11_isWord 0 = .ok (.aload_n 0, 1) := by decide +kernel
theorem dX11_isWord_1 : decode cX11_isWord 1 = .ok (.getfield 208, 3) := by decide +kernel
theorem dX11_isWord_4 : decode cX11_isWord 4 = .ok (.iconst 3, 1) := by decide +kernel
theorem dX11_isWord_5 : decode cX11_isWord 5 = .ok (.if_icmp .ne 16, 3) := by decide +kernel
theorem dX11_isWord_8 : decode cX11_isWord 8 = .ok (.aload_n 0, 1) := by decide +kernel
theorem dX11_isWord_9 : decode cX11_isWord 9 = .ok (.getfield 215, 3) := by decide +kernel
theorem dX11_isWord_12 : decode cX11_isWord 12 = .ok (.lload_n 1, 1) := by decide +kernel
theorem dX11_isWord_13 : decode cX11_isWord 13 = .ok (.lcmp, 1) := by decide +kernel
theorem dX11_isWord_14 : decode cX11_isWord 14 = .ok (.ifCond .ne 7, 3) := by decide +kernel
theorem dX11_isWord_17 : decode cX11_isWord 17 = .ok (.iconst 1, 1) := by decide +kernel
theorem dX11_isWord_18 : decode cX11_isWord 18 = .ok (.goto 4, 3) := by decide +kernel
theorem dX11_isWord_21 : decode cX11_isWord 21 = .ok (.iconst 0, 1) := by decide +kernel
theorem dX11_isWord_22 : decode cX11_isWord 22 = .ok (.ireturn, 1) := by decide +kernel
theorem wd_1611 : (Cond.code ⟨"WebCourtModel", "isWord", "(J)Z"⟩ prog_13_method_11_code (3 : Nat) (Option.some FieldType.boolean)) ∈ gtb := gtb_c7 62 (by decide +kernel) rfl
set_option maxHeartbeats 4000000 in
set_option maxRecDepth 100000 in
theorem T_X11_isWord (l : Launch) (D : va_G) (cy : Nat → ClassId) (a : Nat → Nat) (u : St) (hJ : MI a u) (gt : Int32) (hgt : fI u 0 8 = gt) (gN : Int64) (hgN : fL u 0 10 = gN) (x1 : Int64)  : Mi l D cy (mW cy a) yX11_isWord (.code yX11_isWord cX11_isWord 3 (some .boolean)) (rmo 0 0) [.ref (a 0), .long x1] u (fun (r : Int32) (u' : St) => (((gt.toInt = 3 ∧ gN = x1) ∧ r = 1) ∨ ((¬ gt.toInt = 3 ∨ ¬ gN = x1) ∧ r = 0)) ∧ (u' = u)) := by
  refine Mi.of (own := RX11) rfl (by decide) (Nat.le_of_ble_eq_true rfl) ?_
  have hT : Km0 u u := Km0.rf
  have hJ0 := hJ
  intro p e s m below meth c A Q ls C hret hO hl
  obtain ⟨hx, hb, hml, hown, ht, hK, hA⟩ := id C
  have hl : lv_has ls 3 [(0, .ref (a 0)), (1, .long x1)] := hl
  refine lv_aload_n hx hb dX11_isWord_0 rfl (lv_at hl 0 rfl) ?_
  have g1 : 0 ≤ gt.toInt ∧ gt.toInt ≤ 5 := by have h := MI_8 hJ0; rw [hgt] at h; exact h
  refine gf_RX11_208 (v := .int gt) C hO 0 mW_0 (congrArg (fun z : Int32 => some (Value.int z)) hgt) dX11_isWord_1 ?_
  refine lv_iconst (v := 3) hx hb dX11_isWord_4 (by decide) ?_
  refine cs_ne (tgt := 21) (X := (gt).toInt) (Y := 3) hx hb dX11_isWord_5 (by decide) rfl rfl (fun c2 => ?_) (fun c2 => ?_)
  · refine lv_iconst (v := 0) hx hb dX11_isWord_21 (by decide) ?_
    refine hret _ _ _ _ _ _ dX11_isWord_22 rfl ?_ hO
    exact ⟨Or.inr ⟨Or.inl (by omega), rfl⟩, rfl⟩
  · refine lv_aload_n hx hb dX11_isWord_8 rfl (lv_at hl 0 rfl) ?_
    refine gf_RX11_215 (v := .long gN) C hO 0 mW_0 rfl dX11_isWord_9 ?_
    refine lv_lload_n hx hb dX11_isWord_12 rfl (lv_at hl 1 rfl) ?_
    refine W.lcmp hx hb dX11_isWord_13 ?_
    refine lv_topi (fun z3 ez3 => ?_)
    refine bs_ne (tgt := 21) (X := (z3).toInt) hx hb dX11_isWord_14 (by decide) rfl (fun c4 => ?_) (fun c4 => ?_)
    · have hj5 := lc_ne ez3 (by omega)
      refine lv_iconst (v := 0) hx hb dX11_isWord_21 (by decide) ?_
      refine hret _ _ _ _ _ _ dX11_isWord_22 rfl ?_ hO
      exact ⟨Or.inr ⟨Or.inr hj5, rfl⟩, rfl⟩
    · have hj6 := lc_eq ez3 (by omega)
      refine lv_iconst (v := 1) hx hb dX11_isWord_17 (by decide) ?_
      refine lv_goto (tgt := 22) hx hb dX11_isWord_18 (by decide) ?_
      refine hret _ _ _ _ _ _ dX11_isWord_22 rfl ?_ hO
      exact ⟨Or.inl ⟨⟨by omega, hj6⟩, rfl⟩, rfl⟩
set_option maxHeartbeats 4000000 in
set_option maxRecDepth 100000 in
theorem T_X11_isWord_n (l : Launch) (D : va_G) (cy : Nat → ClassId) (a : Nat → Nat) (u : St) (hJ : MI a u) (x1 : Int64)  : Mi l D cy (mW cy a) yX11_isWord (.code yX11_isWord cX11_isWord 3 (some .boolean)) (rmo 0 0) [.ref (a 0), .long x1] u (fun (r : Int32) (u' : St) => (r = 0 ∨ r = 1) ∧ (u' = u)) := by
  refine Mi.of (own := RX11) rfl (by decide) (Nat.le_of_ble_eq_true rfl) ?_
  have hT : Km0 u u := Km0.rf
  have hJ0 := hJ
  intro p e s m below meth c A Q ls C hret hO hl
  obtain ⟨hx, hb, hml, hown, ht, hK, hA⟩ := id C
  have hl : lv_has ls 3 [(0, .ref (a 0)), (1, .long x1)] := hl
  refine lv_aload_n hx hb dX11_isWord_0 rfl (lv_at hl 0 rfl) ?_
  have g1 : 0 ≤ (fI u 0 8).toInt ∧ (fI u 0 8).toInt ≤ 5 := by have h := MI_8 hJ0; exact h
  refine gf_RX11_208 (v := .int (fI u 0 8)) C hO 0 mW_0 rfl dX11_isWord_1 ?_
  refine lv_iconst (v := 3) hx hb dX11_isWord_4 (by decide) ?_
  refine cs_ne (tgt := 21) (X := ((fI u 0 8)).toInt) (Y := 3) hx hb dX11_isWord_5 (by decide) rfl rfl (fun c2 => ?_) (fun c2 => ?_)
  · refine lv_iconst (v := 0) hx hb dX11_isWord_21 (by decide) ?_
    refine hret _ _ _ _ _ _ dX11_isWord_22 rfl ?_ hO
    exact ⟨Or.inl rfl, rfl⟩
  · refine lv_aload_n hx hb dX11_isWord_8 rfl (lv_at hl 0 rfl) ?_
    refine gf_RX11_215 (v := .long ((fL u 0 10))) C hO 0 mW_0 rfl dX11_isWord_9 ?_
    refine lv_lload_n hx hb dX11_isWord_12 rfl (lv_at hl 1 rfl) ?_
    refine W.lcmp hx hb dX11_isWord_13 ?_
    refine lv_topi (fun z3 ez3 => ?_)
    refine bs_ne (tgt := 21) (X := (z3).toInt) hx hb dX11_isWord_14 (by decide) rfl (fun c4 => ?_) (fun c4 => ?_)
    · have hj5 := lc_ne ez3 (by omega)
      refine lv_iconst (v := 0) hx hb dX11_isWord_21 (by decide) ?_
      refine hret _ _ _ _ _ _ dX11_isWord_22 rfl ?_ hO
      exact ⟨Or.inl rfl, rfl⟩
    · have hj6 := lc_eq ez3 (by omega)
      refine lv_iconst (v := 1) hx hb dX11_isWord_17 (by decide) ?_
      refine lv_goto (tgt := 22) hx hb dX11_isWord_18 (by decide) ?_
      refine hret _ _ _ _ _ _ dX11_isWord_22 rfl ?_ hO
      exact ⟨Or.inr rfl, rfl⟩
theorem dX11_isSignHere_0 : decode cX11_isSignHere 0 = .ok (.aload_n 0, 1) := by decide +kernel
theorem dX11_isSignHere_1 : decode cX11_isSignHere 1 = .ok (.getfield 208, 3) := by decide +kernel
theorem dX11_isSignHere_4 : decode cX11_isSignHere 4 = .ok (.iconst 5, 1) := by decide +kernel
theorem dX11_isSignHere_5 : decode cX11_isSignHere 5 = .ok (.if_icmp .ne 19, 3) := by decide +kernel
theorem dX11_isSignHere_8 : decode cX11_isSignHere 8 = .ok (.aload_n 0, 1) := by decide +kernel
theorem dX11_isSignHere_9 : decode cX11_isSignHere 9 = .ok (.aload_n 0, 1) := by decide +kernel
theorem dX11_isSignHere_10 : decode cX11_isSignHere 10 = .ok (.getfield 201, 3) := by decide +kernel
theorem dX11_isSignHere_13 : decode cX11_isSignHere 13 = .ok (.invokevirtual 204, 3) := by decide +kernel
theorem dX11_isSignHere_16 : decode cX11_isSignHere 16 = .ok (.iload_n 1, 1) := by decide +kernel
theorem dX11_isSignHere_17 : decode cX11_isSignHere 17 = .ok (.if_icmp .ne 7, 3) := by decide +kernel
theorem dX11_isSignHere_20 : decode cX11_isSignHere 20 = .ok (.iconst 1, 1) := by decide +kernel
theorem dX11_isSignHere_21 : decode cX11_isSignHere 21 = .ok (.goto 4, 3) := by decide +kernel
theorem dX11_isSignHere_24 : decode cX11_isSignHere 24 = .ok (.iconst 0, 1) := by decide +kernel
theorem dX11_isSignHere_25 : decode cX11_isSignHere 25 = .ok (.ireturn, 1) := by decide +kernel
theorem wd_1685 : (Cond.code ⟨"WebCourtModel", "isSignHere", "(I)Z"⟩ prog_13_method_10_code (2 : Nat) (Option.some FieldType.boolean)) ∈ gtb := gtb_c7 136 (by decide +kernel) rfl
set_option maxHeartbeats 4000000 in
set_option maxRecDepth 100000 in
theorem T_X11_isSignHere (l : Launch) (D : va_G) (cy : Nat → ClassId) (a : Nat → Nat) (u : St) (hJ : MI a u) (gt : Int32) (hgt : fI u 0 8 = gt) (gs : Int32) (hgs : sgF u (fI u 0 6) = gs) (x1 : Int32)  : Mi l D cy (mW cy a) yX11_isSignHere (.code yX11_isSignHere cX11_isSignHere 2 (some .boolean)) (rmo 1 21) [.ref (a 0), .int x1] u (fun (r : Int32) (u' : St) => (((gt.toInt = 5 ∧ gs = x1) ∧ r = 1) ∨ (True ∧ r = 0)) ∧ (u' = u)) := by
  refine Mi.of (own := RX11) rfl (by decide) (Nat.le_of_ble_eq_true rfl) ?_
  have hT : Km0 u u := Km0.rf
  have hJ0 := hJ
  intro p e s m below meth c A Q ls C hret hO hl
  obtain ⟨hx, hb, hml, hown, ht, hK, hA⟩ := id C
  have hl : lv_has ls 2 [(0, .ref (a 0)), (1, .int x1)] := hl
  refine lv_aload_n hx hb dX11_isSignHere_0 rfl (lv_at hl 0 rfl) ?_
  have g1 : 0 ≤ gt.toInt ∧ gt.toInt ≤ 5 := by have h := MI_8 hJ0; rw [hgt] at h; exact h
  refine gf_RX11_208 (v := .int gt) C hO 0 mW_0 (congrArg (fun z : Int32 => some (Value.int z)) hgt) dX11_isSignHere_1 ?_
  refine lv_iconst (v := 5) hx hb dX11_isSignHere_4 (by decide) ?_
  refine cs_ne (tgt := 24) (X := (gt).toInt) (Y := 5) hx hb dX11_isSignHere_5 (by decide) rfl rfl (fun c2 => ?_) (fun c2 => ?_)
  · refine lv_iconst (v := 0) hx hb dX11_isSignHere_24 (by decide) ?_
    refine hret _ _ _ _ _ _ dX11_isSignHere_25 rfl ?_ hO
    exact ⟨Or.inr ⟨trivial, rfl⟩, rfl⟩
  · refine lv_aload_n hx hb dX11_isSignHere_8 rfl (lv_at hl 0 rfl) ?_
    refine lv_aload_n hx hb dX11_isSignHere_9 rfl (lv_at hl 0 rfl) ?_
    have g3 : 0 ≤ (fI u 0 6).toInt ∧ (fI u 0 6).toInt ≤ 1600 := by have h := MI_6 hJ0; exact h
    refine gf_RX11_201 (v := .int (fI u 0 6)) C hO 0 mW_0 rfl dX11_isSignHere_10 ?_
    refine cVi (w := mW cy a) (As := [.int (fI u 0 6)]) (rest := []) C hO (T_X11_sign l D cy a _ (by exact hJ) ((fI u 0 6)) (by first | omega | decide)) (cwV 1 ht (gV wd_1560 wd_1562 wd_49 wd_121 wd_1563) rfl rfl rfl hd_yX11_sign ⟨Nat.le_of_ble_eq_true rfl, Nat.le_of_ble_eq_true rfl⟩) 0 rfl mW_0 rfl rfl hl.1 (Nat.le_of_ble_eq_true rfl) dX11_isSignHere_13 rfl ⟨Nat.zero_le _, Nat.zero_le _⟩ (fun r4 u5 H locs hp6 hO => ?_)
    obtain ⟨hr4, hu5⟩ := hp6
    rw [hu5] at hO
    have g7 : 0 ≤ (fI u 0 3).toInt ∧ (fI u 0 3).toInt ≤ 1600 := by have h := MI_3 hJ0; exact h
    have gr4 : (0 ≤ r4.toInt ∧ r4.toInt ≤ 255) ∧ (r4.toInt = 0 ∨ ((fI u 0 6) : Int32).toInt < ((fI u 0 3)).toInt) := by have h := sgF_b (u := _) (k := (fI u 0 6)); rw [← hr4] at h; exact h
    have hr4 : r4 = sgF u (fI u 0 6) := hr4
    refine lv_iload_n hx hb dX11_isSignHere_16 rfl (lv_at hl 1 rfl) ?_
    refine cs_ne (tgt := 24) (X := (r4).toInt) (Y := (x1).toInt) hx hb dX11_isSignHere_17 (by decide) rfl rfl (fun c8 => ?_) (fun c8 => ?_)
    · refine lv_iconst (v := 0) hx hb dX11_isSignHere_24 (by decide) ?_
      refine hret _ _ _ _ _ _ dX11_isSignHere_25 rfl ?_ hO
      exact ⟨Or.inr ⟨trivial, rfl⟩, rfl⟩
    · refine lv_iconst (v := 1) hx hb dX11_isSignHere_20 (by decide) ?_
      refine lv_goto (tgt := 25) hx hb dX11_isSignHere_21 (by decide) ?_
      refine hret _ _ _ _ _ _ dX11_isSignHere_25 rfl ?_ hO
      exact ⟨Or.inl ⟨⟨by omega, (by have e1 := hr4; rw [hgs] at e1; rw [← e1]; exact i32_eq.mpr (by omega))⟩, rfl⟩, rfl⟩
