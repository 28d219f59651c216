/-- the sign at a place -/
def sgF (u : St) (k : Int32) : Int32 := if k.toInt < (fI u 0 3).toInt then (fA u 2 k.toNatClampNeg) &&& 255 else 0
theorem sgF_b {u : St} {k : Int32} : (0 ≤ (sgF u k).toInt ∧ (sgF u k).toInt ≤ 255) ∧ ((sgF u k).toInt = 0 ∨ k.toInt < (fI u 0 3).toInt) := by
  unfold sgF
  by_cases h : k.toInt < (fI u 0 3).toInt
  · rw [if_pos h]
    exact ⟨i_andr (y := 255) rfl (by decide), Or.inr h⟩
  · rw [if_neg h]
    exact ⟨by decide, Or.inl rfl⟩
theorem sgF_r {u : St} {k r : Int32} (h : r = sgF u k) : (0 ≤ r.toInt ∧ r.toInt ≤ 255) ∧ (r.toInt = 0 ∨ k.toInt < (fI u 0 3).toInt) := by
  rw [h]
  exact sgF_b
theorem sgF_eq {u v : St} {k : Int32} (h2 : fA v 2 = fA u 2) (h3 : fI v 0 3 = fI u 0 3) : sgF v k = sgF u k := by
  unfold sgF
  rw [h2, h3]
theorem dX11_sign_0 : decode cX11_sign 0 = .ok (.iload_n 1, 1) := by decide +kernel
theorem dX11_sign_1 : decode cX11_sign 1 = .ok (.aload_n 0, 1) := by decide +kernel
theorem dX11_sign_2 : decode cX11_sign 2 = .ok (.getfield 152, 3) := by decide +kernel
theorem dX11_sign_5 : decode cX11_sign 5 = .ok (.if_icmp .ge 16, 3) := by decide +kernel
theorem dX11_sign_8 : decode cX11_sign 8 = .ok (.aload_n 0, 1) := by decide +kernel
theorem dX11_sign_9 : decode cX11_sign 9 = .ok (.getfield 13, 3) := by decide +kernel
theorem dX11_sign_12 : decode cX11_sign 12 = .ok (.iload_n 1, 1) := by decide +kernel
theorem dX11_sign_13 : decode cX11_sign 13 = .ok (.baload, 1) := by decide +kernel
theorem dX11_sign_14 : decode cX11_sign 14 = .ok (.sipush 255, 3) := by decide +kernel
theorem dX11_sign_17 : decode cX11_sign 17 = .ok (.iand, 1) := by decide +kernel
theorem dX11_sign_18 : decode cX11_sign 18 = .ok (.goto 4, 3) := by decide +kernel
theorem dX11_sign_21 : decode cX11_sign 21 = .ok (.iconst 0, 1) := by decide +kernel
theorem dX11_sign_22 : decode cX11_sign 22 = .ok (.ireturn, 1) := by decide +kernel
theorem wd_1563 : (Cond.code ⟨"WebCourtModel", "sign", "(I)I"⟩ prog_13_method_2_code (2 : Nat) (Option.some FieldType.int)) ∈ gtb := gtb_c7 14 (by decide +kernel) rfl
theorem wd_1359 : (Cond.fieldLink "WebCourtModel" (152 : Nat) "WebCourtModel" "size" "I") ∈ gtb := gtb_c6 50 (by decide +kernel) rfl
theorem gf_RX11_152 {p : Program} {l : Launch} {e : Env} {R : Room} {s : State} {m : MethodId} {args : Array Value} {below : List Frame} {meth : Method} {c : Code} {H : Heap} {locs : List Loc} {cells slots : Nat} {Q : State → Prop} {cc : ByteArray} {pc nL : Nat} {ls : Array Slot} {rest : List Value} {D : va_G} {cy : Nat → ClassId} {A : Nat → Prop} {ws : va_W} {b : Nat} {fs : List Value} {v : Value} (C : Cx p s m args c cc nL RX11 D cy A) (hO : Wo D A ws s.heap H locs) (q0 : Nat) (he : ws[q0]? = some (b, .inr (11, fs))) (hv : fs[3]? = some v) (hdg : decode cc pc = .ok (.getfield 152, 3)) (kk : W p l e R s m args below meth c H locs cells slots Q (F0 m (pc + 3) ls (v :: rest))) : W p l e R s m args below meth c H locs cells slots Q (F0 m pc ls (.ref b :: rest)) := gF (k := 3) C hO q0 he rfl inFX11 (by decide) wd_1359 rfl hv hdg kk
theorem wd_1357 : (Cond.fieldLink "WebCourtModel" (13 : Nat) "WebCourtModel" "text" "[B") ∈ gtb := gtb_c6 48 (by decide +kernel) rfl
theorem gf_RX11_13 {p : Program} {l : Launch} {e : Env} {R : Room} {s : State} {m : MethodId} {args : Array Value} {below : List Frame} {meth : Method} {c : Code} {H : Heap} {locs : List Loc} {cells slots : Nat} {Q : State → Prop} {cc : ByteArray} {pc nL : Nat} {ls : Array Slot} {rest : List Value} {D : va_G} {cy : Nat → ClassId} {A : Nat → Prop} {ws : va_W} {b : Nat} {fs : List Value} {v : Value} (C : Cx p s m args c cc nL RX11 D cy A) (hO : Wo D A ws s.heap H locs) (q0 : Nat) (he : ws[q0]? = some (b, .inr (11, fs))) (hv : fs[1]? = some v) (hdg : decode cc pc = .ok (.getfield 13, 3)) (kk : W p l e R s m args below meth c H locs cells slots Q (F0 m (pc + 3) ls (v :: rest))) : W p l e R s m args below meth c H locs cells slots Q (F0 m pc ls (.ref b :: rest)) := gF (k := 1) C hO q0 he rfl inFX11 (by decide) wd_1357 rfl hv hdg kk
set_option maxHeartbeats 4000000 in
set_option maxRecDepth 100000 in
theorem T_X11_sign (l : Launch) (D : va_G) (cy : Nat → ClassId) (a : Nat → Nat) (u : St) (hJ : MI a u) (x1 : Int32) (hx_x1 : 0 ≤ x1.toInt ∧ x1.toInt ≤ 1601) : Mi l D cy (mW cy a) yX11_sign (.code yX11_sign cX11_sign 2 (some .int)) (rmo 0 0) [.ref (a 0), .int x1] u (fun (r : Int32) (u' : St) => (r = sgF u x1) ∧ (u' = u)) := by
  refine Mi.of (own := RX11) rfl (by decide) (Nat.le_of_ble_eq_true rfl) ?_
  have hT : Km0 u u := Km0.rf
  have hJ0 := hJ
  intro p e s m below meth c A Q ls C hret hO hl
  obtain ⟨hx, hb, hml, hown, ht, hK, hA⟩ := id C
  have hl : lv_has ls 2 [(0, .ref (a 0)), (1, .int x1)] := hl
  refine lv_iload_n hx hb dX11_sign_0 rfl (lv_at hl 1 rfl) ?_
  refine lv_aload_n hx hb dX11_sign_1 rfl (lv_at hl 0 rfl) ?_
  have g1 : 0 ≤ (fI u 0 3).toInt ∧ (fI u 0 3).toInt ≤ 1600 := by have h := MI_3 hJ0; exact h
  refine gf_RX11_152 (v := .int (fI u 0 3)) C hO 0 mW_0 rfl dX11_sign_2 ?_
  refine cs_ge (tgt := 21) (X := (x1).toInt) (Y := ((fI u 0 3)).toInt) hx hb dX11_sign_5 (by decide) rfl rfl (fun c2 => ?_) (fun c2 => ?_)
  · refine lv_iconst (v := 0) hx hb dX11_sign_21 (by decide) ?_
    refine hret _ _ _ _ _ _ dX11_sign_22 rfl ?_ hO
    exact ⟨(by unfold sgF; rw [if_neg (by omega)]), rfl⟩
  · refine lv_aload_n hx hb dX11_sign_8 rfl (lv_at hl 0 rfl) ?_
    refine gf_RX11_13 (v := .ref (a 2)) C hO 0 mW_0 rfl dX11_sign_9 ?_
    refine lv_iload_n hx hb dX11_sign_12 rfl (lv_at hl 1 rfl) ?_
    refine aB C hO 2 mW_2 (i_in (X := (x1).toInt) rfl (by omega) (by omega)) dX11_sign_13 ?_
    refine lv_topi (fun w3 ew3 => ?_)
    refine lv_sipush (v := 255) hx hb dX11_sign_14 (by decide) ?_
    refine lv_iand hx hb dX11_sign_17 ?_
    refine lv_topi (fun z4 ez4 => ?_)
    have g5 : 0 ≤ z4.toInt ∧ z4.toInt ≤ 255 := by rw [ez4]; exact i_andr rfl (by omega)
    refine lv_goto (tgt := 22) hx hb dX11_sign_18 (by decide) ?_
    refine hret _ _ _ _ _ _ dX11_sign_22 rfl ?_ hO
    exact ⟨(by unfold sgF; rw [if_pos (by omega), ez4, ew3]), rfl⟩
theorem dX11_isGood_0 : decode cX11_isGood 0 = .ok (.aload_n 0, 1) := by decide +kernel
theorem dX11_isGood_1 : decode cX11_isGood 1 = .ok (.getfield 155, 3) := by decide +kernel
theorem dX11_isGood_4 : decode cX11_isGood 4 = .ok (.ifCond .ne 7, 3) := by decide +kernel
theorem dX11_isGood_7 : decode cX11_isGood 7 = .ok (.iconst 1, 1) := by decide +kernel
theorem dX11_isGood_8 : decode cX11_isGood 8 = .ok (.goto 4, 3) := by decide +kernel
theorem dX11_isGood_11 : decode cX11_isGood 11 = .ok (.iconst 0, 1) := by decide +kernel
theorem dX11_isGood_12 : decode cX11_isGood 12 = .ok (.ireturn, 1) := by decide +kernel
theorem wd_1599 : (Cond.code ⟨"WebCourtModel", "isGood", "()Z"⟩ prog_13_method_6_code (1 : Nat) (Option.some FieldType.boolean)) ∈ gtb := gtb_c7 50 (by decide +kernel) rfl
set_option maxHeartbeats 4000000 in
set_option maxRecDepth 100000 in
theorem T_X11_isGood (l : Launch) (D : va_G) (cy : Nat → ClassId) (a : Nat → Nat) (u : St) (hJ : MI a u) (gf : Int32) (hgf : fI u 0 4 = gf)   : Mi l D cy (mW cy a) yX11_isGood (.code yX11_isGood cX11_isGood 1 (some .boolean)) (rmo 0 0) [.ref (a 0)] u (fun (r : Int32) (u' : St) => (((gf.toInt = 0) ∧ r = 1) ∨ ((¬ gf.toInt = 0) ∧ r = 0)) ∧ (u' = u)) := by
  refine Mi.of (own := RX11) rfl (by decide) (Nat.le_of_ble_eq_true rfl) ?_
  have hT : Km0 u u := Km0.rf
  have hJ0 := hJ
  intro p e s m below meth c A Q ls C hret hO hl
  obtain ⟨hx, hb, hml, hown, ht, hK, hA⟩ := id C
  have hl : lv_has ls 1 [(0, .ref (a 0))] := hl
  refine lv_aload_n hx hb dX11_isGood_0 rfl (lv_at hl 0 rfl) ?_
  have g1 : 0 ≤ gf.toInt ∧ gf.toInt ≤ 5 := by have h := MI_4 hJ0; rw [hgf] at h; exact h
  refine gf_RX11_155 (v := .int gf) C hO 0 mW_0 (congrArg (fun z : Int32 => some (Value.int z)) hgf) dX11_isGood_1 ?_
  refine bs_ne (tgt := 11) (X := (gf).toInt) hx hb dX11_isGood_4 (by decide) rfl (fun c2 => ?_) (fun c2 => ?_)
  · refine lv_iconst (v := 0) hx hb dX11_isGood_11 (by decide) ?_
    refine hret _ _ _ _ _ _ dX11_isGood_12 rfl ?_ hO
    exact ⟨Or.inr ⟨by first | trivial | omega, rfl⟩, rfl⟩
  · refine lv_iconst (v := 1) hx hb dX11_isGood_7 (by decide) ?_
    refine lv_goto (tgt := 12) hx hb dX11_isGood_8 (by decide) ?_
    refine hret _ _ _ _ _ _ dX11_isGood_12 rfl ?_ hO
    exact ⟨Or.inl ⟨by omega, rfl⟩, rfl⟩
theorem dX11_isKept_0 : decode cX11_isKept 0 = .ok (.lload_n 0, 1) := by decide +kernel
theorem dX11_isKept_1 : decode cX11_isKept 1 = .ok (.ldc2_w 158, 3) := by decide +kernel
theorem dX11_isKept_4 : decode cX11_isKept 4 = .ok (.lcmp, 1) := by decide +kernel
theorem dX11_isKept_5 : decode cX11_isKept 5 = .ok (.ifCond .eq 75, 3) := by decide +kernel
theorem dX11_isKept_8 : decode cX11_isKept 8 = .ok (.lload_n 0, 1) := by decide +kernel
theorem dX11_isKept_9 : decode cX11_isKept 9 = .ok (.ldc2_w 160, 3) := by decide +kernel
theorem dX11_isKept_12 : decode cX11_isKept 12 = .ok (.lcmp, 1) := by decide +kernel
theorem dX11_isKept_13 : decode cX11_isKept 13 = .ok (.ifCond .eq 67, 3) := by decide +kernel
theorem dX11_isKept_16 : decode cX11_isKept 16 = .ok (.lload_n 0, 1) := by decide +kernel
theorem dX11_isKept_17 : decode cX11_isKept 17 = .ok (.ldc2_w 162, 3) := by decide +kernel
theorem dX11_isKept_20 : decode cX11_isKept 20 = .ok (.lcmp, 1) := by decide +kernel
theorem dX11_isKept_21 : decode cX11_isKept 21 = .ok (.ifCond .eq 59, 3) := by decide +kernel
theorem dX11_isKept_24 : decode cX11_isKept 24 = .ok (.lload_n 0, 1) := by decide +kernel
theorem dX11_isKept_25 : decode cX11_isKept 25 = .ok (.ldc2_w 164, 3) := by decide +kernel
theorem dX11_isKept_28 : decode cX11_isKept 28 = .ok (.lcmp, 1) := by decide +kernel
theorem dX11_isKept_29 : decode cX11_isKept 29 = .ok (.ifCond .eq 51, 3) := by decide +kernel
theorem dX11_isKept_32 : decode cX11_isKept 32 = .ok (.lload_n 0, 1) := by decide +kernel
theorem dX11_isKept_33 : decode cX11_isKept 33 = .ok (.ldc2_w 166, 3) := by decide +kernel
theorem dX11_isKept_36 : decode cX11_isKept 36 = .ok (.lcmp, 1) := by decide +kernel
theorem dX11_isKept_37 : decode cX11_isKept 37 = .ok (.ifCond .eq 43, 3) := by decide +kernel
theorem dX11_isKept_40 : decode cX11_isKept 40 = .ok (.lload_n 0, 1) := by decide +kernel
theorem dX11_isKept_41 : decode cX11_isKept 41 = .ok (.ldc2_w 168, 3) := by decide +kernel
theorem dX11_isKept_44 : decode cX11_isKept 44 = .ok (.lcmp, 1) := by decide +kernel
theorem dX11_isKept_45 : decode cX11_isKept 45 = .ok (.ifCond .eq 35, 3) := by decide +kernel
theorem dX11_isKept_48 : decode cX11_isKept 48 = .ok (.lload_n 0, 1) := by decide +kernel
theorem dX11_isKept_49 : decode cX11_isKept 49 = .ok (.ldc2_w 170, 3) := by decide +kernel
theorem dX11_isKept_52 : decode cX11_isKept 52 = .ok (.lcmp, 1) := by decide +kernel
theorem dX11_isKept_53 : decode cX11_isKept 53 = .ok (.ifCond .eq 27, 3) := by decide +kernel
theorem dX11_isKept_56 : decode cX11_isKept 56 = .ok (.lload_n 0, 1) := by decide +kernel
theorem dX11_isKept_57 : decode cX11_isKept 57 = .ok (.ldc2_w 172, 3) := by decide +kernel
theorem dX11_isKept_60 : decode cX11_isKept 60 = .ok (.lcmp, 1) := by decide +kernel
theorem dX11_isKept_61 : decode cX11_isKept 61 = .ok (.ifCond .eq 19, 3) := by decide +kernel
theorem dX11_isKept_64 : decode cX11_isKept 64 = .ok (.lload_n 0, 1) := by decide +kernel
theorem dX11_isKept_65 : decode cX11_isKept 65 = .ok (.ldc2_w 174, 3) := by decide +kernel
theorem dX11_isKept_68 : decode cX11_isKept 68 = .ok (.lcmp, 1) := by decide +kernel
theorem dX11_isKept_69 : decode cX11_isKept 69 = .ok (.ifCond .eq 11, 3) := by decide +kernel
theorem dX11_isKept_72 : decode cX11_isKept 72 = .ok (.lload_n 0, 1) := by decide +kernel
theorem dX11_isKept_73 : decode cX11_isKept 73 = .ok (.ldc2_w 176, 3) := by decide +kernel
theorem dX11_isKept_76 : decode cX11_isKept 76 = .ok (.lcmp, 1) := by decide +kernel
theorem dX11_isKept_77 : decode cX11_isKept 77 = .ok (.ifCond .ne 7, 3) := by decide +kernel
theorem dX11_isKept_80 : decode cX11_isKept 80 = .ok (.iconst 1, 1) := by decide +kernel
theorem dX11_isKept_81 : decode cX11_isKept 81 = .ok (.goto 4, 3) := by decide +kernel
theorem dX11_isKept_84 : decode cX11_isKept 84 = .ok (.iconst 0, 1) := by decide +kernel
theorem dX11_isKept_85 : decode cX11_isKept 85 = .ok (.istore_n 2, 1) := by decide +kernel
theorem dX11_isKept_86 : decode cX11_isKept 86 = .ok (.iload_n 2, 1) := by decide +kernel
theorem dX11_isKept_87 : decode cX11_isKept 87 = .ok (.ifCond .ne 83, 3) := by decide +kernel
theorem dX11_isKept_90 : decode cX11_isKept 90 = .ok (.lload_n 0, 1) := by decide +kernel
theorem dX11_isKept_91 : decode cX11_isKept 91 = .ok (.ldc2_w 178, 3) := by decide +kernel
theorem dX11_isKept_94 : decode cX11_isKept 94 = .ok (.lcmp, 1) := by decide +kernel
theorem dX11_isKept_95 : decode cX11_isKept 95 = .ok (.ifCond .eq 75, 3) := by decide +kernel
theorem dX11_isKept_98 : decode cX11_isKept 98 = .ok (.lload_n 0, 1) := by decide +kernel
theorem dX11_isKept_99 : decode cX11_isKept 99 = .ok (.ldc2_w 180, 3) := by decide +kernel
theorem dX11_isKept_102 : decode cX11_isKept 102 = .ok (.lcmp, 1) := by decide +kernel
theorem dX11_isKept_103 : decode cX11_isKept 103 = .ok (.ifCond .eq 67, 3) := by decide +kernel
theorem dX11_isKept_106 : decode cX11_isKept 106 = .ok (.lload_n 0, 1) := by decide +kernel
theorem dX11_isKept_107 : decode cX11_isKept 107 = .ok (.ldc2_w 182, 3) := by decide +kernel
theorem dX11_isKept_110 : decode cX11_isKept 110 = .ok (.lcmp, 1) := by decide +kernel
theorem dX11_isKept_111 : decode cX11_isKept 111 = .ok (.ifCond .eq 59, 3) := by decide +kernel
theorem dX11_isKept_114 : decode cX11_isKept 114 = .ok (.lload_n 0, 1) := by decide +kernel
theorem dX11_isKept_115 : decode cX11_isKept 115 = .ok (.ldc2_w 184, 3) := by decide +kernel
theorem dX11_isKept_118 : decode cX11_isKept 118 = .ok (.lcmp, 1) := by decide +kernel
theorem dX11_isKept_119 : decode cX11_isKept 119 = .ok (.ifCond .eq 51, 3) := by decide +kernel
theorem dX11_isKept_122 : decode cX11_isKept 122 = .ok (.lload_n 0, 1) := by decide +kernel
theorem dX11_isKept_123 : decode cX11_isKept 123 = .ok (.ldc2_w 186, 3) := by decide +kernel
theorem dX11_isKept_126 : decode cX11_isKept 126 = .ok (.lcmp, 1) := by decide +kernel
theorem dX11_isKept_127 : decode cX11_isKept 127 = .ok (.ifCond .eq 43, 3) := by decide +kernel
theorem dX11_isKept_130 : decode cX11_isKept 130 = .ok (.lload_n 0, 1) := by decide +kernel
theorem dX11_isKept_131 : decode cX11_isKept 131 = .ok (.ldc2_w 188, 3) := by decide +kernel
theorem dX11_isKept_134 : decode cX11_isKept 134 = .ok (.lcmp, 1) := by decide +kernel
theorem dX11_isKept_135 : decode cX11_isKept 135 = .ok (.ifCond .eq 35, 3) := by decide +kernel
theorem dX11_isKept_138 : decode cX11_isKept 138 = .ok (.lload_n 0, 1) := by decide +kernel
theorem dX11_isKept_139 : decode cX11_isKept 139 = .ok (.ldc2_w 190, 3) := by decide +kernel
theorem dX11_isKept_142 : decode cX11_isKept 142 = .ok (.lcmp, 1) := by decide +kernel
theorem dX11_isKept_143 : decode cX11_isKept 143 = .ok (.ifCond .eq 27, 3) := by decide +kernel
theorem dX11_isKept_146 : decode cX11_isKept 146 = .ok (.lload_n 0, 1) := by decide +kernel
theorem dX11_isKept_147 : decode cX11_isKept 147 = .ok (.ldc2_w 192, 3) := by decide +kernel
theorem dX11_isKept_150 : decode cX11_isKept 150 = .ok (.lcmp, 1) := by decide +kernel
theorem dX11_isKept_151 : decode cX11_isKept 151 = .ok (.ifCond .eq 19, 3) := by decide +kernel
theorem dX11_isKept_154 : decode cX11_isKept 154 = .ok (.lload_n 0, 1) := by decide +kernel
theorem dX11_isKept_155 : decode cX11_isKept 155 = .ok (.ldc2_w 194, 3) := by decide +kernel
theorem dX11_isKept_158 : decode cX11_isKept 158 = .ok (.lcmp, 1) := by decide +kernel
theorem dX11_isKept_159 : decode cX11_isKept 159 = .ok (.ifCond .eq 11, 3) := by decide +kernel
theorem dX11_isKept_162 : decode cX11_isKept 162 = .ok (.lload_n 0, 1) := by decide +kernel
theorem dX11_isKept_163 : decode cX11_isKept 163 = .ok (.ldc2_w 196, 3) := by decide +kernel
theorem dX11_isKept_166 : decode cX11_isKept 166 = .ok (.lcmp, 1) := by decide +kernel
theorem dX11_isKept_167 : decode cX11_isKept 167 = .ok (.ifCond .ne 7, 3) := by decide +kernel
theorem dX11_isKept_170 : decode cX11_isKept 170 = .ok (.iconst 1, 1) := by decide +kernel
theorem dX11_isKept_171 : decode cX11_isKept 171 = .ok (.goto 4, 3) := by decide +kernel
theorem dX11_isKept_174 : decode cX11_isKept 174 = .ok (.iconst 0, 1) := by decide +kernel
theorem dX11_isKept_175 : decode cX11_isKept 175 = .ok (.ireturn, 1) := by decide +kernel
theorem wd_1569 : (Cond.code ⟨"WebCourtModel", "isKept", "(J)Z"⟩ prog_13_method_7_code (3 : Nat) (Option.some FieldType.boolean)) ∈ gtb := gtb_c7 20 (by decide +kernel) rfl
theorem wd_1570 : (Cond.constantLong "WebCourtModel" (158 : Nat) (1802399604 : Int64)) ∈ gtb := gtb_c7 21 (by decide +kernel) rfl
theorem wd_1571 : (Cond.constantLong "WebCourtModel" (160 : Nat) (1818848869 : Int64)) ∈ gtb := gtb_c7 22 (by decide +kernel) rfl
theorem wd_1572 : (Cond.constantLong "WebCourtModel" (162 : Nat) (126943821523833 : Int64)) ∈ gtb := gtb_c7 23 (by decide +kernel) rfl
theorem wd_1573 : (Cond.constantLong "WebCourtModel" (164 : Nat) (1886152033 : Int64)) ∈ gtb := gtb_c7 24 (by decide +kernel) rfl
theorem wd_1574 : (Cond.constantLong "WebCourtModel" (166 : Nat) (126943973305959 : Int64)) ∈ gtb := gtb_c7 25 (by decide +kernel) rfl
theorem wd_1575 : (Cond.constantLong "WebCourtModel" (168 : Nat) (1667330917 : Int64)) ∈ gtb := gtb_c7 26 (by decide +kernel) rfl
theorem wd_1576 : (Cond.constantLong "WebCourtModel" (170 : Nat) (24948 : Int64)) ∈ gtb := gtb_c7 27 (by decide +kernel) rfl
theorem wd_1577 : (Cond.constantLong "WebCourtModel" (172 : Nat) (123610859660403 : Int64)) ∈ gtb := gtb_c7 28 (by decide +kernel) rfl
theorem wd_1578 : (Cond.constantLong "WebCourtModel" (174 : Nat) (422608528232 : Int64)) ∈ gtb := gtb_c7 29 (by decide +kernel) rfl
theorem wd_1579 : (Cond.constantLong "WebCourtModel" (176 : Nat) (7102839 : Int64)) ∈ gtb := gtb_c7 30 (by decide +kernel) rfl
theorem wd_1580 : (Cond.constantLong "WebCourtModel" (178 : Nat) (1650549611 : Int64)) ∈ gtb := gtb_c7 31 (by decide +kernel) rfl
theorem wd_1581 : (Cond.constantLong "WebCourtModel" (180 : Nat) (1685217655 : Int64)) ∈ gtb := gtb_c7 32 (by decide +kernel) rfl
theorem wd_1582 : (Cond.constantLong "WebCourtModel" (182 : Nat) (1835101817 : Int64)) ∈ gtb := gtb_c7 33 (by decide +kernel) rfl
theorem wd_1583 : (Cond.constantLong "WebCourtModel" (184 : Nat) (108187649798757 : Int64)) ∈ gtb := gtb_c7 34 (by decide +kernel) rfl
theorem wd_1584 : (Cond.constantLong "WebCourtModel" (186 : Nat) (495873784179 : Int64)) ∈ gtb := gtb_c7 35 (by decide +kernel) rfl
theorem wd_1585 : (Cond.constantLong "WebCourtModel" (188 : Nat) (7039342 : Int64)) ∈ gtb := gtb_c7 36 (by decide +kernel) rfl
theorem wd_1586 : (Cond.constantLong "WebCourtModel" (190 : Nat) (1752135026 : Int64)) ∈ gtb := gtb_c7 37 (by decide +kernel) rfl
theorem wd_1587 : (Cond.constantLong "WebCourtModel" (192 : Nat) (28530 : Int64)) ∈ gtb := gtb_c7 38 (by decide +kernel) rfl
theorem wd_1588 : (Cond.constantLong "WebCourtModel" (194 : Nat) (6385252 : Int64)) ∈ gtb := gtb_c7 39 (by decide +kernel) rfl
theorem wd_1589 : (Cond.constantLong "WebCourtModel" (196 : Nat) (7237492 : Int64)) ∈ gtb := gtb_c7 40 (by decide +kernel) rfl
set_option maxHeartbeats 4000000 in
set_option maxRecDepth 100000 in
theorem T_X11_isKept (l : Launch) (D : va_G) (cy : Nat → ClassId) (a : Nat → Nat) (u : St) (hJ : MI a u) (x1 : Int64)  : Mi l D cy (mW cy a) yX11_isKept (.code yX11_isKept cX11_isKept 3 (some .boolean)) (rmo 0 0) [.long x1] u (fun (r : Int32) (u' : St) => (r = 0 ∨ r = 1) ∧ (u' = u)) := by
  refine Mi.of (own := RX11) rfl (by decide) (Nat.le_of_ble_eq_true rfl) ?_
  have hT : Km0 u u := Km0.rf
  have hJ0 := hJ
  intro p e s m below meth c A Q ls C hret hO hl
  obtain ⟨hx, hb, hml, hown, ht, hK, hA⟩ := id C
  have hl : lv_has ls 3 [(0, .long x1)] := hl
  refine lv_lload_n hx hb dX11_isKept_0 rfl (lv_at hl 0 rfl) ?_
  refine lv_ldc2 (v := 1802399604) hx hb hown (ht _ wd_1570) dX11_isKept_1 ?_
  refine W.lcmp hx hb dX11_isKept_4 ?_
  refine lv_topi (fun z1 ez1 => ?_)
  refine bs_eq (tgt := 80) (X := (z1).toInt) hx hb dX11_isKept_5 (by decide) rfl (fun c2 => ?_) (fun c2 => ?_)
  · have hj3 := lc_eq ez1 (by omega)
    refine lv_iconst (v := 1) hx hb dX11_isKept_80 (by decide) ?_
    refine lv_goto (tgt := 85) hx hb dX11_isKept_81 (by decide) ?_
    refine lv_istore_n (lv' := [(2, .int 1), (0, .long x1)]) hx hb dX11_isKept_85 rfl hl (by decide) rfl (fun ls hl => ?_)
    refine lv_iload_n hx hb dX11_isKept_86 rfl (lv_at hl 0 rfl) ?_
    refine bt_ne (tgt := 170) (X := 1) hx hb dX11_isKept_87 (by decide) rfl (by omega) ?_
    refine lv_iconst (v := 1) hx hb dX11_isKept_170 (by decide) ?_
    refine lv_goto (tgt := 175) hx hb dX11_isKept_171 (by decide) ?_
    refine hret _ _ _ _ _ _ dX11_isKept_175 rfl ?_ hO
    exact ⟨Or.inr rfl, rfl⟩
  · have hj4 := lc_ne ez1 (by omega)
    refine lv_lload_n hx hb dX11_isKept_8 rfl (lv_at hl 0 rfl) ?_
    refine lv_ldc2 (v := 1818848869) hx hb hown (ht _ wd_1571) dX11_isKept_9 ?_
    refine W.lcmp hx hb dX11_isKept_12 ?_
    refine lv_topi (fun z5 ez5 => ?_)
    refine bs_eq (tgt := 80) (X := (z5).toInt) hx hb dX11_isKept_13 (by decide) rfl (fun c6 => ?_) (fun c6 => ?_)
    · have hj7 := lc_eq ez5 (by omega)
      refine lv_iconst (v := 1) hx hb dX11_isKept_80 (by decide) ?_
      refine lv_goto (tgt := 85) hx hb dX11_isKept_81 (by decide) ?_
      refine lv_istore_n (lv' := [(2, .int 1), (0, .long x1)]) hx hb dX11_isKept_85 rfl hl (by decide) rfl (fun ls hl => ?_)
      refine lv_iload_n hx hb dX11_isKept_86 rfl (lv_at hl 0 rfl) ?_
      refine bt_ne (tgt := 170) (X := 1) hx hb dX11_isKept_87 (by decide) rfl (by omega) ?_
      refine lv_iconst (v := 1) hx hb dX11_isKept_170 (by decide) ?_
      refine lv_goto (tgt := 175) hx hb dX11_isKept_171 (by decide) ?_
      refine hret _ _ _ _ _ _ dX11_isKept_175 rfl ?_ hO
      exact ⟨Or.inr rfl, rfl⟩
    · have hj8 := lc_ne ez5 (by omega)
      refine lv_lload_n hx hb dX11_isKept_16 rfl (lv_at hl 0 rfl) ?_
      refine lv_ldc2 (v := 126943821523833) hx hb hown (ht _ wd_1572) dX11_isKept_17 ?_
      refine W.lcmp hx hb dX11_isKept_20 ?_
      refine lv_topi (fun z9 ez9 => ?_)
      refine bs_eq (tgt := 80) (X := (z9).toInt) hx hb dX11_isKept_21 (by decide) rfl (fun c10 => ?_) (fun c10 => ?_)
      · have hj11 := lc_eq ez9 (by omega)
        refine lv_iconst (v := 1) hx hb dX11_isKept_80 (by decide) ?_
        refine lv_goto (tgt := 85) hx hb dX11_isKept_81 (by decide) ?_
        refine lv_istore_n (lv' := [(2, .int 1), (0, .long x1)]) hx hb dX11_isKept_85 rfl hl (by decide) rfl (fun ls hl => ?_)
        refine lv_iload_n hx hb dX11_isKept_86 rfl (lv_at hl 0 rfl) ?_
        refine bt_ne (tgt := 170) (X := 1) hx hb dX11_isKept_87 (by decide) rfl (by omega) ?_
        refine lv_iconst (v := 1) hx hb dX11_isKept_170 (by decide) ?_
        refine lv_goto (tgt := 175) hx hb dX11_isKept_171 (by decide) ?_
        refine hret _ _ _ _ _ _ dX11_isKept_175 rfl ?_ hO
        exact ⟨Or.inr rfl, rfl⟩
      · have hj12 := lc_ne ez9 (by omega)
        refine lv_lload_n hx hb dX11_isKept_24 rfl (lv_at hl 0 rfl) ?_
        refine lv_ldc2 (v := 1886152033) hx hb hown (ht _ wd_1573) dX11_isKept_25 ?_
        refine W.lcmp hx hb dX11_isKept_28 ?_
        refine lv_topi (fun z13 ez13 => ?_)
        refine bs_eq (tgt := 80) (X := (z13).toInt) hx hb dX11_isKept_29 (by decide) rfl (fun c14 => ?_) (fun c14 => ?_)
        · have hj15 := lc_eq ez13 (by omega)
          refine lv_iconst (v := 1) hx hb dX11_isKept_80 (by decide) ?_
          refine lv_goto (tgt := 85) hx hb dX11_isKept_81 (by decide) ?_
          refine lv_istore_n (lv' := [(2, .int 1), (0, .long x1)]) hx hb dX11_isKept_85 rfl hl (by decide) rfl (fun ls hl => ?_)
          refine lv_iload_n hx hb dX11_isKept_86 rfl (lv_at hl 0 rfl) ?_
          refine bt_ne (tgt := 170) (X := 1) hx hb dX11_isKept_87 (by decide) rfl (by omega) ?_
          refine lv_iconst (v := 1) hx hb dX11_isKept_170 (by decide) ?_
          refine lv_goto (tgt := 175) hx hb dX11_isKept_171 (by decide) ?_
          refine hret _ _ _ _ _ _ dX11_isKept_175 rfl ?_ hO
          exact ⟨Or.inr rfl, rfl⟩
        · have hj16 := lc_ne ez13 (by omega)
          refine lv_lload_n hx hb dX11_isKept_32 rfl (lv_at hl 0 rfl) ?_
          refine lv_ldc2 (v := 126943973305959) hx hb hown (ht _ wd_1574) dX11_isKept_33 ?_
          refine W.lcmp hx hb dX11_isKept_36 ?_
          refine lv_topi (fun z17 ez17 => ?_)
          refine bs_eq (tgt := 80) (X := (z17).toInt) hx hb dX11_isKept_37 (by decide) rfl (fun c18 => ?_) (fun c18 => ?_)
          · have hj19 := lc_eq ez17 (by omega)
            refine lv_iconst (v := 1) hx hb dX11_isKept_80 (by decide) ?_
            refine lv_goto (tgt := 85) hx hb dX11_isKept_81 (by decide) ?_
            refine lv_istore_n (lv' := [(2, .int 1), (0, .long x1)]) hx hb dX11_isKept_85 rfl hl (by decide) rfl (fun ls hl => ?_)
            refine lv_iload_n hx hb dX11_isKept_86 rfl (lv_at hl 0 rfl) ?_
            refine bt_ne (tgt := 170) (X := 1) hx hb dX11_isKept_87 (by decide) rfl (by omega) ?_
            refine lv_iconst (v := 1) hx hb dX11_isKept_170 (by decide) ?_
            refine lv_goto (tgt := 175) hx hb dX11_isKept_171 (by decide) ?_
            refine hret _ _ _ _ _ _ dX11_isKept_175 rfl ?_ hO
            exact ⟨Or.inr rfl, rfl⟩
          · have hj20 := lc_ne ez17 (by omega)
            refine lv_lload_n hx hb dX11_isKept_40 rfl (lv_at hl 0 rfl) ?_
            refine lv_ldc2 (v := 1667330917) hx hb hown (ht _ wd_1575) dX11_isKept_41 ?_
            refine W.lcmp hx hb dX11_isKept_44 ?_
            refine lv_topi (fun z21 ez21 => ?_)
            refine bs_eq (tgt := 80) (X := (z21).toInt) hx hb dX11_isKept_45 (by decide) rfl (fun c22 => ?_) (fun c22 => ?_)
            · have hj23 := lc_eq ez21 (by omega)
              refine lv_iconst (v := 1) hx hb dX11_isKept_80 (by decide) ?_
              refine lv_goto (tgt := 85) hx hb dX11_isKept_81 (by decide) ?_
              refine lv_istore_n (lv' := [(2, .int 1), (0, .long x1)]) hx hb dX11_isKept_85 rfl hl (by decide) rfl (fun ls hl => ?_)
              refine lv_iload_n hx hb dX11_isKept_86 rfl (lv_at hl 0 rfl) ?_
              refine bt_ne (tgt := 170) (X := 1) hx hb dX11_isKept_87 (by decide) rfl (by omega) ?_
              refine lv_iconst (v := 1) hx hb dX11_isKept_170 (by decide) ?_
              refine lv_goto (tgt := 175) hx hb dX11_isKept_171 (by decide) ?_
              refine hret _ _ _ _ _ _ dX11_isKept_175 rfl ?_ hO
              exact ⟨Or.inr rfl, rfl⟩
            · have hj24 := lc_ne ez21 (by omega)
              refine lv_lload_n hx hb dX11_isKept_48 rfl (lv_at hl 0 rfl) ?_
              refine lv_ldc2 (v := 24948) hx hb hown (ht _ wd_1576) dX11_isKept_49 ?_
              refine W.lcmp hx hb dX11_isKept_52 ?_
              refine lv_topi (fun z25 ez25 => ?_)
              refine bs_eq (tgt := 80) (X := (z25).toInt) hx hb dX11_isKept_53 (by decide) rfl (fun c26 => ?_) (fun c26 => ?_)
              · have hj27 := lc_eq ez25 (by omega)
                refine lv_iconst (v := 1) hx hb dX11_isKept_80 (by decide) ?_
                refine lv_goto (tgt := 85) hx hb dX11_isKept_81 (by decide) ?_
                refine lv_istore_n (lv' := [(2, .int 1), (0, .long x1)]) hx hb dX11_isKept_85 rfl hl (by decide) rfl (fun ls hl => ?_)
                refine lv_iload_n hx hb dX11_isKept_86 rfl (lv_at hl 0 rfl) ?_
                refine bt_ne (tgt := 170) (X := 1) hx hb dX11_isKept_87 (by decide) rfl (by omega) ?_
                refine lv_iconst (v := 1) hx hb dX11_isKept_170 (by decide) ?_
                refine lv_goto (tgt := 175) hx hb dX11_isKept_171 (by decide) ?_
                refine hret _ _ _ _ _ _ dX11_isKept_175 rfl ?_ hO
                exact ⟨Or.inr rfl, rfl⟩
              · have hj28 := lc_ne ez25 (by omega)
                refine lv_lload_n hx hb dX11_isKept_56 rfl (lv_at hl 0 rfl) ?_
                refine lv_ldc2 (v := 123610859660403) hx hb hown (ht _ wd_1577) dX11_isKept_57 ?_
                refine W.lcmp hx hb dX11_isKept_60 ?_
                refine lv_topi (fun z29 ez29 => ?_)
                refine bs_eq (tgt := 80) (X := (z29).toInt) hx hb dX11_isKept_61 (by decide) rfl (fun c30 => ?_) (fun c30 => ?_)
                · have hj31 := lc_eq ez29 (by omega)
                  refine lv_iconst (v := 1) hx hb dX11_isKept_80 (by decide) ?_
                  refine lv_goto (tgt := 85) hx hb dX11_isKept_81 (by decide) ?_
                  refine lv_istore_n (lv' := [(2, .int 1), (0, .long x1)]) hx hb dX11_isKept_85 rfl hl (by decide) rfl (fun ls hl => ?_)
                  refine lv_iload_n hx hb dX11_isKept_86 rfl (lv_at hl 0 rfl) ?_
                  refine bt_ne (tgt := 170) (X := 1) hx hb dX11_isKept_87 (by decide) rfl (by omega) ?_
                  refine lv_iconst (v := 1) hx hb dX11_isKept_170 (by decide) ?_
                  refine lv_goto (tgt := 175) hx hb dX11_isKept_171 (by decide) ?_
                  refine hret _ _ _ _ _ _ dX11_isKept_175 rfl ?_ hO
                  exact ⟨Or.inr rfl, rfl⟩
                · have hj32 := lc_ne ez29 (by omega)
                  refine lv_lload_n hx hb dX11_isKept_64 rfl (lv_at hl 0 rfl) ?_
                  refine lv_ldc2 (v := 422608528232) hx hb hown (ht _ wd_1578) dX11_isKept_65 ?_
                  refine W.lcmp hx hb dX11_isKept_68 ?_
                  refine lv_topi (fun z33 ez33 => ?_)
                  refine bs_eq (tgt := 80) (X := (z33).toInt) hx hb dX11_isKept_69 (by decide) rfl (fun c34 => ?_) (fun c34 => ?_)
                  · have hj35 := lc_eq ez33 (by omega)
                    refine lv_iconst (v := 1) hx hb dX11_isKept_80 (by decide) ?_
                    refine lv_goto (tgt := 85) hx hb dX11_isKept_81 (by decide) ?_
                    refine lv_istore_n (lv' := [(2, .int 1), (0, .long x1)]) hx hb dX11_isKept_85 rfl hl (by decide) rfl (fun ls hl => ?_)
                    refine lv_iload_n hx hb dX11_isKept_86 rfl (lv_at hl 0 rfl) ?_
                    refine bt_ne (tgt := 170) (X := 1) hx hb dX11_isKept_87 (by decide) rfl (by omega) ?_
                    refine lv_iconst (v := 1) hx hb dX11_isKept_170 (by decide) ?_
                    refine lv_goto (tgt := 175) hx hb dX11_isKept_171 (by decide) ?_
                    refine hret _ _ _ _ _ _ dX11_isKept_175 rfl ?_ hO
                    exact ⟨Or.inr rfl, rfl⟩
                  · have hj36 := lc_ne ez33 (by omega)
                    refine lv_lload_n hx hb dX11_isKept_72 rfl (lv_at hl 0 rfl) ?_
                    refine lv_ldc2 (v := 7102839) hx hb hown (ht _ wd_1579) dX11_isKept_73 ?_
                    refine W.lcmp hx hb dX11_isKept_76 ?_
                    refine lv_topi (fun z37 ez37 => ?_)
                    refine bs_ne (tgt := 84) (X := (z37).toInt) hx hb dX11_isKept_77 (by decide) rfl (fun c38 => ?_) (fun c38 => ?_)
                    · have hj39 := lc_ne ez37 (by omega)
                      refine lv_iconst (v := 0) hx hb dX11_isKept_84 (by decide) ?_
                      refine lv_istore_n (lv' := [(2, .int 0), (0, .long x1)]) hx hb dX11_isKept_85 rfl hl (by decide) rfl (fun ls hl => ?_)
                      refine lv_iload_n hx hb dX11_isKept_86 rfl (lv_at hl 0 rfl) ?_
                      refine bn_ne (X := 0) hx hb dX11_isKept_87 rfl (by omega) ?_ (tgt := 170) (by decide)
                      refine lv_lload_n hx hb dX11_isKept_90 rfl (lv_at hl 1 rfl) ?_
                      refine lv_ldc2 (v := 1650549611) hx hb hown (ht _ wd_1580) dX11_isKept_91 ?_
                      refine W.lcmp hx hb dX11_isKept_94 ?_
                      refine lv_topi (fun z40 ez40 => ?_)
                      refine bs_eq (tgt := 170) (X := (z40).toInt) hx hb dX11_isKept_95 (by decide) rfl (fun c41 => ?_) (fun c41 => ?_)
                      · have hj42 := lc_eq ez40 (by omega)
                        refine lv_iconst (v := 1) hx hb dX11_isKept_170 (by decide) ?_
                        refine lv_goto (tgt := 175) hx hb dX11_isKept_171 (by decide) ?_
                        refine hret _ _ _ _ _ _ dX11_isKept_175 rfl ?_ hO
                        exact ⟨Or.inr rfl, rfl⟩
                      · have hj43 := lc_ne ez40 (by omega)
                        refine lv_lload_n hx hb dX11_isKept_98 rfl (lv_at hl 1 rfl) ?_
                        refine lv_ldc2 (v := 1685217655) hx hb hown (ht _ wd_1581) dX11_isKept_99 ?_
                        refine W.lcmp hx hb dX11_isKept_102 ?_
                        refine lv_topi (fun z44 ez44 => ?_)
                        refine bs_eq (tgt := 170) (X := (z44).toInt) hx hb dX11_isKept_103 (by decide) rfl (fun c45 => ?_) (fun c45 => ?_)
                        · have hj46 := lc_eq ez44 (by omega)
                          refine lv_iconst (v := 1) hx hb dX11_isKept_170 (by decide) ?_
                          refine lv_goto (tgt := 175) hx hb dX11_isKept_171 (by decide) ?_
                          refine hret _ _ _ _ _ _ dX11_isKept_175 rfl ?_ hO
                          exact ⟨Or.inr rfl, rfl⟩
                        · have hj47 := lc_ne ez44 (by omega)
                          refine lv_lload_n hx hb dX11_isKept_106 rfl (lv_at hl 1 rfl) ?_
                          refine lv_ldc2 (v := 1835101817) hx hb hown (ht _ wd_1582) dX11_isKept_107 ?_
                          refine W.lcmp hx hb dX11_isKept_110 ?_
                          refine lv_topi (fun z48 ez48 => ?_)
                          refine bs_eq (tgt := 170) (X := (z48).toInt) hx hb dX11_isKept_111 (by decide) rfl (fun c49 => ?_) (fun c49 => ?_)
                          · have hj50 := lc_eq ez48 (by omega)
                            refine lv_iconst (v := 1) hx hb dX11_isKept_170 (by decide) ?_
                            refine lv_goto (tgt := 175) hx hb dX11_isKept_171 (by decide) ?_
                            refine hret _ _ _ _ _ _ dX11_isKept_175 rfl ?_ hO
                            exact ⟨Or.inr rfl, rfl⟩
                          · have hj51 := lc_ne ez48 (by omega)
                            refine lv_lload_n hx hb dX11_isKept_114 rfl (lv_at hl 1 rfl) ?_
                            refine lv_ldc2 (v := 108187649798757) hx hb hown (ht _ wd_1583) dX11_isKept_115 ?_
                            refine W.lcmp hx hb dX11_isKept_118 ?_
                            refine lv_topi (fun z52 ez52 => ?_)
                            refine bs_eq (tgt := 170) (X := (z52).toInt) hx hb dX11_isKept_119 (by decide) rfl (fun c53 => ?_) (fun c53 => ?_)
                            · have hj54 := lc_eq ez52 (by omega)
                              refine lv_iconst (v := 1) hx hb dX11_isKept_170 (by decide) ?_
                              refine lv_goto (tgt := 175) hx hb dX11_isKept_171 (by decide) ?_
                              refine hret _ _ _ _ _ _ dX11_isKept_175 rfl ?_ hO
                              exact ⟨Or.inr rfl, rfl⟩
                            · have hj55 := lc_ne ez52 (by omega)
                              refine lv_lload_n hx hb dX11_isKept_122 rfl (lv_at hl 1 rfl) ?_
                              refine lv_ldc2 (v := 495873784179) hx hb hown (ht _ wd_1584) dX11_isKept_123 ?_
                              refine W.lcmp hx hb dX11_isKept_126 ?_
                              refine lv_topi (fun z56 ez56 => ?_)
                              refine bs_eq (tgt := 170) (X := (z56).toInt) hx hb dX11_isKept_127 (by decide) rfl (fun c57 => ?_) (fun c57 => ?_)
                              · have hj58 := lc_eq ez56 (by omega)
                                refine lv_iconst (v := 1) hx hb dX11_isKept_170 (by decide) ?_
                                refine lv_goto (tgt := 175) hx hb dX11_isKept_171 (by decide) ?_
                                refine hret _ _ _ _ _ _ dX11_isKept_175 rfl ?_ hO
                                exact ⟨Or.inr rfl, rfl⟩
                              · have hj59 := lc_ne ez56 (by omega)
                                refine lv_lload_n hx hb dX11_isKept_130 rfl (lv_at hl 1 rfl) ?_
                                refine lv_ldc2 (v := 7039342) hx hb hown (ht _ wd_1585) dX11_isKept_131 ?_
                                refine W.lcmp hx hb dX11_isKept_134 ?_
                                refine lv_topi (fun z60 ez60 => ?_)
                                refine bs_eq (tgt := 170) (X := (z60).toInt) hx hb dX11_isKept_135 (by decide) rfl (fun c61 => ?_) (fun c61 => ?_)
                                · have hj62 := lc_eq ez60 (by omega)
                                  refine lv_iconst (v := 1) hx hb dX11_isKept_170 (by decide) ?_
                                  refine lv_goto (tgt := 175) hx hb dX11_isKept_171 (by decide) ?_
                                  refine hret _ _ _ _ _ _ dX11_isKept_175 rfl ?_ hO
                                  exact ⟨Or.inr rfl, rfl⟩
                                · have hj63 := lc_ne ez60 (by omega)
                                  refine lv_lload_n hx hb dX11_isKept_138 rfl (lv_at hl 1 rfl) ?_
                                  refine lv_ldc2 (v := 1752135026) hx hb hown (ht _ wd_1586) dX11_isKept_139 ?_
                                  refine W.lcmp hx hb dX11_isKept_142 ?_
                                  refine lv_topi (fun z64 ez64 => ?_)
                                  refine bs_eq (tgt := 170) (X := (z64).toInt) hx hb dX11_isKept_143 (by decide) rfl (fun c65 => ?_) (fun c65 => ?_)
                                  · have hj66 := lc_eq ez64 (by omega)
                                    refine lv_iconst (v := 1) hx hb dX11_isKept_170 (by decide) ?_
                                    refine lv_goto (tgt := 175) hx hb dX11_isKept_171 (by decide) ?_
                                    refine hret _ _ _ _ _ _ dX11_isKept_175 rfl ?_ hO
                                    exact ⟨Or.inr rfl, rfl⟩
                                  · have hj67 := lc_ne ez64 (by omega)
                                    refine lv_lload_n hx hb dX11_isKept_146 rfl (lv_at hl 1 rfl) ?_
                                    refine lv_ldc2 (v := 28530) hx hb hown (ht _ wd_1587) dX11_isKept_147 ?_
                                    refine W.lcmp hx hb dX11_isKept_150 ?_
                                    refine lv_topi (fun z68 ez68 => ?_)
                                    refine bs_eq (tgt := 170) (X := (z68).toInt) hx hb dX11_isKept_151 (by decide) rfl (fun c69 => ?_) (fun c69 => ?_)
                                    · have hj70 := lc_eq ez68 (by omega)
                                      refine lv_iconst (v := 1) hx hb dX11_isKept_170 (by decide) ?_
                                      refine lv_goto (tgt := 175) hx hb dX11_isKept_171 (by decide) ?_
                                      refine hret _ _ _ _ _ _ dX11_isKept_175 rfl ?_ hO
                                      exact ⟨Or.inr rfl, rfl⟩
                                    · have hj71 := lc_ne ez68 (by omega)
                                      refine lv_lload_n hx hb dX11_isKept_154 rfl (lv_at hl 1 rfl) ?_
                                      refine lv_ldc2 (v := 6385252) hx hb hown (ht _ wd_1588) dX11_isKept_155 ?_
                                      refine W.lcmp hx hb dX11_isKept_158 ?_
                                      refine lv_topi (fun z72 ez72 => ?_)
                                      refine bs_eq (tgt := 170) (X := (z72).toInt) hx hb dX11_isKept_159 (by decide) rfl (fun c73 => ?_) (fun c73 => ?_)
                                      · have hj74 := lc_eq ez72 (by omega)
                                        refine lv_iconst (v := 1) hx hb dX11_isKept_170 (by decide) ?_
                                        refine lv_goto (tgt := 175) hx hb dX11_isKept_171 (by decide) ?_
                                        refine hret _ _ _ _ _ _ dX11_isKept_175 rfl ?_ hO
                                        exact ⟨Or.inr rfl, rfl⟩
                                      · have hj75 := lc_ne ez72 (by omega)
                                        refine lv_lload_n hx hb dX11_isKept_162 rfl (lv_at hl 1 rfl) ?_
                                        refine lv_ldc2 (v := 7237492) hx hb hown (ht _ wd_1589) dX11_isKept_163 ?_
                                        refine W.lcmp hx hb dX11_isKept_166 ?_
                                        refine lv_topi (fun z76 ez76 => ?_)
                                        refine bs_ne (tgt := 174) (X := (z76).toInt) hx hb dX11_isKept_167 (by decide) rfl (fun c77 => ?_) (fun c77 => ?_)
                                        · have hj78 := lc_ne ez76 (by omega)
                                          refine lv_iconst (v := 0) hx hb dX11_isKept_174 (by decide) ?_
                                          refine hret _ _ _ _ _ _ dX11_isKept_175 rfl ?_ hO
                                          exact ⟨Or.inl rfl, rfl⟩
                                        · have hj79 := lc_eq ez76 (by omega)
                                          refine lv_iconst (v := 1) hx hb dX11_isKept_170 (by decide) ?_
                                          refine lv_goto (tgt := 175) hx hb dX11_isKept_171 (by decide) ?_
                                          refine hret _ _ _ _ _ _ dX11_isKept_175 rfl ?_ hO
                                          exact ⟨Or.inr rfl, rfl⟩
                    · have hj80 := lc_eq ez37 (by omega)
                      refine lv_iconst (v := 1) hx hb dX11_isKept_80 (by decide) ?_
                      refine lv_goto (tgt := 85) hx hb dX11_isKept_81 (by decide) ?_
                      refine lv_istore_n (lv' := [(2, .int 1), (0, .long x1)]) hx hb dX11_isKept_85 rfl hl (by decide) rfl (fun ls hl => ?_)
                      refine lv_iload_n hx hb dX11_isKept_86 rfl (lv_at hl 0 rfl) ?_
                      refine bt_ne (tgt := 170) (X := 1) hx hb dX11_isKept_87 (by decide) rfl (by omega) ?_
                      refine lv_iconst (v := 1) hx hb dX11_isKept_170 (by decide) ?_
                      refine lv_goto (tgt := 175) hx hb dX11_isKept_171 (by decide) ?_
                      refine hret _ _ _ _ _ _ dX11_isKept_175 rfl ?_ hO
                      exact ⟨Or.inr rfl, rfl⟩
theorem dX11_isSign_0 : decode cX11_isSign 0 = .ok (.iload_n 0, 1) := by decide +kernel
theorem dX11_isSign_1 : decode cX11_isSign 1 = .ok (.bipush 59, 2) := by decide +kernel
theorem dX11_isSign_3 : decode cX11_isSign 3 = .ok (.if_icmp .eq 63, 3) := by decide +kernel
theorem dX11_isSign_6 : decode cX11_isSign 6 = .ok (.iload_n 0, 1) := by decide +kernel
theorem dX11_isSign_7 : decode cX11_isSign 7 = .ok (.bipush 40, 2) := by decide +kernel
theorem dX11_isSign_9 : decode cX11_isSign 9 = .ok (.if_icmp .eq 57, 3) := by decide +kernel
theorem dX11_isSign_12 : decode cX11_isSign 12 = .ok (.iload_n 0, 1) := by decide +kernel
theorem dX11_isSign_13 : decode cX11_isSign 13 = .ok (.bipush 41, 2) := by decide +kernel
theorem dX11_isSign_15 : decode cX11_isSign 15 = .ok (.if_icmp .eq 51, 3) := by decide +kernel
theorem dX11_isSign_18 : decode cX11_isSign 18 = .ok (.iload_n 0, 1) := by decide +kernel
theorem dX11_isSign_19 : decode cX11_isSign 19 = .ok (.bipush 60, 2) := by decide +kernel
theorem dX11_isSign_21 : decode cX11_isSign 21 = .ok (.if_icmp .eq 45, 3) := by decide +kernel
theorem dX11_isSign_24 : decode cX11_isSign 24 = .ok (.iload_n 0, 1) := by decide +kernel
theorem dX11_isSign_25 : decode cX11_isSign 25 = .ok (.bipush 62, 2) := by decide +kernel
theorem dX11_isSign_27 : decode cX11_isSign 27 = .ok (.if_icmp .eq 39, 3) := by decide +kernel
theorem dX11_isSign_30 : decode cX11_isSign 30 = .ok (.iload_n 0, 1) := by decide +kernel
theorem dX11_isSign_31 : decode cX11_isSign 31 = .ok (.bipush 61, 2) := by decide +kernel
theorem dX11_isSign_33 : decode cX11_isSign 33 = .ok (.if_icmp .eq 33, 3) := by decide +kernel
theorem dX11_isSign_36 : decode cX11_isSign 36 = .ok (.iload_n 0, 1) := by decide +kernel
theorem dX11_isSign_37 : decode cX11_isSign 37 = .ok (.bipush 43, 2) := by decide +kernel
theorem dX11_isSign_39 : decode cX11_isSign 39 = .ok (.if_icmp .eq 27, 3) := by decide +kernel
theorem dX11_isSign_42 : decode cX11_isSign 42 = .ok (.iload_n 0, 1) := by decide +kernel
theorem dX11_isSign_43 : decode cX11_isSign 43 = .ok (.bipush 45, 2) := by decide +kernel
theorem dX11_isSign_45 : decode cX11_isSign 45 = .ok (.if_icmp .eq 21, 3) := by decide +kernel
theorem dX11_isSign_48 : decode cX11_isSign 48 = .ok (.iload_n 0, 1) := by decide +kernel
theorem dX11_isSign_49 : decode cX11_isSign 49 = .ok (.bipush 42, 2) := by decide +kernel
theorem dX11_isSign_51 : decode cX11_isSign 51 = .ok (.if_icmp .eq 15, 3) := by decide +kernel
theorem dX11_isSign_54 : decode cX11_isSign 54 = .ok (.iload_n 0, 1) := by decide +kernel
theorem dX11_isSign_55 : decode cX11_isSign 55 = .ok (.bipush 47, 2) := by decide +kernel
theorem dX11_isSign_57 : decode cX11_isSign 57 = .ok (.if_icmp .eq 9, 3) := by decide +kernel
theorem dX11_isSign_60 : decode cX11_isSign 60 = .ok (.iload_n 0, 1) := by decide +kernel
theorem dX11_isSign_61 : decode cX11_isSign 61 = .ok (.bipush 37, 2) := by decide +kernel
theorem dX11_isSign_63 : decode cX11_isSign 63 = .ok (.if_icmp .ne 7, 3) := by decide +kernel
theorem dX11_isSign_66 : decode cX11_isSign 66 = .ok (.iconst 1, 1) := by decide +kernel
theorem dX11_isSign_67 : decode cX11_isSign 67 = .ok (.goto 4, 3) := by decide +kernel
theorem dX11_isSign_70 : decode cX11_isSign 70 = .ok (.iconst 0, 1) := by decide +kernel
theorem dX11_isSign_71 : decode cX11_isSign 71 = .ok (.ireturn, 1) := by decide +kernel
theorem wd_1595 : (Cond.code ⟨"WebCourtModel", "isSign", "(I)Z"⟩ prog_13_method_8_code (1 : Nat) (Option.some FieldType.boolean)) ∈ gtb := gtb_c7 46 (by decide +kernel) rfl
set_option maxHeartbeats 4000000 in
set_option maxRecDepth 100000 in
theorem T_X11_isSign (l : Launch) (D : va_G) (cy : Nat → ClassId) (a : Nat → Nat) (u : St) (hJ : MI a u) (x1 : Int32)  : Mi l D cy (mW cy a) yX11_isSign (.code yX11_isSign cX11_isSign 1 (some .boolean)) (rmo 0 0) [.int x1] u (fun (r : Int32) (u' : St) => (r = 0 ∨ r = 1) ∧ (u' = u)) := by
  refine Mi.of (own := RX11) rfl (by decide) (Nat.le_of_ble_eq_true rfl) ?_
  have hT : Km0 u u := Km0.rf
  have hJ0 := hJ
  intro p e s m below meth c A Q ls C hret hO hl
  obtain ⟨hx, hb, hml, hown, ht, hK, hA⟩ := id C
  have hl : lv_has ls 1 [(0, .int x1)] := hl
  refine lv_iload_n hx hb dX11_isSign_0 rfl (lv_at hl 0 rfl) ?_
  refine lv_bipush (v := 59) hx hb dX11_isSign_1 (by decide) ?_
  refine cs_eq (tgt := 66) (X := (x1).toInt) (Y := 59) hx hb dX11_isSign_3 (by decide) rfl rfl (fun c1 => ?_) (fun c1 => ?_)
  · refine lv_iconst (v := 1) hx hb dX11_isSign_66 (by decide) ?_
    refine lv_goto (tgt := 71) hx hb dX11_isSign_67 (by decide) ?_
    refine hret _ _ _ _ _ _ dX11_isSign_71 rfl ?_ hO
    exact ⟨Or.inr rfl, rfl⟩
  · refine lv_iload_n hx hb dX11_isSign_6 rfl (lv_at hl 0 rfl) ?_
    refine lv_bipush (v := 40) hx hb dX11_isSign_7 (by decide) ?_
    refine cs_eq (tgt := 66) (X := (x1).toInt) (Y := 40) hx hb dX11_isSign_9 (by decide) rfl rfl (fun c2 => ?_) (fun c2 => ?_)
    · refine lv_iconst (v := 1) hx hb dX11_isSign_66 (by decide) ?_
      refine lv_goto (tgt := 71) hx hb dX11_isSign_67 (by decide) ?_
      refine hret _ _ _ _ _ _ dX11_isSign_71 rfl ?_ hO
      exact ⟨Or.inr rfl, rfl⟩
    · refine lv_iload_n hx hb dX11_isSign_12 rfl (lv_at hl 0 rfl) ?_
      refine lv_bipush (v := 41) hx hb dX11_isSign_13 (by decide) ?_
      refine cs_eq (tgt := 66) (X := (x1).toInt) (Y := 41) hx hb dX11_isSign_15 (by decide) rfl rfl (fun c3 => ?_) (fun c3 => ?_)
      · refine lv_iconst (v := 1) hx hb dX11_isSign_66 (by decide) ?_
        refine lv_goto (tgt := 71) hx hb dX11_isSign_67 (by decide) ?_
        refine hret _ _ _ _ _ _ dX11_isSign_71 rfl ?_ hO
        exact ⟨Or.inr rfl, rfl⟩
      · refine lv_iload_n hx hb dX11_isSign_18 rfl (lv_at hl 0 rfl) ?_
        refine lv_bipush (v := 60) hx hb dX11_isSign_19 (by decide) ?_
        refine cs_eq (tgt := 66) (X := (x1).toInt) (Y := 60) hx hb dX11_isSign_21 (by decide) rfl rfl (fun c4 => ?_) (fun c4 => ?_)
        · refine lv_iconst (v := 1) hx hb dX11_isSign_66 (by decide) ?_
          refine lv_goto (tgt := 71) hx hb dX11_isSign_67 (by decide) ?_
          refine hret _ _ _ _ _ _ dX11_isSign_71 rfl ?_ hO
          exact ⟨Or.inr rfl, rfl⟩
        · refine lv_iload_n hx hb dX11_isSign_24 rfl (lv_at hl 0 rfl) ?_
          refine lv_bipush (v := 62) hx hb dX11_isSign_25 (by decide) ?_
          refine cs_eq (tgt := 66) (X := (x1).toInt) (Y := 62) hx hb dX11_isSign_27 (by decide) rfl rfl (fun c5 => ?_) (fun c5 => ?_)
          · refine lv_iconst (v := 1) hx hb dX11_isSign_66 (by decide) ?_
            refine lv_goto (tgt := 71) hx hb dX11_isSign_67 (by decide) ?_
            refine hret _ _ _ _ _ _ dX11_isSign_71 rfl ?_ hO
            exact ⟨Or.inr rfl, rfl⟩
          · refine lv_iload_n hx hb dX11_isSign_30 rfl (lv_at hl 0 rfl) ?_
            refine lv_bipush (v := 61) hx hb dX11_isSign_31 (by decide) ?_
            refine cs_eq (tgt := 66) (X := (x1).toInt) (Y := 61) hx hb dX11_isSign_33 (by decide) rfl rfl (fun c6 => ?_) (fun c6 => ?_)
            · refine lv_iconst (v := 1) hx hb dX11_isSign_66 (by decide) ?_
              refine lv_goto (tgt := 71) hx hb dX11_isSign_67 (by decide) ?_
              refine hret _ _ _ _ _ _ dX11_isSign_71 rfl ?_ hO
              exact ⟨Or.inr rfl, rfl⟩
            · refine lv_iload_n hx hb dX11_isSign_36 rfl (lv_at hl 0 rfl) ?_
              refine lv_bipush (v := 43) hx hb dX11_isSign_37 (by decide) ?_
              refine cs_eq (tgt := 66) (X := (x1).toInt) (Y := 43) hx hb dX11_isSign_39 (by decide) rfl rfl (fun c7 => ?_) (fun c7 => ?_)
              · refine lv_iconst (v := 1) hx hb dX11_isSign_66 (by decide) ?_
                refine lv_goto (tgt := 71) hx hb dX11_isSign_67 (by decide) ?_
                refine hret _ _ _ _ _ _ dX11_isSign_71 rfl ?_ hO
                exact ⟨Or.inr rfl, rfl⟩
              · refine lv_iload_n hx hb dX11_isSign_42 rfl (lv_at hl 0 rfl) ?_
                refine lv_bipush (v := 45) hx hb dX11_isSign_43 (by decide) ?_
                refine cs_eq (tgt := 66) (X := (x1).toInt) (Y := 45) hx hb dX11_isSign_45 (by decide) rfl rfl (fun c8 => ?_) (fun c8 => ?_)
                · refine lv_iconst (v := 1) hx hb dX11_isSign_66 (by decide) ?_
                  refine lv_goto (tgt := 71) hx hb dX11_isSign_67 (by decide) ?_
                  refine hret _ _ _ _ _ _ dX11_isSign_71 rfl ?_ hO
                  exact ⟨Or.inr rfl, rfl⟩
                · refine lv_iload_n hx hb dX11_isSign_48 rfl (lv_at hl 0 rfl) ?_
                  refine lv_bipush (v := 42) hx hb dX11_isSign_49 (by decide) ?_
                  refine cs_eq (tgt := 66) (X := (x1).toInt) (Y := 42) hx hb dX11_isSign_51 (by decide) rfl rfl (fun c9 => ?_) (fun c9 => ?_)
                  · refine lv_iconst (v := 1) hx hb dX11_isSign_66 (by decide) ?_
                    refine lv_goto (tgt := 71) hx hb dX11_isSign_67 (by decide) ?_
                    refine hret _ _ _ _ _ _ dX11_isSign_71 rfl ?_ hO
                    exact ⟨Or.inr rfl, rfl⟩
                  · refine lv_iload_n hx hb dX11_isSign_54 rfl (lv_at hl 0 rfl) ?_
                    refine lv_bipush (v := 47) hx hb dX11_isSign_55 (by decide) ?_
                    refine cs_eq (tgt := 66) (X := (x1).toInt) (Y := 47) hx hb dX11_isSign_57 (by decide) rfl rfl (fun c10 => ?_) (fun c10 => ?_)
                    · refine lv_iconst (v := 1) hx hb dX11_isSign_66 (by decide) ?_
                      refine lv_goto (tgt := 71) hx hb dX11_isSign_67 (by decide) ?_
                      refine hret _ _ _ _ _ _ dX11_isSign_71 rfl ?_ hO
                      exact ⟨Or.inr rfl, rfl⟩
                    · refine lv_iload_n hx hb dX11_isSign_60 rfl (lv_at hl 0 rfl) ?_
                      refine lv_bipush (v := 37) hx hb dX11_isSign_61 (by decide) ?_
                      refine cs_ne (tgt := 70) (X := (x1).toInt) (Y := 37) hx hb dX11_isSign_63 (by decide) rfl rfl (fun c11 => ?_) (fun c11 => ?_)
                      · refine lv_iconst (v := 0) hx hb dX11_isSign_70 (by decide) ?_
                        refine hret _ _ _ _ _ _ dX11_isSign_71 rfl ?_ hO
                        exact ⟨Or.inl rfl, rfl⟩
                      · refine lv_iconst (v := 1) hx hb dX11_isSign_66 (by decide) ?_
                        refine lv_goto (tgt := 71) hx hb dX11_isSign_67 (by decide) ?_
                        refine hret _ _ _ _ _ _ dX11_isSign_71 rfl ?_ hO
                        exact ⟨Or.inr rfl, rfl⟩
def Km25 (u v : St) : Prop := fI v 0 2 = fI u 0 2 ∧ fI v 0 3 = fI u 0 3 ∧ fI v 0 6 = fI u 0 6 ∧ fI v 0 7 = fI u 0 7 ∧ fI v 0 8 = fI u 0 8 ∧ fI v 0 9 = fI u 0 9 ∧ fL v 0 10 = fL u 0 10 ∧ fI v 0 36 = fI u 0 36 ∧ fI v 0 37 = fI u 0 37 ∧ fI v 0 38 = fI u 0 38 ∧ fI v 0 39 = fI u 0 39 ∧ fI v 0 40 = fI u 0 40 ∧ fI v 0 41 = fI u 0 41 ∧ fI v 0 42 = fI u 0 42 ∧ fI v 0 43 = fI u 0 43 ∧ fI v 0 45 = fI u 0 45 ∧ fI v 0 47 = fI u 0 47 ∧ fI v 0 48 = fI u 0 48 ∧ fI v 0 50 = fI u 0 50 ∧ fI v 0 61 = fI u 0 61 ∧ fI v 0 62 = fI u 0 62 ∧ fA v 1 = fA u 1 ∧ fA v 2 = fA u 2 ∧ fA v 3 = fA u 3 ∧ fA v 4 = fA u 4 ∧ fA v 5 = fA u 5 ∧ fA v 6 = fA u 6 ∧ fA v 7 = fA u 7 ∧ fA v 8 = fA u 8 ∧ fA v 9 = fA u 9 ∧ fA v 10 = fA u 10 ∧ fA v 11 = fA u 11 ∧ fA v 12 = fA u 12 ∧ fA v 13 = fA u 13 ∧ fA v 14 = fA u 14 ∧ fA v 15 = fA u 15 ∧ fA v 16 = fA u 16 ∧ fA v 17 = fA u 17 ∧ fA v 18 = fA u 18 ∧ fA v 19 = fA u 19 ∧ fJ v 20 = fJ u 20 ∧ fJ v 21 = fJ u 21 ∧ fJ v 22 = fJ u 22 ∧ fA v 23 = fA u 23 ∧ fA v 24 = fA u 24 ∧ fA v 25 = fA u 25 ∧ fA v 26 = fA u 26 ∧ fA v 27 = fA u 27 ∧ fA v 28 = fA u 28 ∧ fA v 29 = fA u 29 ∧ fA v 30 = fA u 30 ∧ fA v 31 = fA u 31 ∧ fA v 32 = fA u 32 ∧ fA v 33 = fA u 33 ∧ fA v 34 = fA u 34 ∧ fA v 35 = fA u 35 ∧ fA v 36 = fA u 36 ∧ fA v 37 = fA u 37 ∧ fA v 38 = fA u 38 ∧ fA v 39 = fA u 39 ∧ fA v 40 = fA u 40 ∧ fA v 41 = fA u 41 ∧ fA v 42 = fA u 42
theorem Km25.rf {u : St} : Km25 u u := ⟨rfl, rfl, rfl, rfl, rfl, rfl, rfl, rfl, rfl, rfl, rfl, rfl, rfl, rfl, rfl, rfl, rfl, rfl, rfl, rfl, rfl, rfl, rfl, rfl, rfl, rfl, rfl, rfl, rfl, rfl, rfl, rfl, rfl, rfl, rfl, rfl, rfl, rfl, rfl, rfl, rfl, rfl, rfl, rfl, rfl, rfl, rfl, rfl, rfl, rfl, rfl, rfl, rfl, rfl, rfl, rfl, rfl, rfl, rfl, rfl, rfl, rfl, rfl⟩
theorem Km25.tr {u v w : St} (h1 : Km25 u v) (h2 : Km25 v w) : Km25 u w := ⟨(h2.1).trans h1.1, (h2.2.1).trans h1.2.1, (h2.2.2.1).trans h1.2.2.1, (h2.2.2.2.1).trans h1.2.2.2.1, (h2.2.2.2.2.1).trans h1.2.2.2.2.1, (h2.2.2.2.2.2.1).trans h1.2.2.2.2.2.1, (h2.2.2.2.2.2.2.1).trans h1.2.2.2.2.2.2.1, (h2.2.2.2.2.2.2.2.1).trans h1.2.2.2.2.2.2.2.1, (h2.2.2.2.2.2.2.2.2.1).trans h1.2.2.2.2.2.2.2.2.1, (h2.2.2.2.2.2.2.2.2.2.1).trans h1.2.2.2.2.2.2.2.2.2.1, (h2.2.2.2.2.2.2.2.2.2.2.1).trans h1.2.2.2.2.2.2.2.2.2.2.1, (h2.2.2.2.2.2.2.2.2.2.2.2.1).trans h1.2.2.2.2.2.2.2.2.2.2.2.1, (h2.2.2.2.2.2.2.2.2.2.2.2.2.1).trans h1.2.2.2.2.2.2.2.2.2.2.2.2.1, (h2.2.2.2.2.2.2.2.2.2.2.2.2.2.1).trans h1.2.2.2.2.2.2.2.2.2.2.2.2.2.1, (h2.2.2.2.2.2.2.2.2.2.2.2.2.2.2.1).trans h1.2.2.2.2.2.2.2.2.2.2.2.2.2.2.1, (h2.2.2.2.2.2.2.2.2.2.2.2.2.2.2.2.1).trans h1.2.2.2.2.2.2.2.2.2.2.2.2.2.2.2.1, (h2.2.2.2.2.2.2.2.2.2.2.2.2.2.2.2.2.1).trans h1.2.2.2.2.2.2.2.2.2.2.2.2.2.2.2.2.1, (h2.2.2.2.2.2.2.2.2.2.2.2.2.2.2.2.2.2.1).trans h1.2.2.2.2.2.2.2.2.2.2.2.2.2.2.2.2.2.1, (h2.2.2.2.2.2.2.2.2.2.2.2.2.2.2.2.2.2.2.1).trans h1.2.2.2.2.2.2.2.2.2.2.2.2.2.2.2.2.2.2.1, (h2.2.2.2.2.2.2.2.2.2.2.2.2.2.2.2.2.2.2.2.1).trans h1.2.2.2.2.2.2.2.2.2.2.2.2.2.2.2.2.2.2.2.1, (h2.2.2.2.2.2.2.2.2.2.2.2.2.2.2.2.2.2.2.2.2.1).trans h1.2.2.2.2.2.2.2.2.2.2.2.2.2.2.2.2.2.2.2.2.1, (h2.2.2.2.2.2.2.2.2.2.2.2.2.2.2.2.2.2.2.2.2.2.1).trans h1.2.2.2.2.2.2.2.2.2.2.2.2.2.2.2.2.2.2.2.2.2.1, (h2.2.2.2.2.2.2.2.2.2.2.2.2.2.2.2.2.2.2.2.2.2.2.1).trans h1.2.2.2.2.2.2.2.2.2.2.2.2.2.2.2.2.2.2.2.2.2.2.1, (h2.2.2.2.2.2.2.2.2.2.2.2.2.2.2.2.2.2.2.2.2.2.2.2.1).trans h1.2.2.2.2.2.2.2.2.2.2.2.2.2.2.2.2.2.2.2.2.2.2.2.1, (h2.2.2.2.2.2.2.2.2.2.2.2.2.2.2.2.2.2.2.2.2.2.2.2.2.1).trans h1.2.2.2.2.2.2.2.2.2.2.2.2.2.2.2.2.2.2.2.2.2.2.2.2.1, (h2.2.2.2.2.2.2.2.2.2.2.2.2.2.2.2.2.2.2.2.2.2.2.2.2.2.1).trans h1.2.2.2.2.2.2.2.2.2.2.2.2.2.2.2.2.2.2.2.2.2.2.2.2.2.1, (h2.2.2.2.2.2.2.2.2.2.2.2.2.2.2.2.2.2.2.2.2.2.2.2.2.2.2.1).trans h1.2.2.2.2.2.2.2.2.2.2.2.2.2.2.2.2.2.2.2.2.2.2.2.2.2.2.1, (h2.2.2.2.2.2.2.2.2.2.2.2.2.2.2.2.2.2.2.2.2.2.2.2.2.2.2.2.1).trans h1.2.2.2.2.2.2.2.2.2.2.2.2.2.2.2.2.2.2.2.2.2.2.2.2.2.2.2.1, (h2.2.2.2.2.2.2.2.2.2.2.2.2.2.2.2.2.2.2.2.2.2.2.2.2.2.2.2.2.1).trans h1.2.2.2.2.2.2.2.2.2.2.2.2.2.2.2.2.2.2.2.2.2.2.2.2.2.2.2.2.1, (h2.2.2.2.2.2.2.2.2.2.2.2.2.2.2.2.2.2.2.2.2.2.2.2.2.2.2.2.2.2.1).trans h1.2.2.2.2.2.2.2.2.2.2.2.2.2.2.2.2.2.2.2.2.2.2.2.2.2.2.2.2.2.1, (h2.2.2.2.2.2.2.2.2.2.2.2.2.2.2.2.2.2.2.2.2.2.2.2.2.2.2.2.2.2.2.1).trans h1.2.2.2.2.2.2.2.2.2.2.2.2.2.2.2.2.2.2.2.2.2.2.2.2.2.2.2.2.2.2.1, (h2.2.2.2.2.2.2.2.2.2.2.2.2.2.2.2.2.2.2.2.2.2.2.2.2.2.2.2.2.2.2.2.1).trans h1.2.2.2.2.2.2.2.2.2.2.2.2.2.2.2.2.2.2.2.2.2.2.2.2.2.2.2.2.2.2.2.1, (h2.2.2.2.2.2.2.2.2.2.2.2.2.2.2.2.2.2.2.2.2.2.2.2.2.2.2.2.2.2.2.2.2.1).trans h1.2.2.2.2.2.2.2.2.2.2.2.2.2.2.2.2.2.2.2.2.2.2.2.2.2.2.2.2.2.2.2.2.1, (h2.2.2.2.2.2.2.2.2.2.2.2.2.2.2.2.2.2.2.2.2.2.2.2.2.2.2.2.2.2.2.2.2.2.1).trans h1.2.2.2.2.2.2.2.2.2.2.2.2.2.2.2.2.2.2.2.2.2.2.2.2.2.2.2.2.2.2.2.2.2.1, (h2.2.2.2.2.2.2.2.2.2.2.2.2.2.2.2.2.2.2.2.2.2.2.2.2.2.2.2.2.2.2.2.2.2.2.1).trans h1.2.2.2.2.2.2.2.2.2.2.2.2.2.2.2.2.2.2.2.2.2.2.2.2.2.2.2.2.2.2.2.2.2.2.1, (h2.2.2.2.2.2.2.2.2.2.2.2.2.2.2.2.2.2.2.2.2.2.2.2.2.2.2.2.2.2.2.2.2.2.2.2.1).trans h1.2.2.2.2.2.2.2.2.2.2.2.2.2.2.2.2.2.2.2.2.2.2.2.2.2.2.2.2.2.2.2.2.2.2.2.1, (h2.2.2.2.2.2.2.2.2.2.2.2.2.2.2.2.2.2.2.2.2.2.2.2.2.2.2.2.2.2.2.2.2.2.2.2.2.1).trans h1.2.2.2.2.2.2.2.2.2.2.2.2.2.2.2.2.2.2.2.2.2.2.2.2.2.2.2.2.2.2.2.2.2.2.2.2.1, (h2.2.2.2.2.2.2.2.2.2.2.2.2.2.2.2.2.2.2.2.2.2.2.2.2.2.2.2.2.2.2.2.2.2.2.2.2.2.1).trans h1.2.2.2.2.2.2.2.2.2.2.2.2.2.2.2.2.2.2.2.2.2.2.2.2.2.2.2.2.2.2.2.2.2.2.2.2.2.1, (h2.2.2.2.2.2.2.2.2.2.2.2.2.2.2.2.2.2.2.2.2.2.2.2.2.2.2.2.2.2.2.2.2.2.2.2.2.2.2.1).trans h1.2.2.2.2.2.2.2.2.2.2.2.2.2.2.2.2.2.2.2.2.2.2.2.2.2.2.2.2.2.2.2.2.2.2.2.2.2.2.1, (h2.2.2.2.2.2.2.2.2.2.2.2.2.2.2.2.2.2.2.2.2.2.2.2.2.2.2.2.2.2.2.2.2.2.2.2.2.2.2.2.1).trans h1.2.2.2.2.2.2.2.2.2.2.2.2.2.2.2.2.2.2.2.2.2.2.2.2.2.2.2.2.2.2.2.2.2.2.2.2.2.2.2.1, (h2.2.2.2.2.2.2.2.2.2.2.2.2.2.2.2.2.2.2.2.2.2.2.2.2.2.2.2.2.2.2.2.2.2.2.2.2.2.2.2.2.1).trans h1.2.2.2.2.2.2.2.2.2.2.2.2.2.2.2.2.2.2.2.2.2.2.2.2.2.2.2.2.2.2.2.2.2.2.2.2.2.2.2.2.1, (h2.2.2.2.2.2.2.2.2.2.2.2.2.2.2.2.2.2.2.2.2.2.2.2.2.2.2.2.2.2.2.2.2.2.2.2.2.2.2.2.2.2.1).trans h1.2.2.2.2.2.2.2.2.2.2.2.2.2.2.2.2.2.2.2.2.2.2.2.2.2.2.2.2.2.2.2.2.2.2.2.2.2.2.2.2.2.1, (h2.2.2.2.2.2.2.2.2.2.2.2.2.2.2.2.2.2.2.2.2.2.2.2.2.2.2.2.2.2.2.2.2.2.2.2.2.2.2.2.2.2.2.1).trans h1.2.2.2.2.2.2.2.2.2.2.2.2.2.2.2.2.2.2.2.2.2.2.2.2.2.2.2.2.2.2.2.2.2.2.2.2.2.2.2.2.2.2.1, (h2.2.2.2.2.2.2.2.2.2.2.2.2.2.2.2.2.2.2.2.2.2.2.2.2.2.2.2.2.2.2.2.2.2.2.2.2.2.2.2.2.2.2.2.1).trans h1.2.2.2.2.2.2.2.2.2.2.2.2.2.2.2.2.2.2.2.2.2.2.2.2.2.2.2.2.2.2.2.2.2.2.2.2.2.2.2.2.2.2.2.1, (h2.2.2.2.2.2.2.2.2.2.2.2.2.2.2.2.2.2.2.2.2.2.2.2.2.2.2.2.2.2.2.2.2.2.2.2.2.2.2.2.2.2.2.2.2.1).trans h1.2.2.2.2.2.2.2.2.2.2.2.2.2.2.2.2.2.2.2.2.2.2.2.2.2.2.2.2.2.2.2.2.2.2.2.2.2.2.2.2.2.2.2.2.1, (h2.2.2.2.2.2.2.2.2.2.2.2.2.2.2.2.2.2.2.2.2.2.2.2.2.2.2.2.2.2.2.2.2.2.2.2.2.2.2.2.2.2.2.2.2.2.1).trans h1.2.2.2.2.2.2.2.2.2.2.2.2.2.2.2.2.2.2.2.2.2.2.2.2.2.2.2.2.2.2.2.2.2.2.2.2.2.2.2.2.2.2.2.2.2.1, (h2.2.2.2.2.2.2.2.2.2.2.2.2.2.2.2.2.2.2.2.2.2.2.2.2.2.2.2.2.2.2.2.2.2.2.2.2.2.2.2.2.2.2.2.2.2.2.1).trans h1.2.2.2.2.2.2.2.2.2.2.2.2.2.2.2.2.2.2.2.2.2.2.2.2.2.2.2.2.2.2.2.2.2.2.2.2.2.2.2.2.2.2.2.2.2.2.1, (h2.2.2.2.2.2.2.2.2.2.2.2.2.2.2.2.2.2.2.2.2.2.2.2.2.2.2.2.2.2.2.2.2.2.2.2.2.2.2.2.2.2.2.2.2.2.2.2.1).trans h1.2.2.2.2.2.2.2.2.2.2.2.2.2.2.2.2.2.2.2.2.2.2.2.2.2.2.2.2.2.2.2.2.2.2.2.2.2.2.2.2.2.2.2.2.2.2.2.1, (h2.2.2.2.2.2.2.2.2.2.2.2.2.2.2.2.2.2.2.2.2.2.2.2.2.2.2.2.2.2.2.2.2.2.2.2.2.2.2.2.2.2.2.2.2.2.2.2.2.1).trans h1.2.2.2.2.2.2.2.2.2.2.2.2.2.2.2.2.2.2.2.2.2.2.2.2.2.2.2.2.2.2.2.2.2.2.2.2.2.2.2.2.2.2.2.2.2.2.2.2.1, (h2.2.2.2.2.2.2.2.2.2.2.2.2.2.2.2.2.2.2.2.2.2.2.2.2.2.2.2.2.2.2.2.2.2.2.2.2.2.2.2.2.2.2.2.2.2.2.2.2.2.1).trans h1.2.2.2.2.2.2.2.2.2.2.2.2.2.2.2.2.2.2.2.2.2.2.2.2.2.2.2.2.2.2.2.2.2.2.2.2.2.2.2.2.2.2.2.2.2.2.2.2.2.1, (h2.2.2.2.2.2.2.2.2.2.2.2.2.2.2.2.2.2.2.2.2.2.2.2.2.2.2.2.2.2.2.2.2.2.2.2.2.2.2.2.2.2.2.2.2.2.2.2.2.2.2.1).trans h1.2.2.2.2.2.2.2.2.2.2.2.2.2.2.2.2.2.2.2.2.2.2.2.2.2.2.2.2.2.2.2.2.2.2.2.2.2.2.2.2.2.2.2.2.2.2.2.2.2.2.1, (h2.2.2.2.2.2.2.2.2.2.2.2.2.2.2.2.2.2.2.2.2.2.2.2.2.2.2.2.2.2.2.2.2.2.2.2.2.2.2.2.2.2.2.2.2.2.2.2.2.2.2.2.1).trans h1.2.2.2.2.2.2.2.2.2.2.2.2.2.2.2.2.2.2.2.2.2.2.2.2.2.2.2.2.2.2.2.2.2.2.2.2.2.2.2.2.2.2.2.2.2.2.2.2.2.2.2.1, (h2.2.2.2.2.2.2.2.2.2.2.2.2.2.2.2.2.2.2.2.2.2.2.2.2.2.2.2.2.2.2.2.2.2.2.2.2.2.2.2.2.2.2.2.2.2.2.2.2.2.2.2.2.1).trans h1.2.2.2.2.2.2.2.2.2.2.2.2.2.2.2.2.2.2.2.2.2.2.2.2.2.2.2.2.2.2.2.2.2.2.2.2.2.2.2.2.2.2.2.2.2.2.2.2.2.2.2.2.1, (h2.2.2.2.2.2.2.2.2.2.2.2.2.2.2.2.2.2.2.2.2.2.2.2.2.2.2.2.2.2.2.2.2.2.2.2.2.2.2.2.2.2.2.2.2.2.2.2.2.2.2.2.2.2.1).trans h1.2.2.2.2.2.2.2.2.2.2.2.2.2.2.2.2.2.2.2.2.2.2.2.2.2.2.2.2.2.2.2.2.2.2.2.2.2.2.2.2.2.2.2.2.2.2.2.2.2.2.2.2.2.1, (h2.2.2.2.2.2.2.2.2.2.2.2.2.2.2.2.2.2.2.2.2.2.2.2.2.2.2.2.2.2.2.2.2.2.2.2.2.2.2.2.2.2.2.2.2.2.2.2.2.2.2.2.2.2.2.1).trans h1.2.2.2.2.2.2.2.2.2.2.2.2.2.2.2.2.2.2.2.2.2.2.2.2.2.2.2.2.2.2.2.2.2.2.2.2.2.2.2.2.2.2.2.2.2.2.2.2.2.2.2.2.2.2.1, (h2.2.2.2.2.2.2.2.2.2.2.2.2.2.2.2.2.2.2.2.2.2.2.2.2.2.2.2.2.2.2.2.2.2.2.2.2.2.2.2.2.2.2.2.2.2.2.2.2.2.2.2.2.2.2.2.1).trans h1.2.2.2.2.2.2.2.2.2.2.2.2.2.2.2.2.2.2.2.2.2.2.2.2.2.2.2.2.2.2.2.2.2.2.2.2.2.2.2.2.2.2.2.2.2.2.2.2.2.2.2.2.2.2.2.1, (h2.2.2.2.2.2.2.2.2.2.2.2.2.2.2.2.2.2.2.2.2.2.2.2.2.2.2.2.2.2.2.2.2.2.2.2.2.2.2.2.2.2.2.2.2.2.2.2.2.2.2.2.2.2.2.2.2.1).trans h1.2.2.2.2.2.2.2.2.2.2.2.2.2.2.2.2.2.2.2.2.2.2.2.2.2.2.2.2.2.2.2.2.2.2.2.2.2.2.2.2.2.2.2.2.2.2.2.2.2.2.2.2.2.2.2.2.1, (h2.2.2.2.2.2.2.2.2.2.2.2.2.2.2.2.2.2.2.2.2.2.2.2.2.2.2.2.2.2.2.2.2.2.2.2.2.2.2.2.2.2.2.2.2.2.2.2.2.2.2.2.2.2.2.2.2.2.1).trans h1.2.2.2.2.2.2.2.2.2.2.2.2.2.2.2.2.2.2.2.2.2.2.2.2.2.2.2.2.2.2.2.2.2.2.2.2.2.2.2.2.2.2.2.2.2.2.2.2.2.2.2.2.2.2.2.2.2.1, (h2.2.2.2.2.2.2.2.2.2.2.2.2.2.2.2.2.2.2.2.2.2.2.2.2.2.2.2.2.2.2.2.2.2.2.2.2.2.2.2.2.2.2.2.2.2.2.2.2.2.2.2.2.2.2.2.2.2.2.1).trans h1.2.2.2.2.2.2.2.2.2.2.2.2.2.2.2.2.2.2.2.2.2.2.2.2.2.2.2.2.2.2.2.2.2.2.2.2.2.2.2.2.2.2.2.2.2.2.2.2.2.2.2.2.2.2.2.2.2.2.1, (h2.2.2.2.2.2.2.2.2.2.2.2.2.2.2.2.2.2.2.2.2.2.2.2.2.2.2.2.2.2.2.2.2.2.2.2.2.2.2.2.2.2.2.2.2.2.2.2.2.2.2.2.2.2.2.2.2.2.2.2.1).trans h1.2.2.2.2.2.2.2.2.2.2.2.2.2.2.2.2.2.2.2.2.2.2.2.2.2.2.2.2.2.2.2.2.2.2.2.2.2.2.2.2.2.2.2.2.2.2.2.2.2.2.2.2.2.2.2.2.2.2.2.1, (h2.2.2.2.2.2.2.2.2.2.2.2.2.2.2.2.2.2.2.2.2.2.2.2.2.2.2.2.2.2.2.2.2.2.2.2.2.2.2.2.2.2.2.2.2.2.2.2.2.2.2.2.2.2.2.2.2.2.2.2.2.1).trans h1.2.2.2.2.2.2.2.2.2.2.2.2.2.2.2.2.2.2.2.2.2.2.2.2.2.2.2.2.2.2.2.2.2.2.2.2.2.2.2.2.2.2.2.2.2.2.2.2.2.2.2.2.2.2.2.2.2.2.2.2.1, (h2.2.2.2.2.2.2.2.2.2.2.2.2.2.2.2.2.2.2.2.2.2.2.2.2.2.2.2.2.2.2.2.2.2.2.2.2.2.2.2.2.2.2.2.2.2.2.2.2.2.2.2.2.2.2.2.2.2.2.2.2.2.1).trans h1.2.2.2.2.2.2.2.2.2.2.2.2.2.2.2.2.2.2.2.2.2.2.2.2.2.2.2.2.2.2.2.2.2.2.2.2.2.2.2.2.2.2.2.2.2.2.2.2.2.2.2.2.2.2.2.2.2.2.2.2.2.1, (h2.2.2.2.2.2.2.2.2.2.2.2.2.2.2.2.2.2.2.2.2.2.2.2.2.2.2.2.2.2.2.2.2.2.2.2.2.2.2.2.2.2.2.2.2.2.2.2.2.2.2.2.2.2.2.2.2.2.2.2.2.2.2).trans h1.2.2.2.2.2.2.2.2.2.2.2.2.2.2.2.2.2.2.2.2.2.2.2.2.2.2.2.2.2.2.2.2.2.2.2.2.2.2.2.2.2.2.2.2.2.2.2.2.2.2.2.2.2.2.2.2.2.2.2.2.2.2⟩
theorem dX11_fails_0 : decode cX11_fails 0 = .ok (.aload_n 0, 1) := by decide +kernel
theorem dX11_fails_1 : decode cX11_fails 1 = .ok (.getfield 155, 3) := by decide +kernel
theorem dX11_fails_4 : decode cX11_fails 4 = .ok (.ifCond .le 4, 3) := by decide +kernel
theorem dX11_fails_7 : decode cX11_fails 7 = .ok (.return_, 1) := by decide +kernel
theorem dX11_fails_8 : decode cX11_fails 8 = .ok (.aload_n 0, 1) := by decide +kernel
theorem dX11_fails_9 : decode cX11_fails 9 = .ok (.iload_n 1, 1) := by decide +kernel
theorem dX11_fails_10 : decode cX11_fails 10 = .ok (.putfield 155, 3) := by decide +kernel
theorem dX11_fails_13 : decode cX11_fails 13 = .ok (.aload_n 0, 1) := by decide +kernel
theorem dX11_fails_14 : decode cX11_fails 14 = .ok (.iload_n 2, 1) := by decide +kernel
theorem dX11_fails_15 : decode cX11_fails 15 = .ok (.putfield 16, 3) := by decide +kernel
theorem dX11_fails_18 : decode cX11_fails 18 = .ok (.return_, 1) := by decide +kernel
theorem wd_1622 : (Cond.code ⟨"WebCourtModel", "fails", "(II)V"⟩ prog_13_method_5_code (3 : Nat) (Option.none : Option FieldType)) ∈ gtb := gtb_c7 73 (by decide +kernel) rfl
theorem pf_RX11_155 {p : Program} {l : Launch} {e : Env} {R : Room} {s : State} {m : MethodId} {args : Array Value} {below : List Frame} {meth : Method} {c : Code} {H : Heap} {locs : List Loc} {cells slots : Nat} {Q : State → Prop} {cc : ByteArray} {pc nL : Nat} {ls : Array Slot} {rest : List Value} {D : va_G} {cy : Nat → ClassId} {A : Nat → Prop} {ws : va_W} {b : Nat} {fs : List Value} {v : Int32} {ws' : va_W} (C : Cx p s m args c cc nL RX11 D cy A) (hO : Wo D A ws s.heap H locs) (q0 : Nat) (he : ws[q0]? = some (b, .inr (11, fs))) (hlen : 4 < fs.length) (hw : ws.set q0 (b, .inr (11, fs.set 4 (.int v))) = ws') (hdg : decode cc pc = .ok (.putfield 155, 3)) (kk : ∀ (H : Heap) (locs : List Loc), Wo D A ws' s.heap H locs → W p l e R s m args below meth c H locs cells slots Q (F0 m (pc + 3) ls rest)) : W p l e R s m args below meth c H locs cells slots Q (F0 m pc ls (.int v :: .ref b :: rest)) := pF (k := 4) (ty := .int) C hO q0 he rfl inFX11 (by decide) wd_1360 rfl tyX11 tyX11_ok nmX11 rfl (by decide +kernel) rfl rfl hlen hw hdg kk
theorem Km25_wI4 {u v : St} {x : Int32} (h : Km25 u v) : Km25 u (sI v 0 4 x) := ⟨h.1, h.2.1, h.2.2.1, h.2.2.2.1, h.2.2.2.2.1, h.2.2.2.2.2.1, h.2.2.2.2.2.2.1, h.2.2.2.2.2.2.2.1, h.2.2.2.2.2.2.2.2.1, h.2.2.2.2.2.2.2.2.2.1, h.2.2.2.2.2.2.2.2.2.2.1, h.2.2.2.2.2.2.2.2.2.2.2.1, h.2.2.2.2.2.2.2.2.2.2.2.2.1, h.2.2.2.2.2.2.2.2.2.2.2.2.2.1, h.2.2.2.2.2.2.2.2.2.2.2.2.2.2.1, h.2.2.2.2.2.2.2.2.2.2.2.2.2.2.2.1, h.2.2.2.2.2.2.2.2.2.2.2.2.2.2.2.2.1, h.2.2.2.2.2.2.2.2.2.2.2.2.2.2.2.2.2.1, h.2.2.2.2.2.2.2.2.2.2.2.2.2.2.2.2.2.2.1, h.2.2.2.2.2.2.2.2.2.2.2.2.2.2.2.2.2.2.2.1, h.2.2.2.2.2.2.2.2.2.2.2.2.2.2.2.2.2.2.2.2.1, h.2.2.2.2.2.2.2.2.2.2.2.2.2.2.2.2.2.2.2.2.2.1, h.2.2.2.2.2.2.2.2.2.2.2.2.2.2.2.2.2.2.2.2.2.2.1, h.2.2.2.2.2.2.2.2.2.2.2.2.2.2.2.2.2.2.2.2.2.2.2.1, h.2.2.2.2.2.2.2.2.2.2.2.2.2.2.2.2.2.2.2.2.2.2.2.2.1, h.2.2.2.2.2.2.2.2.2.2.2.2.2.2.2.2.2.2.2.2.2.2.2.2.2.1, h.2.2.2.2.2.2.2.2.2.2.2.2.2.2.2.2.2.2.2.2.2.2.2.2.2.2.1, h.2.2.2.2.2.2.2.2.2.2.2.2.2.2.2.2.2.2.2.2.2.2.2.2.2.2.2.1, h.2.2.2.2.2.2.2.2.2.2.2.2.2.2.2.2.2.2.2.2.2.2.2.2.2.2.2.2.1, h.2.2.2.2.2.2.2.2.2.2.2.2.2.2.2.2.2.2.2.2.2.2.2.2.2.2.2.2.2.1, h.2.2.2.2.2.2.2.2.2.2.2.2.2.2.2.2.2.2.2.2.2.2.2.2.2.2.2.2.2.2.1, h.2.2.2.2.2.2.2.2.2.2.2.2.2.2.2.2.2.2.2.2.2.2.2.2.2.2.2.2.2.2.2.1, h.2.2.2.2.2.2.2.2.2.2.2.2.2.2.2.2.2.2.2.2.2.2.2.2.2.2.2.2.2.2.2.2.1, h.2.2.2.2.2.2.2.2.2.2.2.2.2.2.2.2.2.2.2.2.2.2.2.2.2.2.2.2.2.2.2.2.2.1, h.2.2.2.2.2.2.2.2.2.2.2.2.2.2.2.2.2.2.2.2.2.2.2.2.2.2.2.2.2.2.2.2.2.2.1, h.2.2.2.2.2.2.2.2.2.2.2.2.2.2.2.2.2.2.2.2.2.2.2.2.2.2.2.2.2.2.2.2.2.2.2.1, h.2.2.2.2.2.2.2.2.2.2.2.2.2.2.2.2.2.2.2.2.2.2.2.2.2.2.2.2.2.2.2.2.2.2.2.2.1, h.2.2.2.2.2.2.2.2.2.2.2.2.2.2.2.2.2.2.2.2.2.2.2.2.2.2.2.2.2.2.2.2.2.2.2.2.2.1, h.2.2.2.2.2.2.2.2.2.2.2.2.2.2.2.2.2.2.2.2.2.2.2.2.2.2.2.2.2.2.2.2.2.2.2.2.2.2.1, h.2.2.2.2.2.2.2.2.2.2.2.2.2.2.2.2.2.2.2.2.2.2.2.2.2.2.2.2.2.2.2.2.2.2.2.2.2.2.2.1, h.2.2.2.2.2.2.2.2.2.2.2.2.2.2.2.2.2.2.2.2.2.2.2.2.2.2.2.2.2.2.2.2.2.2.2.2.2.2.2.2.1, h.2.2.2.2.2.2.2.2.2.2.2.2.2.2.2.2.2.2.2.2.2.2.2.2.2.2.2.2.2.2.2.2.2.2.2.2.2.2.2.2.2.1, h.2.2.2.2.2.2.2.2.2.2.2.2.2.2.2.2.2.2.2.2.2.2.2.2.2.2.2.2.2.2.2.2.2.2.2.2.2.2.2.2.2.2.1, h.2.2.2.2.2.2.2.2.2.2.2.2.2.2.2.2.2.2.2.2.2.2.2.2.2.2.2.2.2.2.2.2.2.2.2.2.2.2.2.2.2.2.2.1, h.2.2.2.2.2.2.2.2.2.2.2.2.2.2.2.2.2.2.2.2.2.2.2.2.2.2.2.2.2.2.2.2.2.2.2.2.2.2.2.2.2.2.2.2.1, h.2.2.2.2.2.2.2.2.2.2.2.2.2.2.2.2.2.2.2.2.2.2.2.2.2.2.2.2.2.2.2.2.2.2.2.2.2.2.2.2.2.2.2.2.2.1, h.2.2.2.2.2.2.2.2.2.2.2.2.2.2.2.2.2.2.2.2.2.2.2.2.2.2.2.2.2.2.2.2.2.2.2.2.2.2.2.2.2.2.2.2.2.2.1, h.2.2.2.2.2.2.2.2.2.2.2.2.2.2.2.2.2.2.2.2.2.2.2.2.2.2.2.2.2.2.2.2.2.2.2.2.2.2.2.2.2.2.2.2.2.2.2.1, h.2.2.2.2.2.2.2.2.2.2.2.2.2.2.2.2.2.2.2.2.2.2.2.2.2.2.2.2.2.2.2.2.2.2.2.2.2.2.2.2.2.2.2.2.2.2.2.2.1, h.2.2.2.2.2.2.2.2.2.2.2.2.2.2.2.2.2.2.2.2.2.2.2.2.2.2.2.2.2.2.2.2.2.2.2.2.2.2.2.2.2.2.2.2.2.2.2.2.2.1, h.2.2.2.2.2.2.2.2.2.2.2.2.2.2.2.2.2.2.2.2.2.2.2.2.2.2.2.2.2.2.2.2.2.2.2.2.2.2.2.2.2.2.2.2.2.2.2.2.2.2.1, h.2.2.2.2.2.2.2.2.2.2.2.2.2.2.2.2.2.2.2.2.2.2.2.2.2.2.2.2.2.2.2.2.2.2.2.2.2.2.2.2.2.2.2.2.2.2.2.2.2.2.2.1, h.2.2.2.2.2.2.2.2.2.2.2.2.2.2.2.2.2.2.2.2.2.2.2.2.2.2.2.2.2.2.2.2.2.2.2.2.2.2.2.2.2.2.2.2.2.2.2.2.2.2.2.2.1, h.2.2.2.2.2.2.2.2.2.2.2.2.2.2.2.2.2.2.2.2.2.2.2.2.2.2.2.2.2.2.2.2.2.2.2.2.2.2.2.2.2.2.2.2.2.2.2.2.2.2.2.2.2.1, h.2.2.2.2.2.2.2.2.2.2.2.2.2.2.2.2.2.2.2.2.2.2.2.2.2.2.2.2.2.2.2.2.2.2.2.2.2.2.2.2.2.2.2.2.2.2.2.2.2.2.2.2.2.2.1, h.2.2.2.2.2.2.2.2.2.2.2.2.2.2.2.2.2.2.2.2.2.2.2.2.2.2.2.2.2.2.2.2.2.2.2.2.2.2.2.2.2.2.2.2.2.2.2.2.2.2.2.2.2.2.2.1, h.2.2.2.2.2.2.2.2.2.2.2.2.2.2.2.2.2.2.2.2.2.2.2.2.2.2.2.2.2.2.2.2.2.2.2.2.2.2.2.2.2.2.2.2.2.2.2.2.2.2.2.2.2.2.2.2.1, h.2.2.2.2.2.2.2.2.2.2.2.2.2.2.2.2.2.2.2.2.2.2.2.2.2.2.2.2.2.2.2.2.2.2.2.2.2.2.2.2.2.2.2.2.2.2.2.2.2.2.2.2.2.2.2.2.2.1, h.2.2.2.2.2.2.2.2.2.2.2.2.2.2.2.2.2.2.2.2.2.2.2.2.2.2.2.2.2.2.2.2.2.2.2.2.2.2.2.2.2.2.2.2.2.2.2.2.2.2.2.2.2.2.2.2.2.2.1, h.2.2.2.2.2.2.2.2.2.2.2.2.2.2.2.2.2.2.2.2.2.2.2.2.2.2.2.2.2.2.2.2.2.2.2.2.2.2.2.2.2.2.2.2.2.2.2.2.2.2.2.2.2.2.2.2.2.2.2.1, h.2.2.2.2.2.2.2.2.2.2.2.2.2.2.2.2.2.2.2.2.2.2.2.2.2.2.2.2.2.2.2.2.2.2.2.2.2.2.2.2.2.2.2.2.2.2.2.2.2.2.2.2.2.2.2.2.2.2.2.2.1, h.2.2.2.2.2.2.2.2.2.2.2.2.2.2.2.2.2.2.2.2.2.2.2.2.2.2.2.2.2.2.2.2.2.2.2.2.2.2.2.2.2.2.2.2.2.2.2.2.2.2.2.2.2.2.2.2.2.2.2.2.2.1, h.2.2.2.2.2.2.2.2.2.2.2.2.2.2.2.2.2.2.2.2.2.2.2.2.2.2.2.2.2.2.2.2.2.2.2.2.2.2.2.2.2.2.2.2.2.2.2.2.2.2.2.2.2.2.2.2.2.2.2.2.2.2⟩
theorem pf_RX11_16 {p : Program} {l : Launch} {e : Env} {R : Room} {s : State} {m : MethodId} {args : Array Value} {below : List Frame} {meth : Method} {c : Code} {H : Heap} {locs : List Loc} {cells slots : Nat} {Q : State → Prop} {cc : ByteArray} {pc nL : Nat} {ls : Array Slot} {rest : List Value} {D : va_G} {cy : Nat → ClassId} {A : Nat → Prop} {ws : va_W} {b : Nat} {fs : List Value} {v : Int32} {ws' : va_W} (C : Cx p s m args c cc nL RX11 D cy A) (hO : Wo D A ws s.heap H locs) (q0 : Nat) (he : ws[q0]? = some (b, .inr (11, fs))) (hlen : 5 < fs.length) (hw : ws.set q0 (b, .inr (11, fs.set 5 (.int v))) = ws') (hdg : decode cc pc = .ok (.putfield 16, 3)) (kk : ∀ (H : Heap) (locs : List Loc), Wo D A ws' s.heap H locs → W p l e R s m args below meth c H locs cells slots Q (F0 m (pc + 3) ls rest)) : W p l e R s m args below meth c H locs cells slots Q (F0 m pc ls (.int v :: .ref b :: rest)) := pF (k := 5) (ty := .int) C hO q0 he rfl inFX11 (by decide) wd_1361 rfl tyX11 tyX11_ok nmX11 rfl (by decide +kernel) rfl rfl hlen hw hdg kk
theorem Km25_wI5 {u v : St} {x : Int32} (h : Km25 u v) : Km25 u (sI v 0 5 x) := ⟨h.1, h.2.1, h.2.2.1, h.2.2.2.1, h.2.2.2.2.1, h.2.2.2.2.2.1, h.2.2.2.2.2.2.1, h.2.2.2.2.2.2.2.1, h.2.2.2.2.2.2.2.2.1, h.2.2.2.2.2.2.2.2.2.1, h.2.2.2.2.2.2.2.2.2.2.1, h.2.2.2.2.2.2.2.2.2.2.2.1, h.2.2.2.2.2.2.2.2.2.2.2.2.1, h.2.2.2.2.2.2.2.2.2.2.2.2.2.1, h.2.2.2.2.2.2.2.2.2.2.2.2.2.2.1, h.2.2.2.2.2.2.2.2.2.2.2.2.2.2.2.1, h.2.2.2.2.2.2.2.2.2.2.2.2.2.2.2.2.1, h.2.2.2.2.2.2.2.2.2.2.2.2.2.2.2.2.2.1, h.2.2.2.2.2.2.2.2.2.2.2.2.2.2.2.2.2.2.1, h.2.2.2.2.2.2.2.2.2.2.2.2.2.2.2.2.2.2.2.1, h.2.2.2.2.2.2.2.2.2.2.2.2.2.2.2.2.2.2.2.2.1, h.2.2.2.2.2.2.2.2.2.2.2.2.2.2.2.2.2.2.2.2.2.1, h.2.2.2.2.2.2.2.2.2.2.2.2.2.2.2.2.2.2.2.2.2.2.1, h.2.2.2.2.2.2.2.2.2.2.2.2.2.2.2.2.2.2.2.2.2.2.2.1, h.2.2.2.2.2.2.2.2.2.2.2.2.2.2.2.2.2.2.2.2.2.2.2.2.1, h.2.2.2.2.2.2.2.2.2.2.2.2.2.2.2.2.2.2.2.2.2.2.2.2.2.1, h.2.2.2.2.2.2.2.2.2.2.2.2.2.2.2.2.2.2.2.2.2.2.2.2.2.2.1, h.2.2.2.2.2.2.2.2.2.2.2.2.2.2.2.2.2.2.2.2.2.2.2.2.2.2.2.1, h.2.2.2.2.2.2.2.2.2.2.2.2.2.2.2.2.2.2.2.2.2.2.2.2.2.2.2.2.1, h.2.2.2.2.2.2.2.2.2.2.2.2.2.2.2.2.2.2.2.2.2.2.2.2.2.2.2.2.2.1, h.2.2.2.2.2.2.2.2.2.2.2.2.2.2.2.2.2.2.2.2.2.2.2.2.2.2.2.2.2.2.1, h.2.2.2.2.2.2.2.2.2.2.2.2.2.2.2.2.2.2.2.2.2.2.2.2.2.2.2.2.2.2.2.1, h.2.2.2.2.2.2.2.2.2.2.2.2.2.2.2.2.2.2.2.2.2.2.2.2.2.2.2.2.2.2.2.2.1, h.2.2.2.2.2.2.2.2.2.2.2.2.2.2.2.2.2.2.2.2.2.2.2.2.2.2.2.2.2.2.2.2.2.1, h.2.2.2.2.2.2.2.2.2.2.2.2.2.2.2.2.2.2.2.2.2.2.2.2.2.2.2.2.2.2.2.2.2.2.1, h.2.2.2.2.2.2.2.2.2.2.2.2.2.2.2.2.2.2.2.2.2.2.2.2.2.2.2.2.2.2.2.2.2.2.2.1, h.2.2.2.2.2.2.2.2.2.2.2.2.2.2.2.2.2.2.2.2.2.2.2.2.2.2.2.2.2.2.2.2.2.2.2.2.1, h.2.2.2.2.2.2.2.2.2.2.2.2.2.2.2.2.2.2.2.2.2.2.2.2.2.2.2.2.2.2.2.2.2.2.2.2.2.1, h.2.2.2.2.2.2.2.2.2.2.2.2.2.2.2.2.2.2.2.2.2.2.2.2.2.2.2.2.2.2.2.2.2.2.2.2.2.2.1, h.2.2.2.2.2.2.2.2.2.2.2.2.2.2.2.2.2.2.2.2.2.2.2.2.2.2.2.2.2.2.2.2.2.2.2.2.2.2.2.1, h.2.2.2.2.2.2.2.2.2.2.2.2.2.2.2.2.2.2.2.2.2.2.2.2.2.2.2.2.2.2.2.2.2.2.2.2.2.2.2.2.1, h.2.2.2.2.2.2.2.2.2.2.2.2.2.2.2.2.2.2.2.2.2.2.2.2.2.2.2.2.2.2.2.2.2.2.2.2.2.2.2.2.2.1, h.2.2.2.2.2.2.2.2.2.2.2.2.2.2.2.2.2.2.2.2.2.2.2.2.2.2.2.2.2.2.2.2.2.2.2.2.2.2.2.2.2.2.1, h.2.2.2.2.2.2.2.2.2.2.2.2.2.2.2.2.2.2.2.2.2.2.2.2.2.2.2.2.2.2.2.2.2.2.2.2.2.2.2.2.2.2.2.1, h.2.2.2.2.2.2.2.2.2.2.2.2.2.2.2.2.2.2.2.2.2.2.2.2.2.2.2.2.2.2.2.2.2.2.2.2.2.2.2.2.2.2.2.2.1, h.2.2.2.2.2.2.2.2.2.2.2.2.2.2.2.2.2.2.2.2.2.2.2.2.2.2.2.2.2.2.2.2.2.2.2.2.2.2.2.2.2.2.2.2.2.1, h.2.2.2.2.2.2.2.2.2.2.2.2.2.2.2.2.2.2.2.2.2.2.2.2.2.2.2.2.2.2.2.2.2.2.2.2.2.2.2.2.2.2.2.2.2.2.1, h.2.2.2.2.2.2.2.2.2.2.2.2.2.2.2.2.2.2.2.2.2.2.2.2.2.2.2.2.2.2.2.2.2.2.2.2.2.2.2.2.2.2.2.2.2.2.2.1, h.2.2.2.2.2.2.2.2.2.2.2.2.2.2.2.2.2.2.2.2.2.2.2.2.2.2.2.2.2.2.2.2.2.2.2.2.2.2.2.2.2.2.2.2.2.2.2.2.1, h.2.2.2.2.2.2.2.2.2.2.2.2.2.2.2.2.2.2.2.2.2.2.2.2.2.2.2.2.2.2.2.2.2.2.2.2.2.2.2.2.2.2.2.2.2.2.2.2.2.1, h.2.2.2.2.2.2.2.2.2.2.2.2.2.2.2.2.2.2.2.2.2.2.2.2.2.2.2.2.2.2.2.2.2.2.2.2.2.2.2.2.2.2.2.2.2.2.2.2.2.2.1, h.2.2.2.2.2.2.2.2.2.2.2.2.2.2.2.2.2.2.2.2.2.2.2.2.2.2.2.2.2.2.2.2.2.2.2.2.2.2.2.2.2.2.2.2.2.2.2.2.2.2.2.1, h.2.2.2.2.2.2.2.2.2.2.2.2.2.2.2.2.2.2.2.2.2.2.2.2.2.2.2.2.2.2.2.2.2.2.2.2.2.2.2.2.2.2.2.2.2.2.2.2.2.2.2.2.1, h.2.2.2.2.2.2.2.2.2.2.2.2.2.2.2.2.2.2.2.2.2.2.2.2.2.2.2.2.2.2.2.2.2.2.2.2.2.2.2.2.2.2.2.2.2.2.2.2.2.2.2.2.2.1, h.2.2.2.2.2.2.2.2.2.2.2.2.2.2.2.2.2.2.2.2.2.2.2.2.2.2.2.2.2.2.2.2.2.2.2.2.2.2.2.2.2.2.2.2.2.2.2.2.2.2.2.2.2.2.1, h.2.2.2.2.2.2.2.2.2.2.2.2.2.2.2.2.2.2.2.2.2.2.2.2.2.2.2.2.2.2.2.2.2.2.2.2.2.2.2.2.2.2.2.2.2.2.2.2.2.2.2.2.2.2.2.1, h.2.2.2.2.2.2.2.2.2.2.2.2.2.2.2.2.2.2.2.2.2.2.2.2.2.2.2.2.2.2.2.2.2.2.2.2.2.2.2.2.2.2.2.2.2.2.2.2.2.2.2.2.2.2.2.2.1, h.2.2.2.2.2.2.2.2.2.2.2.2.2.2.2.2.2.2.2.2.2.2.2.2.2.2.2.2.2.2.2.2.2.2.2.2.2.2.2.2.2.2.2.2.2.2.2.2.2.2.2.2.2.2.2.2.2.1, h.2.2.2.2.2.2.2.2.2.2.2.2.2.2.2.2.2.2.2.2.2.2.2.2.2.2.2.2.2.2.2.2.2.2.2.2.2.2.2.2.2.2.2.2.2.2.2.2.2.2.2.2.2.2.2.2.2.2.1, h.2.2.2.2.2.2.2.2.2.2.2.2.2.2.2.2.2.2.2.2.2.2.2.2.2.2.2.2.2.2.2.2.2.2.2.2.2.2.2.2.2.2.2.2.2.2.2.2.2.2.2.2.2.2.2.2.2.2.2.1, h.2.2.2.2.2.2.2.2.2.2.2.2.2.2.2.2.2.2.2.2.2.2.2.2.2.2.2.2.2.2.2.2.2.2.2.2.2.2.2.2.2.2.2.2.2.2.2.2.2.2.2.2.2.2.2.2.2.2.2.2.1, h.2.2.2.2.2.2.2.2.2.2.2.2.2.2.2.2.2.2.2.2.2.2.2.2.2.2.2.2.2.2.2.2.2.2.2.2.2.2.2.2.2.2.2.2.2.2.2.2.2.2.2.2.2.2.2.2.2.2.2.2.2.1, h.2.2.2.2.2.2.2.2.2.2.2.2.2.2.2.2.2.2.2.2.2.2.2.2.2.2.2.2.2.2.2.2.2.2.2.2.2.2.2.2.2.2.2.2.2.2.2.2.2.2.2.2.2.2.2.2.2.2.2.2.2.2⟩
set_option maxHeartbeats 4000000 in
set_option maxRecDepth 100000 in
theorem T_X11_fails (l : Launch) (D : va_G) (cy : Nat → ClassId) (a : Nat → Nat) (u : St) (hJ : MI a u) (x1 : Int32) (x2 : Int32) (hx_x1 : 1 ≤ x1.toInt ∧ x1.toInt ≤ 5) : Mv l D cy (mW cy a) yX11_fails (.code yX11_fails cX11_fails 3 none) (rmo 0 0) [.ref (a 0), .int x1, .int x2] u (fun (u' : St) => (MI a u') ∧ (Km25 u u') ∧ (¬ (fI u' 0 4).toInt = 0)) := by
  refine Mv.of (own := RX11) rfl (by decide) (Nat.le_of_ble_eq_true rfl) ?_
  have hT : Km25 u u := Km25.rf
  have hJ0 := hJ
  intro p e s m below meth c A Q ls C hret hO hl
  obtain ⟨hx, hb, hml, hown, ht, hK, hA⟩ := id C
  have hl : lv_has ls 3 [(0, .ref (a 0)), (1, .int x1), (2, .int x2)] := hl
  refine lv_aload_n hx hb dX11_fails_0 rfl (lv_at hl 0 rfl) ?_
  have g1 : 0 ≤ (fI u 0 4).toInt ∧ (fI u 0 4).toInt ≤ 5 := by have h := MI_4 hJ0; exact h
  refine gf_RX11_155 (v := .int (fI u 0 4)) C hO 0 mW_0 rfl dX11_fails_1 ?_
  refine bs_le (tgt := 8) (X := ((fI u 0 4)).toInt) hx hb dX11_fails_4 (by decide) rfl (fun c2 => ?_) (fun c2 => ?_)
  · refine lv_aload_n hx hb dX11_fails_8 rfl (lv_at hl 0 rfl) ?_
    refine lv_iload_n hx hb dX11_fails_9 rfl (lv_at hl 1 rfl) ?_
    refine pf_RX11_155 C hO 0 mW_0 (Nat.le_of_ble_eq_true rfl) mW_s0_4 dX11_fails_10 (fun H locs hO => ?_)
    have hT := Km25_wI4 (x := x1) hT
    have hJ := MIs_4 (v := x1) hJ (by first | decide | omega)
    refine lv_aload_n hx hb dX11_fails_13 rfl (lv_at hl 0 rfl) ?_
    refine lv_iload_n hx hb dX11_fails_14 rfl (lv_at hl 2 rfl) ?_
    refine pf_RX11_16 C hO 0 mW_0 (Nat.le_of_ble_eq_true rfl) mW_s0_5 dX11_fails_15 (fun H locs hO => ?_)
    have hT := Km25_wI5 (x := x2) hT
    have hJ := MIs_5 (v := x2) hJ
    have q3 : ¬ (x1 : Int32).toInt = 0 := by first | omega | decide
    refine hret _ _ _ _ _ dX11_fails_18 ?_ hO
    exact ⟨hJ, hT, q3⟩
  · have q4 : ¬ ((fI u 0 4) : Int32).toInt = 0 := by first | omega | decide
    refine hret _ _ _ _ _ dX11_fails_7 ?_ hO
    exact ⟨hJ, hT, q4⟩
theorem dX11_misplaced_0 : decode cX11_misplaced 0 = .ok (.aload_n 0, 1) := by decide +kernel
theorem dX11_misplaced_1 : decode cX11_misplaced 1 = .ok (.aload_n 0, 1) := by decide +kernel
theorem dX11_misplaced_2 : decode cX11_misplaced 2 = .ok (.getfield 208, 3) := by decide +kernel
theorem dX11_misplaced_5 : decode cX11_misplaced 5 = .ok (.iconst 1, 1) := by decide +kernel
theorem dX11_misplaced_6 : decode cX11_misplaced 6 = .ok (.if_icmp .ne 7, 3) := by decide +kernel
theorem dX11_misplaced_9 : decode cX11_misplaced 9 = .ok (.iconst 1, 1) := by decide +kernel
theorem dX11_misplaced_10 : decode cX11_misplaced 10 = .ok (.goto 4, 3) := by decide +kernel
theorem dX11_misplaced_13 : decode cX11_misplaced 13 = .ok (.iconst 2, 1) := by decide +kernel
theorem dX11_misplaced_14 : decode cX11_misplaced 14 = .ok (.aload_n 0, 1) := by decide +kernel
theorem dX11_misplaced_15 : decode cX11_misplaced 15 = .ok (.getfield 201, 3) := by decide +kernel
theorem dX11_misplaced_18 : decode cX11_misplaced 18 = .ok (.invokevirtual 232, 3) := by decide +kernel
theorem dX11_misplaced_21 : decode cX11_misplaced 21 = .ok (.return_, 1) := by decide +kernel
theorem wd_1618 : (Cond.code ⟨"WebCourtModel", "misplaced", "()V"⟩ prog_13_method_12_code (1 : Nat) (Option.none : Option FieldType)) ∈ gtb := gtb_c7 69 (by decide +kernel) rfl
theorem wd_1364 : (Cond.fieldLink "WebCourtModel" (208 : Nat) "WebCourtModel" "token" "I") ∈ gtb := gtb_c6 55 (by decide +kernel) rfl
theorem gf_RX11_208 {p : Program} {l : Launch} {e : Env} {R : Room} {s : State} {m : MethodId} {args : Array Value} {below : List Frame} {meth : Method} {c : Code} {H : Heap} {locs : List Loc} {cells slots : Nat} {Q : State → Prop} {cc : ByteArray} {pc nL : Nat} {ls : Array Slot} {rest : List Value} {D : va_G} {cy : Nat → ClassId} {A : Nat → Prop} {ws : va_W} {b : Nat} {fs : List Value} {v : Value} (C : Cx p s m args c cc nL RX11 D cy A) (hO : Wo D A ws s.heap H locs) (q0 : Nat) (he : ws[q0]? = some (b, .inr (11, fs))) (hv : fs[8]? = some v) (hdg : decode cc pc = .ok (.getfield 208, 3)) (kk : W p l e R s m args below meth c H locs cells slots Q (F0 m (pc + 3) ls (v :: rest))) : W p l e R s m args below meth c H locs cells slots Q (F0 m pc ls (.ref b :: rest)) := gF (k := 8) C hO q0 he rfl inFX11 (by decide) wd_1364 rfl hv hdg kk
theorem wd_1362 : (Cond.fieldLink "WebCourtModel" (201 : Nat) "WebCourtModel" "at" "I") ∈ gtb := gtb_c6 53 (by decide +kernel) rfl
theorem gf_RX11_201 {p : Program} {l : Launch} {e : Env} {R : Room} {s : State} {m : MethodId} {args : Array Value} {below : List Frame} {meth : Method} {c : Code} {H : Heap} {locs : List Loc} {cells slots : Nat} {Q : State → Prop} {cc : ByteArray} {pc nL : Nat} {ls : Array Slot} {rest : List Value} {D : va_G} {cy : Nat → ClassId} {A : Nat → Prop} {ws : va_W} {b : Nat} {fs : List Value} {v : Value} (C : Cx p s m args c cc nL RX11 D cy A) (hO : Wo D A ws s.heap H locs) (q0 : Nat) (he : ws[q0]? = some (b, .inr (11, fs))) (hv : fs[6]? = some v) (hdg : decode cc pc = .ok (.getfield 201, 3)) (kk : W p l e R s m args below meth c H locs cells slots Q (F0 m (pc + 3) ls (v :: rest))) : W p l e R s m args below meth c H locs cells slots Q (F0 m pc ls (.ref b :: rest)) := gF (k := 6) C hO q0 he rfl inFX11 (by decide) wd_1362 rfl hv hdg kk
theorem wd_1619 : (Cond.methodLink "WebCourtModel" (232 : Nat) ⟨"WebCourtModel", "fails", "(II)V"⟩) ∈ gtb := gtb_c7 70 (by decide +kernel) rfl
theorem wd_1621 : (Cond.instanceMethod ⟨"WebCourtModel", "fails", "(II)V"⟩) ∈ gtb := gtb_c7 72 (by decide +kernel) rfl
theorem wd_55 : (Cond.selects "WebCourtModel" ⟨"WebCourtModel", "fails", "(II)V"⟩ ⟨"WebCourtModel", "fails", "(II)V"⟩) ∈ gtb := gtb_p 55 (by decide +kernel) rfl
theorem hd_yX11_fails : yX11_fails.cls = RX11 ∧ yX11_fails.cls ≠ "java/lang/invoke/MethodHandle" ∧ yX11_fails.cls ≠ "java/lang/invoke/VarHandle" ∧ (parseMethodDescriptor yX11_fails.desc).map (fun d => d.parameters.length) = some 2 := by decide +kernel
set_option maxHeartbeats 4000000 in
set_option maxRecDepth 100000 in
theorem T_X11_misplaced (l : Launch) (D : va_G) (cy : Nat → ClassId) (a : Nat → Nat) (u : St) (hJ : MI a u)   : Mv l D cy (mW cy a) yX11_misplaced (.code yX11_misplaced cX11_misplaced 1 none) (rmo 1 22) [.ref (a 0)] u (fun (u' : St) => (MI a u') ∧ (Km25 u u') ∧ (¬ (fI u' 0 4).toInt = 0)) := by
  refine Mv.of (own := RX11) rfl (by decide) (Nat.le_of_ble_eq_true rfl) ?_
  have hT : Km25 u u := Km25.rf
  have hJ0 := hJ
  intro p e s m below meth c A Q ls C hret hO hl
  obtain ⟨hx, hb, hml, hown, ht, hK, hA⟩ := id C
  have hl : lv_has ls 1 [(0, .ref (a 0))] := hl
  refine lv_aload_n hx hb dX11_misplaced_0 rfl (lv_at hl 0 rfl) ?_
  refine lv_aload_n hx hb dX11_misplaced_1 rfl (lv_at hl 0 rfl) ?_
  have g1 : 0 ≤ (fI u 0 8).toInt ∧ (fI u 0 8).toInt ≤ 5 := by have h := MI_8 hJ0; exact h
  refine gf_RX11_208 (v := .int (fI u 0 8)) C hO 0 mW_0 rfl dX11_misplaced_2 ?_
  refine lv_iconst (v := 1) hx hb dX11_misplaced_5 (by decide) ?_
  refine cs_ne (tgt := 13) (X := ((fI u 0 8)).toInt) (Y := 1) hx hb dX11_misplaced_6 (by decide) rfl rfl (fun c2 => ?_) (fun c2 => ?_)
  · refine lv_iconst (v := 2) hx hb dX11_misplaced_13 (by decide) ?_
    refine lv_aload_n hx hb dX11_misplaced_14 rfl (lv_at hl 0 rfl) ?_
    have g3 : 0 ≤ (fI u 0 6).toInt ∧ (fI u 0 6).toInt ≤ 1600 := by have h := MI_6 hJ0; exact h
    refine gf_RX11_201 (v := .int (fI u 0 6)) C hO 0 mW_0 rfl dX11_misplaced_15 ?_
    refine cVv (w := mW cy a) (As := [.int 2, .int (fI u 0 6)]) (rest := []) C hO (T_X11_fails l D cy a _ (by exact hJ) (2) ((fI u 0 6)) (by first | omega | decide)) (cwV 2 ht (gV wd_1619 wd_1621 wd_55 wd_121 wd_1622) rfl rfl rfl hd_yX11_fails ⟨Nat.le_of_ble_eq_true rfl, Nat.le_of_ble_eq_true rfl⟩) 0 rfl mW_0 rfl rfl hl.1 (Nat.le_of_ble_eq_true rfl) dX11_misplaced_18 rfl ⟨Nat.zero_le _, Nat.zero_le _⟩ (fun u5 H locs hp6 hO => ?_)
    obtain ⟨hJ, hTu5, hx0u5⟩ := hp6
    have hT : Km25 u u5 := Km25.tr (by exact hT) hTu5
    have g7 : 0 ≤ (fI u5 0 4).toInt ∧ (fI u5 0 4).toInt ≤ 5 := by have h := MI_4 hJ; exact h
    have y0u5 : ¬ ((fI u5 0 4) : Int32).toInt = 0 := by exact hx0u5
    have q8 : ¬ ((fI u5 0 4) : Int32).toInt = 0 := by first | omega | decide
    refine hret _ _ _ _ _ dX11_misplaced_21 ?_ hO
    exact ⟨hJ, hT, q8⟩
  · refine lv_iconst (v := 1) hx hb dX11_misplaced_9 (by decide) ?_
    refine lv_goto (tgt := 14) hx hb dX11_misplaced_10 (by decide) ?_
    refine lv_aload_n hx hb dX11_misplaced_14 rfl (lv_at hl 0 rfl) ?_
    have g9 : 0 ≤ (fI u 0 6).toInt ∧ (fI u 0 6).toInt ≤ 1600 := by have h := MI_6 hJ0; exact h
    refine gf_RX11_201 (v := .int (fI u 0 6)) C hO 0 mW_0 rfl dX11_misplaced_15 ?_
    refine cVv (w := mW cy a) (As := [.int 1, .int (fI u 0 6)]) (rest := []) C hO (T_X11_fails l D cy a _ (by exact hJ) (1) ((fI u 0 6)) (by first | omega | decide)) (cwV 2 ht (gV wd_1619 wd_1621 wd_55 wd_121 wd_1622) rfl rfl rfl hd_yX11_fails ⟨Nat.le_of_ble_eq_true rfl, Nat.le_of_ble_eq_true rfl⟩) 0 rfl mW_0 rfl rfl hl.1 (Nat.le_of_ble_eq_true rfl) dX11_misplaced_18 rfl ⟨Nat.zero_le _, Nat.zero_le _⟩ (fun u11 H locs hp12 hO => ?_)
    obtain ⟨hJ, hTu11, hx0u11⟩ := hp12
    have hT : Km25 u u11 := Km25.tr (by exact hT) hTu11
    have g13 : 0 ≤ (fI u11 0 4).toInt ∧ (fI u11 0 4).toInt ≤ 5 := by have h := MI_4 hJ; exact h
    have y0u11 : ¬ ((fI u11 0 4) : Int32).toInt = 0 := by exact hx0u11
    have q14 : ¬ ((fI u11 0 4) : Int32).toInt = 0 := by first | omega | decide
    refine hret _ _ _ _ _ dX11_misplaced_21 ?_ hO
    exact ⟨hJ, hT, q14⟩
def Km26 (u v : St) : Prop := fI v 0 2 = fI u 0 2 ∧ fI v 0 3 = fI u 0 3 ∧ fI v 0 4 = fI u 0 4 ∧ fI v 0 5 = fI u 0 5 ∧ fI v 0 36 = fI u 0 36 ∧ fI v 0 37 = fI u 0 37 ∧ fI v 0 38 = fI u 0 38 ∧ fI v 0 39 = fI u 0 39 ∧ fI v 0 40 = fI u 0 40 ∧ fI v 0 41 = fI u 0 41 ∧ fI v 0 42 = fI u 0 42 ∧ fI v 0 43 = fI u 0 43 ∧ fI v 0 45 = fI u 0 45 ∧ fI v 0 47 = fI u 0 47 ∧ fI v 0 48 = fI u 0 48 ∧ fI v 0 50 = fI u 0 50 ∧ fI v 0 61 = fI u 0 61 ∧ fI v 0 62 = fI u 0 62 ∧ fA v 1 = fA u 1 ∧ fA v 2 = fA u 2 ∧ fA v 3 = fA u 3 ∧ fA v 4 = fA u 4 ∧ fA v 5 = fA u 5 ∧ fA v 6 = fA u 6 ∧ fA v 7 = fA u 7 ∧ fA v 8 = fA u 8 ∧ fA v 9 = fA u 9 ∧ fA v 10 = fA u 10 ∧ fA v 11 = fA u 11 ∧ fA v 12 = fA u 12 ∧ fA v 13 = fA u 13 ∧ fA v 14 = fA u 14 ∧ fA v 15 = fA u 15 ∧ fA v 16 = fA u 16 ∧ fA v 17 = fA u 17 ∧ fA v 18 = fA u 18 ∧ fA v 19 = fA u 19 ∧ fJ v 20 = fJ u 20 ∧ fJ v 21 = fJ u 21 ∧ fJ v 22 = fJ u 22 ∧ fA v 23 = fA u 23 ∧ fA v 24 = fA u 24 ∧ fA v 25 = fA u 25 ∧ fA v 26 = fA u 26 ∧ fA v 27 = fA u 27 ∧ fA v 28 = fA u 28 ∧ fA v 29 = fA u 29 ∧ fA v 30 = fA u 30 ∧ fA v 31 = fA u 31 ∧ fA v 32 = fA u 32 ∧ fA v 33 = fA u 33 ∧ fA v 34 = fA u 34 ∧ fA v 35 = fA u 35 ∧ fA v 36 = fA u 36 ∧ fA v 37 = fA u 37 ∧ fA v 38 = fA u 38 ∧ fA v 39 = fA u 39 ∧ fA v 40 = fA u 40 ∧ fA v 41 = fA u 41 ∧ fA v 42 = fA u 42
theorem Km26.rf {u : St} : Km26 u u := ⟨rfl, rfl, rfl, rfl, rfl, rfl, rfl, rfl, rfl, rfl, rfl, rfl, rfl, rfl, rfl, rfl, rfl, rfl, rfl, rfl, rfl, rfl, rfl, rfl, rfl, rfl, rfl, rfl, rfl, rfl, rfl, rfl, rfl, rfl, rfl, rfl, rfl, rfl, rfl, rfl, rfl, rfl, rfl, rfl, rfl, rfl, rfl, rfl, rfl, rfl, rfl, rfl, rfl, rfl, rfl, rfl, rfl, rfl, rfl, rfl⟩
theorem Km26.tr {u v w : St} (h1 : Km26 u v) (h2 : Km26 v w) : Km26 u w := ⟨(h2.1).trans h1.1, (h2.2.1).trans h1.2.1, (h2.2.2.1).trans h1.2.2.1, (h2.2.2.2.1).trans h1.2.2.2.1, (h2.2.2.2.2.1).trans h1.2.2.2.2.1, (h2.2.2.2.2.2.1).trans h1.2.2.2.2.2.1, (h2.2.2.2.2.2.2.1).trans h1.2.2.2.2.2.2.1, (h2.2.2.2.2.2.2.2.1).trans h1.2.2.2.2.2.2.2.1, (h2.2.2.2.2.2.2.2.2.1).trans h1.2.2.2.2.2.2.2.2.1, (h2.2.2.2.2.2.2.2.2.2.1).trans h1.2.2.2.2.2.2.2.2.2.1, (h2.2.2.2.2.2.2.2.2.2.2.1).trans h1.2.2.2.2.2.2.2.2.2.2.1, (h2.2.2.2.2.2.2.2.2.2.2.2.1).trans h1.2.2.2.2.2.2.2.2.2.2.2.1, (h2.2.2.2.2.2.2.2.2.2.2.2.2.1).trans h1.2.2.2.2.2.2.2.2.2.2.2.2.1, (h2.2.2.2.2.2.2.2.2.2.2.2.2.2.1).trans h1.2.2.2.2.2.2.2.2.2.2.2.2.2.1, (h2.2.2.2.2.2.2.2.2.2.2.2.2.2.2.1).trans h1.2.2.2.2.2.2.2.2.2.2.2.2.2.2.1, (h2.2.2.2.2.2.2.2.2.2.2.2.2.2.2.2.1).trans h1.2.2.2.2.2.2.2.2.2.2.2.2.2.2.2.1, (h2.2.2.2.2.2.2.2.2.2.2.2.2.2.2.2.2.1).trans h1.2.2.2.2.2.2.2.2.2.2.2.2.2.2.2.2.1, (h2.2.2.2.2.2.2.2.2.2.2.2.2.2.2.2.2.2.1).trans h1.2.2.2.2.2.2.2.2.2.2.2.2.2.2.2.2.2.1, (h2.2.2.2.2.2.2.2.2.2.2.2.2.2.2.2.2.2.2.1).trans h1.2.2.2.2.2.2.2.2.2.2.2.2.2.2.2.2.2.2.1, (h2.2.2.2.2.2.2.2.2.2.2.2.2.2.2.2.2.2.2.2.1).trans h1.2.2.2.2.2.2.2.2.2.2.2.2.2.2.2.2.2.2.2.1, (h2.2.2.2.2.2.2.2.2.2.2.2.2.2.2.2.2.2.2.2.2.1).trans h1.2.2.2.2.2.2.2.2.2.2.2.2.2.2.2.2.2.2.2.2.1, (h2.2.2.2.2.2.2.2.2.2.2.2.2.2.2.2.2.2.2.2.2.2.1).trans h1.2.2.2.2.2.2.2.2.2.2.2.2.2.2.2.2.2.2.2.2.2.1, (h2.2.2.2.2.2.2.2.2.2.2.2.2.2.2.2.2.2.2.2.2.2.2.1).trans h1.2.2.2.2.2.2.2.2.2.2.2.2.2.2.2.2.2.2.2.2.2.2.1, (h2.2.2.2.2.2.2.2.2.2.2.2.2.2.2.2.2.2.2.2.2.2.2.2.1).trans h1.2.2.2.2.2.2.2.2.2.2.2.2.2.2.2.2.2.2.2.2.2.2.2.1, (h2.2.2.2.2.2.2.2.2.2.2.2.2.2.2.2.2.2.2.2.2.2.2.2.2.1).trans h1.2.2.2.2.2.2.2.2.2.2.2.2.2.2.2.2.2.2.2.2.2.2.2.2.1, (h2.2.2.2.2.2.2.2.2.2.2.2.2.2.2.2.2.2.2.2.2.2.2.2.2.2.1).trans h1.2.2.2.2.2.2.2.2.2.2.2.2.2.2.2.2.2.2.2.2.2.2.2.2.2.1, (h2.2.2.2.2.2.2.2.2.2.2.2.2.2.2.2.2.2.2.2.2.2.2.2.2.2.2.1).trans h1.2.2.2.2.2.2.2.2.2.2.2.2.2.2.2.2.2.2.2.2.2.2.2.2.2.2.1, (h2.2.2.2.2.2.2.2.2.2.2.2.2.2.2.2.2.2.2.2.2.2.2.2.2.2.2.2.1).trans h1.2.2.2.2.2.2.2.2.2.2.2.2.2.2.2.2.2.2.2.2.2.2.2.2.2.2.2.1, (h2.2.2.2.2.2.2.2.2.2.2.2.2.2.2.2.2.2.2.2.2.2.2.2.2.2.2.2.2.1).trans h1.2.2.2.2.2.2.2.2.2.2.2.2.2.2.2.2.2.2.2.2.2.2.2.2.2.2.2.2.1, (h2.2.2.2.2.2.2.2.2.2.2.2.2.2.2.2.2.2.2.2.2.2.2.2.2.2.2.2.2.2.1).trans h1.2.2.2.2.2.2.2.2.2.2.2.2.2.2.2.2.2.2.2.2.2.2.2.2.2.2.2.2.2.1, (h2.2.2.2.2.2.2.2.2.2.2.2.2.2.2.2.2.2.2.2.2.2.2.2.2.2.2.2.2.2.2.1).trans h1.2.2.2.2.2.2.2.2.2.2.2.2.2.2.2.2.2.2.2.2.2.2.2.2.2.2.2.2.2.2.1, (h2.2.2.2.2.2.2.2.2.2.2.2.2.2.2.2.2.2.2.2.2.2.2.2.2.2.2.2.2.2.2.2.1).trans h1.2.2.2.2.2.2.2.2.2.2.2.2.2.2.2.2.2.2.2.2.2.2.2.2.2.2.2.2.2.2.2.1, (h2.2.2.2.2.2.2.2.2.2.2.2.2.2.2.2.2.2.2.2.2.2.2.2.2.2.2.2.2.2.2.2.2.1).trans h1.2.2.2.2.2.2.2.2.2.2.2.2.2.2.2.2.2.2.2.2.2.2.2.2.2.2.2.2.2.2.2.2.1, (h2.2.2.2.2.2.2.2.2.2.2.2.2.2.2.2.2.2.2.2.2.2.2.2.2.2.2.2.2.2.2.2.2.2.1).trans h1.2.2.2.2.2.2.2.2.2.2.2.2.2.2.2.2.2.2.2.2.2.2.2.2.2.2.2.2.2.2.2.2.2.1, (h2.2.2.2.2.2.2.2.2.2.2.2.2.2.2.2.2.2.2.2.2.2.2.2.2.2.2.2.2.2.2.2.2.2.2.1).trans h1.2.2.2.2.2.2.2.2.2.2.2.2.2.2.2.2.2.2.2.2.2.2.2.2.2.2.2.2.2.2.2.2.2.2.1, (h2.2.2.2.2.2.2.2.2.2.2.2.2.2.2.2.2.2.2.2.2.2.2.2.2.2.2.2.2.2.2.2.2.2.2.2.1).trans h1.2.2.2.2.2.2.2.2.2.2.2.2.2.2.2.2.2.2.2.2.2.2.2.2.2.2.2.2.2.2.2.2.2.2.2.1, (h2.2.2.2.2.2.2.2.2.2.2.2.2.2.2.2.2.2.2.2.2.2.2.2.2.2.2.2.2.2.2.2.2.2.2.2.2.1).trans h1.2.2.2.2.2.2.2.2.2.2.2.2.2.2.2.2.2.2.2.2.2.2.2.2.2.2.2.2.2.2.2.2.2.2.2.2.1, (h2.2.2.2.2.2.2.2.2.2.2.2.2.2.2.2.2.2.2.2.2.2.2.2.2.2.2.2.2.2.2.2.2.2.2.2.2.2.1).trans h1.2.2.2.2.2.2.2.2.2.2.2.2.2.2.2.2.2.2.2.2.2.2.2.2.2.2.2.2.2.2.2.2.2.2.2.2.2.1, (h2.2.2.2.2.2.2.2.2.2.2.2.2.2.2.2.2.2.2.2.2.2.2.2.2.2.2.2.2.2.2.2.2.2.2.2.2.2.2.1).trans h1.2.2.2.2.2.2.2.2.2.2.2.2.2.2.2.2.2.2.2.2.2.2.2.2.2.2.2.2.2.2.2.2.2.2.2.2.2.2.1, (h2.2.2.2.2.2.2.2.2.2.2.2.2.2.2.2.2.2.2.2.2.2.2.2.2.2.2.2.2.2.2.2.2.2.2.2.2.2.2.2.1).trans h1.2.2.2.2.2.2.2.2.2.2.2.2.2.2.2.2.2.2.2.2.2.2.2.2.2.2.2.2.2.2.2.2.2.2.2.2.2.2.2.1, (h2.2.2.2.2.2.2.2.2.2.2.2.2.2.2.2.2.2.2.2.2.2.2.2.2.2.2.2.2.2.2.2.2.2.2.2.2.2.2.2.2.1).trans h1.2.2.2.2.2.2.2.2.2.2.2.2.2.2.2.2.2.2.2.2.2.2.2.2.2.2.2.2.2.2.2.2.2.2.2.2.2.2.2.2.1, (h2.2.2.2.2.2.2.2.2.2.2.2.2.2.2.2.2.2.2.2.2.2.2.2.2.2.2.2.2.2.2.2.2.2.2.2.2.2.2.2.2.2.1).trans h1.2.2.2.2.2.2.2.2.2.2.2.2.2.2.2.2.2.2.2.2.2.2.2.2.2.2.2.2.2.2.2.2.2.2.2.2.2.2.2.2.2.1, (h2.2.2.2.2.2.2.2.2.2.2.2.2.2.2.2.2.2.2.2.2.2.2.2.2.2.2.2.2.2.2.2.2.2.2.2.2.2.2.2.2.2.2.1).trans h1.2.2.2.2.2.2.2.2.2.2.2.2.2.2.2.2.2.2.2.2.2.2.2.2.2.2.2.2.2.2.2.2.2.2.2.2.2.2.2.2.2.2.1, (h2.2.2.2.2.2.2.2.2.2.2.2.2.2.2.2.2.2.2.2.2.2.2.2.2.2.2.2.2.2.2.2.2.2.2.2.2.2.2.2.2.2.2.2.1).trans h1.2.2.2.2.2.2.2.2.2.2.2.2.2.2.2.2.2.2.2.2.2.2.2.2.2.2.2.2.2.2.2.2.2.2.2.2.2.2.2.2.2.2.2.1, (h2.2.2.2.2.2.2.2.2.2.2.2.2.2.2.2.2.2.2.2.2.2.2.2.2.2.2.2.2.2.2.2.2.2.2.2.2.2.2.2.2.2.2.2.2.1).trans h1.2.2.2.2.2.2.2.2.2.2.2.2.2.2.2.2.2.2.2.2.2.2.2.2.2.2.2.2.2.2.2.2.2.2.2.2.2.2.2.2.2.2.2.2.1, (h2.2.2.2.2.2.2.2.2.2.2.2.2.2.2.2.2.2.2.2.2.2.2.2.2.2.2.2.2.2.2.2.2.2.2.2.2.2.2.2.2.2.2.2.2.2.1).trans h1.2.2.2.2.2.2.2.2.2.2.2.2.2.2.2.2.2.2.2.2.2.2.2.2.2.2.2.2.2.2.2.2.2.2.2.2.2.2.2.2.2.2.2.2.2.1, (h2.2.2.2.2.2.2.2.2.2.2.2.2.2.2.2.2.2.2.2.2.2.2.2.2.2.2.2.2.2.2.2.2.2.2.2.2.2.2.2.2.2.2.2.2.2.2.1).trans h1.2.2.2.2.2.2.2.2.2.2.2.2.2.2.2.2.2.2.2.2.2.2.2.2.2.2.2.2.2.2.2.2.2.2.2.2.2.2.2.2.2.2.2.2.2.2.1, (h2.2.2.2.2.2.2.2.2.2.2.2.2.2.2.2.2.2.2.2.2.2.2.2.2.2.2.2.2.2.2.2.2.2.2.2.2.2.2.2.2.2.2.2.2.2.2.2.1).trans h1.2.2.2.2.2.2.2.2.2.2.2.2.2.2.2.2.2.2.2.2.2.2.2.2.2.2.2.2.2.2.2.2.2.2.2.2.2.2.2.2.2.2.2.2.2.2.2.1, (h2.2.2.2.2.2.2.2.2.2.2.2.2.2.2.2.2.2.2.2.2.2.2.2.2.2.2.2.2.2.2.2.2.2.2.2.2.2.2.2.2.2.2.2.2.2.2.2.2.1).trans h1.2.2.2.2.2.2.2.2.2.2.2.2.2.2.2.2.2.2.2.2.2.2.2.2.2.2.2.2.2.2.2.2.2.2.2.2.2.2.2.2.2.2.2.2.2.2.2.2.1, (h2.2.2.2.2.2.2.2.2.2.2.2.2.2.2.2.2.2.2.2.2.2.2.2.2.2.2.2.2.2.2.2.2.2.2.2.2.2.2.2.2.2.2.2.2.2.2.2.2.2.1).trans h1.2.2.2.2.2.2.2.2.2.2.2.2.2.2.2.2.2.2.2.2.2.2.2.2.2.2.2.2.2.2.2.2.2.2.2.2.2.2.2.2.2.2.2.2.2.2.2.2.2.1, (h2.2.2.2.2.2.2.2.2.2.2.2.2.2.2.2.2.2.2.2.2.2.2.2.2.2.2.2.2.2.2.2.2.2.2.2.2.2.2.2.2.2.2.2.2.2.2.2.2.2.2.1).trans h1.2.2.2.2.2.2.2.2.2.2.2.2.2.2.2.2.2.2.2.2.2.2.2.2.2.2.2.2.2.2.2.2.2.2.2.2.2.2.2.2.2.2.2.2.2.2.2.2.2.2.1, (h2.2.2.2.2.2.2.2.2.2.2.2.2.2.2.2.2.2.2.2.2.2.2.2.2.2.2.2.2.2.2.2.2.2.2.2.2.2.2.2.2.2.2.2.2.2.2.2.2.2.2.2.1).trans h1.2.2.2.2.2.2.2.2.2.2.2.2.2.2.2.2.2.2.2.2.2.2.2.2.2.2.2.2.2.2.2.2.2.2.2.2.2.2.2.2.2.2.2.2.2.2.2.2.2.2.2.1, (h2.2.2.2.2.2.2.2.2.2.2.2.2.2.2.2.2.2.2.2.2.2.2.2.2.2.2.2.2.2.2.2.2.2.2.2.2.2.2.2.2.2.2.2.2.2.2.2.2.2.2.2.2.1).trans h1.2.2.2.2.2.2.2.2.2.2.2.2.2.2.2.2.2.2.2.2.2.2.2.2.2.2.2.2.2.2.2.2.2.2.2.2.2.2.2.2.2.2.2.2.2.2.2.2.2.2.2.2.1, (h2.2.2.2.2.2.2.2.2.2.2.2.2.2.2.2.2.2.2.2.2.2.2.2.2.2.2.2.2.2.2.2.2.2.2.2.2.2.2.2.2.2.2.2.2.2.2.2.2.2.2.2.2.2.1).trans h1.2.2.2.2.2.2.2.2.2.2.2.2.2.2.2.2.2.2.2.2.2.2.2.2.2.2.2.2.2.2.2.2.2.2.2.2.2.2.2.2.2.2.2.2.2.2.2.2.2.2.2.2.2.1, (h2.2.2.2.2.2.2.2.2.2.2.2.2.2.2.2.2.2.2.2.2.2.2.2.2.2.2.2.2.2.2.2.2.2.2.2.2.2.2.2.2.2.2.2.2.2.2.2.2.2.2.2.2.2.2.1).trans h1.2.2.2.2.2.2.2.2.2.2.2.2.2.2.2.2.2.2.2.2.2.2.2.2.2.2.2.2.2.2.2.2.2.2.2.2.2.2.2.2.2.2.2.2.2.2.2.2.2.2.2.2.2.2.1, (h2.2.2.2.2.2.2.2.2.2.2.2.2.2.2.2.2.2.2.2.2.2.2.2.2.2.2.2.2.2.2.2.2.2.2.2.2.2.2.2.2.2.2.2.2.2.2.2.2.2.2.2.2.2.2.2.1).trans h1.2.2.2.2.2.2.2.2.2.2.2.2.2.2.2.2.2.2.2.2.2.2.2.2.2.2.2.2.2.2.2.2.2.2.2.2.2.2.2.2.2.2.2.2.2.2.2.2.2.2.2.2.2.2.2.1, (h2.2.2.2.2.2.2.2.2.2.2.2.2.2.2.2.2.2.2.2.2.2.2.2.2.2.2.2.2.2.2.2.2.2.2.2.2.2.2.2.2.2.2.2.2.2.2.2.2.2.2.2.2.2.2.2.2.1).trans h1.2.2.2.2.2.2.2.2.2.2.2.2.2.2.2.2.2.2.2.2.2.2.2.2.2.2.2.2.2.2.2.2.2.2.2.2.2.2.2.2.2.2.2.2.2.2.2.2.2.2.2.2.2.2.2.2.1, (h2.2.2.2.2.2.2.2.2.2.2.2.2.2.2.2.2.2.2.2.2.2.2.2.2.2.2.2.2.2.2.2.2.2.2.2.2.2.2.2.2.2.2.2.2.2.2.2.2.2.2.2.2.2.2.2.2.2.1).trans h1.2.2.2.2.2.2.2.2.2.2.2.2.2.2.2.2.2.2.2.2.2.2.2.2.2.2.2.2.2.2.2.2.2.2.2.2.2.2.2.2.2.2.2.2.2.2.2.2.2.2.2.2.2.2.2.2.2.1, (h2.2.2.2.2.2.2.2.2.2.2.2.2.2.2.2.2.2.2.2.2.2.2.2.2.2.2.2.2.2.2.2.2.2.2.2.2.2.2.2.2.2.2.2.2.2.2.2.2.2.2.2.2.2.2.2.2.2.2.1).trans h1.2.2.2.2.2.2.2.2.2.2.2.2.2.2.2.2.2.2.2.2.2.2.2.2.2.2.2.2.2.2.2.2.2.2.2.2.2.2.2.2.2.2.2.2.2.2.2.2.2.2.2.2.2.2.2.2.2.2.1, (h2.2.2.2.2.2.2.2.2.2.2.2.2.2.2.2.2.2.2.2.2.2.2.2.2.2.2.2.2.2.2.2.2.2.2.2.2.2.2.2.2.2.2.2.2.2.2.2.2.2.2.2.2.2.2.2.2.2.2.2).trans h1.2.2.2.2.2.2.2.2.2.2.2.2.2.2.2.2.2.2.2.2.2.2.2.2.2.2.2.2.2.2.2.2.2.2.2.2.2.2.2.2.2.2.2.2.2.2.2.2.2.2.2.2.2.2.2.2.2.2.2⟩
theorem dX11_goOn_0 : decode cX11_goOn 0 = .ok (.aload_n 0, 1) := by decide +kernel
theorem dX11_goOn_1 : decode cX11_goOn 1 = .ok (.aload_n 0, 1) := by decide +kernel
theorem dX11_goOn_2 : decode cX11_goOn 2 = .ok (.getfield 198, 3) := by decide +kernel
theorem dX11_goOn_5 : decode cX11_goOn 5 = .ok (.putfield 201, 3) := by decide +kernel
theorem dX11_goOn_8 : decode cX11_goOn 8 = .ok (.aload_n 0, 1) := by decide +kernel
theorem dX11_goOn_9 : decode cX11_goOn 9 = .ok (.getfield 201, 3) := by decide +kernel
theorem dX11_goOn_12 : decode cX11_goOn 12 = .ok (.aload_n 0, 1) := by decide +kernel
theorem dX11_goOn_13 : decode cX11_goOn 13 = .ok (.getfield 152, 3) := by decide +kernel
theorem dX11_goOn_16 : decode cX11_goOn 16 = .ok (.if_icmp .ge 42, 3) := by decide +kernel
theorem dX11_goOn_19 : decode cX11_goOn 19 = .ok (.aload_n 0, 1) := by decide +kernel
theorem dX11_goOn_20 : decode cX11_goOn 20 = .ok (.aload_n 0, 1) := by decide +kernel
theorem dX11_goOn_21 : decode cX11_goOn 21 = .ok (.getfield 201, 3) := by decide +kernel
theorem dX11_goOn_24 : decode cX11_goOn 24 = .ok (.invokevirtual 204, 3) := by decide +kernel
theorem dX11_goOn_27 : decode cX11_goOn 27 = .ok (.bipush 32, 2) := by decide +kernel
theorem dX11_goOn_29 : decode cX11_goOn 29 = .ok (.if_icmp .eq 16, 3) := by decide +kernel
theorem dX11_goOn_32 : decode cX11_goOn 32 = .ok (.aload_n 0, 1) := by decide +kernel
theorem dX11_goOn_33 : decode cX11_goOn 33 = .ok (.aload_n 0, 1) := by decide +kernel
theorem dX11_goOn_34 : decode cX11_goOn 34 = .ok (.getfield 201, 3) := by decide +kernel
theorem dX11_goOn_37 : decode cX11_goOn 37 = .ok (.invokevirtual 204, 3) := by decide +kernel
theorem dX11_goOn_40 : decode cX11_goOn 40 = .ok (.bipush 10, 2) := by decide +kernel
theorem dX11_goOn_42 : decode cX11_goOn 42 = .ok (.if_icmp .ne 16, 3) := by decide +kernel
theorem dX11_goOn_45 : decode cX11_goOn 45 = .ok (.aload_n 0, 1) := by decide +kernel
theorem dX11_goOn_46 : decode cX11_goOn 46 = .ok (.dup, 1) := by decide +kernel
theorem dX11_goOn_47 : decode cX11_goOn 47 = .ok (.getfield 201, 3) := by decide +kernel
theorem dX11_goOn_50 : decode cX11_goOn 50 = .ok (.iconst 1, 1) := by decide +kernel
theorem dX11_goOn_51 : decode cX11_goOn 51 = .ok (.iadd, 1) := by decide +kernel
theorem dX11_goOn_52 : decode cX11_goOn 52 = .ok (.putfield 201, 3) := by decide +kernel
theorem dX11_goOn_55 : decode cX11_goOn 55 = .ok (.goto (-47), 3) := by decide +kernel
theorem dX11_goOn_58 : decode cX11_goOn 58 = .ok (.aload_n 0, 1) := by decide +kernel
theorem dX11_goOn_59 : decode cX11_goOn 59 = .ok (.aload_n 0, 1) := by decide +kernel
theorem dX11_goOn_60 : decode cX11_goOn 60 = .ok (.getfield 201, 3) := by decide +kernel
theorem dX11_goOn_63 : decode cX11_goOn 63 = .ok (.invokevirtual 204, 3) := by decide +kernel
theorem dX11_goOn_66 : decode cX11_goOn 66 = .ok (.istore_n 1, 1) := by decide +kernel
theorem dX11_goOn_67 : decode cX11_goOn 67 = .ok (.aload_n 0, 1) := by decide +kernel
theorem dX11_goOn_68 : decode cX11_goOn 68 = .ok (.aload_n 0, 1) := by decide +kernel
theorem dX11_goOn_69 : decode cX11_goOn 69 = .ok (.getfield 201, 3) := by decide +kernel
theorem dX11_goOn_72 : decode cX11_goOn 72 = .ok (.iconst 1, 1) := by decide +kernel
theorem dX11_goOn_73 : decode cX11_goOn 73 = .ok (.iadd, 1) := by decide +kernel
theorem dX11_goOn_74 : decode cX11_goOn 74 = .ok (.putfield 198, 3) := by decide +kernel
theorem dX11_goOn_77 : decode cX11_goOn 77 = .ok (.aload_n 0, 1) := by decide +kernel
theorem dX11_goOn_78 : decode cX11_goOn 78 = .ok (.getfield 201, 3) := by decide +kernel
theorem dX11_goOn_81 : decode cX11_goOn 81 = .ok (.aload_n 0, 1) := by decide +kernel
theorem dX11_goOn_82 : decode cX11_goOn 82 = .ok (.getfield 152, 3) := by decide +kernel
theorem dX11_goOn_85 : decode cX11_goOn 85 = .ok (.if_icmp .lt 27, 3) := by decide +kernel
theorem dX11_goOn_88 : decode cX11_goOn 88 = .ok (.aload_n 0, 1) := by decide +kernel
theorem dX11_goOn_89 : decode cX11_goOn 89 = .ok (.iconst 0, 1) := by decide +kernel
theorem dX11_goOn_90 : decode cX11_goOn 90 = .ok (.putfield 208, 3) := by decide +kernel
theorem dX11_goOn_93 : decode cX11_goOn 93 = .ok (.aload_n 0, 1) := by decide +kernel
theorem dX11_goOn_94 : decode cX11_goOn 94 = .ok (.aload_n 0, 1) := by decide +kernel
theorem dX11_goOn_95 : decode cX11_goOn 95 = .ok (.getfield 152, 3) := by decide +kernel
theorem dX11_goOn_98 : decode cX11_goOn 98 = .ok (.putfield 201, 3) := by decide +kernel
theorem dX11_goOn_101 : decode cX11_goOn 101 = .ok (.aload_n 0, 1) := by decide +kernel
theorem dX11_goOn_102 : decode cX11_goOn 102 = .ok (.aload_n 0, 1) := by decide +kernel
theorem dX11_goOn_103 : decode cX11_goOn 103 = .ok (.getfield 152, 3) := by decide +kernel
theorem dX11_goOn_106 : decode cX11_goOn 106 = .ok (.putfield 198, 3) := by decide +kernel
theorem dX11_goOn_109 : decode cX11_goOn 109 = .ok (.goto 268, 3) := by decide +kernel
theorem dX11_goOn_112 : decode cX11_goOn 112 = .ok (.iload_n 1, 1) := by decide +kernel
theorem dX11_goOn_113 : decode cX11_goOn 113 = .ok (.invokestatic 211, 3) := by decide +kernel
theorem dX11_goOn_116 : decode cX11_goOn 116 = .ok (.ifCond .eq 123, 3) := by decide +kernel
theorem dX11_goOn_119 : decode cX11_goOn 119 = .ok (.aload_n 0, 1) := by decide +kernel
theorem dX11_goOn_120 : decode cX11_goOn 120 = .ok (.aload_n 0, 1) := by decide +kernel
theorem dX11_goOn_121 : decode cX11_goOn 121 = .ok (.getfield 198, 3) := by decide +kernel
theorem dX11_goOn_124 : decode cX11_goOn 124 = .ok (.invokevirtual 204, 3) := by decide +kernel
theorem dX11_goOn_127 : decode cX11_goOn 127 = .ok (.invokestatic 211, 3) := by decide +kernel
theorem dX11_goOn_130 : decode cX11_goOn 130 = .ok (.ifCond .eq 16, 3) := by decide +kernel
theorem dX11_goOn_133 : decode cX11_goOn 133 = .ok (.aload_n 0, 1) := by decide +kernel
theorem dX11_goOn_134 : decode cX11_goOn 134 = .ok (.dup, 1) := by decide +kernel
theorem dX11_goOn_135 : decode cX11_goOn 135 = .ok (.getfield 198, 3) := by decide +kernel
theorem dX11_goOn_138 : decode cX11_goOn 138 = .ok (.iconst 1, 1) := by decide +kernel
theorem dX11_goOn_139 : decode cX11_goOn 139 = .ok (.iadd, 1) := by decide +kernel
theorem dX11_goOn_140 : decode cX11_goOn 140 = .ok (.putfield 198, 3) := by decide +kernel
theorem dX11_goOn_143 : decode cX11_goOn 143 = .ok (.goto (-24), 3) := by decide +kernel
theorem dX11_goOn_146 : decode cX11_goOn 146 = .ok (.aload_n 0, 1) := by decide +kernel
theorem dX11_goOn_147 : decode cX11_goOn 147 = .ok (.lconst 0, 1) := by decide +kernel
theorem dX11_goOn_148 : decode cX11_goOn 148 = .ok (.putfield 215, 3) := by decide +kernel
theorem dX11_goOn_151 : decode cX11_goOn 151 = .ok (.aload_n 0, 1) := by decide +kernel
theorem dX11_goOn_152 : decode cX11_goOn 152 = .ok (.getfield 201, 3) := by decide +kernel
theorem dX11_goOn_155 : decode cX11_goOn 155 = .ok (.istore_n 2, 1) := by decide +kernel
theorem dX11_goOn_156 : decode cX11_goOn 156 = .ok (.iload_n 2, 1) := by decide +kernel
theorem dX11_goOn_157 : decode cX11_goOn 157 = .ok (.aload_n 0, 1) := by decide +kernel
theorem dX11_goOn_158 : decode cX11_goOn 158 = .ok (.getfield 198, 3) := by decide +kernel
theorem dX11_goOn_161 : decode cX11_goOn 161 = .ok (.if_icmp .ge 38, 3) := by decide +kernel
theorem dX11_goOn_164 : decode cX11_goOn 164 = .ok (.iload_n 2, 1) := by decide +kernel
theorem dX11_goOn_165 : decode cX11_goOn 165 = .ok (.aload_n 0, 1) := by decide +kernel
theorem dX11_goOn_166 : decode cX11_goOn 166 = .ok (.getfield 201, 3) := by decide +kernel
theorem dX11_goOn_169 : decode cX11_goOn 169 = .ok (.bipush 8, 2) := by decide +kernel
theorem dX11_goOn_171 : decode cX11_goOn 171 = .ok (.iadd, 1) := by decide +kernel
theorem dX11_goOn_172 : decode cX11_goOn 172 = .ok (.if_icmp .ge 27, 3) := by decide +kernel
theorem dX11_goOn_175 : decode cX11_goOn 175 = .ok (.aload_n 0, 1) := by decide +kernel
theorem dX11_goOn_176 : decode cX11_goOn 176 = .ok (.aload_n 0, 1) := by decide +kernel
theorem dX11_goOn_177 : decode cX11_goOn 177 = .ok (.getfield 215, 3) := by decide +kernel
theorem dX11_goOn_180 : decode cX11_goOn 180 = .ok (.bipush 8, 2) := by decide +kernel
theorem dX11_goOn_182 : decode cX11_goOn 182 = .ok (.lshl, 1) := by decide +kernel
theorem dX11_goOn_183 : decode cX11_goOn 183 = .ok (.aload_n 0, 1) := by decide +kernel
theorem dX11_goOn_184 : decode cX11_goOn 184 = .ok (.iload_n 2, 1) := by decide +kernel
theorem dX11_goOn_185 : decode cX11_goOn 185 = .ok (.invokevirtual 204, 3) := by decide +kernel
theorem dX11_goOn_188 : decode cX11_goOn 188 = .ok (.i2l, 1) := by decide +kernel
theorem dX11_goOn_189 : decode cX11_goOn 189 = .ok (.lor, 1) := by decide +kernel
theorem dX11_goOn_190 : decode cX11_goOn 190 = .ok (.putfield 215, 3) := by decide +kernel
theorem dX11_goOn_193 : decode cX11_goOn 193 = .ok (.iinc 2 1, 3) := by decide +kernel
theorem dX11_goOn_196 : decode cX11_goOn 196 = .ok (.goto (-40), 3) := by decide +kernel
theorem dX11_goOn_199 : decode cX11_goOn 199 = .ok (.aload_n 0, 1) := by decide +kernel
theorem dX11_goOn_200 : decode cX11_goOn 200 = .ok (.aload_n 0, 1) := by decide +kernel
theorem dX11_goOn_201 : decode cX11_goOn 201 = .ok (.getfield 198, 3) := by decide +kernel
theorem dX11_goOn_204 : decode cX11_goOn 204 = .ok (.aload_n 0, 1) := by decide +kernel
theorem dX11_goOn_205 : decode cX11_goOn 205 = .ok (.getfield 201, 3) := by decide +kernel
theorem dX11_goOn_208 : decode cX11_goOn 208 = .ok (.isub, 1) := by decide +kernel
theorem dX11_goOn_209 : decode cX11_goOn 209 = .ok (.bipush 8, 2) := by decide +kernel
theorem dX11_goOn_211 : decode cX11_goOn 211 = .ok (.if_icmp .le 7, 3) := by decide +kernel
theorem dX11_goOn_214 : decode cX11_goOn 214 = .ok (.iconst 1, 1) := by decide +kernel
theorem dX11_goOn_215 : decode cX11_goOn 215 = .ok (.goto 18, 3) := by decide +kernel
theorem dX11_goOn_218 : decode cX11_goOn 218 = .ok (.aload_n 0, 1) := by decide +kernel
theorem dX11_goOn_219 : decode cX11_goOn 219 = .ok (.getfield 215, 3) := by decide +kernel
theorem dX11_goOn_222 : decode cX11_goOn 222 = .ok (.invokestatic 219, 3) := by decide +kernel
theorem dX11_goOn_225 : decode cX11_goOn 225 = .ok (.ifCond .eq 7, 3) := by decide +kernel
theorem dX11_goOn_228 : decode cX11_goOn 228 = .ok (.iconst 3, 1) := by decide +kernel
theorem dX11_goOn_229 : decode cX11_goOn 229 = .ok (.goto 4, 3) := by decide +kernel
theorem dX11_goOn_232 : decode cX11_goOn 232 = .ok (.iconst 2, 1) := by decide +kernel
theorem dX11_goOn_233 : decode cX11_goOn 233 = .ok (.putfield 208, 3) := by decide +kernel
theorem dX11_goOn_236 : decode cX11_goOn 236 = .ok (.goto 141, 3) := by decide +kernel
theorem dX11_goOn_239 : decode cX11_goOn 239 = .ok (.iload_n 1, 1) := by decide +kernel
theorem dX11_goOn_240 : decode cX11_goOn 240 = .ok (.invokestatic 223, 3) := by decide +kernel
theorem dX11_goOn_243 : decode cX11_goOn 243 = .ok (.ifCond .eq 118, 3) := by decide +kernel
theorem dX11_goOn_246 : decode cX11_goOn 246 = .ok (.aload_n 0, 1) := by decide +kernel
theorem dX11_goOn_247 : decode cX11_goOn 247 = .ok (.iconst 0, 1) := by decide +kernel
theorem dX11_goOn_248 : decode cX11_goOn 248 = .ok (.putfield 226, 3) := by decide +kernel
theorem dX11_goOn_251 : decode cX11_goOn 251 = .ok (.aload_n 0, 1) := by decide +kernel
theorem dX11_goOn_252 : decode cX11_goOn 252 = .ok (.aload_n 0, 1) := by decide +kernel
theorem dX11_goOn_253 : decode cX11_goOn 253 = .ok (.getfield 201, 3) := by decide +kernel
theorem dX11_goOn_256 : decode cX11_goOn 256 = .ok (.putfield 198, 3) := by decide +kernel
theorem dX11_goOn_259 : decode cX11_goOn 259 = .ok (.aload_n 0, 1) := by decide +kernel
theorem dX11_goOn_260 : decode cX11_goOn 260 = .ok (.aload_n 0, 1) := by decide +kernel
theorem dX11_goOn_261 : decode cX11_goOn 261 = .ok (.getfield 198, 3) := by decide +kernel
theorem dX11_goOn_264 : decode cX11_goOn 264 = .ok (.invokevirtual 204, 3) := by decide +kernel
theorem dX11_goOn_267 : decode cX11_goOn 267 = .ok (.invokestatic 223, 3) := by decide +kernel
theorem dX11_goOn_270 : decode cX11_goOn 270 = .ok (.ifCond .eq 52, 3) := by decide +kernel
theorem dX11_goOn_273 : decode cX11_goOn 273 = .ok (.aload_n 0, 1) := by decide +kernel
theorem dX11_goOn_274 : decode cX11_goOn 274 = .ok (.getfield 198, 3) := by decide +kernel
theorem dX11_goOn_277 : decode cX11_goOn 277 = .ok (.aload_n 0, 1) := by decide +kernel
theorem dX11_goOn_278 : decode cX11_goOn 278 = .ok (.getfield 201, 3) := by decide +kernel
theorem dX11_goOn_281 : decode cX11_goOn 281 = .ok (.isub, 1) := by decide +kernel
theorem dX11_goOn_282 : decode cX11_goOn 282 = .ok (.iconst 4, 1) := by decide +kernel
theorem dX11_goOn_283 : decode cX11_goOn 283 = .ok (.if_icmp .ge 26, 3) := by decide +kernel
theorem dX11_goOn_286 : decode cX11_goOn 286 = .ok (.aload_n 0, 1) := by decide +kernel
theorem dX11_goOn_287 : decode cX11_goOn 287 = .ok (.bipush 10, 2) := by decide +kernel
theorem dX11_goOn_289 : decode cX11_goOn 289 = .ok (.aload_n 0, 1) := by decide +kernel
theorem dX11_goOn_290 : decode cX11_goOn 290 = .ok (.getfield 226, 3) := by decide +kernel
theorem dX11_goOn_293 : decode cX11_goOn 293 = .ok (.imul, 1) := by decide +kernel
theorem dX11_goOn_294 : decode cX11_goOn 294 = .ok (.aload_n 0, 1) := by decide +kernel
theorem dX11_goOn_295 : decode cX11_goOn 295 = .ok (.aload_n 0, 1) := by decide +kernel
theorem dX11_goOn_296 : decode cX11_goOn 296 = .ok (.getfield 198, 3) := by decide +kernel
theorem dX11_goOn_299 : decode cX11_goOn 299 = .ok (.invokevirtual 204, 3) := by decide +kernel
theorem dX11_goOn_302 : decode cX11_goOn 302 = .ok (.iadd, 1) := by decide +kernel
theorem dX11_goOn_303 : decode cX11_goOn 303 = .ok (.bipush 48, 2) := by decide +kernel
theorem dX11_goOn_305 : decode cX11_goOn 305 = .ok (.isub, 1) := by decide +kernel
theorem dX11_goOn_306 : decode cX11_goOn 306 = .ok (.putfield 226, 3) := by decide +kernel
theorem dX11_goOn_309 : decode cX11_goOn 309 = .ok (.aload_n 0, 1) := by decide +kernel
theorem dX11_goOn_310 : decode cX11_goOn 310 = .ok (.dup, 1) := by decide +kernel
theorem dX11_goOn_311 : decode cX11_goOn 311 = .ok (.getfield 198, 3) := by decide +kernel
theorem dX11_goOn_314 : decode cX11_goOn 314 = .ok (.iconst 1, 1) := by decide +kernel
theorem dX11_goOn_315 : decode cX11_goOn 315 = .ok (.iadd, 1) := by decide +kernel
theorem dX11_goOn_316 : decode cX11_goOn 316 = .ok (.putfield 198, 3) := by decide +kernel
theorem dX11_goOn_319 : decode cX11_goOn 319 = .ok (.goto (-60), 3) := by decide +kernel
theorem dX11_goOn_322 : decode cX11_goOn 322 = .ok (.aload_n 0, 1) := by decide +kernel
theorem dX11_goOn_323 : decode cX11_goOn 323 = .ok (.aload_n 0, 1) := by decide +kernel
theorem dX11_goOn_324 : decode cX11_goOn 324 = .ok (.getfield 198, 3) := by decide +kernel
theorem dX11_goOn_327 : decode cX11_goOn 327 = .ok (.aload_n 0, 1) := by decide +kernel
theorem dX11_goOn_328 : decode cX11_goOn 328 = .ok (.getfield 201, 3) := by decide +kernel
theorem dX11_goOn_331 : decode cX11_goOn 331 = .ok (.isub, 1) := by decide +kernel
theorem dX11_goOn_332 : decode cX11_goOn 332 = .ok (.iconst 4, 1) := by decide +kernel
theorem dX11_goOn_333 : decode cX11_goOn 333 = .ok (.if_icmp .gt 17, 3) := by decide +kernel
theorem dX11_goOn_336 : decode cX11_goOn 336 = .ok (.aload_n 0, 1) := by decide +kernel
theorem dX11_goOn_337 : decode cX11_goOn 337 = .ok (.aload_n 0, 1) := by decide +kernel
theorem dX11_goOn_338 : decode cX11_goOn 338 = .ok (.getfield 198, 3) := by decide +kernel
theorem dX11_goOn_341 : decode cX11_goOn 341 = .ok (.invokevirtual 204, 3) := by decide +kernel
theorem dX11_goOn_344 : decode cX11_goOn 344 = .ok (.invokestatic 211, 3) := by decide +kernel
theorem dX11_goOn_347 : decode cX11_goOn 347 = .ok (.ifCond .eq 7, 3) := by decide +kernel
theorem dX11_goOn_350 : decode cX11_goOn 350 = .ok (.iconst 1, 1) := by decide +kernel
theorem dX11_goOn_351 : decode cX11_goOn 351 = .ok (.goto 4, 3) := by decide +kernel
theorem dX11_goOn_354 : decode cX11_goOn 354 = .ok (.iconst 4, 1) := by decide +kernel
theorem dX11_goOn_355 : decode cX11_goOn 355 = .ok (.putfield 208, 3) := by decide +kernel
theorem dX11_goOn_358 : decode cX11_goOn 358 = .ok (.goto 19, 3) := by decide +kernel
theorem dX11_goOn_361 : decode cX11_goOn 361 = .ok (.aload_n 0, 1) := by decide +kernel
theorem dX11_goOn_362 : decode cX11_goOn 362 = .ok (.iload_n 1, 1) := by decide +kernel
theorem dX11_goOn_363 : decode cX11_goOn 363 = .ok (.invokestatic 229, 3) := by decide +kernel
theorem dX11_goOn_366 : decode cX11_goOn 366 = .ok (.ifCond .eq 7, 3) := by decide +kernel
theorem dX11_goOn_369 : decode cX11_goOn 369 = .ok (.iconst 5, 1) := by decide +kernel
theorem dX11_goOn_370 : decode cX11_goOn 370 = .ok (.goto 4, 3) := by decide +kernel
theorem dX11_goOn_373 : decode cX11_goOn 373 = .ok (.iconst 1, 1) := by decide +kernel
theorem dX11_goOn_374 : decode cX11_goOn 374 = .ok (.putfield 208, 3) := by decide +kernel
theorem dX11_goOn_377 : decode cX11_goOn 377 = .ok (.return_, 1) := by decide +kernel
theorem wd_1559 : (Cond.code ⟨"WebCourtModel", "goOn", "()V"⟩ prog_13_method_9_code (3 : Nat) (Option.none : Option FieldType)) ∈ gtb := gtb_c7 10 (by decide +kernel) rfl
theorem wd_1363 : (Cond.fieldLink "WebCourtModel" (198 : Nat) "WebCourtModel" "end" "I") ∈ gtb := gtb_c6 54 (by decide +kernel) rfl
theorem gf_RX11_198 {p : Program} {l : Launch} {e : Env} {R : Room} {s : State} {m : MethodId} {args : Array Value} {below : List Frame} {meth : Method} {c : Code} {H : Heap} {locs : List Loc} {cells slots : Nat} {Q : State → Prop} {cc : ByteArray} {pc nL : Nat} {ls : Array Slot} {rest : List Value} {D : va_G} {cy : Nat → ClassId} {A : Nat → Prop} {ws : va_W} {b : Nat} {fs : List Value} {v : Value} (C : Cx p s m args c cc nL RX11 D cy A) (hO : Wo D A ws s.heap H locs) (q0 : Nat) (he : ws[q0]? = some (b, .inr (11, fs))) (hv : fs[7]? = some v) (hdg : decode cc pc = .ok (.getfield 198, 3)) (kk : W p l e R s m args below meth c H locs cells slots Q (F0 m (pc + 3) ls (v :: rest))) : W p l e R s m args below meth c H locs cells slots Q (F0 m pc ls (.ref b :: rest)) := gF (k := 7) C hO q0 he rfl inFX11 (by decide) wd_1363 rfl hv hdg kk
theorem pf_RX11_201 {p : Program} {l : Launch} {e : Env} {R : Room} {s : State} {m : MethodId} {args : Array Value} {below : List Frame} {meth : Method} {c : Code} {H : Heap} {locs : List Loc} {cells slots : Nat} {Q : State → Prop} {cc : ByteArray} {pc nL : Nat} {ls : Array Slot} {rest : List Value} {D : va_G} {cy : Nat → ClassId} {A : Nat → Prop} {ws : va_W} {b : Nat} {fs : List Value} {v : Int32} {ws' : va_W} (C : Cx p s m args c cc nL RX11 D cy A) (hO : Wo D A ws s.heap H locs) (q0 : Nat) (he : ws[q0]? = some (b, .inr (11, fs))) (hlen : 6 < fs.length) (hw : ws.set q0 (b, .inr (11, fs.set 6 (.int v))) = ws') (hdg : decode cc pc = .ok (.putfield 201, 3)) (kk : ∀ (H : Heap) (locs : List Loc), Wo D A ws' s.heap H locs → W p l e R s m args below meth c H locs cells slots Q (F0 m (pc + 3) ls rest)) : W p l e R s m args below meth c H locs cells slots Q (F0 m pc ls (.int v :: .ref b :: rest)) := pF (k := 6) (ty := .int) C hO q0 he rfl inFX11 (by decide) wd_1362 rfl tyX11 tyX11_ok nmX11 rfl (by decide +kernel) rfl rfl hlen hw hdg kk
theorem Km26_wI6 {u v : St} {x : Int32} (h : Km26 u v) : Km26 u (sI v 0 6 x) := ⟨h.1, h.2.1, h.2.2.1, h.2.2.2.1, h.2.2.2.2.1, h.2.2.2.2.2.1, h.2.2.2.2.2.2.1, h.2.2.2.2.2.2.2.1, h.2.2.2.2.2.2.2.2.1, h.2.2.2.2.2.2.2.2.2.1, h.2.2.2.2.2.2.2.2.2.2.1, h.2.2.2.2.2.2.2.2.2.2.2.1, h.2.2.2.2.2.2.2.2.2.2.2.2.1, h.2.2.2.2.2.2.2.2.2.2.2.2.2.1, h.2.2.2.2.2.2.2.2.2.2.2.2.2.2.1, h.2.2.2.2.2.2.2.2.2.2.2.2.2.2.2.1, h.2.2.2.2.2.2.2.2.2.2.2.2.2.2.2.2.1, h.2.2.2.2.2.2.2.2.2.2.2.2.2.2.2.2.2.1, h.2.2.2.2.2.2.2.2.2.2.2.2.2.2.2.2.2.2.1, h.2.2.2.2.2.2.2.2.2.2.2.2.2.2.2.2.2.2.2.1, h.2.2.2.2.2.2.2.2.2.2.2.2.2.2.2.2.2.2.2.2.1, h.2.2.2.2.2.2.2.2.2.2.2.2.2.2.2.2.2.2.2.2.2.1, h.2.2.2.2.2.2.2.2.2.2.2.2.2.2.2.2.2.2.2.2.2.2.1, h.2.2.2.2.2.2.2.2.2.2.2.2.2.2.2.2.2.2.2.2.2.2.2.1, h.2.2.2.2.2.2.2.2.2.2.2.2.2.2.2.2.2.2.2.2.2.2.2.2.1, h.2.2.2.2.2.2.2.2.2.2.2.2.2.2.2.2.2.2.2.2.2.2.2.2.2.1, h.2.2.2.2.2.2.2.2.2.2.2.2.2.2.2.2.2.2.2.2.2.2.2.2.2.2.1, h.2.2.2.2.2.2.2.2.2.2.2.2.2.2.2.2.2.2.2.2.2.2.2.2.2.2.2.1, h.2.2.2.2.2.2.2.2.2.2.2.2.2.2.2.2.2.2.2.2.2.2.2.2.2.2.2.2.1, h.2.2.2.2.2.2.2.2.2.2.2.2.2.2.2.2.2.2.2.2.2.2.2.2.2.2.2.2.2.1, h.2.2.2.2.2.2.2.2.2.2.2.2.2.2.2.2.2.2.2.2.2.2.2.2.2.2.2.2.2.2.1, h.2.2.2.2.2.2.2.2.2.2.2.2.2.2.2.2.2.2.2.2.2.2.2.2.2.2.2.2.2.2.2.1, h.2.2.2.2.2.2.2.2.2.2.2.2.2.2.2.2.2.2.2.2.2.2.2.2.2.2.2.2.2.2.2.2.1, h.2.2.2.2.2.2.2.2.2.2.2.2.2.2.2.2.2.2.2.2.2.2.2.2.2.2.2.2.2.2.2.2.2.1, h.2.2.2.2.2.2.2.2.2.2.2.2.2.2.2.2.2.2.2.2.2.2.2.2.2.2.2.2.2.2.2.2.2.2.1, h.2.2.2.2.2.2.2.2.2.2.2.2.2.2.2.2.2.2.2.2.2.2.2.2.2.2.2.2.2.2.2.2.2.2.2.1, h.2.2.2.2.2.2.2.2.2.2.2.2.2.2.2.2.2.2.2.2.2.2.2.2.2.2.2.2.2.2.2.2.2.2.2.2.1, h.2.2.2.2.2.2.2.2.2.2.2.2.2.2.2.2.2.2.2.2.2.2.2.2.2.2.2.2.2.2.2.2.2.2.2.2.2.1, h.2.2.2.2.2.2.2.2.2.2.2.2.2.2.2.2.2.2.2.2.2.2.2.2.2.2.2.2.2.2.2.2.2.2.2.2.2.2.1, h.2.2.2.2.2.2.2.2.2.2.2.2.2.2.2.2.2.2.2.2.2.2.2.2.2.2.2.2.2.2.2.2.2.2.2.2.2.2.2.1, h.2.2.2.2.2.2.2.2.2.2.2.2.2.2.2.2.2.2.2.2.2.2.2.2.2.2.2.2.2.2.2.2.2.2.2.2.2.2.2.2.1, h.2.2.2.2.2.2.2.2.2.2.2.2.2.2.2.2.2.2.2.2.2.2.2.2.2.2.2.2.2.2.2.2.2.2.2.2.2.2.2.2.2.1, h.2.2.2.2.2.2.2.2.2.2.2.2.2.2.2.2.2.2.2.2.2.2.2.2.2.2.2.2.2.2.2.2.2.2.2.2.2.2.2.2.2.2.1, h.2.2.2.2.2.2.2.2.2.2.2.2.2.2.2.2.2.2.2.2.2.2.2.2.2.2.2.2.2.2.2.2.2.2.2.2.2.2.2.2.2.2.2.1, h.2.2.2.2.2.2.2.2.2.2.2.2.2.2.2.2.2.2.2.2.2.2.2.2.2.2.2.2.2.2.2.2.2.2.2.2.2.2.2.2.2.2.2.2.1, h.2.2.2.2.2.2.2.2.2.2.2.2.2.2.2.2.2.2.2.2.2.2.2.2.2.2.2.2.2.2.2.2.2.2.2.2.2.2.2.2.2.2.2.2.2.1, h.2.2.2.2.2.2.2.2.2.2.2.2.2.2.2.2.2.2.2.2.2.2.2.2.2.2.2.2.2.2.2.2.2.2.2.2.2.2.2.2.2.2.2.2.2.2.1, h.2.2.2.2.2.2.2.2.2.2.2.2.2.2.2.2.2.2.2.2.2.2.2.2.2.2.2.2.2.2.2.2.2.2.2.2.2.2.2.2.2.2.2.2.2.2.2.1, h.2.2.2.2.2.2.2.2.2.2.2.2.2.2.2.2.2.2.2.2.2.2.2.2.2.2.2.2.2.2.2.2.2.2.2.2.2.2.2.2.2.2.2.2.2.2.2.2.1, h.2.2.2.2.2.2.2.2.2.2.2.2.2.2.2.2.2.2.2.2.2.2.2.2.2.2.2.2.2.2.2.2.2.2.2.2.2.2.2.2.2.2.2.2.2.2.2.2.2.1, h.2.2.2.2.2.2.2.2.2.2.2.2.2.2.2.2.2.2.2.2.2.2.2.2.2.2.2.2.2.2.2.2.2.2.2.2.2.2.2.2.2.2.2.2.2.2.2.2.2.2.1, h.2.2.2.2.2.2.2.2.2.2.2.2.2.2.2.2.2.2.2.2.2.2.2.2.2.2.2.2.2.2.2.2.2.2.2.2.2.2.2.2.2.2.2.2.2.2.2.2.2.2.2.1, h.2.2.2.2.2.2.2.2.2.2.2.2.2.2.2.2.2.2.2.2.2.2.2.2.2.2.2.2.2.2.2.2.2.2.2.2.2.2.2.2.2.2.2.2.2.2.2.2.2.2.2.2.1, h.2.2.2.2.2.2.2.2.2.2.2.2.2.2.2.2.2.2.2.2.2.2.2.2.2.2.2.2.2.2.2.2.2.2.2.2.2.2.2.2.2.2.2.2.2.2.2.2.2.2.2.2.2.1, h.2.2.2.2.2.2.2.2.2.2.2.2.2.2.2.2.2.2.2.2.2.2.2.2.2.2.2.2.2.2.2.2.2.2.2.2.2.2.2.2.2.2.2.2.2.2.2.2.2.2.2.2.2.2.1, h.2.2.2.2.2.2.2.2.2.2.2.2.2.2.2.2.2.2.2.2.2.2.2.2.2.2.2.2.2.2.2.2.2.2.2.2.2.2.2.2.2.2.2.2.2.2.2.2.2.2.2.2.2.2.2.1, h.2.2.2.2.2.2.2.2.2.2.2.2.2.2.2.2.2.2.2.2.2.2.2.2.2.2.2.2.2.2.2.2.2.2.2.2.2.2.2.2.2.2.2.2.2.2.2.2.2.2.2.2.2.2.2.2.1, h.2.2.2.2.2.2.2.2.2.2.2.2.2.2.2.2.2.2.2.2.2.2.2.2.2.2.2.2.2.2.2.2.2.2.2.2.2.2.2.2.2.2.2.2.2.2.2.2.2.2.2.2.2.2.2.2.2.1, h.2.2.2.2.2.2.2.2.2.2.2.2.2.2.2.2.2.2.2.2.2.2.2.2.2.2.2.2.2.2.2.2.2.2.2.2.2.2.2.2.2.2.2.2.2.2.2.2.2.2.2.2.2.2.2.2.2.2.1, h.2.2.2.2.2.2.2.2.2.2.2.2.2.2.2.2.2.2.2.2.2.2.2.2.2.2.2.2.2.2.2.2.2.2.2.2.2.2.2.2.2.2.2.2.2.2.2.2.2.2.2.2.2.2.2.2.2.2.2⟩
theorem Km26_I3 {u v : St} (h : Km26 u v) : fI v 0 3 = fI u 0 3 := h.2.1
theorem wd_1560 : (Cond.methodLink "WebCourtModel" (204 : Nat) ⟨"WebCourtModel", "sign", "(I)I"⟩) ∈ gtb := gtb_c7 11 (by decide +kernel) rfl
theorem wd_1562 : (Cond.instanceMethod ⟨"WebCourtModel", "sign", "(I)I"⟩) ∈ gtb := gtb_c7 13 (by decide +kernel) rfl
theorem wd_49 : (Cond.selects "WebCourtModel" ⟨"WebCourtModel", "sign", "(I)I"⟩ ⟨"WebCourtModel", "sign", "(I)I"⟩) ∈ gtb := gtb_p 49 (by decide +kernel) rfl
theorem hd_yX11_sign : yX11_sign.cls = RX11 ∧ yX11_sign.cls ≠ "java/lang/invoke/MethodHandle" ∧ yX11_sign.cls ≠ "java/lang/invoke/VarHandle" ∧ (parseMethodDescriptor yX11_sign.desc).map (fun d => d.parameters.length) = some 1 := by decide +kernel
theorem Km26_A2 {u v : St} (h : Km26 u v) : fA v 2 = fA u 2 := h.2.2.2.2.2.2.2.2.2.2.2.2.2.2.2.2.2.2.2.1
theorem pf_RX11_198 {p : Program} {l : Launch} {e : Env} {R : Room} {s : State} {m : MethodId} {args : Array Value} {below : List Frame} {meth : Method} {c : Code} {H : Heap} {locs : List Loc} {cells slots : Nat} {Q : State → Prop} {cc : ByteArray} {pc nL : Nat} {ls : Array Slot} {rest : List Value} {D : va_G} {cy : Nat → ClassId} {A : Nat → Prop} {ws : va_W} {b : Nat} {fs : List Value} {v : Int32} {ws' : va_W} (C : Cx p s m args c cc nL RX11 D cy A) (hO : Wo D A ws s.heap H locs) (q0 : Nat) (he : ws[q0]? = some (b, .inr (11, fs))) (hlen : 7 < fs.length) (hw : ws.set q0 (b, .inr (11, fs.set 7 (.int v))) = ws') (hdg : decode cc pc = .ok (.putfield 198, 3)) (kk : ∀ (H : Heap) (locs : List Loc), Wo D A ws' s.heap H locs → W p l e R s m args below meth c H locs cells slots Q (F0 m (pc + 3) ls rest)) : W p l e R s m args below meth c H locs cells slots Q (F0 m pc ls (.int v :: .ref b :: rest)) := pF (k := 7) (ty := .int) C hO q0 he rfl inFX11 (by decide) wd_1363 rfl tyX11 tyX11_ok nmX11 rfl (by decide +kernel) rfl rfl hlen hw hdg kk
theorem Km26_wI7 {u v : St} {x : Int32} (h : Km26 u v) : Km26 u (sI v 0 7 x) := ⟨h.1, h.2.1, h.2.2.1, h.2.2.2.1, h.2.2.2.2.1, h.2.2.2.2.2.1, h.2.2.2.2.2.2.1, h.2.2.2.2.2.2.2.1, h.2.2.2.2.2.2.2.2.1, h.2.2.2.2.2.2.2.2.2.1, h.2.2.2.2.2.2.2.2.2.2.1, h.2.2.2.2.2.2.2.2.2.2.2.1, h.2.2.2.2.2.2.2.2.2.2.2.2.1, h.2.2.2.2.2.2.2.2.2.2.2.2.2.1, h.2.2.2.2.2.2.2.2.2.2.2.2.2.2.1, h.2.2.2.2.2.2.2.2.2.2.2.2.2.2.2.1, h.2.2.2.2.2.2.2.2.2.2.2.2.2.2.2.2.1, h.2.2.2.2.2.2.2.2.2.2.2.2.2.2.2.2.2.1, h.2.2.2.2.2.2.2.2.2.2.2.2.2.2.2.2.2.2.1, h.2.2.2.2.2.2.2.2.2.2.2.2.2.2.2.2.2.2.2.1, h.2.2.2.2.2.2.2.2.2.2.2.2.2.2.2.2.2.2.2.2.1, h.2.2.2.2.2.2.2.2.2.2.2.2.2.2.2.2.2.2.2.2.2.1, h.2.2.2.2.2.2.2.2.2.2.2.2.2.2.2.2.2.2.2.2.2.2.1, h.2.2.2.2.2.2.2.2.2.2.2.2.2.2.2.2.2.2.2.2.2.2.2.1, h.2.2.2.2.2.2.2.2.2.2.2.2.2.2.2.2.2.2.2.2.2.2.2.2.1, h.2.2.2.2.2.2.2.2.2.2.2.2.2.2.2.2.2.2.2.2.2.2.2.2.2.1, h.2.2.2.2.2.2.2.2.2.2.2.2.2.2.2.2.2.2.2.2.2.2.2.2.2.2.1, h.2.2.2.2.2.2.2.2.2.2.2.2.2.2.2.2.2.2.2.2.2.2.2.2.2.2.2.1, h.2.2.2.2.2.2.2.2.2.2.2.2.2.2.2.2.2.2.2.2.2.2.2.2.2.2.2.2.1, h.2.2.2.2.2.2.2.2.2.2.2.2.2.2.2.2.2.2.2.2.2.2.2.2.2.2.2.2.2.1, h.2.2.2.2.2.2.2.2.2.2.2.2.2.2.2.2.2.2.2.2.2.2.2.2.2.2.2.2.2.2.1, h.2.2.2.2.2.2.2.2.2.2.2.2.2.2.2.2.2.2.2.2.2.2.2.2.2.2.2.2.2.2.2.1, h.2.2.2.2.2.2.2.2.2.2.2.2.2.2.2.2.2.2.2.2.2.2.2.2.2.2.2.2.2.2.2.2.1, h.2.2.2.2.2.2.2.2.2.2.2.2.2.2.2.2.2.2.2.2.2.2.2.2.2.2.2.2.2.2.2.2.2.1, h.2.2.2.2.2.2.2.2.2.2.2.2.2.2.2.2.2.2.2.2.2.2.2.2.2.2.2.2.2.2.2.2.2.2.1, h.2.2.2.2.2.2.2.2.2.2.2.2.2.2.2.2.2.2.2.2.2.2.2.2.2.2.2.2.2.2.2.2.2.2.2.1, h.2.2.2.2.2.2.2.2.2.2.2.2.2.2.2.2.2.2.2.2.2.2.2.2.2.2.2.2.2.2.2.2.2.2.2.2.1, h.2.2.2.2.2.2.2.2.2.2.2.2.2.2.2.2.2.2.2.2.2.2.2.2.2.2.2.2.2.2.2.2.2.2.2.2.2.1, h.2.2.2.2.2.2.2.2.2.2.2.2.2.2.2.2.2.2.2.2.2.2.2.2.2.2.2.2.2.2.2.2.2.2.2.2.2.2.1, h.2.2.2.2.2.2.2.2.2.2.2.2.2.2.2.2.2.2.2.2.2.2.2.2.2.2.2.2.2.2.2.2.2.2.2.2.2.2.2.1, h.2.2.2.2.2.2.2.2.2.2.2.2.2.2.2.2.2.2.2.2.2.2.2.2.2.2.2.2.2.2.2.2.2.2.2.2.2.2.2.2.1, h.2.2.2.2.2.2.2.2.2.2.2.2.2.2.2.2.2.2.2.2.2.2.2.2.2.2.2.2.2.2.2.2.2.2.2.2.2.2.2.2.2.1, h.2.2.2.2.2.2.2.2.2.2.2.2.2.2.2.2.2.2.2.2.2.2.2.2.2.2.2.2.2.2.2.2.2.2.2.2.2.2.2.2.2.2.1, h.2.2.2.2.2.2.2.2.2.2.2.2.2.2.2.2.2.2.2.2.2.2.2.2.2.2.2.2.2.2.2.2.2.2.2.2.2.2.2.2.2.2.2.1, h.2.2.2.2.2.2.2.2.2.2.2.2.2.2.2.2.2.2.2.2.2.2.2.2.2.2.2.2.2.2.2.2.2.2.2.2.2.2.2.2.2.2.2.2.1, h.2.2.2.2.2.2.2.2.2.2.2.2.2.2.2.2.2.2.2.2.2.2.2.2.2.2.2.2.2.2.2.2.2.2.2.2.2.2.2.2.2.2.2.2.2.1, h.2.2.2.2.2.2.2.2.2.2.2.2.2.2.2.2.2.2.2.2.2.2.2.2.2.2.2.2.2.2.2.2.2.2.2.2.2.2.2.2.2.2.2.2.2.2.1, h.2.2.2.2.2.2.2.2.2.2.2.2.2.2.2.2.2.2.2.2.2.2.2.2.2.2.2.2.2.2.2.2.2.2.2.2.2.2.2.2.2.2.2.2.2.2.2.1, h.2.2.2.2.2.2.2.2.2.2.2.2.2.2.2.2.2.2.2.2.2.2.2.2.2.2.2.2.2.2.2.2.2.2.2.2.2.2.2.2.2.2.2.2.2.2.2.2.1, h.2.2.2.2.2.2.2.2.2.2.2.2.2.2.2.2.2.2.2.2.2.2.2.2.2.2.2.2.2.2.2.2.2.2.2.2.2.2.2.2.2.2.2.2.2.2.2.2.2.1, h.2.2.2.2.2.2.2.2.2.2.2.2.2.2.2.2.2.2.2.2.2.2.2.2.2.2.2.2.2.2.2.2.2.2.2.2.2.2.2.2.2.2.2.2.2.2.2.2.2.2.1, h.2.2.2.2.2.2.2.2.2.2.2.2.2.2.2.2.2.2.2.2.2.2.2.2.2.2.2.2.2.2.2.2.2.2.2.2.2.2.2.2.2.2.2.2.2.2.2.2.2.2.2.1, h.2.2.2.2.2.2.2.2.2.2.2.2.2.2.2.2.2.2.2.2.2.2.2.2.2.2.2.2.2.2.2.2.2.2.2.2.2.2.2.2.2.2.2.2.2.2.2.2.2.2.2.2.1, h.2.2.2.2.2.2.2.2.2.2.2.2.2.2.2.2.2.2.2.2.2.2.2.2.2.2.2.2.2.2.2.2.2.2.2.2.2.2.2.2.2.2.2.2.2.2.2.2.2.2.2.2.2.1, h.2.2.2.2.2.2.2.2.2.2.2.2.2.2.2.2.2.2.2.2.2.2.2.2.2.2.2.2.2.2.2.2.2.2.2.2.2.2.2.2.2.2.2.2.2.2.2.2.2.2.2.2.2.2.1, h.2.2.2.2.2.2.2.2.2.2.2.2.2.2.2.2.2.2.2.2.2.2.2.2.2.2.2.2.2.2.2.2.2.2.2.2.2.2.2.2.2.2.2.2.2.2.2.2.2.2.2.2.2.2.2.1, h.2.2.2.2.2.2.2.2.2.2.2.2.2.2.2.2.2.2.2.2.2.2.2.2.2.2.2.2.2.2.2.2.2.2.2.2.2.2.2.2.2.2.2.2.2.2.2.2.2.2.2.2.2.2.2.2.1, h.2.2.2.2.2.2.2.2.2.2.2.2.2.2.2.2.2.2.2.2.2.2.2.2.2.2.2.2.2.2.2.2.2.2.2.2.2.2.2.2.2.2.2.2.2.2.2.2.2.2.2.2.2.2.2.2.2.1, h.2.2.2.2.2.2.2.2.2.2.2.2.2.2.2.2.2.2.2.2.2.2.2.2.2.2.2.2.2.2.2.2.2.2.2.2.2.2.2.2.2.2.2.2.2.2.2.2.2.2.2.2.2.2.2.2.2.2.1, h.2.2.2.2.2.2.2.2.2.2.2.2.2.2.2.2.2.2.2.2.2.2.2.2.2.2.2.2.2.2.2.2.2.2.2.2.2.2.2.2.2.2.2.2.2.2.2.2.2.2.2.2.2.2.2.2.2.2.2⟩
theorem wd_1366 : (Cond.fieldLink "WebCourtModel" (215 : Nat) "WebCourtModel" "name" "J") ∈ gtb := gtb_c6 57 (by decide +kernel) rfl
theorem pf_RX11_215 {p : Program} {l : Launch} {e : Env} {R : Room} {s : State} {m : MethodId} {args : Array Value} {below : List Frame} {meth : Method} {c : Code} {H : Heap} {locs : List Loc} {cells slots : Nat} {Q : State → Prop} {cc : ByteArray} {pc nL : Nat} {ls : Array Slot} {rest : List Value} {D : va_G} {cy : Nat → ClassId} {A : Nat → Prop} {ws : va_W} {b : Nat} {fs : List Value} {v : Int64} {ws' : va_W} (C : Cx p s m args c cc nL RX11 D cy A) (hO : Wo D A ws s.heap H locs) (q0 : Nat) (he : ws[q0]? = some (b, .inr (11, fs))) (hlen : 10 < fs.length) (hw : ws.set q0 (b, .inr (11, fs.set 10 (.long v))) = ws') (hdg : decode cc pc = .ok (.putfield 215, 3)) (kk : ∀ (H : Heap) (locs : List Loc), Wo D A ws' s.heap H locs → W p l e R s m args below meth c H locs cells slots Q (F0 m (pc + 3) ls rest)) : W p l e R s m args below meth c H locs cells slots Q (F0 m pc ls (.long v :: .ref b :: rest)) := pF (k := 10) (ty := .long) C hO q0 he rfl inFX11 (by decide) wd_1366 rfl tyX11 tyX11_ok nmX11 rfl (by decide +kernel) rfl rfl hlen hw hdg kk
theorem Km26_wL10 {u v : St} {x : Int64} (h : Km26 u v) : Km26 u (sL v 0 10 x) := ⟨h.1, h.2.1, h.2.2.1, h.2.2.2.1, h.2.2.2.2.1, h.2.2.2.2.2.1, h.2.2.2.2.2.2.1, h.2.2.2.2.2.2.2.1, h.2.2.2.2.2.2.2.2.1, h.2.2.2.2.2.2.2.2.2.1, h.2.2.2.2.2.2.2.2.2.2.1, h.2.2.2.2.2.2.2.2.2.2.2.1, h.2.2.2.2.2.2.2.2.2.2.2.2.1, h.2.2.2.2.2.2.2.2.2.2.2.2.2.1, h.2.2.2.2.2.2.2.2.2.2.2.2.2.2.1, h.2.2.2.2.2.2.2.2.2.2.2.2.2.2.2.1, h.2.2.2.2.2.2.2.2.2.2.2.2.2.2.2.2.1, h.2.2.2.2.2.2.2.2.2.2.2.2.2.2.2.2.2.1, h.2.2.2.2.2.2.2.2.2.2.2.2.2.2.2.2.2.2.1, h.2.2.2.2.2.2.2.2.2.2.2.2.2.2.2.2.2.2.2.1, h.2.2.2.2.2.2.2.2.2.2.2.2.2.2.2.2.2.2.2.2.1, h.2.2.2.2.2.2.2.2.2.2.2.2.2.2.2.2.2.2.2.2.2.1, h.2.2.2.2.2.2.2.2.2.2.2.2.2.2.2.2.2.2.2.2.2.2.1, h.2.2.2.2.2.2.2.2.2.2.2.2.2.2.2.2.2.2.2.2.2.2.2.1, h.2.2.2.2.2.2.2.2.2.2.2.2.2.2.2.2.2.2.2.2.2.2.2.2.1, h.2.2.2.2.2.2.2.2.2.2.2.2.2.2.2.2.2.2.2.2.2.2.2.2.2.1, h.2.2.2.2.2.2.2.2.2.2.2.2.2.2.2.2.2.2.2.2.2.2.2.2.2.2.1, h.2.2.2.2.2.2.2.2.2.2.2.2.2.2.2.2.2.2.2.2.2.2.2.2.2.2.2.1, h.2.2.2.2.2.2.2.2.2.2.2.2.2.2.2.2.2.2.2.2.2.2.2.2.2.2.2.2.1, h.2.2.2.2.2.2.2.2.2.2.2.2.2.2.2.2.2.2.2.2.2.2.2.2.2.2.2.2.2.1, h.2.2.2.2.2.2.2.2.2.2.2.2.2.2.2.2.2.2.2.2.2.2.2.2.2.2.2.2.2.2.1, h.2.2.2.2.2.2.2.2.2.2.2.2.2.2.2.2.2.2.2.2.2.2.2.2.2.2.2.2.2.2.2.1, h.2.2.2.2.2.2.2.2.2.2.2.2.2.2.2.2.2.2.2.2.2.2.2.2.2.2.2.2.2.2.2.2.1, h.2.2.2.2.2.2.2.2.2.2.2.2.2.2.2.2.2.2.2.2.2.2.2.2.2.2.2.2.2.2.2.2.2.1, h.2.2.2.2.2.2.2.2.2.2.2.2.2.2.2.2.2.2.2.2.2.2.2.2.2.2.2.2.2.2.2.2.2.2.1, h.2.2.2.2.2.2.2.2.2.2.2.2.2.2.2.2.2.2.2.2.2.2.2.2.2.2.2.2.2.2.2.2.2.2.2.1, h.2.2.2.2.2.2.2.2.2.2.2.2.2.2.2.2.2.2.2.2.2.2.2.2.2.2.2.2.2.2.2.2.2.2.2.2.1, h.2.2.2.2.2.2.2.2.2.2.2.2.2.2.2.2.2.2.2.2.2.2.2.2.2.2.2.2.2.2.2.2.2.2.2.2.2.1, h.2.2.2.2.2.2.2.2.2.2.2.2.2.2.2.2.2.2.2.2.2.2.2.2.2.2.2.2.2.2.2.2.2.2.2.2.2.2.1, h.2.2.2.2.2.2.2.2.2.2.2.2.2.2.2.2.2.2.2.2.2.2.2.2.2.2.2.2.2.2.2.2.2.2.2.2.2.2.2.1, h.2.2.2.2.2.2.2.2.2.2.2.2.2.2.2.2.2.2.2.2.2.2.2.2.2.2.2.2.2.2.2.2.2.2.2.2.2.2.2.2.1, h.2.2.2.2.2.2.2.2.2.2.2.2.2.2.2.2.2.2.2.2.2.2.2.2.2.2.2.2.2.2.2.2.2.2.2.2.2.2.2.2.2.1, h.2.2.2.2.2.2.2.2.2.2.2.2.2.2.2.2.2.2.2.2.2.2.2.2.2.2.2.2.2.2.2.2.2.2.2.2.2.2.2.2.2.2.1, h.2.2.2.2.2.2.2.2.2.2.2.2.2.2.2.2.2.2.2.2.2.2.2.2.2.2.2.2.2.2.2.2.2.2.2.2.2.2.2.2.2.2.2.1, h.2.2.2.2.2.2.2.2.2.2.2.2.2.2.2.2.2.2.2.2.2.2.2.2.2.2.2.2.2.2.2.2.2.2.2.2.2.2.2.2.2.2.2.2.1, h.2.2.2.2.2.2.2.2.2.2.2.2.2.2.2.2.2.2.2.2.2.2.2.2.2.2.2.2.2.2.2.2.2.2.2.2.2.2.2.2.2.2.2.2.2.1, h.2.2.2.2.2.2.2.2.2.2.2.2.2.2.2.2.2.2.2.2.2.2.2.2.2.2.2.2.2.2.2.2.2.2.2.2.2.2.2.2.2.2.2.2.2.2.1, h.2.2.2.2.2.2.2.2.2.2.2.2.2.2.2.2.2.2.2.2.2.2.2.2.2.2.2.2.2.2.2.2.2.2.2.2.2.2.2.2.2.2.2.2.2.2.2.1, h.2.2.2.2.2.2.2.2.2.2.2.2.2.2.2.2.2.2.2.2.2.2.2.2.2.2.2.2.2.2.2.2.2.2.2.2.2.2.2.2.2.2.2.2.2.2.2.2.1, h.2.2.2.2.2.2.2.2.2.2.2.2.2.2.2.2.2.2.2.2.2.2.2.2.2.2.2.2.2.2.2.2.2.2.2.2.2.2.2.2.2.2.2.2.2.2.2.2.2.1, h.2.2.2.2.2.2.2.2.2.2.2.2.2.2.2.2.2.2.2.2.2.2.2.2.2.2.2.2.2.2.2.2.2.2.2.2.2.2.2.2.2.2.2.2.2.2.2.2.2.2.1, h.2.2.2.2.2.2.2.2.2.2.2.2.2.2.2.2.2.2.2.2.2.2.2.2.2.2.2.2.2.2.2.2.2.2.2.2.2.2.2.2.2.2.2.2.2.2.2.2.2.2.2.1, h.2.2.2.2.2.2.2.2.2.2.2.2.2.2.2.2.2.2.2.2.2.2.2.2.2.2.2.2.2.2.2.2.2.2.2.2.2.2.2.2.2.2.2.2.2.2.2.2.2.2.2.2.1, h.2.2.2.2.2.2.2.2.2.2.2.2.2.2.2.2.2.2.2.2.2.2.2.2.2.2.2.2.2.2.2.2.2.2.2.2.2.2.2.2.2.2.2.2.2.2.2.2.2.2.2.2.2.1, h.2.2.2.2.2.2.2.2.2.2.2.2.2.2.2.2.2.2.2.2.2.2.2.2.2.2.2.2.2.2.2.2.2.2.2.2.2.2.2.2.2.2.2.2.2.2.2.2.2.2.2.2.2.2.1, h.2.2.2.2.2.2.2.2.2.2.2.2.2.2.2.2.2.2.2.2.2.2.2.2.2.2.2.2.2.2.2.2.2.2.2.2.2.2.2.2.2.2.2.2.2.2.2.2.2.2.2.2.2.2.2.1, h.2.2.2.2.2.2.2.2.2.2.2.2.2.2.2.2.2.2.2.2.2.2.2.2.2.2.2.2.2.2.2.2.2.2.2.2.2.2.2.2.2.2.2.2.2.2.2.2.2.2.2.2.2.2.2.2.1, h.2.2.2.2.2.2.2.2.2.2.2.2.2.2.2.2.2.2.2.2.2.2.2.2.2.2.2.2.2.2.2.2.2.2.2.2.2.2.2.2.2.2.2.2.2.2.2.2.2.2.2.2.2.2.2.2.2.1, h.2.2.2.2.2.2.2.2.2.2.2.2.2.2.2.2.2.2.2.2.2.2.2.2.2.2.2.2.2.2.2.2.2.2.2.2.2.2.2.2.2.2.2.2.2.2.2.2.2.2.2.2.2.2.2.2.2.2.1, h.2.2.2.2.2.2.2.2.2.2.2.2.2.2.2.2.2.2.2.2.2.2.2.2.2.2.2.2.2.2.2.2.2.2.2.2.2.2.2.2.2.2.2.2.2.2.2.2.2.2.2.2.2.2.2.2.2.2.2⟩
theorem gf_RX11_215 {p : Program} {l : Launch} {e : Env} {R : Room} {s : State} {m : MethodId} {args : Array Value} {below : List Frame} {meth : Method} {c : Code} {H : Heap} {locs : List Loc} {cells slots : Nat} {Q : State → Prop} {cc : ByteArray} {pc nL : Nat} {ls : Array Slot} {rest : List Value} {D : va_G} {cy : Nat → ClassId} {A : Nat → Prop} {ws : va_W} {b : Nat} {fs : List Value} {v : Value} (C : Cx p s m args c cc nL RX11 D cy A) (hO : Wo D A ws s.heap H locs) (q0 : Nat) (he : ws[q0]? = some (b, .inr (11, fs))) (hv : fs[10]? = some v) (hdg : decode cc pc = .ok (.getfield 215, 3)) (kk : W p l e R s m args below meth c H locs cells slots Q (F0 m (pc + 3) ls (v :: rest))) : W p l e R s m args below meth c H locs cells slots Q (F0 m pc ls (.ref b :: rest)) := gF (k := 10) C hO q0 he rfl inFX11 (by decide) wd_1366 rfl hv hdg kk
theorem wd_1567 : (Cond.methodLink "WebCourtModel" (219 : Nat) ⟨"WebCourtModel", "isKept", "(J)Z"⟩) ∈ gtb := gtb_c7 18 (by decide +kernel) rfl
theorem wd_1568 : (Cond.static ⟨"WebCourtModel", "isKept", "(J)Z"⟩) ∈ gtb := gtb_c7 19 (by decide +kernel) rfl
theorem hd_yX11_isKept : yX11_isKept.cls ≠ "java/lang/invoke/MethodHandle" ∧ yX11_isKept.cls ≠ "java/lang/invoke/VarHandle" ∧ (parseMethodDescriptor yX11_isKept.desc).map (fun d => d.parameters.length) = some 1 := by decide +kernel
theorem pf_RX11_208 {p : Program} {l : Launch} {e : Env} {R : Room} {s : State} {m : MethodId} {args : Array Value} {below : List Frame} {meth : Method} {c : Code} {H : Heap} {locs : List Loc} {cells slots : Nat} {Q : State → Prop} {cc : ByteArray} {pc nL : Nat} {ls : Array Slot} {rest : List Value} {D : va_G} {cy : Nat → ClassId} {A : Nat → Prop} {ws : va_W} {b : Nat} {fs : List Value} {v : Int32} {ws' : va_W} (C : Cx p s m args c cc nL RX11 D cy A) (hO : Wo D A ws s.heap H locs) (q0 : Nat) (he : ws[q0]? = some (b, .inr (11, fs))) (hlen : 8 < fs.length) (hw : ws.set q0 (b, .inr (11, fs.set 8 (.int v))) = ws') (hdg : decode cc pc = .ok (.putfield 208, 3)) (kk : ∀ (H : Heap) (locs : List Loc), Wo D A ws' s.heap H locs → W p l e R s m args below meth c H locs cells slots Q (F0 m (pc + 3) ls rest)) : W p l e R s m args below meth c H locs cells slots Q (F0 m pc ls (.int v :: .ref b :: rest)) := pF (k := 8) (ty := .int) C hO q0 he rfl inFX11 (by decide) wd_1364 rfl tyX11 tyX11_ok nmX11 rfl (by decide +kernel) rfl rfl hlen hw hdg kk
theorem Km26_wI8 {u v : St} {x : Int32} (h : Km26 u v) : Km26 u (sI v 0 8 x) := ⟨h.1, h.2.1, h.2.2.1, h.2.2.2.1, h.2.2.2.2.1, h.2.2.2.2.2.1, h.2.2.2.2.2.2.1, h.2.2.2.2.2.2.2.1, h.2.2.2.2.2.2.2.2.1, h.2.2.2.2.2.2.2.2.2.1, h.2.2.2.2.2.2.2.2.2.2.1, h.2.2.2.2.2.2.2.2.2.2.2.1, h.2.2.2.2.2.2.2.2.2.2.2.2.1, h.2.2.2.2.2.2.2.2.2.2.2.2.2.1, h.2.2.2.2.2.2.2.2.2.2.2.2.2.2.1, h.2.2.2.2.2.2.2.2.2.2.2.2.2.2.2.1, h.2.2.2.2.2.2.2.2.2.2.2.2.2.2.2.2.1, h.2.2.2.2.2.2.2.2.2.2.2.2.2.2.2.2.2.1, h.2.2.2.2.2.2.2.2.2.2.2.2.2.2.2.2.2.2.1, h.2.2.2.2.2.2.2.2.2.2.2.2.2.2.2.2.2.2.2.1, h.2.2.2.2.2.2.2.2.2.2.2.2.2.2.2.2.2.2.2.2.1, h.2.2.2.2.2.2.2.2.2.2.2.2.2.2.2.2.2.2.2.2.2.1, h.2.2.2.2.2.2.2.2.2.2.2.2.2.2.2.2.2.2.2.2.2.2.1, h.2.2.2.2.2.2.2.2.2.2.2.2.2.2.2.2.2.2.2.2.2.2.2.1, h.2.2.2.2.2.2.2.2.2.2.2.2.2.2.2.2.2.2.2.2.2.2.2.2.1, h.2.2.2.2.2.2.2.2.2.2.2.2.2.2.2.2.2.2.2.2.2.2.2.2.2.1, h.2.2.2.2.2.2.2.2.2.2.2.2.2.2.2.2.2.2.2.2.2.2.2.2.2.2.1, h.2.2.2.2.2.2.2.2.2.2.2.2.2.2.2.2.2.2.2.2.2.2.2.2.2.2.2.1, h.2.2.2.2.2.2.2.2.2.2.2.2.2.2.2.2.2.2.2.2.2.2.2.2.2.2.2.2.1, h.2.2.2.2.2.2.2.2.2.2.2.2.2.2.2.2.2.2.2.2.2.2.2.2.2.2.2.2.2.1, h.2.2.2.2.2.2.2.2.2.2.2.2.2.2.2.2.2.2.2.2.2.2.2.2.2.2.2.2.2.2.1, h.2.2.2.2.2.2.2.2.2.2.2.2.2.2.2.2.2.2.2.2.2.2.2.2.2.2.2.2.2.2.2.1, h.2.2.2.2.2.2.2.2.2.2.2.2.2.2.2.2.2.2.2.2.2.2.2.2.2.2.2.2.2.2.2.2.1, h.2.2.2.2.2.2.2.2.2.2.2.2.2.2.2.2.2.2.2.2.2.2.2.2.2.2.2.2.2.2.2.2.2.1, h.2.2.2.2.2.2.2.2.2.2.2.2.2.2.2.2.2.2.2.2.2.2.2.2.2.2.2.2.2.2.2.2.2.2.1, h.2.2.2.2.2.2.2.2.2.2.2.2.2.2.2.2.2.2.2.2.2.2.2.2.2.2.2.2.2.2.2.2.2.2.2.1, h.2.2.2.2.2.2.2.2.2.2.2.2.2.2.2.2.2.2.2.2.2.2.2.2.2.2.2.2.2.2.2.2.2.2.2.2.1, h.2.2.2.2.2.2.2.2.2.2.2.2.2.2.2.2.2.2.2.2.2.2.2.2.2.2.2.2.2.2.2.2.2.2.2.2.2.1, h.2.2.2.2.2.2.2.2.2.2.2.2.2.2.2.2.2.2.2.2.2.2.2.2.2.2.2.2.2.2.2.2.2.2.2.2.2.2.1, h.2.2.2.2.2.2.2.2.2.2.2.2.2.2.2.2.2.2.2.2.2.2.2.2.2.2.2.2.2.2.2.2.2.2.2.2.2.2.2.1, h.2.2.2.2.2.2.2.2.2.2.2.2.2.2.2.2.2.2.2.2.2.2.2.2.2.2.2.2.2.2.2.2.2.2.2.2.2.2.2.2.1, h.2.2.2.2.2.2.2.2.2.2.2.2.2.2.2.2.2.2.2.2.2.2.2.2.2.2.2.2.2.2.2.2.2.2.2.2.2.2.2.2.2.1, h.2.2.2.2.2.2.2.2.2.2.2.2.2.2.2.2.2.2.2.2.2.2.2.2.2.2.2.2.2.2.2.2.2.2.2.2.2.2.2.2.2.2.1, h.2.2.2.2.2.2.2.2.2.2.2.2.2.2.2.2.2.2.2.2.2.2.2.2.2.2.2.2.2.2.2.2.2.2.2.2.2.2.2.2.2.2.2.1, h.2.2.2.2.2.2.2.2.2.2.2.2.2.2.2.2.2.2.2.2.2.2.2.2.2.2.2.2.2.2.2.2.2.2.2.2.2.2.2.2.2.2.2.2.1, h.2.2.2.2.2.2.2.2.2.2.2.2.2.2.2.2.2.2.2.2.2.2.2.2.2.2.2.2.2.2.2.2.2.2.2.2.2.2.2.2.2.2.2.2.2.1, h.2.2.2.2.2.2.2.2.2.2.2.2.2.2.2.2.2.2.2.2.2.2.2.2.2.2.2.2.2.2.2.2.2.2.2.2.2.2.2.2.2.2.2.2.2.2.1, h.2.2.2.2.2.2.2.2.2.2.2.2.2.2.2.2.2.2.2.2.2.2.2.2.2.2.2.2.2.2.2.2.2.2.2.2.2.2.2.2.2.2.2.2.2.2.2.1, h.2.2.2.2.2.2.2.2.2.2.2.2.2.2.2.2.2.2.2.2.2.2.2.2.2.2.2.2.2.2.2.2.2.2.2.2.2.2.2.2.2.2.2.2.2.2.2.2.1, h.2.2.2.2.2.2.2.2.2.2.2.2.2.2.2.2.2.2.2.2.2.2.2.2.2.2.2.2.2.2.2.2.2.2.2.2.2.2.2.2.2.2.2.2.2.2.2.2.2.1, h.2.2.2.2.2.2.2.2.2.2.2.2.2.2.2.2.2.2.2.2.2.2.2.2.2.2.2.2.2.2.2.2.2.2.2.2.2.2.2.2.2.2.2.2.2.2.2.2.2.2.1, h.2.2.2.2.2.2.2.2.2.2.2.2.2.2.2.2.2.2.2.2.2.2.2.2.2.2.2.2.2.2.2.2.2.2.2.2.2.2.2.2.2.2.2.2.2.2.2.2.2.2.2.1, h.2.2.2.2.2.2.2.2.2.2.2.2.2.2.2.2.2.2.2.2.2.2.2.2.2.2.2.2.2.2.2.2.2.2.2.2.2.2.2.2.2.2.2.2.2.2.2.2.2.2.2.2.1, h.2.2.2.2.2.2.2.2.2.2.2.2.2.2.2.2.2.2.2.2.2.2.2.2.2.2.2.2.2.2.2.2.2.2.2.2.2.2.2.2.2.2.2.2.2.2.2.2.2.2.2.2.2.1, h.2.2.2.2.2.2.2.2.2.2.2.2.2.2.2.2.2.2.2.2.2.2.2.2.2.2.2.2.2.2.2.2.2.2.2.2.2.2.2.2.2.2.2.2.2.2.2.2.2.2.2.2.2.2.1, h.2.2.2.2.2.2.2.2.2.2.2.2.2.2.2.2.2.2.2.2.2.2.2.2.2.2.2.2.2.2.2.2.2.2.2.2.2.2.2.2.2.2.2.2.2.2.2.2.2.2.2.2.2.2.2.1, h.2.2.2.2.2.2.2.2.2.2.2.2.2.2.2.2.2.2.2.2.2.2.2.2.2.2.2.2.2.2.2.2.2.2.2.2.2.2.2.2.2.2.2.2.2.2.2.2.2.2.2.2.2.2.2.2.1, h.2.2.2.2.2.2.2.2.2.2.2.2.2.2.2.2.2.2.2.2.2.2.2.2.2.2.2.2.2.2.2.2.2.2.2.2.2.2.2.2.2.2.2.2.2.2.2.2.2.2.2.2.2.2.2.2.2.1, h.2.2.2.2.2.2.2.2.2.2.2.2.2.2.2.2.2.2.2.2.2.2.2.2.2.2.2.2.2.2.2.2.2.2.2.2.2.2.2.2.2.2.2.2.2.2.2.2.2.2.2.2.2.2.2.2.2.2.1, h.2.2.2.2.2.2.2.2.2.2.2.2.2.2.2.2.2.2.2.2.2.2.2.2.2.2.2.2.2.2.2.2.2.2.2.2.2.2.2.2.2.2.2.2.2.2.2.2.2.2.2.2.2.2.2.2.2.2.2⟩
theorem wd_1590 : (Cond.methodLink "WebCourtModel" (223 : Nat) ⟨"WebCourtModel", "isDigit", "(I)Z"⟩) ∈ gtb := gtb_c7 41 (by decide +kernel) rfl
theorem wd_1591 : (Cond.static ⟨"WebCourtModel", "isDigit", "(I)Z"⟩) ∈ gtb := gtb_c7 42 (by decide +kernel) rfl
theorem hd_yX11_isDigit : yX11_isDigit.cls ≠ "java/lang/invoke/MethodHandle" ∧ yX11_isDigit.cls ≠ "java/lang/invoke/VarHandle" ∧ (parseMethodDescriptor yX11_isDigit.desc).map (fun d => d.parameters.length) = some 1 := by decide +kernel
theorem wd_1365 : (Cond.fieldLink "WebCourtModel" (226 : Nat) "WebCourtModel" "number" "I") ∈ gtb := gtb_c6 56 (by decide +kernel) rfl
theorem pf_RX11_226 {p : Program} {l : Launch} {e : Env} {R : Room} {s : State} {m : MethodId} {args : Array Value} {below : List Frame} {meth : Method} {c : Code} {H : Heap} {locs : List Loc} {cells slots : Nat} {Q : State → Prop} {cc : ByteArray} {pc nL : Nat} {ls : Array Slot} {rest : List Value} {D : va_G} {cy : Nat → ClassId} {A : Nat → Prop} {ws : va_W} {b : Nat} {fs : List Value} {v : Int32} {ws' : va_W} (C : Cx p s m args c cc nL RX11 D cy A) (hO : Wo D A ws s.heap H locs) (q0 : Nat) (he : ws[q0]? = some (b, .inr (11, fs))) (hlen : 9 < fs.length) (hw : ws.set q0 (b, .inr (11, fs.set 9 (.int v))) = ws') (hdg : decode cc pc = .ok (.putfield 226, 3)) (kk : ∀ (H : Heap) (locs : List Loc), Wo D A ws' s.heap H locs → W p l e R s m args below meth c H locs cells slots Q (F0 m (pc + 3) ls rest)) : W p l e R s m args below meth c H locs cells slots Q (F0 m pc ls (.int v :: .ref b :: rest)) := pF (k := 9) (ty := .int) C hO q0 he rfl inFX11 (by decide) wd_1365 rfl tyX11 tyX11_ok nmX11 rfl (by decide +kernel) rfl rfl hlen hw hdg kk
theorem Km26_wI9 {u v : St} {x : Int32} (h : Km26 u v) : Km26 u (sI v 0 9 x) := ⟨h.1, h.2.1, h.2.2.1, h.2.2.2.1, h.2.2.2.2.1, h.2.2.2.2.2.1, h.2.2.2.2.2.2.1, h.2.2.2.2.2.2.2.1, h.2.2.2.2.2.2.2.2.1, h.2.2.2.2.2.2.2.2.2.1, h.2.2.2.2.2.2.2.2.2.2.1, h.2.2.2.2.2.2.2.2.2.2.2.1, h.2.2.2.2.2.2.2.2.2.2.2.2.1, h.2.2.2.2.2.2.2.2.2.2.2.2.2.1, h.2.2.2.2.2.2.2.2.2.2.2.2.2.2.1, h.2.2.2.2.2.2.2.2.2.2.2.2.2.2.2.1, h.2.2.2.2.2.2.2.2.2.2.2.2.2.2.2.2.1, h.2.2.2.2.2.2.2.2.2.2.2.2.2.2.2.2.2.1, h.2.2.2.2.2.2.2.2.2.2.2.2.2.2.2.2.2.2.1, h.2.2.2.2.2.2.2.2.2.2.2.2.2.2.2.2.2.2.2.1, h.2.2.2.2.2.2.2.2.2.2.2.2.2.2.2.2.2.2.2.2.1, h.2.2.2.2.2.2.2.2.2.2.2.2.2.2.2.2.2.2.2.2.2.1, h.2.2.2.2.2.2.2.2.2.2.2.2.2.2.2.2.2.2.2.2.2.2.1, h.2.2.2.2.2.2.2.2.2.2.2.2.2.2.2.2.2.2.2.2.2.2.2.1, h.2.2.2.2.2.2.2.2.2.2.2.2.2.2.2.2.2.2.2.2.2.2.2.2.1, h.2.2.2.2.2.2.2.2.2.2.2.2.2.2.2.2.2.2.2.2.2.2.2.2.2.1, h.2.2.2.2.2.2.2.2.2.2.2.2.2.2.2.2.2.2.2.2.2.2.2.2.2.2.1, h.2.2.2.2.2.2.2.2.2.2.2.2.2.2.2.2.2.2.2.2.2.2.2.2.2.2.2.1, h.2.2.2.2.2.2.2.2.2.2.2.2.2.2.2.2.2.2.2.2.2.2.2.2.2.2.2.2.1, h.2.2.2.2.2.2.2.2.2.2.2.2.2.2.2.2.2.2.2.2.2.2.2.2.2.2.2.2.2.1, h.2.2.2.2.2.2.2.2.2.2.2.2.2.2.2.2.2.2.2.2.2.2.2.2.2.2.2.2.2.2.1, h.2.2.2.2.2.2.2.2.2.2.2.2.2.2.2.2.2.2.2.2.2.2.2.2.2.2.2.2.2.2.2.1, h.2.2.2.2.2.2.2.2.2.2.2.2.2.2.2.2.2.2.2.2.2.2.2.2.2.2.2.2.2.2.2.2.1, h.2.2.2.2.2.2.2.2.2.2.2.2.2.2.2.2.2.2.2.2.2.2.2.2.2.2.2.2.2.2.2.2.2.1, h.2.2.2.2.2.2.2.2.2.2.2.2.2.2.2.2.2.2.2.2.2.2.2.2.2.2.2.2.2.2.2.2.2.2.1, h.2.2.2.2.2.2.2.2.2.2.2.2.2.2.2.2.2.2.2.2.2.2.2.2.2.2.2.2.2.2.2.2.2.2.2.1, h.2.2.2.2.2.2.2.2.2.2.2.2.2.2.2.2.2.2.2.2.2.2.2.2.2.2.2.2.2.2.2.2.2.2.2.2.1, h.2.2.2.2.2.2.2.2.2.2.2.2.2.2.2.2.2.2.2.2.2.2.2.2.2.2.2.2.2.2.2.2.2.2.2.2.2.1, h.2.2.2.2.2.2.2.2.2.2.2.2.2.2.2.2.2.2.2.2.2.2.2.2.2.2.2.2.2.2.2.2.2.2.2.2.2.2.1, h.2.2.2.2.2.2.2.2.2.2.2.2.2.2.2.2.2.2.2.2.2.2.2.2.2.2.2.2.2.2.2.2.2.2.2.2.2.2.2.1, h.2.2.2.2.2.2.2.2.2.2.2.2.2.2.2.2.2.2.2.2.2.2.2.2.2.2.2.2.2.2.2.2.2.2.2.2.2.2.2.2.1, h.2.2.2.2.2.2.2.2.2.2.2.2.2.2.2.2.2.2.2.2.2.2.2.2.2.2.2.2.2.2.2.2.2.2.2.2.2.2.2.2.2.1, h.2.2.2.2.2.2.2.2.2.2.2.2.2.2.2.2.2.2.2.2.2.2.2.2.2.2.2.2.2.2.2.2.2.2.2.2.2.2.2.2.2.2.1, h.2.2.2.2.2.2.2.2.2.2.2.2.2.2.2.2.2.2.2.2.2.2.2.2.2.2.2.2.2.2.2.2.2.2.2.2.2.2.2.2.2.2.2.1, h.2.2.2.2.2.2.2.2.2.2.2.2.2.2.2.2.2.2.2.2.2.2.2.2.2.2.2.2.2.2.2.2.2.2.2.2.2.2.2.2.2.2.2.2.1, h.2.2.2.2.2.2.2.2.2.2.2.2.2.2.2.2.2.2.2.2.2.2.2.2.2.2.2.2.2.2.2.2.2.2.2.2.2.2.2.2.2.2.2.2.2.1, h.2.2.2.2.2.2.2.2.2.2.2.2.2.2.2.2.2.2.2.2.2.2.2.2.2.2.2.2.2.2.2.2.2.2.2.2.2.2.2.2.2.2.2.2.2.2.1, h.2.2.2.2.2.2.2.2.2.2.2.2.2.2.2.2.2.2.2.2.2.2.2.2.2.2.2.2.2.2.2.2.2.2.2.2.2.2.2.2.2.2.2.2.2.2.2.1, h.2.2.2.2.2.2.2.2.2.2.2.2.2.2.2.2.2.2.2.2.2.2.2.2.2.2.2.2.2.2.2.2.2.2.2.2.2.2.2.2.2.2.2.2.2.2.2.2.1, h.2.2.2.2.2.2.2.2.2.2.2.2.2.2.2.2.2.2.2.2.2.2.2.2.2.2.2.2.2.2.2.2.2.2.2.2.2.2.2.2.2.2.2.2.2.2.2.2.2.1, h.2.2.2.2.2.2.2.2.2.2.2.2.2.2.2.2.2.2.2.2.2.2.2.2.2.2.2.2.2.2.2.2.2.2.2.2.2.2.2.2.2.2.2.2.2.2.2.2.2.2.1, h.2.2.2.2.2.2.2.2.2.2.2.2.2.2.2.2.2.2.2.2.2.2.2.2.2.2.2.2.2.2.2.2.2.2.2.2.2.2.2.2.2.2.2.2.2.2.2.2.2.2.2.1, h.2.2.2.2.2.2.2.2.2.2.2.2.2.2.2.2.2.2.2.2.2.2.2.2.2.2.2.2.2.2.2.2.2.2.2.2.2.2.2.2.2.2.2.2.2.2.2.2.2.2.2.2.1, h.2.2.2.2.2.2.2.2.2.2.2.2.2.2.2.2.2.2.2.2.2.2.2.2.2.2.2.2.2.2.2.2.2.2.2.2.2.2.2.2.2.2.2.2.2.2.2.2.2.2.2.2.2.1, h.2.2.2.2.2.2.2.2.2.2.2.2.2.2.2.2.2.2.2.2.2.2.2.2.2.2.2.2.2.2.2.2.2.2.2.2.2.2.2.2.2.2.2.2.2.2.2.2.2.2.2.2.2.2.1, h.2.2.2.2.2.2.2.2.2.2.2.2.2.2.2.2.2.2.2.2.2.2.2.2.2.2.2.2.2.2.2.2.2.2.2.2.2.2.2.2.2.2.2.2.2.2.2.2.2.2.2.2.2.2.2.1, h.2.2.2.2.2.2.2.2.2.2.2.2.2.2.2.2.2.2.2.2.2.2.2.2.2.2.2.2.2.2.2.2.2.2.2.2.2.2.2.2.2.2.2.2.2.2.2.2.2.2.2.2.2.2.2.2.1, h.2.2.2.2.2.2.2.2.2.2.2.2.2.2.2.2.2.2.2.2.2.2.2.2.2.2.2.2.2.2.2.2.2.2.2.2.2.2.2.2.2.2.2.2.2.2.2.2.2.2.2.2.2.2.2.2.2.1, h.2.2.2.2.2.2.2.2.2.2.2.2.2.2.2.2.2.2.2.2.2.2.2.2.2.2.2.2.2.2.2.2.2.2.2.2.2.2.2.2.2.2.2.2.2.2.2.2.2.2.2.2.2.2.2.2.2.2.1, h.2.2.2.2.2.2.2.2.2.2.2.2.2.2.2.2.2.2.2.2.2.2.2.2.2.2.2.2.2.2.2.2.2.2.2.2.2.2.2.2.2.2.2.2.2.2.2.2.2.2.2.2.2.2.2.2.2.2.2⟩
theorem gf_RX11_226 {p : Program} {l : Launch} {e : Env} {R : Room} {s : State} {m : MethodId} {args : Array Value} {below : List Frame} {meth : Method} {c : Code} {H : Heap} {locs : List Loc} {cells slots : Nat} {Q : State → Prop} {cc : ByteArray} {pc nL : Nat} {ls : Array Slot} {rest : List Value} {D : va_G} {cy : Nat → ClassId} {A : Nat → Prop} {ws : va_W} {b : Nat} {fs : List Value} {v : Value} (C : Cx p s m args c cc nL RX11 D cy A) (hO : Wo D A ws s.heap H locs) (q0 : Nat) (he : ws[q0]? = some (b, .inr (11, fs))) (hv : fs[9]? = some v) (hdg : decode cc pc = .ok (.getfield 226, 3)) (kk : W p l e R s m args below meth c H locs cells slots Q (F0 m (pc + 3) ls (v :: rest))) : W p l e R s m args below meth c H locs cells slots Q (F0 m pc ls (.ref b :: rest)) := gF (k := 9) C hO q0 he rfl inFX11 (by decide) wd_1365 rfl hv hdg kk
theorem wd_1593 : (Cond.methodLink "WebCourtModel" (229 : Nat) ⟨"WebCourtModel", "isSign", "(I)Z"⟩) ∈ gtb := gtb_c7 44 (by decide +kernel) rfl
theorem wd_1594 : (Cond.static ⟨"WebCourtModel", "isSign", "(I)Z"⟩) ∈ gtb := gtb_c7 45 (by decide +kernel) rfl
theorem hd_yX11_isSign : yX11_isSign.cls ≠ "java/lang/invoke/MethodHandle" ∧ yX11_isSign.cls ≠ "java/lang/invoke/VarHandle" ∧ (parseMethodDescriptor yX11_isSign.desc).map (fun d => d.parameters.length) = some 1 := by decide +kernel
set_option maxHeartbeats 4000000 in
set_option maxRecDepth 100000 in
theorem T_X11_goOn (l : Launch) (D : va_G) (cy : Nat → ClassId) (a : Nat → Nat) (u : St) (hJ : MI a u) (hp0 : (fI u 0 7).toInt ≤ (fI u 0 3).toInt)   : Mv l D cy (mW cy a) yX11_goOn (.code yX11_goOn cX11_goOn 3 none) (rmo 1 22) [.ref (a 0)] u (fun (u' : St) => (MI a u') ∧ (Km26 u u') ∧ ((fI u' 0 7).toInt ≤ (fI u' 0 3).toInt) ∧ ((fI u' 0 6).toInt ≤ (fI u' 0 7).toInt) ∧ ((fI u' 0 8).toInt = 0 ∨ (fI u' 0 6).toInt < (fI u' 0 7).toInt) ∧ ((fI u 0 7).toInt ≤ (fI u' 0 6).toInt)) := by
  refine Mv.of (own := RX11) rfl (by decide) (Nat.le_of_ble_eq_true rfl) ?_
  have hT : Km26 u u := Km26.rf
  have hJ0 := hJ
  intro p e s m below meth c A Q ls C hret hO hl
  obtain ⟨hx, hb, hml, hown, ht, hK, hA⟩ := id C
  have hl : lv_has ls 3 [(0, .ref (a 0))] := hl
  have g1 : 0 ≤ (fI u 0 3).toInt ∧ (fI u 0 3).toInt ≤ 1600 := by have h := MI_3 hJ0; exact h
  refine lv_aload_n hx hb dX11_goOn_0 rfl (lv_at hl 0 rfl) ?_
  refine lv_aload_n hx hb dX11_goOn_1 rfl (lv_at hl 0 rfl) ?_
  have g2 : 0 ≤ (fI u 0 7).toInt ∧ (fI u 0 7).toInt ≤ 1601 := by have h := MI_7 hJ0; exact h
  refine gf_RX11_198 (v := .int (fI u 0 7)) C hO 0 mW_0 rfl dX11_goOn_2 ?_
  refine pf_RX11_201 C hO 0 mW_0 (Nat.le_of_ble_eq_true rfl) mW_s0_6 dX11_goOn_5 (fun H locs hO => ?_)
  have hT := Km26_wI6 (x := (fI u 0 7)) hT
  have hJ := MIs_6 (v := (fI u 0 7)) hJ (by first | decide | omega)
  have LP_8_k4 : ∀ (n : Nat) (u3 : St) (H : Heap) (locs : List Loc) (ls : Array Slot) (at_k4 : Int32) (en_k4 : Int32), Wo D A (mW cy a u3) s.heap H locs → lv_has ls 3 [(0, .ref (a 0))] → MI a u3 → Km26 u u3 → fI u3 0 6 = at_k4 → fI u3 0 7 = en_k4 → at_k4.toInt ≤ (fI u 0 3).toInt → (fI u 0 7).toInt ≤ at_k4.toInt → 0 ≤ at_k4.toInt ∧ at_k4.toInt ≤ 1600 → 0 ≤ en_k4.toInt ∧ en_k4.toInt ≤ 1601 → 1600 - at_k4.toInt < (n : Int) → W p l e (rmo 1 22) s m [.ref (a 0)].toArray below meth c H locs 0 0 Q (F0 m 8 ls []) := by
    intro n
    induction n with
    | zero =>
      intro u3 H locs ls at_k4 en_k4 hO hl hJ hT hat_k4 hen_k4 iv0_k4 iv1_k4 iv2_k4 iv3_k4 hm_k4
      exact absurd hm_k4 (by omega)
    | succ n ih_k4 =>
      intro u3 H locs ls at_k4 en_k4 hO hl hJ hT hat_k4 hen_k4 iv0_k4 iv1_k4 iv2_k4 iv3_k4 hm_k4
      refine lv_aload_n hx hb dX11_goOn_8 rfl (lv_at hl 0 rfl) ?_
      refine gf_RX11_201 (v := .int at_k4) C hO 0 mW_0 (congrArg (fun z : Int32 => some (Value.int z)) hat_k4) dX11_goOn_9 ?_
      refine lv_aload_n hx hb dX11_goOn_12 rfl (lv_at hl 0 rfl) ?_
      have g5 : 0 ≤ (fI u 0 3).toInt ∧ (fI u 0 3).toInt ≤ 1600 := by have h := MI_3 hJ0; exact h
      refine gf_RX11_152 (v := .int (fI u 0 3)) C hO 0 mW_0 (congrArg (fun z : Int32 => some (Value.int z)) (Km26_I3 hT)) dX11_goOn_13 ?_
      refine cs_ge (tgt := 58) (X := (at_k4).toInt) (Y := ((fI u 0 3)).toInt) hx hb dX11_goOn_16 (by decide) rfl rfl (fun c6 => ?_) (fun c6 => ?_)
      · refine lv_aload_n hx hb dX11_goOn_58 rfl (lv_at hl 0 rfl) ?_
        refine lv_aload_n hx hb dX11_goOn_59 rfl (lv_at hl 0 rfl) ?_
        refine gf_RX11_201 (v := .int at_k4) C hO 0 mW_0 (congrArg (fun z : Int32 => some (Value.int z)) hat_k4) dX11_goOn_60 ?_
        refine cVi (w := mW cy a) (As := [.int at_k4]) (rest := []) C hO (T_X11_sign l D cy a _ (by exact hJ) (at_k4) (by first | omega | decide)) (cwV 1 ht (gV wd_1560 wd_1562 wd_49 wd_121 wd_1563) rfl rfl rfl hd_yX11_sign ⟨Nat.le_of_ble_eq_true rfl, Nat.le_of_ble_eq_true rfl⟩) 0 rfl mW_0 rfl rfl hl.1 (Nat.le_of_ble_eq_true rfl) dX11_goOn_63 rfl ⟨Nat.zero_le _, Nat.zero_le _⟩ (fun r7 u8 H locs hp9 hO => ?_)
        obtain ⟨hr7, hu8⟩ := hp9
        rw [hu8] at hO
        have gr7 : (0 ≤ r7.toInt ∧ r7.toInt ≤ 255) ∧ (r7.toInt = 0 ∨ (at_k4 : Int32).toInt < ((fI u 0 3)).toInt) := by have h := sgF_r hr7; rw [(Km26_I3 hT)] at h; exact h
        have hr7 : r7 = sgF u at_k4 := hr7.trans (sgF_eq (Km26_A2 hT) (Km26_I3 hT))
        refine lv_istore_n (lv' := [(1, .int r7), (0, .ref (a 0))]) hx hb dX11_goOn_66 rfl hl (by decide) rfl (fun ls hl => ?_)
        refine lv_aload_n hx hb dX11_goOn_67 rfl (lv_at hl 1 rfl) ?_
        refine lv_aload_n hx hb dX11_goOn_68 rfl (lv_at hl 1 rfl) ?_
        refine gf_RX11_201 (v := .int at_k4) C hO 0 mW_0 (congrArg (fun z : Int32 => some (Value.int z)) hat_k4) dX11_goOn_69 ?_
        refine lv_iconst (v := 1) hx hb dX11_goOn_72 (by decide) ?_
        refine lv_iadd hx hb dX11_goOn_73 ?_
        refine lv_topi (fun z10 ez10 => ?_)
        have e11 : z10.toInt = (at_k4).toInt + 1 := by rw [ez10]; exact i_add rfl rfl (by omega)
        refine pf_RX11_198 C hO 0 mW_0 (Nat.le_of_ble_eq_true rfl) mW_s0_7 dX11_goOn_74 (fun H locs hO => ?_)
        have hT := Km26_wI7 (x := z10) hT
        have hJ := MIs_7 (v := z10) hJ (by first | decide | omega)
        refine lv_aload_n hx hb dX11_goOn_77 rfl (lv_at hl 1 rfl) ?_
        refine gf_RX11_201 (v := .int at_k4) C hO 0 mW_0 (congrArg (fun z : Int32 => some (Value.int z)) hat_k4) dX11_goOn_78 ?_
        refine lv_aload_n hx hb dX11_goOn_81 rfl (lv_at hl 1 rfl) ?_
        refine gf_RX11_152 (v := .int (fI u 0 3)) C hO 0 mW_0 (congrArg (fun z : Int32 => some (Value.int z)) (Km26_I3 hT)) dX11_goOn_82 ?_
        refine cs_lt (tgt := 112) (X := (at_k4).toInt) (Y := ((fI u 0 3)).toInt) hx hb dX11_goOn_85 (by decide) rfl rfl (fun c12 => ?_) (fun c12 => ?_)
        · refine lv_iload_n hx hb dX11_goOn_112 rfl (lv_at hl 0 rfl) ?_
          refine cSi (w := mW cy a) (As := [.int r7]) (rest := []) C hO (T_X11_isLetter l D cy a _ (by exact hJ) (r7)) (va_cwS 1 ht (gSS wd_1564 wd_1565 wd_121 wd_1566) rfl rfl rfl hd_yX11_isLetter ⟨Nat.le_of_ble_eq_true rfl, Nat.le_of_ble_eq_true rfl⟩)  rfl hl.1 (Nat.le_of_ble_eq_true rfl) dX11_goOn_113 rfl ⟨Nat.zero_le _, Nat.zero_le _⟩ (fun r13 u14 H locs hp15 hO => ?_)
          obtain ⟨hr13, hu14⟩ := hp15
          rw [hu14] at hO
          rcases hr13 with ⟨hcr13, hvr13⟩ | ⟨hcr13, hvr13⟩
          · subst hvr13
            refine bn_eq (X := 1) hx hb dX11_goOn_116 rfl (by omega) ?_ (tgt := 239) (by decide)
            have LP_119_k17 : ∀ (n : Nat) (u16 : St) (H : Heap) (locs : List Loc) (ls : Array Slot) (at_k17 : Int32) (en_k17 : Int32), Wo D A (mW cy a u16) s.heap H locs → lv_has ls 3 [(1, .int r7), (0, .ref (a 0))] → MI a u16 → Km26 u u16 → fI u16 0 6 = at_k17 → fI u16 0 7 = en_k17 → at_k17.toInt < en_k17.toInt → en_k17.toInt ≤ (fI u 0 3).toInt → (fI u 0 7).toInt ≤ at_k17.toInt → 0 ≤ at_k17.toInt ∧ at_k17.toInt ≤ 1600 → 0 ≤ en_k17.toInt ∧ en_k17.toInt ≤ 1601 → 1601 - en_k17.toInt < (n : Int) → W p l e (rmo 1 22) s m [.ref (a 0)].toArray below meth c H locs 0 0 Q (F0 m 119 ls []) := by
              intro n
              induction n with
              | zero =>
                intro u16 H locs ls at_k17 en_k17 hO hl hJ hT hat_k17 hen_k17 iv0_k17 iv1_k17 iv2_k17 iv3_k17 iv4_k17 hm_k17
                exact absurd hm_k17 (by omega)
              | succ n ih_k17 =>
                intro u16 H locs ls at_k17 en_k17 hO hl hJ hT hat_k17 hen_k17 iv0_k17 iv1_k17 iv2_k17 iv3_k17 iv4_k17 hm_k17
                refine lv_aload_n hx hb dX11_goOn_119 rfl (lv_at hl 1 rfl) ?_
                refine lv_aload_n hx hb dX11_goOn_120 rfl (lv_at hl 1 rfl) ?_
                refine gf_RX11_198 (v := .int en_k17) C hO 0 mW_0 (congrArg (fun z : Int32 => some (Value.int z)) hen_k17) dX11_goOn_121 ?_
                refine cVi (w := mW cy a) (As := [.int en_k17]) (rest := []) C hO (T_X11_sign l D cy a _ (by exact hJ) (en_k17) (by first | omega | decide)) (cwV 1 ht (gV wd_1560 wd_1562 wd_49 wd_121 wd_1563) rfl rfl rfl hd_yX11_sign ⟨Nat.le_of_ble_eq_true rfl, Nat.le_of_ble_eq_true rfl⟩) 0 rfl mW_0 rfl rfl hl.1 (Nat.le_of_ble_eq_true rfl) dX11_goOn_124 rfl ⟨Nat.zero_le _, Nat.zero_le _⟩ (fun r18 u19 H locs hp20 hO => ?_)
                obtain ⟨hr18, hu19⟩ := hp20
                rw [hu19] at hO
                have g21 : 0 ≤ (fI u 0 3).toInt ∧ (fI u 0 3).toInt ≤ 1600 := by have h := MI_3 hJ0; exact h
                have gr18 : (0 ≤ r18.toInt ∧ r18.toInt ≤ 255) ∧ (r18.toInt = 0 ∨ (en_k17 : Int32).toInt < ((fI u 0 3)).toInt) := by have h := sgF_r hr18; rw [(Km26_I3 hT)] at h; exact h
                have hr18 : r18 = sgF u en_k17 := hr18.trans (sgF_eq (Km26_A2 hT) (Km26_I3 hT))
                refine cSi (w := mW cy a) (As := [.int r18]) (rest := []) C hO (T_X11_isLetter l D cy a _ (by exact hJ) (r18)) (va_cwS 1 ht (gSS wd_1564 wd_1565 wd_121 wd_1566) rfl rfl rfl hd_yX11_isLetter ⟨Nat.le_of_ble_eq_true rfl, Nat.le_of_ble_eq_true rfl⟩)  rfl hl.1 (Nat.le_of_ble_eq_true rfl) dX11_goOn_127 rfl ⟨Nat.zero_le _, Nat.zero_le _⟩ (fun r22 u23 H locs hp24 hO => ?_)
                obtain ⟨hr22, hu23⟩ := hp24
                rw [hu23] at hO
                rcases hr22 with ⟨hcr22, hvr22⟩ | ⟨hcr22, hvr22⟩
                · subst hvr22
                  refine bn_eq (X := 1) hx hb dX11_goOn_130 rfl (by omega) ?_ (tgt := 146) (by decide)
                  refine lv_aload_n hx hb dX11_goOn_133 rfl (lv_at hl 1 rfl) ?_
                  refine lv_dup hx hb dX11_goOn_134 rfl ?_
                  refine gf_RX11_198 (v := .int en_k17) C hO 0 mW_0 (congrArg (fun z : Int32 => some (Value.int z)) hen_k17) dX11_goOn_135 ?_
                  refine lv_iconst (v := 1) hx hb dX11_goOn_138 (by decide) ?_
                  refine lv_iadd hx hb dX11_goOn_139 ?_
                  refine lv_topi (fun z25 ez25 => ?_)
                  have e26 : z25.toInt = (en_k17).toInt + 1 := by rw [ez25]; exact i_add rfl rfl (by omega)
                  refine pf_RX11_198 C hO 0 mW_0 (Nat.le_of_ble_eq_true rfl) mW_s0_7 dX11_goOn_140 (fun H locs hO => ?_)
                  have hT := Km26_wI7 (x := z25) hT
                  have hJ := MIs_7 (v := z25) hJ (by first | decide | omega)
                  refine lv_goto (tgt := 119) hx hb dX11_goOn_143 (by decide) ?_
                  exact ih_k17 _ _ _ _ (at_k17) (z25) hO (lv_sub hl [0, 1] rfl) (by exact hJ) (by exact hT) (by exact hat_k17) (by exact rfl) (by first | decide | omega) (by first | decide | omega) (by first | decide | omega) (by first | decide | omega) (by first | decide | omega) (by first | decide | omega)
                · subst hvr22
                  refine bt_eq (tgt := 146) (X := 0) hx hb dX11_goOn_130 (by decide) rfl (by omega) ?_
                  refine lv_aload_n hx hb dX11_goOn_146 rfl (lv_at hl 1 rfl) ?_
                  refine lv_lconst (v := 0) hx hb dX11_goOn_147 rfl ?_
                  refine pf_RX11_215 C hO 0 mW_0 (Nat.le_of_ble_eq_true rfl) mW_s0_10 dX11_goOn_148 (fun H locs hO => ?_)
                  have hT := Km26_wL10 (x := 0) hT
                  have hJ := MIs_10 (v := 0) hJ
                  refine lv_aload_n hx hb dX11_goOn_151 rfl (lv_at hl 1 rfl) ?_
                  refine gf_RX11_201 (v := .int at_k17) C hO 0 mW_0 (congrArg (fun z : Int32 => some (Value.int z)) hat_k17) dX11_goOn_152 ?_
                  refine lv_istore_n (lv' := [(2, .int at_k17), (1, .int r7), (0, .ref (a 0))]) hx hb dX11_goOn_155 rfl hl (by decide) rfl (fun ls hl => ?_)
                  have LP_156_k28 : ∀ (n : Nat) (u27 : St) (H : Heap) (locs : List Loc) (ls : Array Slot) (k_k28 : Int32) (at_k28 : Int32) (en_k28 : Int32), Wo D A (mW cy a u27) s.heap H locs → lv_has ls 3 [(2, .int k_k28), (1, .int r7), (0, .ref (a 0))] → MI a u27 → Km26 u u27 → fI u27 0 6 = at_k28 → fI u27 0 7 = en_k28 → at_k28.toInt < en_k28.toInt → en_k28.toInt ≤ (fI u 0 3).toInt → (fI u 0 7).toInt ≤ at_k28.toInt → 0 ≤ k_k28.toInt ∧ k_k28.toInt ≤ 1601 → 0 ≤ at_k28.toInt ∧ at_k28.toInt ≤ 1600 → 0 ≤ en_k28.toInt ∧ en_k28.toInt ≤ 1601 → 1601 - k_k28.toInt < (n : Int) → W p l e (rmo 1 22) s m [.ref (a 0)].toArray below meth c H locs 0 0 Q (F0 m 156 ls []) := by
                    intro n
                    induction n with
                    | zero =>
                      intro u27 H locs ls k_k28 at_k28 en_k28 hO hl hJ hT hat_k28 hen_k28 iv0_k28 iv1_k28 iv2_k28 iv3_k28 iv4_k28 iv5_k28 hm_k28
                      exact absurd hm_k28 (by omega)
                    | succ n ih_k28 =>
                      intro u27 H locs ls k_k28 at_k28 en_k28 hO hl hJ hT hat_k28 hen_k28 iv0_k28 iv1_k28 iv2_k28 iv3_k28 iv4_k28 iv5_k28 hm_k28
                      refine lv_iload_n hx hb dX11_goOn_156 rfl (lv_at hl 0 rfl) ?_
                      refine lv_aload_n hx hb dX11_goOn_157 rfl (lv_at hl 2 rfl) ?_
                      refine gf_RX11_198 (v := .int en_k28) C hO 0 mW_0 (congrArg (fun z : Int32 => some (Value.int z)) hen_k28) dX11_goOn_158 ?_
                      refine cs_ge (tgt := 199) (X := (k_k28).toInt) (Y := (en_k28).toInt) hx hb dX11_goOn_161 (by decide) rfl rfl (fun c29 => ?_) (fun c29 => ?_)
                      · refine lv_aload_n hx hb dX11_goOn_199 rfl (lv_at hl 2 rfl) ?_
                        refine lv_aload_n hx hb dX11_goOn_200 rfl (lv_at hl 2 rfl) ?_
                        refine gf_RX11_198 (v := .int en_k28) C hO 0 mW_0 (congrArg (fun z : Int32 => some (Value.int z)) hen_k28) dX11_goOn_201 ?_
                        refine lv_aload_n hx hb dX11_goOn_204 rfl (lv_at hl 2 rfl) ?_
                        refine gf_RX11_201 (v := .int at_k28) C hO 0 mW_0 (congrArg (fun z : Int32 => some (Value.int z)) hat_k28) dX11_goOn_205 ?_
                        refine lv_isub hx hb dX11_goOn_208 ?_
                        refine lv_topi (fun z30 ez30 => ?_)
                        have e31 : z30.toInt = (en_k28).toInt - (at_k28).toInt := by rw [ez30]; exact i_sub rfl rfl (by omega)
                        refine lv_bipush (v := 8) hx hb dX11_goOn_209 (by decide) ?_
                        refine cs_le (tgt := 218) (X := ((en_k28).toInt - (at_k28).toInt)) (Y := 8) hx hb dX11_goOn_211 (by decide) e31 rfl (fun c32 => ?_) (fun c32 => ?_)
                        · refine lv_aload_n hx hb dX11_goOn_218 rfl (lv_at hl 2 rfl) ?_
                          refine gf_RX11_215 (v := .long ((fL u27 0 10))) C hO 0 mW_0 rfl dX11_goOn_219 ?_
                          refine cSi (w := mW cy a) (As := [.long ((fL u27 0 10))]) (rest := [.ref (a 0)]) C hO (T_X11_isKept l D cy a _ (by exact hJ) ((fL u27 0 10))) (va_cwS 1 ht (gSS wd_1567 wd_1568 wd_121 wd_1569) rfl rfl rfl hd_yX11_isKept ⟨Nat.le_of_ble_eq_true rfl, Nat.le_of_ble_eq_true rfl⟩)  rfl hl.1 (Nat.le_of_ble_eq_true rfl) dX11_goOn_222 rfl ⟨Nat.zero_le _, Nat.zero_le _⟩ (fun r33 u34 H locs hp35 hO => ?_)
                          obtain ⟨hr33, hu34⟩ := hp35
                          have gr33 : 0 ≤ r33.toInt ∧ r33.toInt ≤ 1 := by rcases hr33 with h | h <;> rw [h] <;> decide
                          rw [hu34] at hO
                          refine bs_eq (tgt := 232) (X := (r33).toInt) hx hb dX11_goOn_225 (by decide) rfl (fun c36 => ?_) (fun c36 => ?_)
                          · refine lv_iconst (v := 2) hx hb dX11_goOn_232 (by decide) ?_
                            refine pf_RX11_208 C hO 0 mW_0 (Nat.le_of_ble_eq_true rfl) mW_s0_8 dX11_goOn_233 (fun H locs hO => ?_)
                            have hT := Km26_wI8 (x := 2) hT
                            have hJ := MIs_8 (v := 2) hJ (by first | decide | omega)
                            refine lv_goto (tgt := 377) hx hb dX11_goOn_236 (by decide) ?_
                            have g37 : 0 ≤ (fI u 0 3).toInt ∧ (fI u 0 3).toInt ≤ 1600 := by have h := MI_3 hJ0; exact h
                            have q38 : (en_k28 : Int32).toInt ≤ ((fI u 0 3) : Int32).toInt := by first | omega | decide
                            have q39 : (at_k28 : Int32).toInt ≤ (en_k28 : Int32).toInt := by first | omega | decide
                            have q40 : (2 : Int32).toInt = 0 ∨ (at_k28 : Int32).toInt < (en_k28 : Int32).toInt := by have zc0 : (2 : Int32).toInt = 2 := rfl; first | omega | decide
                            have g41 : 0 ≤ (fI u 0 7).toInt ∧ (fI u 0 7).toInt ≤ 1601 := by have h := MI_7 hJ0; exact h
                            have q42 : ((fI u 0 7) : Int32).toInt ≤ (at_k28 : Int32).toInt := by first | omega | decide
                            refine hret _ _ _ _ _ dX11_goOn_377 ?_ hO
                            exact ⟨hJ, hT, (show (fI u27 0 7 : Int32).toInt ≤ (fI u27 0 3 : Int32).toInt from by rw [show fI u27 0 7 = en_k28 from hen_k28, show fI u27 0 3 = (fI u 0 3) from (Km26_I3 hT)]; first | done | exact q38), (show (fI u27 0 6 : Int32).toInt ≤ (fI u27 0 7 : Int32).toInt from by rw [show fI u27 0 6 = at_k28 from hat_k28, show fI u27 0 7 = en_k28 from hen_k28]; first | done | exact q39), (show (2 : Int32).toInt = 0 ∨ (fI u27 0 6 : Int32).toInt < (fI u27 0 7 : Int32).toInt from by rw [show fI u27 0 6 = at_k28 from hat_k28, show fI u27 0 7 = en_k28 from hen_k28]; first | done | exact q40), (show ((fI u 0 7) : Int32).toInt ≤ (fI u27 0 6 : Int32).toInt from by rw [show fI u27 0 6 = at_k28 from hat_k28]; first | done | exact q42)⟩
                          · refine lv_iconst (v := 3) hx hb dX11_goOn_228 (by decide) ?_
                            refine lv_goto (tgt := 233) hx hb dX11_goOn_229 (by decide) ?_
                            refine pf_RX11_208 C hO 0 mW_0 (Nat.le_of_ble_eq_true rfl) mW_s0_8 dX11_goOn_233 (fun H locs hO => ?_)
                            have hT := Km26_wI8 (x := 3) hT
                            have hJ := MIs_8 (v := 3) hJ (by first | decide | omega)
                            refine lv_goto (tgt := 377) hx hb dX11_goOn_236 (by decide) ?_
                            have g43 : 0 ≤ (fI u 0 3).toInt ∧ (fI u 0 3).toInt ≤ 1600 := by have h := MI_3 hJ0; exact h
                            have q44 : (en_k28 : Int32).toInt ≤ ((fI u 0 3) : Int32).toInt := by first | omega | decide
                            have q45 : (at_k28 : Int32).toInt ≤ (en_k28 : Int32).toInt := by first | omega | decide
                            have q46 : (3 : Int32).toInt = 0 ∨ (at_k28 : Int32).toInt < (en_k28 : Int32).toInt := by have zc0 : (3 : Int32).toInt = 3 := rfl; first | omega | decide
                            have g47 : 0 ≤ (fI u 0 7).toInt ∧ (fI u 0 7).toInt ≤ 1601 := by have h := MI_7 hJ0; exact h
                            have q48 : ((fI u 0 7) : Int32).toInt ≤ (at_k28 : Int32).toInt := by first | omega | decide
                            refine hret _ _ _ _ _ dX11_goOn_377 ?_ hO
                            exact ⟨hJ, hT, (show (fI u27 0 7 : Int32).toInt ≤ (fI u27 0 3 : Int32).toInt from by rw [show fI u27 0 7 = en_k28 from hen_k28, show fI u27 0 3 = (fI u 0 3) from (Km26_I3 hT)]; first | done | exact q44), (show (fI u27 0 6 : Int32).toInt ≤ (fI u27 0 7 : Int32).toInt from by rw [show fI u27 0 6 = at_k28 from hat_k28, show fI u27 0 7 = en_k28 from hen_k28]; first | done | exact q45), (show (3 : Int32).toInt = 0 ∨ (fI u27 0 6 : Int32).toInt < (fI u27 0 7 : Int32).toInt from by rw [show fI u27 0 6 = at_k28 from hat_k28, show fI u27 0 7 = en_k28 from hen_k28]; first | done | exact q46), (show ((fI u 0 7) : Int32).toInt ≤ (fI u27 0 6 : Int32).toInt from by rw [show fI u27 0 6 = at_k28 from hat_k28]; first | done | exact q48)⟩
                        · refine lv_iconst (v := 1) hx hb dX11_goOn_214 (by decide) ?_
                          refine lv_goto (tgt := 233) hx hb dX11_goOn_215 (by decide) ?_
                          refine pf_RX11_208 C hO 0 mW_0 (Nat.le_of_ble_eq_true rfl) mW_s0_8 dX11_goOn_233 (fun H locs hO => ?_)
                          have hT := Km26_wI8 (x := 1) hT
                          have hJ := MIs_8 (v := 1) hJ (by first | decide | omega)
                          refine lv_goto (tgt := 377) hx hb dX11_goOn_236 (by decide) ?_
                          have g49 : 0 ≤ (fI u 0 3).toInt ∧ (fI u 0 3).toInt ≤ 1600 := by have h := MI_3 hJ0; exact h
                          have q50 : (en_k28 : Int32).toInt ≤ ((fI u 0 3) : Int32).toInt := by first | omega | decide
                          have q51 : (at_k28 : Int32).toInt ≤ (en_k28 : Int32).toInt := by first | omega | decide
                          have q52 : (1 : Int32).toInt = 0 ∨ (at_k28 : Int32).toInt < (en_k28 : Int32).toInt := by have zc0 : (1 : Int32).toInt = 1 := rfl; first | omega | decide
                          have g53 : 0 ≤ (fI u 0 7).toInt ∧ (fI u 0 7).toInt ≤ 1601 := by have h := MI_7 hJ0; exact h
                          have q54 : ((fI u 0 7) : Int32).toInt ≤ (at_k28 : Int32).toInt := by first | omega | decide
                          refine hret _ _ _ _ _ dX11_goOn_377 ?_ hO
                          exact ⟨hJ, hT, (show (fI u27 0 7 : Int32).toInt ≤ (fI u27 0 3 : Int32).toInt from by rw [show fI u27 0 7 = en_k28 from hen_k28, show fI u27 0 3 = (fI u 0 3) from (Km26_I3 hT)]; first | done | exact q50), (show (fI u27 0 6 : Int32).toInt ≤ (fI u27 0 7 : Int32).toInt from by rw [show fI u27 0 6 = at_k28 from hat_k28, show fI u27 0 7 = en_k28 from hen_k28]; first | done | exact q51), (show (1 : Int32).toInt = 0 ∨ (fI u27 0 6 : Int32).toInt < (fI u27 0 7 : Int32).toInt from by rw [show fI u27 0 6 = at_k28 from hat_k28, show fI u27 0 7 = en_k28 from hen_k28]; first | done | exact q52), (show ((fI u 0 7) : Int32).toInt ≤ (fI u27 0 6 : Int32).toInt from by rw [show fI u27 0 6 = at_k28 from hat_k28]; first | done | exact q54)⟩
                      · refine lv_iload_n hx hb dX11_goOn_164 rfl (lv_at hl 0 rfl) ?_
                        refine lv_aload_n hx hb dX11_goOn_165 rfl (lv_at hl 2 rfl) ?_
                        refine gf_RX11_201 (v := .int at_k28) C hO 0 mW_0 (congrArg (fun z : Int32 => some (Value.int z)) hat_k28) dX11_goOn_166 ?_
                        refine lv_bipush (v := 8) hx hb dX11_goOn_169 (by decide) ?_
                        refine lv_iadd hx hb dX11_goOn_171 ?_
                        refine lv_topi (fun z55 ez55 => ?_)
                        have e56 : z55.toInt = (at_k28).toInt + 8 := by rw [ez55]; exact i_add rfl rfl (by omega)
                        refine cs_ge (tgt := 199) (X := (k_k28).toInt) (Y := ((at_k28).toInt + 8)) hx hb dX11_goOn_172 (by decide) rfl e56 (fun c57 => ?_) (fun c57 => ?_)
                        · refine lv_aload_n hx hb dX11_goOn_199 rfl (lv_at hl 2 rfl) ?_
                          refine lv_aload_n hx hb dX11_goOn_200 rfl (lv_at hl 2 rfl) ?_
                          refine gf_RX11_198 (v := .int en_k28) C hO 0 mW_0 (congrArg (fun z : Int32 => some (Value.int z)) hen_k28) dX11_goOn_201 ?_
                          refine lv_aload_n hx hb dX11_goOn_204 rfl (lv_at hl 2 rfl) ?_
                          refine gf_RX11_201 (v := .int at_k28) C hO 0 mW_0 (congrArg (fun z : Int32 => some (Value.int z)) hat_k28) dX11_goOn_205 ?_
                          refine lv_isub hx hb dX11_goOn_208 ?_
                          refine lv_topi (fun z58 ez58 => ?_)
                          have e59 : z58.toInt = (en_k28).toInt - (at_k28).toInt := by rw [ez58]; exact i_sub rfl rfl (by omega)
                          refine lv_bipush (v := 8) hx hb dX11_goOn_209 (by decide) ?_
                          refine cs_le (tgt := 218) (X := ((en_k28).toInt - (at_k28).toInt)) (Y := 8) hx hb dX11_goOn_211 (by decide) e59 rfl (fun c60 => ?_) (fun c60 => ?_)
                          · refine lv_aload_n hx hb dX11_goOn_218 rfl (lv_at hl 2 rfl) ?_
                            refine gf_RX11_215 (v := .long ((fL u27 0 10))) C hO 0 mW_0 rfl dX11_goOn_219 ?_
                            refine cSi (w := mW cy a) (As := [.long ((fL u27 0 10))]) (rest := [.ref (a 0)]) C hO (T_X11_isKept l D cy a _ (by exact hJ) ((fL u27 0 10))) (va_cwS 1 ht (gSS wd_1567 wd_1568 wd_121 wd_1569) rfl rfl rfl hd_yX11_isKept ⟨Nat.le_of_ble_eq_true rfl, Nat.le_of_ble_eq_true rfl⟩)  rfl hl.1 (Nat.le_of_ble_eq_true rfl) dX11_goOn_222 rfl ⟨Nat.zero_le _, Nat.zero_le _⟩ (fun r61 u62 H locs hp63 hO => ?_)
                            obtain ⟨hr61, hu62⟩ := hp63
                            have gr61 : 0 ≤ r61.toInt ∧ r61.toInt ≤ 1 := by rcases hr61 with h | h <;> rw [h] <;> decide
                            rw [hu62] at hO
                            refine bs_eq (tgt := 232) (X := (r61).toInt) hx hb dX11_goOn_225 (by decide) rfl (fun c64 => ?_) (fun c64 => ?_)
                            · refine lv_iconst (v := 2) hx hb dX11_goOn_232 (by decide) ?_
                              refine pf_RX11_208 C hO 0 mW_0 (Nat.le_of_ble_eq_true rfl) mW_s0_8 dX11_goOn_233 (fun H locs hO => ?_)
                              have hT := Km26_wI8 (x := 2) hT
                              have hJ := MIs_8 (v := 2) hJ (by first | decide | omega)
                              refine lv_goto (tgt := 377) hx hb dX11_goOn_236 (by decide) ?_
                              have g65 : 0 ≤ (fI u 0 3).toInt ∧ (fI u 0 3).toInt ≤ 1600 := by have h := MI_3 hJ0; exact h
                              have q66 : (en_k28 : Int32).toInt ≤ ((fI u 0 3) : Int32).toInt := by first | omega | decide
                              have q67 : (at_k28 : Int32).toInt ≤ (en_k28 : Int32).toInt := by first | omega | decide
                              have q68 : (2 : Int32).toInt = 0 ∨ (at_k28 : Int32).toInt < (en_k28 : Int32).toInt := by have zc0 : (2 : Int32).toInt = 2 := rfl; first | omega | decide
                              have g69 : 0 ≤ (fI u 0 7).toInt ∧ (fI u 0 7).toInt ≤ 1601 := by have h := MI_7 hJ0; exact h
                              have q70 : ((fI u 0 7) : Int32).toInt ≤ (at_k28 : Int32).toInt := by first | omega | decide
                              refine hret _ _ _ _ _ dX11_goOn_377 ?_ hO
                              exact ⟨hJ, hT, (show (fI u27 0 7 : Int32).toInt ≤ (fI u27 0 3 : Int32).toInt from by rw [show fI u27 0 7 = en_k28 from hen_k28, show fI u27 0 3 = (fI u 0 3) from (Km26_I3 hT)]; first | done | exact q66), (show (fI u27 0 6 : Int32).toInt ≤ (fI u27 0 7 : Int32).toInt from by rw [show fI u27 0 6 = at_k28 from hat_k28, show fI u27 0 7 = en_k28 from hen_k28]; first | done | exact q67), (show (2 : Int32).toInt = 0 ∨ (fI u27 0 6 : Int32).toInt < (fI u27 0 7 : Int32).toInt from by rw [show fI u27 0 6 = at_k28 from hat_k28, show fI u27 0 7 = en_k28 from hen_k28]; first | done | exact q68), (show ((fI u 0 7) : Int32).toInt ≤ (fI u27 0 6 : Int32).toInt from by rw [show fI u27 0 6 = at_k28 from hat_k28]; first | done | exact q70)⟩
                            · refine lv_iconst (v := 3) hx hb dX11_goOn_228 (by decide) ?_
                              refine lv_goto (tgt := 233) hx hb dX11_goOn_229 (by decide) ?_
                              refine pf_RX11_208 C hO 0 mW_0 (Nat.le_of_ble_eq_true rfl) mW_s0_8 dX11_goOn_233 (fun H locs hO => ?_)
                              have hT := Km26_wI8 (x := 3) hT
                              have hJ := MIs_8 (v := 3) hJ (by first | decide | omega)
                              refine lv_goto (tgt := 377) hx hb dX11_goOn_236 (by decide) ?_
                              have g71 : 0 ≤ (fI u 0 3).toInt ∧ (fI u 0 3).toInt ≤ 1600 := by have h := MI_3 hJ0; exact h
                              have q72 : (en_k28 : Int32).toInt ≤ ((fI u 0 3) : Int32).toInt := by first | omega | decide
                              have q73 : (at_k28 : Int32).toInt ≤ (en_k28 : Int32).toInt := by first | omega | decide
                              have q74 : (3 : Int32).toInt = 0 ∨ (at_k28 : Int32).toInt < (en_k28 : Int32).toInt := by have zc0 : (3 : Int32).toInt = 3 := rfl; first | omega | decide
                              have g75 : 0 ≤ (fI u 0 7).toInt ∧ (fI u 0 7).toInt ≤ 1601 := by have h := MI_7 hJ0; exact h
                              have q76 : ((fI u 0 7) : Int32).toInt ≤ (at_k28 : Int32).toInt := by first | omega | decide
                              refine hret _ _ _ _ _ dX11_goOn_377 ?_ hO
                              exact ⟨hJ, hT, (show (fI u27 0 7 : Int32).toInt ≤ (fI u27 0 3 : Int32).toInt from by rw [show fI u27 0 7 = en_k28 from hen_k28, show fI u27 0 3 = (fI u 0 3) from (Km26_I3 hT)]; first | done | exact q72), (show (fI u27 0 6 : Int32).toInt ≤ (fI u27 0 7 : Int32).toInt from by rw [show fI u27 0 6 = at_k28 from hat_k28, show fI u27 0 7 = en_k28 from hen_k28]; first | done | exact q73), (show (3 : Int32).toInt = 0 ∨ (fI u27 0 6 : Int32).toInt < (fI u27 0 7 : Int32).toInt from by rw [show fI u27 0 6 = at_k28 from hat_k28, show fI u27 0 7 = en_k28 from hen_k28]; first | done | exact q74), (show ((fI u 0 7) : Int32).toInt ≤ (fI u27 0 6 : Int32).toInt from by rw [show fI u27 0 6 = at_k28 from hat_k28]; first | done | exact q76)⟩
                          · refine lv_iconst (v := 1) hx hb dX11_goOn_214 (by decide) ?_
                            refine lv_goto (tgt := 233) hx hb dX11_goOn_215 (by decide) ?_
                            refine pf_RX11_208 C hO 0 mW_0 (Nat.le_of_ble_eq_true rfl) mW_s0_8 dX11_goOn_233 (fun H locs hO => ?_)
                            have hT := Km26_wI8 (x := 1) hT
                            have hJ := MIs_8 (v := 1) hJ (by first | decide | omega)
                            refine lv_goto (tgt := 377) hx hb dX11_goOn_236 (by decide) ?_
                            have g77 : 0 ≤ (fI u 0 3).toInt ∧ (fI u 0 3).toInt ≤ 1600 := by have h := MI_3 hJ0; exact h
                            have q78 : (en_k28 : Int32).toInt ≤ ((fI u 0 3) : Int32).toInt := by first | omega | decide
                            have q79 : (at_k28 : Int32).toInt ≤ (en_k28 : Int32).toInt := by first | omega | decide
                            have q80 : (1 : Int32).toInt = 0 ∨ (at_k28 : Int32).toInt < (en_k28 : Int32).toInt := by have zc0 : (1 : Int32).toInt = 1 := rfl; first | omega | decide
                            have g81 : 0 ≤ (fI u 0 7).toInt ∧ (fI u 0 7).toInt ≤ 1601 := by have h := MI_7 hJ0; exact h
                            have q82 : ((fI u 0 7) : Int32).toInt ≤ (at_k28 : Int32).toInt := by first | omega | decide
                            refine hret _ _ _ _ _ dX11_goOn_377 ?_ hO
                            exact ⟨hJ, hT, (show (fI u27 0 7 : Int32).toInt ≤ (fI u27 0 3 : Int32).toInt from by rw [show fI u27 0 7 = en_k28 from hen_k28, show fI u27 0 3 = (fI u 0 3) from (Km26_I3 hT)]; first | done | exact q78), (show (fI u27 0 6 : Int32).toInt ≤ (fI u27 0 7 : Int32).toInt from by rw [show fI u27 0 6 = at_k28 from hat_k28, show fI u27 0 7 = en_k28 from hen_k28]; first | done | exact q79), (show (1 : Int32).toInt = 0 ∨ (fI u27 0 6 : Int32).toInt < (fI u27 0 7 : Int32).toInt from by rw [show fI u27 0 6 = at_k28 from hat_k28, show fI u27 0 7 = en_k28 from hen_k28]; first | done | exact q80), (show ((fI u 0 7) : Int32).toInt ≤ (fI u27 0 6 : Int32).toInt from by rw [show fI u27 0 6 = at_k28 from hat_k28]; first | done | exact q82)⟩
                        · refine lv_aload_n hx hb dX11_goOn_175 rfl (lv_at hl 2 rfl) ?_
                          refine lv_aload_n hx hb dX11_goOn_176 rfl (lv_at hl 2 rfl) ?_
                          refine gf_RX11_215 (v := .long ((fL u27 0 10))) C hO 0 mW_0 rfl dX11_goOn_177 ?_
                          refine lv_bipush (v := 8) hx hb dX11_goOn_180 (by decide) ?_
                          refine lv_lshl hx hb dX11_goOn_182 rfl ?_
                          refine lv_topl (fun w83 ew83 => ?_)
                          refine lv_aload_n hx hb dX11_goOn_183 rfl (lv_at hl 2 rfl) ?_
                          refine lv_iload_n hx hb dX11_goOn_184 rfl (lv_at hl 0 rfl) ?_
                          refine cVi (w := mW cy a) (As := [.int k_k28]) (rest := [.long w83, .ref (a 0)]) C hO (T_X11_sign l D cy a _ (by exact hJ) (k_k28) (by first | omega | decide)) (cwV 1 ht (gV wd_1560 wd_1562 wd_49 wd_121 wd_1563) rfl rfl rfl hd_yX11_sign ⟨Nat.le_of_ble_eq_true rfl, Nat.le_of_ble_eq_true rfl⟩) 0 rfl mW_0 rfl rfl hl.1 (Nat.le_of_ble_eq_true rfl) dX11_goOn_185 rfl ⟨Nat.zero_le _, Nat.zero_le _⟩ (fun r84 u85 H locs hp86 hO => ?_)
                          obtain ⟨hr84, hu85⟩ := hp86
                          rw [hu85] at hO
                          have g87 : 0 ≤ (fI u 0 3).toInt ∧ (fI u 0 3).toInt ≤ 1600 := by have h := MI_3 hJ0; exact h
                          have gr84 : (0 ≤ r84.toInt ∧ r84.toInt ≤ 255) ∧ (r84.toInt = 0 ∨ (k_k28 : Int32).toInt < ((fI u 0 3)).toInt) := by have h := sgF_r hr84; rw [(Km26_I3 hT)] at h; exact h
                          have hr84 : r84 = sgF u k_k28 := hr84.trans (sgF_eq (Km26_A2 hT) (Km26_I3 hT))
                          refine lv_i2l hx hb dX11_goOn_188 rfl ?_
                          refine lv_topl (fun w88 ew88 => ?_)
                          refine lv_lor hx hb dX11_goOn_189 ?_
                          refine lv_topl (fun w89 ew89 => ?_)
                          refine pf_RX11_215 C hO 0 mW_0 (Nat.le_of_ble_eq_true rfl) mW_s0_10 dX11_goOn_190 (fun H locs hO => ?_)
                          have hT := Km26_wL10 (x := w89) hT
                          have hJ := MIs_10 (v := w89) hJ
                          obtain ⟨z90, ez90⟩ : ∃ z : Int32, z = k_k28 + Int32.ofInt 1 := ⟨_, rfl⟩
                          have e91 : z90.toInt = (k_k28).toInt + 1 := by rw [ez90]; exact i_add rfl rfl (by omega)
                          refine lv_iinc (v := z90) (lv' := [(2, .int z90), (1, .int r7), (0, .ref (a 0))]) hx hb dX11_goOn_193 hl (k := 0) rfl ez90.symm (by decide) rfl (fun ls hl => ?_)
                          refine lv_goto (tgt := 156) hx hb dX11_goOn_196 (by decide) ?_
                          exact ih_k28 _ _ _ _ (z90) (at_k28) (en_k28) hO (lv_sub hl [0, 1, 2] rfl) (by exact hJ) (by exact hT) (by exact hat_k28) (by exact hen_k28) (by first | decide | omega) (by first | decide | omega) (by first | decide | omega) (by first | decide | omega) (by first | decide | omega) (by first | decide | omega) (by first | decide | omega)
                  exact LP_156_k28 4000 _ _ _ _ (at_k17) (at_k17) (en_k17) hO (lv_sub hl [0, 1, 2] rfl) (by exact hJ) (by exact hT) (by exact hat_k17) (by exact hen_k17) (by first | decide | omega) (by first | decide | omega) (by first | decide | omega) (by first | decide | omega) (by first | decide | omega) (by first | decide | omega) (by first | decide | omega)
            exact LP_119_k17 4000 _ _ _ _ (at_k4) (z10) hO (lv_sub hl [0, 1] rfl) (by exact hJ) (by exact hT) (by exact hat_k4) (by exact rfl) (by first | decide | omega) (by first | decide | omega) (by first | decide | omega) (by first | decide | omega) (by first | decide | omega) (by first | decide | omega)
          · subst hvr13
            refine bt_eq (tgt := 239) (X := 0) hx hb dX11_goOn_116 (by decide) rfl (by omega) ?_
            refine lv_iload_n hx hb dX11_goOn_239 rfl (lv_at hl 0 rfl) ?_
            refine cSi (w := mW cy a) (As := [.int r7]) (rest := []) C hO (T_X11_isDigit l D cy a _ (by exact hJ) (r7)) (va_cwS 1 ht (gSS wd_1590 wd_1591 wd_121 wd_1592) rfl rfl rfl hd_yX11_isDigit ⟨Nat.le_of_ble_eq_true rfl, Nat.le_of_ble_eq_true rfl⟩)  rfl hl.1 (Nat.le_of_ble_eq_true rfl) dX11_goOn_240 rfl ⟨Nat.zero_le _, Nat.zero_le _⟩ (fun r92 u93 H locs hp94 hO => ?_)
            obtain ⟨hr92, hu93⟩ := hp94
            rw [hu93] at hO
            rcases hr92 with ⟨hcr92, hvr92⟩ | ⟨hcr92, hvr92⟩
            · subst hvr92
              refine bn_eq (X := 1) hx hb dX11_goOn_243 rfl (by omega) ?_ (tgt := 361) (by decide)
              refine lv_aload_n hx hb dX11_goOn_246 rfl (lv_at hl 1 rfl) ?_
              refine lv_iconst (v := 0) hx hb dX11_goOn_247 (by decide) ?_
              refine pf_RX11_226 C hO 0 mW_0 (Nat.le_of_ble_eq_true rfl) mW_s0_9 dX11_goOn_248 (fun H locs hO => ?_)
              have hT := Km26_wI9 (x := 0) hT
              have hJ := MIs_9 (v := 0) hJ
              refine lv_aload_n hx hb dX11_goOn_251 rfl (lv_at hl 1 rfl) ?_
              refine lv_aload_n hx hb dX11_goOn_252 rfl (lv_at hl 1 rfl) ?_
              refine gf_RX11_201 (v := .int at_k4) C hO 0 mW_0 (congrArg (fun z : Int32 => some (Value.int z)) hat_k4) dX11_goOn_253 ?_
              refine pf_RX11_198 C hO 0 mW_0 (Nat.le_of_ble_eq_true rfl) mW_s0_7 dX11_goOn_256 (fun H locs hO => ?_)
              have hT := Km26_wI7 (x := at_k4) hT
              have hJ := MIs_7 (v := at_k4) hJ (by first | decide | omega)
              have LP_259_k96 : ∀ (n : Nat) (u95 : St) (H : Heap) (locs : List Loc) (ls : Array Slot) (at_k96 : Int32) (en_k96 : Int32), Wo D A (mW cy a u95) s.heap H locs → lv_has ls 3 [(1, .int r7), (0, .ref (a 0))] → MI a u95 → Km26 u u95 → fI u95 0 6 = at_k96 → fI u95 0 7 = en_k96 → at_k96.toInt ≤ en_k96.toInt → en_k96.toInt ≤ (fI u 0 3).toInt → (fI u 0 7).toInt ≤ at_k96.toInt → at_k96.toInt < (fI u 0 3).toInt → 0 ≤ at_k96.toInt ∧ at_k96.toInt ≤ 1600 → 0 ≤ en_k96.toInt ∧ en_k96.toInt ≤ 1601 → (r7 = sgF u at_k96) → 1601 - en_k96.toInt < (n : Int) → W p l e (rmo 1 22) s m [.ref (a 0)].toArray below meth c H locs 0 0 Q (F0 m 259 ls []) := by
                intro n
                induction n with
                | zero =>
                  intro u95 H locs ls at_k96 en_k96 hO hl hJ hT hat_k96 hen_k96 iv0_k96 iv1_k96 iv2_k96 iv3_k96 iv4_k96 iv5_k96 cv0_k96 hm_k96
                  exact absurd hm_k96 (by omega)
                | succ n ih_k96 =>
                  intro u95 H locs ls at_k96 en_k96 hO hl hJ hT hat_k96 hen_k96 iv0_k96 iv1_k96 iv2_k96 iv3_k96 iv4_k96 iv5_k96 cv0_k96 hm_k96
                  refine lv_aload_n hx hb dX11_goOn_259 rfl (lv_at hl 1 rfl) ?_
                  refine lv_aload_n hx hb dX11_goOn_260 rfl (lv_at hl 1 rfl) ?_
                  refine gf_RX11_198 (v := .int en_k96) C hO 0 mW_0 (congrArg (fun z : Int32 => some (Value.int z)) hen_k96) dX11_goOn_261 ?_
                  refine cVi (w := mW cy a) (As := [.int en_k96]) (rest := []) C hO (T_X11_sign l D cy a _ (by exact hJ) (en_k96) (by first | omega | decide)) (cwV 1 ht (gV wd_1560 wd_1562 wd_49 wd_121 wd_1563) rfl rfl rfl hd_yX11_sign ⟨Nat.le_of_ble_eq_true rfl, Nat.le_of_ble_eq_true rfl⟩) 0 rfl mW_0 rfl rfl hl.1 (Nat.le_of_ble_eq_true rfl) dX11_goOn_264 rfl ⟨Nat.zero_le _, Nat.zero_le _⟩ (fun r97 u98 H locs hp99 hO => ?_)
                  obtain ⟨hr97, hu98⟩ := hp99
                  rw [hu98] at hO
                  have g100 : 0 ≤ (fI u 0 3).toInt ∧ (fI u 0 3).toInt ≤ 1600 := by have h := MI_3 hJ0; exact h
                  have gr97 : (0 ≤ r97.toInt ∧ r97.toInt ≤ 255) ∧ (r97.toInt = 0 ∨ (en_k96 : Int32).toInt < ((fI u 0 3)).toInt) := by have h := sgF_r hr97; rw [(Km26_I3 hT)] at h; exact h
                  have hr97 : r97 = sgF u en_k96 := hr97.trans (sgF_eq (Km26_A2 hT) (Km26_I3 hT))
                  refine cSi (w := mW cy a) (As := [.int r97]) (rest := []) C hO (T_X11_isDigit l D cy a _ (by exact hJ) (r97)) (va_cwS 1 ht (gSS wd_1590 wd_1591 wd_121 wd_1592) rfl rfl rfl hd_yX11_isDigit ⟨Nat.le_of_ble_eq_true rfl, Nat.le_of_ble_eq_true rfl⟩)  rfl hl.1 (Nat.le_of_ble_eq_true rfl) dX11_goOn_267 rfl ⟨Nat.zero_le _, Nat.zero_le _⟩ (fun r101 u102 H locs hp103 hO => ?_)
                  obtain ⟨hr101, hu102⟩ := hp103
                  rw [hu102] at hO
                  rcases hr101 with ⟨hcr101, hvr101⟩ | ⟨hcr101, hvr101⟩
                  · subst hvr101
                    refine bn_eq (X := 1) hx hb dX11_goOn_270 rfl (by omega) ?_ (tgt := 322) (by decide)
                    refine lv_aload_n hx hb dX11_goOn_273 rfl (lv_at hl 1 rfl) ?_
                    refine gf_RX11_198 (v := .int en_k96) C hO 0 mW_0 (congrArg (fun z : Int32 => some (Value.int z)) hen_k96) dX11_goOn_274 ?_
                    refine lv_aload_n hx hb dX11_goOn_277 rfl (lv_at hl 1 rfl) ?_
                    refine gf_RX11_201 (v := .int at_k96) C hO 0 mW_0 (congrArg (fun z : Int32 => some (Value.int z)) hat_k96) dX11_goOn_278 ?_
                    refine lv_isub hx hb dX11_goOn_281 ?_
                    refine lv_topi (fun z104 ez104 => ?_)
                    have e105 : z104.toInt = (en_k96).toInt - (at_k96).toInt := by rw [ez104]; exact i_sub rfl rfl (by omega)
                    refine lv_iconst (v := 4) hx hb dX11_goOn_282 (by decide) ?_
                    refine cs_ge (tgt := 309) (X := ((en_k96).toInt - (at_k96).toInt)) (Y := 4) hx hb dX11_goOn_283 (by decide) e105 rfl (fun c106 => ?_) (fun c106 => ?_)
                    · refine lv_aload_n hx hb dX11_goOn_309 rfl (lv_at hl 1 rfl) ?_
                      refine lv_dup hx hb dX11_goOn_310 rfl ?_
                      refine gf_RX11_198 (v := .int en_k96) C hO 0 mW_0 (congrArg (fun z : Int32 => some (Value.int z)) hen_k96) dX11_goOn_311 ?_
                      refine lv_iconst (v := 1) hx hb dX11_goOn_314 (by decide) ?_
                      refine lv_iadd hx hb dX11_goOn_315 ?_
                      refine lv_topi (fun z107 ez107 => ?_)
                      have e108 : z107.toInt = (en_k96).toInt + 1 := by rw [ez107]; exact i_add rfl rfl (by omega)
                      refine pf_RX11_198 C hO 0 mW_0 (Nat.le_of_ble_eq_true rfl) mW_s0_7 dX11_goOn_316 (fun H locs hO => ?_)
                      have hT := Km26_wI7 (x := z107) hT
                      have hJ := MIs_7 (v := z107) hJ (by first | decide | omega)
                      refine lv_goto (tgt := 259) hx hb dX11_goOn_319 (by decide) ?_
                      exact ih_k96 _ _ _ _ (at_k96) (z107) hO (lv_sub hl [0, 1] rfl) (by exact hJ) (by exact hT) (by exact hat_k96) (by exact rfl) (by first | decide | omega) (by first | decide | omega) (by first | decide | omega) (by first | decide | omega) (by first | decide | omega) (by first | decide | omega) (by exact cv0_k96) (by first | decide | omega)
                    · refine lv_aload_n hx hb dX11_goOn_286 rfl (lv_at hl 1 rfl) ?_
                      refine lv_bipush (v := 10) hx hb dX11_goOn_287 (by decide) ?_
                      refine lv_aload_n hx hb dX11_goOn_289 rfl (lv_at hl 1 rfl) ?_
                      refine gf_RX11_226 (v := .int (fI u95 0 9)) C hO 0 mW_0 rfl dX11_goOn_290 ?_
                      refine lv_imul hx hb dX11_goOn_293 ?_
                      refine lv_topi (fun z109 ez109 => ?_)
                      refine lv_aload_n hx hb dX11_goOn_294 rfl (lv_at hl 1 rfl) ?_
                      refine lv_aload_n hx hb dX11_goOn_295 rfl (lv_at hl 1 rfl) ?_
                      refine gf_RX11_198 (v := .int en_k96) C hO 0 mW_0 (congrArg (fun z : Int32 => some (Value.int z)) hen_k96) dX11_goOn_296 ?_
                      refine cVi (w := mW cy a) (As := [.int en_k96]) (rest := [.int z109, .ref (a 0)]) C hO (T_X11_sign l D cy a _ (by exact hJ) (en_k96) (by first | omega | decide)) (cwV 1 ht (gV wd_1560 wd_1562 wd_49 wd_121 wd_1563) rfl rfl rfl hd_yX11_sign ⟨Nat.le_of_ble_eq_true rfl, Nat.le_of_ble_eq_true rfl⟩) 0 rfl mW_0 rfl rfl hl.1 (Nat.le_of_ble_eq_true rfl) dX11_goOn_299 rfl ⟨Nat.zero_le _, Nat.zero_le _⟩ (fun r110 u111 H locs hp112 hO => ?_)
                      obtain ⟨hr110, hu111⟩ := hp112
                      rw [hu111] at hO
                      have gr110 : (0 ≤ r110.toInt ∧ r110.toInt ≤ 255) ∧ (r110.toInt = 0 ∨ (en_k96 : Int32).toInt < ((fI u 0 3)).toInt) := by have h := sgF_r hr110; rw [(Km26_I3 hT)] at h; exact h
                      have hr110 : r110 = sgF u en_k96 := hr110.trans (sgF_eq (Km26_A2 hT) (Km26_I3 hT))
                      refine lv_iadd hx hb dX11_goOn_302 ?_
                      refine lv_topi (fun z113 ez113 => ?_)
                      refine lv_bipush (v := 48) hx hb dX11_goOn_303 (by decide) ?_
                      refine lv_isub hx hb dX11_goOn_305 ?_
                      refine lv_topi (fun z114 ez114 => ?_)
                      refine pf_RX11_226 C hO 0 mW_0 (Nat.le_of_ble_eq_true rfl) mW_s0_9 dX11_goOn_306 (fun H locs hO => ?_)
                      have hT := Km26_wI9 (x := z114) hT
                      have hJ := MIs_9 (v := z114) hJ
                      refine lv_aload_n hx hb dX11_goOn_309 rfl (lv_at hl 1 rfl) ?_
                      refine lv_dup hx hb dX11_goOn_310 rfl ?_
                      refine gf_RX11_198 (v := .int en_k96) C hO 0 mW_0 (congrArg (fun z : Int32 => some (Value.int z)) hen_k96) dX11_goOn_311 ?_
                      refine lv_iconst (v := 1) hx hb dX11_goOn_314 (by decide) ?_
                      refine lv_iadd hx hb dX11_goOn_315 ?_
                      refine lv_topi (fun z115 ez115 => ?_)
                      have e116 : z115.toInt = (en_k96).toInt + 1 := by rw [ez115]; exact i_add rfl rfl (by omega)
                      refine pf_RX11_198 C hO 0 mW_0 (Nat.le_of_ble_eq_true rfl) mW_s0_7 dX11_goOn_316 (fun H locs hO => ?_)
                      have hT := Km26_wI7 (x := z115) hT
                      have hJ := MIs_7 (v := z115) hJ (by first | decide | omega)
                      refine lv_goto (tgt := 259) hx hb dX11_goOn_319 (by decide) ?_
                      exact ih_k96 _ _ _ _ (at_k96) (z115) hO (lv_sub hl [0, 1] rfl) (by exact hJ) (by exact hT) (by exact hat_k96) (by exact rfl) (by first | decide | omega) (by first | decide | omega) (by first | decide | omega) (by first | decide | omega) (by first | decide | omega) (by first | decide | omega) (by exact cv0_k96) (by first | decide | omega)
                  · subst hvr101
                    refine bt_eq (tgt := 322) (X := 0) hx hb dX11_goOn_270 (by decide) rfl (by omega) ?_
                    have hlt117 : at_k96.toInt < en_k96.toInt := by
                      by_cases q : en_k96.toInt = at_k96.toInt
                      · exfalso
                        have e1 : en_k96 = at_k96 := i32_eq.mpr q
                        rw [e1, ← cv0_k96] at hr97
                        have e2 := congrArg Int32.toInt hr97
                        omega
                      · omega
                    refine lv_aload_n hx hb dX11_goOn_322 rfl (lv_at hl 1 rfl) ?_
                    refine lv_aload_n hx hb dX11_goOn_323 rfl (lv_at hl 1 rfl) ?_
                    refine gf_RX11_198 (v := .int en_k96) C hO 0 mW_0 (congrArg (fun z : Int32 => some (Value.int z)) hen_k96) dX11_goOn_324 ?_
                    refine lv_aload_n hx hb dX11_goOn_327 rfl (lv_at hl 1 rfl) ?_
                    refine gf_RX11_201 (v := .int at_k96) C hO 0 mW_0 (congrArg (fun z : Int32 => some (Value.int z)) hat_k96) dX11_goOn_328 ?_
                    refine lv_isub hx hb dX11_goOn_331 ?_
                    refine lv_topi (fun z118 ez118 => ?_)
                    have e119 : z118.toInt = (en_k96).toInt - (at_k96).toInt := by rw [ez118]; exact i_sub rfl rfl (by omega)
                    refine lv_iconst (v := 4) hx hb dX11_goOn_332 (by decide) ?_
                    refine cs_gt (tgt := 350) (X := ((en_k96).toInt - (at_k96).toInt)) (Y := 4) hx hb dX11_goOn_333 (by decide) e119 rfl (fun c120 => ?_) (fun c120 => ?_)
                    · refine lv_iconst (v := 1) hx hb dX11_goOn_350 (by decide) ?_
                      refine lv_goto (tgt := 355) hx hb dX11_goOn_351 (by decide) ?_
                      refine pf_RX11_208 C hO 0 mW_0 (Nat.le_of_ble_eq_true rfl) mW_s0_8 dX11_goOn_355 (fun H locs hO => ?_)
                      have hT := Km26_wI8 (x := 1) hT
                      have hJ := MIs_8 (v := 1) hJ (by first | decide | omega)
                      refine lv_goto (tgt := 377) hx hb dX11_goOn_358 (by decide) ?_
                      have q121 : (en_k96 : Int32).toInt ≤ ((fI u 0 3) : Int32).toInt := by first | omega | decide
                      have q122 : (at_k96 : Int32).toInt ≤ (en_k96 : Int32).toInt := by first | omega | decide
                      have q123 : (1 : Int32).toInt = 0 ∨ (at_k96 : Int32).toInt < (en_k96 : Int32).toInt := by have zc0 : (1 : Int32).toInt = 1 := rfl; first | omega | decide
                      have g124 : 0 ≤ (fI u 0 7).toInt ∧ (fI u 0 7).toInt ≤ 1601 := by have h := MI_7 hJ0; exact h
                      have q125 : ((fI u 0 7) : Int32).toInt ≤ (at_k96 : Int32).toInt := by first | omega | decide
                      refine hret _ _ _ _ _ dX11_goOn_377 ?_ hO
                      exact ⟨hJ, hT, (show (fI u95 0 7 : Int32).toInt ≤ (fI u95 0 3 : Int32).toInt from by rw [show fI u95 0 7 = en_k96 from hen_k96, show fI u95 0 3 = (fI u 0 3) from (Km26_I3 hT)]; first | done | exact q121), (show (fI u95 0 6 : Int32).toInt ≤ (fI u95 0 7 : Int32).toInt from by rw [show fI u95 0 6 = at_k96 from hat_k96, show fI u95 0 7 = en_k96 from hen_k96]; first | done | exact q122), (show (1 : Int32).toInt = 0 ∨ (fI u95 0 6 : Int32).toInt < (fI u95 0 7 : Int32).toInt from by rw [show fI u95 0 6 = at_k96 from hat_k96, show fI u95 0 7 = en_k96 from hen_k96]; first | done | exact q123), (show ((fI u 0 7) : Int32).toInt ≤ (fI u95 0 6 : Int32).toInt from by rw [show fI u95 0 6 = at_k96 from hat_k96]; first | done | exact q125)⟩
                    · refine lv_aload_n hx hb dX11_goOn_336 rfl (lv_at hl 1 rfl) ?_
                      refine lv_aload_n hx hb dX11_goOn_337 rfl (lv_at hl 1 rfl) ?_
                      refine gf_RX11_198 (v := .int en_k96) C hO 0 mW_0 (congrArg (fun z : Int32 => some (Value.int z)) hen_k96) dX11_goOn_338 ?_
                      refine cVi (w := mW cy a) (As := [.int en_k96]) (rest := [.ref (a 0)]) C hO (T_X11_sign l D cy a _ (by exact hJ) (en_k96) (by first | omega | decide)) (cwV 1 ht (gV wd_1560 wd_1562 wd_49 wd_121 wd_1563) rfl rfl rfl hd_yX11_sign ⟨Nat.le_of_ble_eq_true rfl, Nat.le_of_ble_eq_true rfl⟩) 0 rfl mW_0 rfl rfl hl.1 (Nat.le_of_ble_eq_true rfl) dX11_goOn_341 rfl ⟨Nat.zero_le _, Nat.zero_le _⟩ (fun r126 u127 H locs hp128 hO => ?_)
                      obtain ⟨hr126, hu127⟩ := hp128
                      rw [hu127] at hO
                      have gr126 : (0 ≤ r126.toInt ∧ r126.toInt ≤ 255) ∧ (r126.toInt = 0 ∨ (en_k96 : Int32).toInt < ((fI u 0 3)).toInt) := by have h := sgF_r hr126; rw [(Km26_I3 hT)] at h; exact h
                      have hr126 : r126 = sgF u en_k96 := hr126.trans (sgF_eq (Km26_A2 hT) (Km26_I3 hT))
                      refine cSi (w := mW cy a) (As := [.int r126]) (rest := [.ref (a 0)]) C hO (T_X11_isLetter l D cy a _ (by exact hJ) (r126)) (va_cwS 1 ht (gSS wd_1564 wd_1565 wd_121 wd_1566) rfl rfl rfl hd_yX11_isLetter ⟨Nat.le_of_ble_eq_true rfl, Nat.le_of_ble_eq_true rfl⟩)  rfl hl.1 (Nat.le_of_ble_eq_true rfl) dX11_goOn_344 rfl ⟨Nat.zero_le _, Nat.zero_le _⟩ (fun r129 u130 H locs hp131 hO => ?_)
                      obtain ⟨hr129, hu130⟩ := hp131
                      rw [hu130] at hO
                      rcases hr129 with ⟨hcr129, hvr129⟩ | ⟨hcr129, hvr129⟩
                      · subst hvr129
                        refine bn_eq (X := 1) hx hb dX11_goOn_347 rfl (by omega) ?_ (tgt := 354) (by decide)
                        refine lv_iconst (v := 1) hx hb dX11_goOn_350 (by decide) ?_
                        refine lv_goto (tgt := 355) hx hb dX11_goOn_351 (by decide) ?_
                        refine pf_RX11_208 C hO 0 mW_0 (Nat.le_of_ble_eq_true rfl) mW_s0_8 dX11_goOn_355 (fun H locs hO => ?_)
                        have hT := Km26_wI8 (x := 1) hT
                        have hJ := MIs_8 (v := 1) hJ (by first | decide | omega)
                        refine lv_goto (tgt := 377) hx hb dX11_goOn_358 (by decide) ?_
                        have q132 : (en_k96 : Int32).toInt ≤ ((fI u 0 3) : Int32).toInt := by first | omega | decide
                        have q133 : (at_k96 : Int32).toInt ≤ (en_k96 : Int32).toInt := by first | omega | decide
                        have q134 : (1 : Int32).toInt = 0 ∨ (at_k96 : Int32).toInt < (en_k96 : Int32).toInt := by have zc0 : (1 : Int32).toInt = 1 := rfl; first | omega | decide
                        have g135 : 0 ≤ (fI u 0 7).toInt ∧ (fI u 0 7).toInt ≤ 1601 := by have h := MI_7 hJ0; exact h
                        have q136 : ((fI u 0 7) : Int32).toInt ≤ (at_k96 : Int32).toInt := by first | omega | decide
                        refine hret _ _ _ _ _ dX11_goOn_377 ?_ hO
                        exact ⟨hJ, hT, (show (fI u95 0 7 : Int32).toInt ≤ (fI u95 0 3 : Int32).toInt from by rw [show fI u95 0 7 = en_k96 from hen_k96, show fI u95 0 3 = (fI u 0 3) from (Km26_I3 hT)]; first | done | exact q132), (show (fI u95 0 6 : Int32).toInt ≤ (fI u95 0 7 : Int32).toInt from by rw [show fI u95 0 6 = at_k96 from hat_k96, show fI u95 0 7 = en_k96 from hen_k96]; first | done | exact q133), (show (1 : Int32).toInt = 0 ∨ (fI u95 0 6 : Int32).toInt < (fI u95 0 7 : Int32).toInt from by rw [show fI u95 0 6 = at_k96 from hat_k96, show fI u95 0 7 = en_k96 from hen_k96]; first | done | exact q134), (show ((fI u 0 7) : Int32).toInt ≤ (fI u95 0 6 : Int32).toInt from by rw [show fI u95 0 6 = at_k96 from hat_k96]; first | done | exact q136)⟩
                      · subst hvr129
                        refine bt_eq (tgt := 354) (X := 0) hx hb dX11_goOn_347 (by decide) rfl (by omega) ?_
                        refine lv_iconst (v := 4) hx hb dX11_goOn_354 (by decide) ?_
                        refine pf_RX11_208 C hO 0 mW_0 (Nat.le_of_ble_eq_true rfl) mW_s0_8 dX11_goOn_355 (fun H locs hO => ?_)
                        have hT := Km26_wI8 (x := 4) hT
                        have hJ := MIs_8 (v := 4) hJ (by first | decide | omega)
                        refine lv_goto (tgt := 377) hx hb dX11_goOn_358 (by decide) ?_
                        have q137 : (en_k96 : Int32).toInt ≤ ((fI u 0 3) : Int32).toInt := by first | omega | decide
                        have q138 : (at_k96 : Int32).toInt ≤ (en_k96 : Int32).toInt := by first | omega | decide
                        have q139 : (4 : Int32).toInt = 0 ∨ (at_k96 : Int32).toInt < (en_k96 : Int32).toInt := by have zc0 : (4 : Int32).toInt = 4 := rfl; first | omega | decide
                        have g140 : 0 ≤ (fI u 0 7).toInt ∧ (fI u 0 7).toInt ≤ 1601 := by have h := MI_7 hJ0; exact h
                        have q141 : ((fI u 0 7) : Int32).toInt ≤ (at_k96 : Int32).toInt := by first | omega | decide
                        refine hret _ _ _ _ _ dX11_goOn_377 ?_ hO
                        exact ⟨hJ, hT, (show (fI u95 0 7 : Int32).toInt ≤ (fI u95 0 3 : Int32).toInt from by rw [show fI u95 0 7 = en_k96 from hen_k96, show fI u95 0 3 = (fI u 0 3) from (Km26_I3 hT)]; first | done | exact q137), (show (fI u95 0 6 : Int32).toInt ≤ (fI u95 0 7 : Int32).toInt from by rw [show fI u95 0 6 = at_k96 from hat_k96, show fI u95 0 7 = en_k96 from hen_k96]; first | done | exact q138), (show (4 : Int32).toInt = 0 ∨ (fI u95 0 6 : Int32).toInt < (fI u95 0 7 : Int32).toInt from by rw [show fI u95 0 6 = at_k96 from hat_k96, show fI u95 0 7 = en_k96 from hen_k96]; first | done | exact q139), (show ((fI u 0 7) : Int32).toInt ≤ (fI u95 0 6 : Int32).toInt from by rw [show fI u95 0 6 = at_k96 from hat_k96]; first | done | exact q141)⟩
              exact LP_259_k96 4000 _ _ _ _ (at_k4) (at_k4) hO (lv_sub hl [0, 1] rfl) (by exact hJ) (by exact hT) (by exact hat_k4) (by exact rfl) (by first | decide | omega) (by first | decide | omega) (by first | decide | omega) (by first | decide | omega) (by first | decide | omega) (by first | decide | omega) (by exact hr7) (by first | decide | omega)
            · subst hvr92
              refine bt_eq (tgt := 361) (X := 0) hx hb dX11_goOn_243 (by decide) rfl (by omega) ?_
              refine lv_aload_n hx hb dX11_goOn_361 rfl (lv_at hl 1 rfl) ?_
              refine lv_iload_n hx hb dX11_goOn_362 rfl (lv_at hl 0 rfl) ?_
              refine cSi (w := mW cy a) (As := [.int r7]) (rest := [.ref (a 0)]) C hO (T_X11_isSign l D cy a _ (by exact hJ) (r7)) (va_cwS 1 ht (gSS wd_1593 wd_1594 wd_121 wd_1595) rfl rfl rfl hd_yX11_isSign ⟨Nat.le_of_ble_eq_true rfl, Nat.le_of_ble_eq_true rfl⟩)  rfl hl.1 (Nat.le_of_ble_eq_true rfl) dX11_goOn_363 rfl ⟨Nat.zero_le _, Nat.zero_le _⟩ (fun r142 u143 H locs hp144 hO => ?_)
              obtain ⟨hr142, hu143⟩ := hp144
              have gr142 : 0 ≤ r142.toInt ∧ r142.toInt ≤ 1 := by rcases hr142 with h | h <;> rw [h] <;> decide
              rw [hu143] at hO
              refine bs_eq (tgt := 373) (X := (r142).toInt) hx hb dX11_goOn_366 (by decide) rfl (fun c145 => ?_) (fun c145 => ?_)
              · refine lv_iconst (v := 1) hx hb dX11_goOn_373 (by decide) ?_
                refine pf_RX11_208 C hO 0 mW_0 (Nat.le_of_ble_eq_true rfl) mW_s0_8 dX11_goOn_374 (fun H locs hO => ?_)
                have hT := Km26_wI8 (x := 1) hT
                have hJ := MIs_8 (v := 1) hJ (by first | decide | omega)
                have q146 : (z10 : Int32).toInt ≤ ((fI u 0 3) : Int32).toInt := by first | omega | decide
                have q147 : (at_k4 : Int32).toInt ≤ (z10 : Int32).toInt := by first | omega | decide
                have q148 : (1 : Int32).toInt = 0 ∨ (at_k4 : Int32).toInt < (z10 : Int32).toInt := by have zc0 : (1 : Int32).toInt = 1 := rfl; first | omega | decide
                have g149 : 0 ≤ (fI u 0 7).toInt ∧ (fI u 0 7).toInt ≤ 1601 := by have h := MI_7 hJ0; exact h
                have q150 : ((fI u 0 7) : Int32).toInt ≤ (at_k4 : Int32).toInt := by first | omega | decide
                refine hret _ _ _ _ _ dX11_goOn_377 ?_ hO
                exact ⟨hJ, hT, (show (z10 : Int32).toInt ≤ (fI u3 0 3 : Int32).toInt from by rw [show fI u3 0 3 = (fI u 0 3) from (Km26_I3 hT)]; first | done | exact q146), (show (fI u3 0 6 : Int32).toInt ≤ (z10 : Int32).toInt from by rw [show fI u3 0 6 = at_k4 from hat_k4]; first | done | exact q147), (show (1 : Int32).toInt = 0 ∨ (fI u3 0 6 : Int32).toInt < (z10 : Int32).toInt from by rw [show fI u3 0 6 = at_k4 from hat_k4]; first | done | exact q148), (show ((fI u 0 7) : Int32).toInt ≤ (fI u3 0 6 : Int32).toInt from by rw [show fI u3 0 6 = at_k4 from hat_k4]; first | done | exact q150)⟩
              · refine lv_iconst (v := 5) hx hb dX11_goOn_369 (by decide) ?_
                refine lv_goto (tgt := 374) hx hb dX11_goOn_370 (by decide) ?_
                refine pf_RX11_208 C hO 0 mW_0 (Nat.le_of_ble_eq_true rfl) mW_s0_8 dX11_goOn_374 (fun H locs hO => ?_)
                have hT := Km26_wI8 (x := 5) hT
                have hJ := MIs_8 (v := 5) hJ (by first | decide | omega)
                have q151 : (z10 : Int32).toInt ≤ ((fI u 0 3) : Int32).toInt := by first | omega | decide
                have q152 : (at_k4 : Int32).toInt ≤ (z10 : Int32).toInt := by first | omega | decide
                have q153 : (5 : Int32).toInt = 0 ∨ (at_k4 : Int32).toInt < (z10 : Int32).toInt := by have zc0 : (5 : Int32).toInt = 5 := rfl; first | omega | decide
                have g154 : 0 ≤ (fI u 0 7).toInt ∧ (fI u 0 7).toInt ≤ 1601 := by have h := MI_7 hJ0; exact h
                have q155 : ((fI u 0 7) : Int32).toInt ≤ (at_k4 : Int32).toInt := by first | omega | decide
                refine hret _ _ _ _ _ dX11_goOn_377 ?_ hO
                exact ⟨hJ, hT, (show (z10 : Int32).toInt ≤ (fI u3 0 3 : Int32).toInt from by rw [show fI u3 0 3 = (fI u 0 3) from (Km26_I3 hT)]; first | done | exact q151), (show (fI u3 0 6 : Int32).toInt ≤ (z10 : Int32).toInt from by rw [show fI u3 0 6 = at_k4 from hat_k4]; first | done | exact q152), (show (5 : Int32).toInt = 0 ∨ (fI u3 0 6 : Int32).toInt < (z10 : Int32).toInt from by rw [show fI u3 0 6 = at_k4 from hat_k4]; first | done | exact q153), (show ((fI u 0 7) : Int32).toInt ≤ (fI u3 0 6 : Int32).toInt from by rw [show fI u3 0 6 = at_k4 from hat_k4]; first | done | exact q155)⟩
        · refine lv_aload_n hx hb dX11_goOn_88 rfl (lv_at hl 1 rfl) ?_
          refine lv_iconst (v := 0) hx hb dX11_goOn_89 (by decide) ?_
          refine pf_RX11_208 C hO 0 mW_0 (Nat.le_of_ble_eq_true rfl) mW_s0_8 dX11_goOn_90 (fun H locs hO => ?_)
          have hT := Km26_wI8 (x := 0) hT
          have hJ := MIs_8 (v := 0) hJ (by first | decide | omega)
          refine lv_aload_n hx hb dX11_goOn_93 rfl (lv_at hl 1 rfl) ?_
          refine lv_aload_n hx hb dX11_goOn_94 rfl (lv_at hl 1 rfl) ?_
          refine gf_RX11_152 (v := .int (fI u 0 3)) C hO 0 mW_0 (congrArg (fun z : Int32 => some (Value.int z)) (Km26_I3 hT)) dX11_goOn_95 ?_
          refine pf_RX11_201 C hO 0 mW_0 (Nat.le_of_ble_eq_true rfl) mW_s0_6 dX11_goOn_98 (fun H locs hO => ?_)
          have hT := Km26_wI6 (x := (fI u 0 3)) hT
          have hJ := MIs_6 (v := (fI u 0 3)) hJ (by first | decide | omega)
          refine lv_aload_n hx hb dX11_goOn_101 rfl (lv_at hl 1 rfl) ?_
          refine lv_aload_n hx hb dX11_goOn_102 rfl (lv_at hl 1 rfl) ?_
          refine gf_RX11_152 (v := .int (fI u 0 3)) C hO 0 mW_0 (congrArg (fun z : Int32 => some (Value.int z)) (Km26_I3 hT)) dX11_goOn_103 ?_
          refine pf_RX11_198 C hO 0 mW_0 (Nat.le_of_ble_eq_true rfl) mW_s0_7 dX11_goOn_106 (fun H locs hO => ?_)
          have hT := Km26_wI7 (x := (fI u 0 3)) hT
          have hJ := MIs_7 (v := (fI u 0 3)) hJ (by first | decide | omega)
          refine lv_goto (tgt := 377) hx hb dX11_goOn_109 (by decide) ?_
          have q156 : ((fI u 0 3) : Int32).toInt ≤ ((fI u 0 3) : Int32).toInt := by first | omega | decide
          have q157 : ((fI u 0 3) : Int32).toInt ≤ ((fI u 0 3) : Int32).toInt := by first | omega | decide
          have q158 : (0 : Int32).toInt = 0 ∨ ((fI u 0 3) : Int32).toInt < ((fI u 0 3) : Int32).toInt := by have zc0 : (0 : Int32).toInt = 0 := rfl; first | omega | decide
          have g159 : 0 ≤ (fI u 0 7).toInt ∧ (fI u 0 7).toInt ≤ 1601 := by have h := MI_7 hJ0; exact h
          have q160 : ((fI u 0 7) : Int32).toInt ≤ ((fI u 0 3) : Int32).toInt := by first | omega | decide
          refine hret _ _ _ _ _ dX11_goOn_377 ?_ hO
          exact ⟨hJ, hT, (show ((fI u 0 3) : Int32).toInt ≤ (fI u3 0 3 : Int32).toInt from by rw [show fI u3 0 3 = (fI u 0 3) from (Km26_I3 hT)]; first | done | exact q156), q157, q158, q160⟩
      · refine lv_aload_n hx hb dX11_goOn_19 rfl (lv_at hl 0 rfl) ?_
        refine lv_aload_n hx hb dX11_goOn_20 rfl (lv_at hl 0 rfl) ?_
        refine gf_RX11_201 (v := .int at_k4) C hO 0 mW_0 (congrArg (fun z : Int32 => some (Value.int z)) hat_k4) dX11_goOn_21 ?_
        refine cVi (w := mW cy a) (As := [.int at_k4]) (rest := []) C hO (T_X11_sign l D cy a _ (by exact hJ) (at_k4) (by first | omega | decide)) (cwV 1 ht (gV wd_1560 wd_1562 wd_49 wd_121 wd_1563) rfl rfl rfl hd_yX11_sign ⟨Nat.le_of_ble_eq_true rfl, Nat.le_of_ble_eq_true rfl⟩) 0 rfl mW_0 rfl rfl hl.1 (Nat.le_of_ble_eq_true rfl) dX11_goOn_24 rfl ⟨Nat.zero_le _, Nat.zero_le _⟩ (fun r161 u162 H locs hp163 hO => ?_)
        obtain ⟨hr161, hu162⟩ := hp163
        rw [hu162] at hO
        have gr161 : (0 ≤ r161.toInt ∧ r161.toInt ≤ 255) ∧ (r161.toInt = 0 ∨ (at_k4 : Int32).toInt < ((fI u 0 3)).toInt) := by have h := sgF_r hr161; rw [(Km26_I3 hT)] at h; exact h
        have hr161 : r161 = sgF u at_k4 := hr161.trans (sgF_eq (Km26_A2 hT) (Km26_I3 hT))
        refine lv_bipush (v := 32) hx hb dX11_goOn_27 (by decide) ?_
        refine cs_eq (tgt := 45) (X := (r161).toInt) (Y := 32) hx hb dX11_goOn_29 (by decide) rfl rfl (fun c164 => ?_) (fun c164 => ?_)
        · refine lv_aload_n hx hb dX11_goOn_45 rfl (lv_at hl 0 rfl) ?_
          refine lv_dup hx hb dX11_goOn_46 rfl ?_
          refine gf_RX11_201 (v := .int at_k4) C hO 0 mW_0 (congrArg (fun z : Int32 => some (Value.int z)) hat_k4) dX11_goOn_47 ?_
          refine lv_iconst (v := 1) hx hb dX11_goOn_50 (by decide) ?_
          refine lv_iadd hx hb dX11_goOn_51 ?_
          refine lv_topi (fun z165 ez165 => ?_)
          have e166 : z165.toInt = (at_k4).toInt + 1 := by rw [ez165]; exact i_add rfl rfl (by omega)
          refine pf_RX11_201 C hO 0 mW_0 (Nat.le_of_ble_eq_true rfl) mW_s0_6 dX11_goOn_52 (fun H locs hO => ?_)
          have hT := Km26_wI6 (x := z165) hT
          have hJ := MIs_6 (v := z165) hJ (by first | decide | omega)
          refine lv_goto (tgt := 8) hx hb dX11_goOn_55 (by decide) ?_
          exact ih_k4 _ _ _ _ (z165) (en_k4) hO (lv_sub hl [0] rfl) (by exact hJ) (by exact hT) (by exact rfl) (by exact hen_k4) (by first | decide | omega) (by first | decide | omega) (by first | decide | omega) (by first | decide | omega) (by first | decide | omega)
        · refine lv_aload_n hx hb dX11_goOn_32 rfl (lv_at hl 0 rfl) ?_
          refine lv_aload_n hx hb dX11_goOn_33 rfl (lv_at hl 0 rfl) ?_
          refine gf_RX11_201 (v := .int at_k4) C hO 0 mW_0 (congrArg (fun z : Int32 => some (Value.int z)) hat_k4) dX11_goOn_34 ?_
          refine cVi (w := mW cy a) (As := [.int at_k4]) (rest := []) C hO (T_X11_sign l D cy a _ (by exact hJ) (at_k4) (by first | omega | decide)) (cwV 1 ht (gV wd_1560 wd_1562 wd_49 wd_121 wd_1563) rfl rfl rfl hd_yX11_sign ⟨Nat.le_of_ble_eq_true rfl, Nat.le_of_ble_eq_true rfl⟩) 0 rfl mW_0 rfl rfl hl.1 (Nat.le_of_ble_eq_true rfl) dX11_goOn_37 rfl ⟨Nat.zero_le _, Nat.zero_le _⟩ (fun r167 u168 H locs hp169 hO => ?_)
          obtain ⟨hr167, hu168⟩ := hp169
          rw [hu168] at hO
          have gr167 : (0 ≤ r167.toInt ∧ r167.toInt ≤ 255) ∧ (r167.toInt = 0 ∨ (at_k4 : Int32).toInt < ((fI u 0 3)).toInt) := by have h := sgF_r hr167; rw [(Km26_I3 hT)] at h; exact h
          have hr167 : r167 = sgF u at_k4 := hr167.trans (sgF_eq (Km26_A2 hT) (Km26_I3 hT))
          refine lv_bipush (v := 10) hx hb dX11_goOn_40 (by decide) ?_
          refine cs_ne (tgt := 58) (X := (r167).toInt) (Y := 10) hx hb dX11_goOn_42 (by decide) rfl rfl (fun c170 => ?_) (fun c170 => ?_)
          · refine lv_aload_n hx hb dX11_goOn_58 rfl (lv_at hl 0 rfl) ?_
            refine lv_aload_n hx hb dX11_goOn_59 rfl (lv_at hl 0 rfl) ?_
            refine gf_RX11_201 (v := .int at_k4) C hO 0 mW_0 (congrArg (fun z : Int32 => some (Value.int z)) hat_k4) dX11_goOn_60 ?_
            refine cVi (w := mW cy a) (As := [.int at_k4]) (rest := []) C hO (T_X11_sign l D cy a _ (by exact hJ) (at_k4) (by first | omega | decide)) (cwV 1 ht (gV wd_1560 wd_1562 wd_49 wd_121 wd_1563) rfl rfl rfl hd_yX11_sign ⟨Nat.le_of_ble_eq_true rfl, Nat.le_of_ble_eq_true rfl⟩) 0 rfl mW_0 rfl rfl hl.1 (Nat.le_of_ble_eq_true rfl) dX11_goOn_63 rfl ⟨Nat.zero_le _, Nat.zero_le _⟩ (fun r171 u172 H locs hp173 hO => ?_)
            obtain ⟨hr171, hu172⟩ := hp173
            rw [hu172] at hO
            have gr171 : (0 ≤ r171.toInt ∧ r171.toInt ≤ 255) ∧ (r171.toInt = 0 ∨ (at_k4 : Int32).toInt < ((fI u 0 3)).toInt) := by have h := sgF_r hr171; rw [(Km26_I3 hT)] at h; exact h
            have hr171 : r171 = sgF u at_k4 := hr171.trans (sgF_eq (Km26_A2 hT) (Km26_I3 hT))
            refine lv_istore_n (lv' := [(1, .int r171), (0, .ref (a 0))]) hx hb dX11_goOn_66 rfl hl (by decide) rfl (fun ls hl => ?_)
            refine lv_aload_n hx hb dX11_goOn_67 rfl (lv_at hl 1 rfl) ?_
            refine lv_aload_n hx hb dX11_goOn_68 rfl (lv_at hl 1 rfl) ?_
            refine gf_RX11_201 (v := .int at_k4) C hO 0 mW_0 (congrArg (fun z : Int32 => some (Value.int z)) hat_k4) dX11_goOn_69 ?_
            refine lv_iconst (v := 1) hx hb dX11_goOn_72 (by decide) ?_
            refine lv_iadd hx hb dX11_goOn_73 ?_
            refine lv_topi (fun z174 ez174 => ?_)
            have e175 : z174.toInt = (at_k4).toInt + 1 := by rw [ez174]; exact i_add rfl rfl (by omega)
            refine pf_RX11_198 C hO 0 mW_0 (Nat.le_of_ble_eq_true rfl) mW_s0_7 dX11_goOn_74 (fun H locs hO => ?_)
            have hT := Km26_wI7 (x := z174) hT
            have hJ := MIs_7 (v := z174) hJ (by first | decide | omega)
            refine lv_aload_n hx hb dX11_goOn_77 rfl (lv_at hl 1 rfl) ?_
            refine gf_RX11_201 (v := .int at_k4) C hO 0 mW_0 (congrArg (fun z : Int32 => some (Value.int z)) hat_k4) dX11_goOn_78 ?_
            refine lv_aload_n hx hb dX11_goOn_81 rfl (lv_at hl 1 rfl) ?_
            refine gf_RX11_152 (v := .int (fI u 0 3)) C hO 0 mW_0 (congrArg (fun z : Int32 => some (Value.int z)) (Km26_I3 hT)) dX11_goOn_82 ?_
            refine cs_lt (tgt := 112) (X := (at_k4).toInt) (Y := ((fI u 0 3)).toInt) hx hb dX11_goOn_85 (by decide) rfl rfl (fun c176 => ?_) (fun c176 => ?_)
            · refine lv_iload_n hx hb dX11_goOn_112 rfl (lv_at hl 0 rfl) ?_
              refine cSi (w := mW cy a) (As := [.int r171]) (rest := []) C hO (T_X11_isLetter l D cy a _ (by exact hJ) (r171)) (va_cwS 1 ht (gSS wd_1564 wd_1565 wd_121 wd_1566) rfl rfl rfl hd_yX11_isLetter ⟨Nat.le_of_ble_eq_true rfl, Nat.le_of_ble_eq_true rfl⟩)  rfl hl.1 (Nat.le_of_ble_eq_true rfl) dX11_goOn_113 rfl ⟨Nat.zero_le _, Nat.zero_le _⟩ (fun r177 u178 H locs hp179 hO => ?_)
              obtain ⟨hr177, hu178⟩ := hp179
              rw [hu178] at hO
              rcases hr177 with ⟨hcr177, hvr177⟩ | ⟨hcr177, hvr177⟩
              · subst hvr177
                refine bn_eq (X := 1) hx hb dX11_goOn_116 rfl (by omega) ?_ (tgt := 239) (by decide)
                have LP_119_k181 : ∀ (n : Nat) (u180 : St) (H : Heap) (locs : List Loc) (ls : Array Slot) (at_k181 : Int32) (en_k181 : Int32), Wo D A (mW cy a u180) s.heap H locs → lv_has ls 3 [(1, .int r171), (0, .ref (a 0))] → MI a u180 → Km26 u u180 → fI u180 0 6 = at_k181 → fI u180 0 7 = en_k181 → at_k181.toInt < en_k181.toInt → en_k181.toInt ≤ (fI u 0 3).toInt → (fI u 0 7).toInt ≤ at_k181.toInt → 0 ≤ at_k181.toInt ∧ at_k181.toInt ≤ 1600 → 0 ≤ en_k181.toInt ∧ en_k181.toInt ≤ 1601 → 1601 - en_k181.toInt < (n : Int) → W p l e (rmo 1 22) s m [.ref (a 0)].toArray below meth c H locs 0 0 Q (F0 m 119 ls []) := by
                  intro n
                  induction n with
                  | zero =>
                    intro u180 H locs ls at_k181 en_k181 hO hl hJ hT hat_k181 hen_k181 iv0_k181 iv1_k181 iv2_k181 iv3_k181 iv4_k181 hm_k181
                    exact absurd hm_k181 (by omega)
                  | succ n ih_k181 =>
                    intro u180 H locs ls at_k181 en_k181 hO hl hJ hT hat_k181 hen_k181 iv0_k181 iv1_k181 iv2_k181 iv3_k181 iv4_k181 hm_k181
                    refine lv_aload_n hx hb dX11_goOn_119 rfl (lv_at hl 1 rfl) ?_
                    refine lv_aload_n hx hb dX11_goOn_120 rfl (lv_at hl 1 rfl) ?_
                    refine gf_RX11_198 (v := .int en_k181) C hO 0 mW_0 (congrArg (fun z : Int32 => some (Value.int z)) hen_k181) dX11_goOn_121 ?_
                    refine cVi (w := mW cy a) (As := [.int en_k181]) (rest := []) C hO (T_X11_sign l D cy a _ (by exact hJ) (en_k181) (by first | omega | decide)) (cwV 1 ht (gV wd_1560 wd_1562 wd_49 wd_121 wd_1563) rfl rfl rfl hd_yX11_sign ⟨Nat.le_of_ble_eq_true rfl, Nat.le_of_ble_eq_true rfl⟩) 0 rfl mW_0 rfl rfl hl.1 (Nat.le_of_ble_eq_true rfl) dX11_goOn_124 rfl ⟨Nat.zero_le _, Nat.zero_le _⟩ (fun r182 u183 H locs hp184 hO => ?_)
                    obtain ⟨hr182, hu183⟩ := hp184
                    rw [hu183] at hO
                    have g185 : 0 ≤ (fI u 0 3).toInt ∧ (fI u 0 3).toInt ≤ 1600 := by have h := MI_3 hJ0; exact h
                    have gr182 : (0 ≤ r182.toInt ∧ r182.toInt ≤ 255) ∧ (r182.toInt = 0 ∨ (en_k181 : Int32).toInt < ((fI u 0 3)).toInt) := by have h := sgF_r hr182; rw [(Km26_I3 hT)] at h; exact h
                    have hr182 : r182 = sgF u en_k181 := hr182.trans (sgF_eq (Km26_A2 hT) (Km26_I3 hT))
                    refine cSi (w := mW cy a) (As := [.int r182]) (rest := []) C hO (T_X11_isLetter l D cy a _ (by exact hJ) (r182)) (va_cwS 1 ht (gSS wd_1564 wd_1565 wd_121 wd_1566) rfl rfl rfl hd_yX11_isLetter ⟨Nat.le_of_ble_eq_true rfl, Nat.le_of_ble_eq_true rfl⟩)  rfl hl.1 (Nat.le_of_ble_eq_true rfl) dX11_goOn_127 rfl ⟨Nat.zero_le _, Nat.zero_le _⟩ (fun r186 u187 H locs hp188 hO => ?_)
                    obtain ⟨hr186, hu187⟩ := hp188
                    rw [hu187] at hO
                    rcases hr186 with ⟨hcr186, hvr186⟩ | ⟨hcr186, hvr186⟩
                    · subst hvr186
                      refine bn_eq (X := 1) hx hb dX11_goOn_130 rfl (by omega) ?_ (tgt := 146) (by decide)
                      refine lv_aload_n hx hb dX11_goOn_133 rfl (lv_at hl 1 rfl) ?_
                      refine lv_dup hx hb dX11_goOn_134 rfl ?_
                      refine gf_RX11_198 (v := .int en_k181) C hO 0 mW_0 (congrArg (fun z : Int32 => some (Value.int z)) hen_k181) dX11_goOn_135 ?_
                      refine lv_iconst (v := 1) hx hb dX11_goOn_138 (by decide) ?_
                      refine lv_iadd hx hb dX11_goOn_139 ?_
                      refine lv_topi (fun z189 ez189 => ?_)
                      have e190 : z189.toInt = (en_k181).toInt + 1 := by rw [ez189]; exact i_add rfl rfl (by omega)
                      refine pf_RX11_198 C hO 0 mW_0 (Nat.le_of_ble_eq_true rfl) mW_s0_7 dX11_goOn_140 (fun H locs hO => ?_)
                      have hT := Km26_wI7 (x := z189) hT
                      have hJ := MIs_7 (v := z189) hJ (by first | decide | omega)
                      refine lv_goto (tgt := 119) hx hb dX11_goOn_143 (by decide) ?_
                      exact ih_k181 _ _ _ _ (at_k181) (z189) hO (lv_sub hl [0, 1] rfl) (by exact hJ) (by exact hT) (by exact hat_k181) (by exact rfl) (by first | decide | omega) (by first | decide | omega) (by first | decide | omega) (by first | decide | omega) (by first | decide | omega) (by first | decide | omega)
                    · subst hvr186
                      refine bt_eq (tgt := 146) (X := 0) hx hb dX11_goOn_130 (by decide) rfl (by omega) ?_
                      refine lv_aload_n hx hb dX11_goOn_146 rfl (lv_at hl 1 rfl) ?_
                      refine lv_lconst (v := 0) hx hb dX11_goOn_147 rfl ?_
                      refine pf_RX11_215 C hO 0 mW_0 (Nat.le_of_ble_eq_true rfl) mW_s0_10 dX11_goOn_148 (fun H locs hO => ?_)
                      have hT := Km26_wL10 (x := 0) hT
                      have hJ := MIs_10 (v := 0) hJ
                      refine lv_aload_n hx hb dX11_goOn_151 rfl (lv_at hl 1 rfl) ?_
                      refine gf_RX11_201 (v := .int at_k181) C hO 0 mW_0 (congrArg (fun z : Int32 => some (Value.int z)) hat_k181) dX11_goOn_152 ?_
                      refine lv_istore_n (lv' := [(2, .int at_k181), (1, .int r171), (0, .ref (a 0))]) hx hb dX11_goOn_155 rfl hl (by decide) rfl (fun ls hl => ?_)
                      have LP_156_k192 : ∀ (n : Nat) (u191 : St) (H : Heap) (locs : List Loc) (ls : Array Slot) (k_k192 : Int32) (at_k192 : Int32) (en_k192 : Int32), Wo D A (mW cy a u191) s.heap H locs → lv_has ls 3 [(2, .int k_k192), (1, .int r171), (0, .ref (a 0))] → MI a u191 → Km26 u u191 → fI u191 0 6 = at_k192 → fI u191 0 7 = en_k192 → at_k192.toInt < en_k192.toInt → en_k192.toInt ≤ (fI u 0 3).toInt → (fI u 0 7).toInt ≤ at_k192.toInt → 0 ≤ k_k192.toInt ∧ k_k192.toInt ≤ 1601 → 0 ≤ at_k192.toInt ∧ at_k192.toInt ≤ 1600 → 0 ≤ en_k192.toInt ∧ en_k192.toInt ≤ 1601 → 1601 - k_k192.toInt < (n : Int) → W p l e (rmo 1 22) s m [.ref (a 0)].toArray below meth c H locs 0 0 Q (F0 m 156 ls []) := by
                        intro n
                        induction n with
                        | zero =>
                          intro u191 H locs ls k_k192 at_k192 en_k192 hO hl hJ hT hat_k192 hen_k192 iv0_k192 iv1_k192 iv2_k192 iv3_k192 iv4_k192 iv5_k192 hm_k192
                          exact absurd hm_k192 (by omega)
                        | succ n ih_k192 =>
                          intro u191 H locs ls k_k192 at_k192 en_k192 hO hl hJ hT hat_k192 hen_k192 iv0_k192 iv1_k192 iv2_k192 iv3_k192 iv4_k192 iv5_k192 hm_k192
                          refine lv_iload_n hx hb dX11_goOn_156 rfl (lv_at hl 0 rfl) ?_
                          refine lv_aload_n hx hb dX11_goOn_157 rfl (lv_at hl 2 rfl) ?_
                          refine gf_RX11_198 (v := .int en_k192) C hO 0 mW_0 (congrArg (fun z : Int32 => some (Value.int z)) hen_k192) dX11_goOn_158 ?_
                          refine cs_ge (tgt := 199) (X := (k_k192).toInt) (Y := (en_k192).toInt) hx hb dX11_goOn_161 (by decide) rfl rfl (fun c193 => ?_) (fun c193 => ?_)
                          · refine lv_aload_n hx hb dX11_goOn_199 rfl (lv_at hl 2 rfl) ?_
                            refine lv_aload_n hx hb dX11_goOn_200 rfl (lv_at hl 2 rfl) ?_
                            refine gf_RX11_198 (v := .int en_k192) C hO 0 mW_0 (congrArg (fun z : Int32 => some (Value.int z)) hen_k192) dX11_goOn_201 ?_
                            refine lv_aload_n hx hb dX11_goOn_204 rfl (lv_at hl 2 rfl) ?_
                            refine gf_RX11_201 (v := .int at_k192) C hO 0 mW_0 (congrArg (fun z : Int32 => some (Value.int z)) hat_k192) dX11_goOn_205 ?_
                            refine lv_isub hx hb dX11_goOn_208 ?_
                            refine lv_topi (fun z194 ez194 => ?_)
                            have e195 : z194.toInt = (en_k192).toInt - (at_k192).toInt := by rw [ez194]; exact i_sub rfl rfl (by omega)
                            refine lv_bipush (v := 8) hx hb dX11_goOn_209 (by decide) ?_
                            refine cs_le (tgt := 218) (X := ((en_k192).toInt - (at_k192).toInt)) (Y := 8) hx hb dX11_goOn_211 (by decide) e195 rfl (fun c196 => ?_) (fun c196 => ?_)
                            · refine lv_aload_n hx hb dX11_goOn_218 rfl (lv_at hl 2 rfl) ?_
                              refine gf_RX11_215 (v := .long ((fL u191 0 10))) C hO 0 mW_0 rfl dX11_goOn_219 ?_
                              refine cSi (w := mW cy a) (As := [.long ((fL u191 0 10))]) (rest := [.ref (a 0)]) C hO (T_X11_isKept l D cy a _ (by exact hJ) ((fL u191 0 10))) (va_cwS 1 ht (gSS wd_1567 wd_1568 wd_121 wd_1569) rfl rfl rfl hd_yX11_isKept ⟨Nat.le_of_ble_eq_true rfl, Nat.le_of_ble_eq_true rfl⟩)  rfl hl.1 (Nat.le_of_ble_eq_true rfl) dX11_goOn_222 rfl ⟨Nat.zero_le _, Nat.zero_le _⟩ (fun r197 u198 H locs hp199 hO => ?_)
                              obtain ⟨hr197, hu198⟩ := hp199
                              have gr197 : 0 ≤ r197.toInt ∧ r197.toInt ≤ 1 := by rcases hr197 with h | h <;> rw [h] <;> decide
                              rw [hu198] at hO
                              refine bs_eq (tgt := 232) (X := (r197).toInt) hx hb dX11_goOn_225 (by decide) rfl (fun c200 => ?_) (fun c200 => ?_)
                              · refine lv_iconst (v := 2) hx hb dX11_goOn_232 (by decide) ?_
                                refine pf_RX11_208 C hO 0 mW_0 (Nat.le_of_ble_eq_true rfl) mW_s0_8 dX11_goOn_233 (fun H locs hO => ?_)
                                have hT := Km26_wI8 (x := 2) hT
                                have hJ := MIs_8 (v := 2) hJ (by first | decide | omega)
                                refine lv_goto (tgt := 377) hx hb dX11_goOn_236 (by decide) ?_
                                have g201 : 0 ≤ (fI u 0 3).toInt ∧ (fI u 0 3).toInt ≤ 1600 := by have h := MI_3 hJ0; exact h
                                have q202 : (en_k192 : Int32).toInt ≤ ((fI u 0 3) : Int32).toInt := by first | omega | decide
                                have q203 : (at_k192 : Int32).toInt ≤ (en_k192 : Int32).toInt := by first | omega | decide
                                have q204 : (2 : Int32).toInt = 0 ∨ (at_k192 : Int32).toInt < (en_k192 : Int32).toInt := by have zc0 : (2 : Int32).toInt = 2 := rfl; first | omega | decide
                                have g205 : 0 ≤ (fI u 0 7).toInt ∧ (fI u 0 7).toInt ≤ 1601 := by have h := MI_7 hJ0; exact h
                                have q206 : ((fI u 0 7) : Int32).toInt ≤ (at_k192 : Int32).toInt := by first | omega | decide
                                refine hret _ _ _ _ _ dX11_goOn_377 ?_ hO
                                exact ⟨hJ, hT, (show (fI u191 0 7 : Int32).toInt ≤ (fI u191 0 3 : Int32).toInt from by rw [show fI u191 0 7 = en_k192 from hen_k192, show fI u191 0 3 = (fI u 0 3) from (Km26_I3 hT)]; first | done | exact q202), (show (fI u191 0 6 : Int32).toInt ≤ (fI u191 0 7 : Int32).toInt from by rw [show fI u191 0 6 = at_k192 from hat_k192, show fI u191 0 7 = en_k192 from hen_k192]; first | done | exact q203), (show (2 : Int32).toInt = 0 ∨ (fI u191 0 6 : Int32).toInt < (fI u191 0 7 : Int32).toInt from by rw [show fI u191 0 6 = at_k192 from hat_k192, show fI u191 0 7 = en_k192 from hen_k192]; first | done | exact q204), (show ((fI u 0 7) : Int32).toInt ≤ (fI u191 0 6 : Int32).toInt from by rw [show fI u191 0 6 = at_k192 from hat_k192]; first | done | exact q206)⟩
                              · refine lv_iconst (v := 3) hx hb dX11_goOn_228 (by decide) ?_
                                refine lv_goto (tgt := 233) hx hb dX11_goOn_229 (by decide) ?_
                                refine pf_RX11_208 C hO 0 mW_0 (Nat.le_of_ble_eq_true rfl) mW_s0_8 dX11_goOn_233 (fun H locs hO => ?_)
                                have hT := Km26_wI8 (x := 3) hT
                                have hJ := MIs_8 (v := 3) hJ (by first | decide | omega)
                                refine lv_goto (tgt := 377) hx hb dX11_goOn_236 (by decide) ?_
                                have g207 : 0 ≤ (fI u 0 3).toInt ∧ (fI u 0 3).toInt ≤ 1600 := by have h := MI_3 hJ0; exact h
                                have q208 : (en_k192 : Int32).toInt ≤ ((fI u 0 3) : Int32).toInt := by first | omega | decide
                                have q209 : (at_k192 : Int32).toInt ≤ (en_k192 : Int32).toInt := by first | omega | decide
                                have q210 : (3 : Int32).toInt = 0 ∨ (at_k192 : Int32).toInt < (en_k192 : Int32).toInt := by have zc0 : (3 : Int32).toInt = 3 := rfl; first | omega | decide
                                have g211 : 0 ≤ (fI u 0 7).toInt ∧ (fI u 0 7).toInt ≤ 1601 := by have h := MI_7 hJ0; exact h
                                have q212 : ((fI u 0 7) : Int32).toInt ≤ (at_k192 : Int32).toInt := by first | omega | decide
                                refine hret _ _ _ _ _ dX11_goOn_377 ?_ hO
                                exact ⟨hJ, hT, (show (fI u191 0 7 : Int32).toInt ≤ (fI u191 0 3 : Int32).toInt from by rw [show fI u191 0 7 = en_k192 from hen_k192, show fI u191 0 3 = (fI u 0 3) from (Km26_I3 hT)]; first | done | exact q208), (show (fI u191 0 6 : Int32).toInt ≤ (fI u191 0 7 : Int32).toInt from by rw [show fI u191 0 6 = at_k192 from hat_k192, show fI u191 0 7 = en_k192 from hen_k192]; first | done | exact q209), (show (3 : Int32).toInt = 0 ∨ (fI u191 0 6 : Int32).toInt < (fI u191 0 7 : Int32).toInt from by rw [show fI u191 0 6 = at_k192 from hat_k192, show fI u191 0 7 = en_k192 from hen_k192]; first | done | exact q210), (show ((fI u 0 7) : Int32).toInt ≤ (fI u191 0 6 : Int32).toInt from by rw [show fI u191 0 6 = at_k192 from hat_k192]; first | done | exact q212)⟩
                            · refine lv_iconst (v := 1) hx hb dX11_goOn_214 (by decide) ?_
                              refine lv_goto (tgt := 233) hx hb dX11_goOn_215 (by decide) ?_
                              refine pf_RX11_208 C hO 0 mW_0 (Nat.le_of_ble_eq_true rfl) mW_s0_8 dX11_goOn_233 (fun H locs hO => ?_)
                              have hT := Km26_wI8 (x := 1) hT
                              have hJ := MIs_8 (v := 1) hJ (by first | decide | omega)
                              refine lv_goto (tgt := 377) hx hb dX11_goOn_236 (by decide) ?_
                              have g213 : 0 ≤ (fI u 0 3).toInt ∧ (fI u 0 3).toInt ≤ 1600 := by have h := MI_3 hJ0; exact h
                              have q214 : (en_k192 : Int32).toInt ≤ ((fI u 0 3) : Int32).toInt := by first | omega | decide
                              have q215 : (at_k192 : Int32).toInt ≤ (en_k192 : Int32).toInt := by first | omega | decide
                              have q216 : (1 : Int32).toInt = 0 ∨ (at_k192 : Int32).toInt < (en_k192 : Int32).toInt := by have zc0 : (1 : Int32).toInt = 1 := rfl; first | omega | decide
                              have g217 : 0 ≤ (fI u 0 7).toInt ∧ (fI u 0 7).toInt ≤ 1601 := by have h := MI_7 hJ0; exact h
                              have q218 : ((fI u 0 7) : Int32).toInt ≤ (at_k192 : Int32).toInt := by first | omega | decide
                              refine hret _ _ _ _ _ dX11_goOn_377 ?_ hO
                              exact ⟨hJ, hT, (show (fI u191 0 7 : Int32).toInt ≤ (fI u191 0 3 : Int32).toInt from by rw [show fI u191 0 7 = en_k192 from hen_k192, show fI u191 0 3 = (fI u 0 3) from (Km26_I3 hT)]; first | done | exact q214), (show (fI u191 0 6 : Int32).toInt ≤ (fI u191 0 7 : Int32).toInt from by rw [show fI u191 0 6 = at_k192 from hat_k192, show fI u191 0 7 = en_k192 from hen_k192]; first | done | exact q215), (show (1 : Int32).toInt = 0 ∨ (fI u191 0 6 : Int32).toInt < (fI u191 0 7 : Int32).toInt from by rw [show fI u191 0 6 = at_k192 from hat_k192, show fI u191 0 7 = en_k192 from hen_k192]; first | done | exact q216), (show ((fI u 0 7) : Int32).toInt ≤ (fI u191 0 6 : Int32).toInt from by rw [show fI u191 0 6 = at_k192 from hat_k192]; first | done | exact q218)⟩
                          · refine lv_iload_n hx hb dX11_goOn_164 rfl (lv_at hl 0 rfl) ?_
                            refine lv_aload_n hx hb dX11_goOn_165 rfl (lv_at hl 2 rfl) ?_
                            refine gf_RX11_201 (v := .int at_k192) C hO 0 mW_0 (congrArg (fun z : Int32 => some (Value.int z)) hat_k192) dX11_goOn_166 ?_
                            refine lv_bipush (v := 8) hx hb dX11_goOn_169 (by decide) ?_
                            refine lv_iadd hx hb dX11_goOn_171 ?_
                            refine lv_topi (fun z219 ez219 => ?_)
                            have e220 : z219.toInt = (at_k192).toInt + 8 := by rw [ez219]; exact i_add rfl rfl (by omega)
                            refine cs_ge (tgt := 199) (X := (k_k192).toInt) (Y := ((at_k192).toInt + 8)) hx hb dX11_goOn_172 (by decide) rfl e220 (fun c221 => ?_) (fun c221 => ?_)
                            · refine lv_aload_n hx hb dX11_goOn_199 rfl (lv_at hl 2 rfl) ?_
                              refine lv_aload_n hx hb dX11_goOn_200 rfl (lv_at hl 2 rfl) ?_
                              refine gf_RX11_198 (v := .int en_k192) C hO 0 mW_0 (congrArg (fun z : Int32 => some (Value.int z)) hen_k192) dX11_goOn_201 ?_
                              refine lv_aload_n hx hb dX11_goOn_204 rfl (lv_at hl 2 rfl) ?_
                              refine gf_RX11_201 (v := .int at_k192) C hO 0 mW_0 (congrArg (fun z : Int32 => some (Value.int z)) hat_k192) dX11_goOn_205 ?_
                              refine lv_isub hx hb dX11_goOn_208 ?_
                              refine lv_topi (fun z222 ez222 => ?_)
                              have e223 : z222.toInt = (en_k192).toInt - (at_k192).toInt := by rw [ez222]; exact i_sub rfl rfl (by omega)
                              refine lv_bipush (v := 8) hx hb dX11_goOn_209 (by decide) ?_
                              refine cs_le (tgt := 218) (X := ((en_k192).toInt - (at_k192).toInt)) (Y := 8) hx hb dX11_goOn_211 (by decide) e223 rfl (fun c224 => ?_) (fun c224 => ?_)
                              · refine lv_aload_n hx hb dX11_goOn_218 rfl (lv_at hl 2 rfl) ?_
                                refine gf_RX11_215 (v := .long ((fL u191 0 10))) C hO 0 mW_0 rfl dX11_goOn_219 ?_
                                refine cSi (w := mW cy a) (As := [.long ((fL u191 0 10))]) (rest := [.ref (a 0)]) C hO (T_X11_isKept l D cy a _ (by exact hJ) ((fL u191 0 10))) (va_cwS 1 ht (gSS wd_1567 wd_1568 wd_121 wd_1569) rfl rfl rfl hd_yX11_isKept ⟨Nat.le_of_ble_eq_true rfl, Nat.le_of_ble_eq_true rfl⟩)  rfl hl.1 (Nat.le_of_ble_eq_true rfl) dX11_goOn_222 rfl ⟨Nat.zero_le _, Nat.zero_le _⟩ (fun r225 u226 H locs hp227 hO => ?_)
                                obtain ⟨hr225, hu226⟩ := hp227
                                have gr225 : 0 ≤ r225.toInt ∧ r225.toInt ≤ 1 := by rcases hr225 with h | h <;> rw [h] <;> decide
                                rw [hu226] at hO
                                refine bs_eq (tgt := 232) (X := (r225).toInt) hx hb dX11_goOn_225 (by decide) rfl (fun c228 => ?_) (fun c228 => ?_)
                                · refine lv_iconst (v := 2) hx hb dX11_goOn_232 (by decide) ?_
                                  refine pf_RX11_208 C hO 0 mW_0 (Nat.le_of_ble_eq_true rfl) mW_s0_8 dX11_goOn_233 (fun H locs hO => ?_)
                                  have hT := Km26_wI8 (x := 2) hT
                                  have hJ := MIs_8 (v := 2) hJ (by first | decide | omega)
                                  refine lv_goto (tgt := 377) hx hb dX11_goOn_236 (by decide) ?_
                                  have g229 : 0 ≤ (fI u 0 3).toInt ∧ (fI u 0 3).toInt ≤ 1600 := by have h := MI_3 hJ0; exact h
                                  have q230 : (en_k192 : Int32).toInt ≤ ((fI u 0 3) : Int32).toInt := by first | omega | decide
                                  have q231 : (at_k192 : Int32).toInt ≤ (en_k192 : Int32).toInt := by first | omega | decide
                                  have q232 : (2 : Int32).toInt = 0 ∨ (at_k192 : Int32).toInt < (en_k192 : Int32).toInt := by have zc0 : (2 : Int32).toInt = 2 := rfl; first | omega | decide
                                  have g233 : 0 ≤ (fI u 0 7).toInt ∧ (fI u 0 7).toInt ≤ 1601 := by have h := MI_7 hJ0; exact h
                                  have q234 : ((fI u 0 7) : Int32).toInt ≤ (at_k192 : Int32).toInt := by first | omega | decide
                                  refine hret _ _ _ _ _ dX11_goOn_377 ?_ hO
                                  exact ⟨hJ, hT, (show (fI u191 0 7 : Int32).toInt ≤ (fI u191 0 3 : Int32).toInt from by rw [show fI u191 0 7 = en_k192 from hen_k192, show fI u191 0 3 = (fI u 0 3) from (Km26_I3 hT)]; first | done | exact q230), (show (fI u191 0 6 : Int32).toInt ≤ (fI u191 0 7 : Int32).toInt from by rw [show fI u191 0 6 = at_k192 from hat_k192, show fI u191 0 7 = en_k192 from hen_k192]; first | done | exact q231), (show (2 : Int32).toInt = 0 ∨ (fI u191 0 6 : Int32).toInt < (fI u191 0 7 : Int32).toInt from by rw [show fI u191 0 6 = at_k192 from hat_k192, show fI u191 0 7 = en_k192 from hen_k192]; first | done | exact q232), (show ((fI u 0 7) : Int32).toInt ≤ (fI u191 0 6 : Int32).toInt from by rw [show fI u191 0 6 = at_k192 from hat_k192]; first | done | exact q234)⟩
                                · refine lv_iconst (v := 3) hx hb dX11_goOn_228 (by decide) ?_
                                  refine lv_goto (tgt := 233) hx hb dX11_goOn_229 (by decide) ?_
                                  refine pf_RX11_208 C hO 0 mW_0 (Nat.le_of_ble_eq_true rfl) mW_s0_8 dX11_goOn_233 (fun H locs hO => ?_)
                                  have hT := Km26_wI8 (x := 3) hT
                                  have hJ := MIs_8 (v := 3) hJ (by first | decide | omega)
                                  refine lv_goto (tgt := 377) hx hb dX11_goOn_236 (by decide) ?_
                                  have g235 : 0 ≤ (fI u 0 3).toInt ∧ (fI u 0 3).toInt ≤ 1600 := by have h := MI_3 hJ0; exact h
                                  have q236 : (en_k192 : Int32).toInt ≤ ((fI u 0 3) : Int32).toInt := by first | omega | decide
                                  have q237 : (at_k192 : Int32).toInt ≤ (en_k192 : Int32).toInt := by first | omega | decide
                                  have q238 : (3 : Int32).toInt = 0 ∨ (at_k192 : Int32).toInt < (en_k192 : Int32).toInt := by have zc0 : (3 : Int32).toInt = 3 := rfl; first | omega | decide
                                  have g239 : 0 ≤ (fI u 0 7).toInt ∧ (fI u 0 7).toInt ≤ 1601 := by have h := MI_7 hJ0; exact h
                                  have q240 : ((fI u 0 7) : Int32).toInt ≤ (at_k192 : Int32).toInt := by first | omega | decide
                                  refine hret _ _ _ _ _ dX11_goOn_377 ?_ hO
                                  exact ⟨hJ, hT, (show (fI u191 0 7 : Int32).toInt ≤ (fI u191 0 3 : Int32).toInt from by rw [show fI u191 0 7 = en_k192 from hen_k192, show fI u191 0 3 = (fI u 0 3) from (Km26_I3 hT)]; first | done | exact q236), (show (fI u191 0 6 : Int32).toInt ≤ (fI u191 0 7 : Int32).toInt from by rw [show fI u191 0 6 = at_k192 from hat_k192, show fI u191 0 7 = en_k192 from hen_k192]; first | done | exact q237), (show (3 : Int32).toInt = 0 ∨ (fI u191 0 6 : Int32).toInt < (fI u191 0 7 : Int32).toInt from by rw [show fI u191 0 6 = at_k192 from hat_k192, show fI u191 0 7 = en_k192 from hen_k192]; first | done | exact q238), (show ((fI u 0 7) : Int32).toInt ≤ (fI u191 0 6 : Int32).toInt from by rw [show fI u191 0 6 = at_k192 from hat_k192]; first | done | exact q240)⟩
                              · refine lv_iconst (v := 1) hx hb dX11_goOn_214 (by decide) ?_
                                refine lv_goto (tgt := 233) hx hb dX11_goOn_215 (by decide) ?_
                                refine pf_RX11_208 C hO 0 mW_0 (Nat.le_of_ble_eq_true rfl) mW_s0_8 dX11_goOn_233 (fun H locs hO => ?_)
                                have hT := Km26_wI8 (x := 1) hT
                                have hJ := MIs_8 (v := 1) hJ (by first | decide | omega)
                                refine lv_goto (tgt := 377) hx hb dX11_goOn_236 (by decide) ?_
                                have g241 : 0 ≤ (fI u 0 3).toInt ∧ (fI u 0 3).toInt ≤ 1600 := by have h := MI_3 hJ0; exact h
                                have q242 : (en_k192 : Int32).toInt ≤ ((fI u 0 3) : Int32).toInt := by first | omega | decide
                                have q243 : (at_k192 : Int32).toInt ≤ (en_k192 : Int32).toInt := by first | omega | decide
                                have q244 : (1 : Int32).toInt = 0 ∨ (at_k192 : Int32).toInt < (en_k192 : Int32).toInt := by have zc0 : (1 : Int32).toInt = 1 := rfl; first | omega | decide
                                have g245 : 0 ≤ (fI u 0 7).toInt ∧ (fI u 0 7).toInt ≤ 1601 := by have h := MI_7 hJ0; exact h
                                have q246 : ((fI u 0 7) : Int32).toInt ≤ (at_k192 : Int32).toInt := by first | omega | decide
                                refine hret _ _ _ _ _ dX11_goOn_377 ?_ hO
                                exact ⟨hJ, hT, (show (fI u191 0 7 : Int32).toInt ≤ (fI u191 0 3 : Int32).toInt from by rw [show fI u191 0 7 = en_k192 from hen_k192, show fI u191 0 3 = (fI u 0 3) from (Km26_I3 hT)]; first | done | exact q242), (show (fI u191 0 6 : Int32).toInt ≤ (fI u191 0 7 : Int32).toInt from by rw [show fI u191 0 6 = at_k192 from hat_k192, show fI u191 0 7 = en_k192 from hen_k192]; first | done | exact q243), (show (1 : Int32).toInt = 0 ∨ (fI u191 0 6 : Int32).toInt < (fI u191 0 7 : Int32).toInt from by rw [show fI u191 0 6 = at_k192 from hat_k192, show fI u191 0 7 = en_k192 from hen_k192]; first | done | exact q244), (show ((fI u 0 7) : Int32).toInt ≤ (fI u191 0 6 : Int32).toInt from by rw [show fI u191 0 6 = at_k192 from hat_k192]; first | done | exact q246)⟩
                            · refine lv_aload_n hx hb dX11_goOn_175 rfl (lv_at hl 2 rfl) ?_
                              refine lv_aload_n hx hb dX11_goOn_176 rfl (lv_at hl 2 rfl) ?_
                              refine gf_RX11_215 (v := .long ((fL u191 0 10))) C hO 0 mW_0 rfl dX11_goOn_177 ?_
                              refine lv_bipush (v := 8) hx hb dX11_goOn_180 (by decide) ?_
                              refine lv_lshl hx hb dX11_goOn_182 rfl ?_
                              refine lv_topl (fun w247 ew247 => ?_)
                              refine lv_aload_n hx hb dX11_goOn_183 rfl (lv_at hl 2 rfl) ?_
                              refine lv_iload_n hx hb dX11_goOn_184 rfl (lv_at hl 0 rfl) ?_
                              refine cVi (w := mW cy a) (As := [.int k_k192]) (rest := [.long w247, .ref (a 0)]) C hO (T_X11_sign l D cy a _ (by exact hJ) (k_k192) (by first | omega | decide)) (cwV 1 ht (gV wd_1560 wd_1562 wd_49 wd_121 wd_1563) rfl rfl rfl hd_yX11_sign ⟨Nat.le_of_ble_eq_true rfl, Nat.le_of_ble_eq_true rfl⟩) 0 rfl mW_0 rfl rfl hl.1 (Nat.le_of_ble_eq_true rfl) dX11_goOn_185 rfl ⟨Nat.zero_le _, Nat.zero_le _⟩ (fun r248 u249 H locs hp250 hO => ?_)
                              obtain ⟨hr248, hu249⟩ := hp250
                              rw [hu249] at hO
                              have g251 : 0 ≤ (fI u 0 3).toInt ∧ (fI u 0 3).toInt ≤ 1600 := by have h := MI_3 hJ0; exact h
                              have gr248 : (0 ≤ r248.toInt ∧ r248.toInt ≤ 255) ∧ (r248.toInt = 0 ∨ (k_k192 : Int32).toInt < ((fI u 0 3)).toInt) := by have h := sgF_r hr248; rw [(Km26_I3 hT)] at h; exact h
                              have hr248 : r248 = sgF u k_k192 := hr248.trans (sgF_eq (Km26_A2 hT) (Km26_I3 hT))
                              refine lv_i2l hx hb dX11_goOn_188 rfl ?_
                              refine lv_topl (fun w252 ew252 => ?_)
                              refine lv_lor hx hb dX11_goOn_189 ?_
                              refine lv_topl (fun w253 ew253 => ?_)
                              refine pf_RX11_215 C hO 0 mW_0 (Nat.le_of_ble_eq_true rfl) mW_s0_10 dX11_goOn_190 (fun H locs hO => ?_)
                              have hT := Km26_wL10 (x := w253) hT
                              have hJ := MIs_10 (v := w253) hJ
                              obtain ⟨z254, ez254⟩ : ∃ z : Int32, z = k_k192 + Int32.ofInt 1 := ⟨_, rfl⟩
                              have e255 : z254.toInt = (k_k192).toInt + 1 := by rw [ez254]; exact i_add rfl rfl (by omega)
                              refine lv_iinc (v := z254) (lv' := [(2, .int z254), (1, .int r171), (0, .ref (a 0))]) hx hb dX11_goOn_193 hl (k := 0) rfl ez254.symm (by decide) rfl (fun ls hl => ?_)
                              refine lv_goto (tgt := 156) hx hb dX11_goOn_196 (by decide) ?_
                              exact ih_k192 _ _ _ _ (z254) (at_k192) (en_k192) hO (lv_sub hl [0, 1, 2] rfl) (by exact hJ) (by exact hT) (by exact hat_k192) (by exact hen_k192) (by first | decide | omega) (by first | decide | omega) (by first | decide | omega) (by first | decide | omega) (by first | decide | omega) (by first | decide | omega) (by first | decide | omega)
                      exact LP_156_k192 4000 _ _ _ _ (at_k181) (at_k181) (en_k181) hO (lv_sub hl [0, 1, 2] rfl) (by exact hJ) (by exact hT) (by exact hat_k181) (by exact hen_k181) (by first | decide | omega) (by first | decide | omega) (by first | decide | omega) (by first | decide | omega) (by first | decide | omega) (by first | decide | omega) (by first | decide | omega)
                exact LP_119_k181 4000 _ _ _ _ (at_k4) (z174) hO (lv_sub hl [0, 1] rfl) (by exact hJ) (by exact hT) (by exact hat_k4) (by exact rfl) (by first | decide | omega) (by first | decide | omega) (by first | decide | omega) (by first | decide | omega) (by first | decide | omega) (by first | decide | omega)
              · subst hvr177
                refine bt_eq (tgt := 239) (X := 0) hx hb dX11_goOn_116 (by decide) rfl (by omega) ?_
                refine lv_iload_n hx hb dX11_goOn_239 rfl (lv_at hl 0 rfl) ?_
                refine cSi (w := mW cy a) (As := [.int r171]) (rest := []) C hO (T_X11_isDigit l D cy a _ (by exact hJ) (r171)) (va_cwS 1 ht (gSS wd_1590 wd_1591 wd_121 wd_1592) rfl rfl rfl hd_yX11_isDigit ⟨Nat.le_of_ble_eq_true rfl, Nat.le_of_ble_eq_true rfl⟩)  rfl hl.1 (Nat.le_of_ble_eq_true rfl) dX11_goOn_240 rfl ⟨Nat.zero_le _, Nat.zero_le _⟩ (fun r256 u257 H locs hp258 hO => ?_)
                obtain ⟨hr256, hu257⟩ := hp258
                rw [hu257] at hO
                rcases hr256 with ⟨hcr256, hvr256⟩ | ⟨hcr256, hvr256⟩
                · subst hvr256
                  refine bn_eq (X := 1) hx hb dX11_goOn_243 rfl (by omega) ?_ (tgt := 361) (by decide)
                  refine lv_aload_n hx hb dX11_goOn_246 rfl (lv_at hl 1 rfl) ?_
                  refine lv_iconst (v := 0) hx hb dX11_goOn_247 (by decide) ?_
                  refine pf_RX11_226 C hO 0 mW_0 (Nat.le_of_ble_eq_true rfl) mW_s0_9 dX11_goOn_248 (fun H locs hO => ?_)
                  have hT := Km26_wI9 (x := 0) hT
                  have hJ := MIs_9 (v := 0) hJ
                  refine lv_aload_n hx hb dX11_goOn_251 rfl (lv_at hl 1 rfl) ?_
                  refine lv_aload_n hx hb dX11_goOn_252 rfl (lv_at hl 1 rfl) ?_
                  refine gf_RX11_201 (v := .int at_k4) C hO 0 mW_0 (congrArg (fun z : Int32 => some (Value.int z)) hat_k4) dX11_goOn_253 ?_
                  refine pf_RX11_198 C hO 0 mW_0 (Nat.le_of_ble_eq_true rfl) mW_s0_7 dX11_goOn_256 (fun H locs hO => ?_)
                  have hT := Km26_wI7 (x := at_k4) hT
                  have hJ := MIs_7 (v := at_k4) hJ (by first | decide | omega)
                  have LP_259_k260 : ∀ (n : Nat) (u259 : St) (H : Heap) (locs : List Loc) (ls : Array Slot) (at_k260 : Int32) (en_k260 : Int32), Wo D A (mW cy a u259) s.heap H locs → lv_has ls 3 [(1, .int r171), (0, .ref (a 0))] → MI a u259 → Km26 u u259 → fI u259 0 6 = at_k260 → fI u259 0 7 = en_k260 → at_k260.toInt ≤ en_k260.toInt → en_k260.toInt ≤ (fI u 0 3).toInt → (fI u 0 7).toInt ≤ at_k260.toInt → at_k260.toInt < (fI u 0 3).toInt → 0 ≤ at_k260.toInt ∧ at_k260.toInt ≤ 1600 → 0 ≤ en_k260.toInt ∧ en_k260.toInt ≤ 1601 → (r171 = sgF u at_k260) → 1601 - en_k260.toInt < (n : Int) → W p l e (rmo 1 22) s m [.ref (a 0)].toArray below meth c H locs 0 0 Q (F0 m 259 ls []) := by
                    intro n
                    induction n with
                    | zero =>
                      intro u259 H locs ls at_k260 en_k260 hO hl hJ hT hat_k260 hen_k260 iv0_k260 iv1_k260 iv2_k260 iv3_k260 iv4_k260 iv5_k260 cv0_k260 hm_k260
                      exact absurd hm_k260 (by omega)
                    | succ n ih_k260 =>
                      intro u259 H locs ls at_k260 en_k260 hO hl hJ hT hat_k260 hen_k260 iv0_k260 iv1_k260 iv2_k260 iv3_k260 iv4_k260 iv5_k260 cv0_k260 hm_k260
                      refine lv_aload_n hx hb dX11_goOn_259 rfl (lv_at hl 1 rfl) ?_
                      refine lv_aload_n hx hb dX11_goOn_260 rfl (lv_at hl 1 rfl) ?_
                      refine gf_RX11_198 (v := .int en_k260) C hO 0 mW_0 (congrArg (fun z : Int32 => some (Value.int z)) hen_k260) dX11_goOn_261 ?_
                      refine cVi (w := mW cy a) (As := [.int en_k260]) (rest := []) C hO (T_X11_sign l D cy a _ (by exact hJ) (en_k260) (by first | omega | decide)) (cwV 1 ht (gV wd_1560 wd_1562 wd_49 wd_121 wd_1563) rfl rfl rfl hd_yX11_sign ⟨Nat.le_of_ble_eq_true rfl, Nat.le_of_ble_eq_true rfl⟩) 0 rfl mW_0 rfl rfl hl.1 (Nat.le_of_ble_eq_true rfl) dX11_goOn_264 rfl ⟨Nat.zero_le _, Nat.zero_le _⟩ (fun r261 u262 H locs hp263 hO => ?_)
                      obtain ⟨hr261, hu262⟩ := hp263
                      rw [hu262] at hO
                      have g264 : 0 ≤ (fI u 0 3).toInt ∧ (fI u 0 3).toInt ≤ 1600 := by have h := MI_3 hJ0; exact h
                      have gr261 : (0 ≤ r261.toInt ∧ r261.toInt ≤ 255) ∧ (r261.toInt = 0 ∨ (en_k260 : Int32).toInt < ((fI u 0 3)).toInt) := by have h := sgF_r hr261; rw [(Km26_I3 hT)] at h; exact h
                      have hr261 : r261 = sgF u en_k260 := hr261.trans (sgF_eq (Km26_A2 hT) (Km26_I3 hT))
                      refine cSi (w := mW cy a) (As := [.int r261]) (rest := []) C hO (T_X11_isDigit l D cy a _ (by exact hJ) (r261)) (va_cwS 1 ht (gSS wd_1590 wd_1591 wd_121 wd_1592) rfl rfl rfl hd_yX11_isDigit ⟨Nat.le_of_ble_eq_true rfl, Nat.le_of_ble_eq_true rfl⟩)  rfl hl.1 (Nat.le_of_ble_eq_true rfl) dX11_goOn_267 rfl ⟨Nat.zero_le _, Nat.zero_le _⟩ (fun r265 u266 H locs hp267 hO => ?_)
                      obtain ⟨hr265, hu266⟩ := hp267
                      rw [hu266] at hO
                      rcases hr265 with ⟨hcr265, hvr265⟩ | ⟨hcr265, hvr265⟩
                      · subst hvr265
                        refine bn_eq (X := 1) hx hb dX11_goOn_270 rfl (by omega) ?_ (tgt := 322) (by decide)
                        refine lv_aload_n hx hb dX11_goOn_273 rfl (lv_at hl 1 rfl) ?_
                        refine gf_RX11_198 (v := .int en_k260) C hO 0 mW_0 (congrArg (fun z : Int32 => some (Value.int z)) hen_k260) dX11_goOn_274 ?_
                        refine lv_aload_n hx hb dX11_goOn_277 rfl (lv_at hl 1 rfl) ?_
                        refine gf_RX11_201 (v := .int at_k260) C hO 0 mW_0 (congrArg (fun z : Int32 => some (Value.int z)) hat_k260) dX11_goOn_278 ?_
                        refine lv_isub hx hb dX11_goOn_281 ?_
                        refine lv_topi (fun z268 ez268 => ?_)
                        have e269 : z268.toInt = (en_k260).toInt - (at_k260).toInt := by rw [ez268]; exact i_sub rfl rfl (by omega)
                        refine lv_iconst (v := 4) hx hb dX11_goOn_282 (by decide) ?_
                        refine cs_ge (tgt := 309) (X := ((en_k260).toInt - (at_k260).toInt)) (Y := 4) hx hb dX11_goOn_283 (by decide) e269 rfl (fun c270 => ?_) (fun c270 => ?_)
                        · refine lv_aload_n hx hb dX11_goOn_309 rfl (lv_at hl 1 rfl) ?_
                          refine lv_dup hx hb dX11_goOn_310 rfl ?_
                          refine gf_RX11_198 (v := .int en_k260) C hO 0 mW_0 (congrArg (fun z : Int32 => some (Value.int z)) hen_k260) dX11_goOn_311 ?_
                          refine lv_iconst (v := 1) hx hb dX11_goOn_314 (by decide) ?_
                          refine lv_iadd hx hb dX11_goOn_315 ?_
                          refine lv_topi (fun z271 ez271 => ?_)
                          have e272 : z271.toInt = (en_k260).toInt + 1 := by rw [ez271]; exact i_add rfl rfl (by omega)
                          refine pf_RX11_198 C hO 0 mW_0 (Nat.le_of_ble_eq_true rfl) mW_s0_7 dX11_goOn_316 (fun H locs hO => ?_)
                          have hT := Km26_wI7 (x := z271) hT
                          have hJ := MIs_7 (v := z271) hJ (by first | decide | omega)
                          refine lv_goto (tgt := 259) hx hb dX11_goOn_319 (by decide) ?_
                          exact ih_k260 _ _ _ _ (at_k260) (z271) hO (lv_sub hl [0, 1] rfl) (by exact hJ) (by exact hT) (by exact hat_k260) (by exact rfl) (by first | decide | omega) (by first | decide | omega) (by first | decide | omega) (by first | decide | omega) (by first | decide | omega) (by first | decide | omega) (by exact cv0_k260) (by first | decide | omega)
                        · refine lv_aload_n hx hb dX11_goOn_286 rfl (lv_at hl 1 rfl) ?_
                          refine lv_bipush (v := 10) hx hb dX11_goOn_287 (by decide) ?_
                          refine lv_aload_n hx hb dX11_goOn_289 rfl (lv_at hl 1 rfl) ?_
                          refine gf_RX11_226 (v := .int (fI u259 0 9)) C hO 0 mW_0 rfl dX11_goOn_290 ?_
                          refine lv_imul hx hb dX11_goOn_293 ?_
                          refine lv_topi (fun z273 ez273 => ?_)
                          refine lv_aload_n hx hb dX11_goOn_294 rfl (lv_at hl 1 rfl) ?_
                          refine lv_aload_n hx hb dX11_goOn_295 rfl (lv_at hl 1 rfl) ?_
                          refine gf_RX11_198 (v := .int en_k260) C hO 0 mW_0 (congrArg (fun z : Int32 => some (Value.int z)) hen_k260) dX11_goOn_296 ?_
                          refine cVi (w := mW cy a) (As := [.int en_k260]) (rest := [.int z273, .ref (a 0)]) C hO (T_X11_sign l D cy a _ (by exact hJ) (en_k260) (by first | omega | decide)) (cwV 1 ht (gV wd_1560 wd_1562 wd_49 wd_121 wd_1563) rfl rfl rfl hd_yX11_sign ⟨Nat.le_of_ble_eq_true rfl, Nat.le_of_ble_eq_true rfl⟩) 0 rfl mW_0 rfl rfl hl.1 (Nat.le_of_ble_eq_true rfl) dX11_goOn_299 rfl ⟨Nat.zero_le _, Nat.zero_le _⟩ (fun r274 u275 H locs hp276 hO => ?_)
                          obtain ⟨hr274, hu275⟩ := hp276
                          rw [hu275] at hO
                          have gr274 : (0 ≤ r274.toInt ∧ r274.toInt ≤ 255) ∧ (r274.toInt = 0 ∨ (en_k260 : Int32).toInt < ((fI u 0 3)).toInt) := by have h := sgF_r hr274; rw [(Km26_I3 hT)] at h; exact h
                          have hr274 : r274 = sgF u en_k260 := hr274.trans (sgF_eq (Km26_A2 hT) (Km26_I3 hT))
                          refine lv_iadd hx hb dX11_goOn_302 ?_
                          refine lv_topi (fun z277 ez277 => ?_)
                          refine lv_bipush (v := 48) hx hb dX11_goOn_303 (by decide) ?_
                          refine lv_isub hx hb dX11_goOn_305 ?_
                          refine lv_topi (fun z278 ez278 => ?_)
                          refine pf_RX11_226 C hO 0 mW_0 (Nat.le_of_ble_eq_true rfl) mW_s0_9 dX11_goOn_306 (fun H locs hO => ?_)
                          have hT := Km26_wI9 (x := z278) hT
                          have hJ := MIs_9 (v := z278) hJ
                          refine lv_aload_n hx hb dX11_goOn_309 rfl (lv_at hl 1 rfl) ?_
                          refine lv_dup hx hb dX11_goOn_310 rfl ?_
                          refine gf_RX11_198 (v := .int en_k260) C hO 0 mW_0 (congrArg (fun z : Int32 => some (Value.int z)) hen_k260) dX11_goOn_311 ?_
                          refine lv_iconst (v := 1) hx hb dX11_goOn_314 (by decide) ?_
                          refine lv_iadd hx hb dX11_goOn_315 ?_
                          refine lv_topi (fun z279 ez279 => ?_)
                          have e280 : z279.toInt = (en_k260).toInt + 1 := by rw [ez279]; exact i_add rfl rfl (by omega)
                          refine pf_RX11_198 C hO 0 mW_0 (Nat.le_of_ble_eq_true rfl) mW_s0_7 dX11_goOn_316 (fun H locs hO => ?_)
                          have hT := Km26_wI7 (x := z279) hT
                          have hJ := MIs_7 (v := z279) hJ (by first | decide | omega)
                          refine lv_goto (tgt := 259) hx hb dX11_goOn_319 (by decide) ?_
                          exact ih_k260 _ _ _ _ (at_k260) (z279) hO (lv_sub hl [0, 1] rfl) (by exact hJ) (by exact hT) (by exact hat_k260) (by exact rfl) (by first | decide | omega) (by first | decide | omega) (by first | decide | omega) (by first | decide | omega) (by first | decide | omega) (by first | decide | omega) (by exact cv0_k260) (by first | decide | omega)
                      · subst hvr265
                        refine bt_eq (tgt := 322) (X := 0) hx hb dX11_goOn_270 (by decide) rfl (by omega) ?_
                        have hlt281 : at_k260.toInt < en_k260.toInt := by
                          by_cases q : en_k260.toInt = at_k260.toInt
                          · exfalso
                            have e1 : en_k260 = at_k260 := i32_eq.mpr q
                            rw [e1, ← cv0_k260] at hr261
                            have e2 := congrArg Int32.toInt hr261
                            omega
                          · omega
                        refine lv_aload_n hx hb dX11_goOn_322 rfl (lv_at hl 1 rfl) ?_
                        refine lv_aload_n hx hb dX11_goOn_323 rfl (lv_at hl 1 rfl) ?_
                        refine gf_RX11_198 (v := .int en_k260) C hO 0 mW_0 (congrArg (fun z : Int32 => some (Value.int z)) hen_k260) dX11_goOn_324 ?_
                        refine lv_aload_n hx hb dX11_goOn_327 rfl (lv_at hl 1 rfl) ?_
                        refine gf_RX11_201 (v := .int at_k260) C hO 0 mW_0 (congrArg (fun z : Int32 => some (Value.int z)) hat_k260) dX11_goOn_328 ?_
                        refine lv_isub hx hb dX11_goOn_331 ?_
                        refine lv_topi (fun z282 ez282 => ?_)
                        have e283 : z282.toInt = (en_k260).toInt - (at_k260).toInt := by rw [ez282]; exact i_sub rfl rfl (by omega)
                        refine lv_iconst (v := 4) hx hb dX11_goOn_332 (by decide) ?_
                        refine cs_gt (tgt := 350) (X := ((en_k260).toInt - (at_k260).toInt)) (Y := 4) hx hb dX11_goOn_333 (by decide) e283 rfl (fun c284 => ?_) (fun c284 => ?_)
                        · refine lv_iconst (v := 1) hx hb dX11_goOn_350 (by decide) ?_
                          refine lv_goto (tgt := 355) hx hb dX11_goOn_351 (by decide) ?_
                          refine pf_RX11_208 C hO 0 mW_0 (Nat.le_of_ble_eq_true rfl) mW_s0_8 dX11_goOn_355 (fun H locs hO => ?_)
                          have hT := Km26_wI8 (x := 1) hT
                          have hJ := MIs_8 (v := 1) hJ (by first | decide | omega)
                          refine lv_goto (tgt := 377) hx hb dX11_goOn_358 (by decide) ?_
                          have q285 : (en_k260 : Int32).toInt ≤ ((fI u 0 3) : Int32).toInt := by first | omega | decide
                          have q286 : (at_k260 : Int32).toInt ≤ (en_k260 : Int32).toInt := by first | omega | decide
                          have q287 : (1 : Int32).toInt = 0 ∨ (at_k260 : Int32).toInt < (en_k260 : Int32).toInt := by have zc0 : (1 : Int32).toInt = 1 := rfl; first | omega | decide
                          have g288 : 0 ≤ (fI u 0 7).toInt ∧ (fI u 0 7).toInt ≤ 1601 := by have h := MI_7 hJ0; exact h
                          have q289 : ((fI u 0 7) : Int32).toInt ≤ (at_k260 : Int32).toInt := by first | omega | decide
                          refine hret _ _ _ _ _ dX11_goOn_377 ?_ hO
                          exact ⟨hJ, hT, (show (fI u259 0 7 : Int32).toInt ≤ (fI u259 0 3 : Int32).toInt from by rw [show fI u259 0 7 = en_k260 from hen_k260, show fI u259 0 3 = (fI u 0 3) from (Km26_I3 hT)]; first | done | exact q285), (show (fI u259 0 6 : Int32).toInt ≤ (fI u259 0 7 : Int32).toInt from by rw [show fI u259 0 6 = at_k260 from hat_k260, show fI u259 0 7 = en_k260 from hen_k260]; first | done | exact q286), (show (1 : Int32).toInt = 0 ∨ (fI u259 0 6 : Int32).toInt < (fI u259 0 7 : Int32).toInt from by rw [show fI u259 0 6 = at_k260 from hat_k260, show fI u259 0 7 = en_k260 from hen_k260]; first | done | exact q287), (show ((fI u 0 7) : Int32).toInt ≤ (fI u259 0 6 : Int32).toInt from by rw [show fI u259 0 6 = at_k260 from hat_k260]; first | done | exact q289)⟩
                        · refine lv_aload_n hx hb dX11_goOn_336 rfl (lv_at hl 1 rfl) ?_
                          refine lv_aload_n hx hb dX11_goOn_337 rfl (lv_at hl 1 rfl) ?_
                          refine gf_RX11_198 (v := .int en_k260) C hO 0 mW_0 (congrArg (fun z : Int32 => some (Value.int z)) hen_k260) dX11_goOn_338 ?_
                          refine cVi (w := mW cy a) (As := [.int en_k260]) (rest := [.ref (a 0)]) C hO (T_X11_sign l D cy a _ (by exact hJ) (en_k260) (by first | omega | decide)) (cwV 1 ht (gV wd_1560 wd_1562 wd_49 wd_121 wd_1563) rfl rfl rfl hd_yX11_sign ⟨Nat.le_of_ble_eq_true rfl, Nat.le_of_ble_eq_true rfl⟩) 0 rfl mW_0 rfl rfl hl.1 (Nat.le_of_ble_eq_true rfl) dX11_goOn_341 rfl ⟨Nat.zero_le _, Nat.zero_le _⟩ (fun r290 u291 H locs hp292 hO => ?_)
                          obtain ⟨hr290, hu291⟩ := hp292
                          rw [hu291] at hO
                          have gr290 : (0 ≤ r290.toInt ∧ r290.toInt ≤ 255) ∧ (r290.toInt = 0 ∨ (en_k260 : Int32).toInt < ((fI u 0 3)).toInt) := by have h := sgF_r hr290; rw [(Km26_I3 hT)] at h; exact h
                          have hr290 : r290 = sgF u en_k260 := hr290.trans (sgF_eq (Km26_A2 hT) (Km26_I3 hT))
                          refine cSi (w := mW cy a) (As := [.int r290]) (rest := [.ref (a 0)]) C hO (T_X11_isLetter l D cy a _ (by exact hJ) (r290)) (va_cwS 1 ht (gSS wd_1564 wd_1565 wd_121 wd_1566) rfl rfl rfl hd_yX11_isLetter ⟨Nat.le_of_ble_eq_true rfl, Nat.le_of_ble_eq_true rfl⟩)  rfl hl.1 (Nat.le_of_ble_eq_true rfl) dX11_goOn_344 rfl ⟨Nat.zero_le _, Nat.zero_le _⟩ (fun r293 u294 H locs hp295 hO => ?_)
                          obtain ⟨hr293, hu294⟩ := hp295
                          rw [hu294] at hO
                          rcases hr293 with ⟨hcr293, hvr293⟩ | ⟨hcr293, hvr293⟩
                          · subst hvr293
                            refine bn_eq (X := 1) hx hb dX11_goOn_347 rfl (by omega) ?_ (tgt := 354) (by decide)
                            refine lv_iconst (v := 1) hx hb dX11_goOn_350 (by decide) ?_
                            refine lv_goto (tgt := 355) hx hb dX11_goOn_351 (by decide) ?_
                            refine pf_RX11_208 C hO 0 mW_0 (Nat.le_of_ble_eq_true rfl) mW_s0_8 dX11_goOn_355 (fun H locs hO => ?_)
                            have hT := Km26_wI8 (x := 1) hT
                            have hJ := MIs_8 (v := 1) hJ (by first | decide | omega)
                            refine lv_goto (tgt := 377) hx hb dX11_goOn_358 (by decide) ?_
                            have q296 : (en_k260 : Int32).toInt ≤ ((fI u 0 3) : Int32).toInt := by first | omega | decide
                            have q297 : (at_k260 : Int32).toInt ≤ (en_k260 : Int32).toInt := by first | omega | decide
                            have q298 : (1 : Int32).toInt = 0 ∨ (at_k260 : Int32).toInt < (en_k260 : Int32).toInt := by have zc0 : (1 : Int32).toInt = 1 := rfl; first | omega | decide
                            have g299 : 0 ≤ (fI u 0 7).toInt ∧ (fI u 0 7).toInt ≤ 1601 := by have h := MI_7 hJ0; exact h
                            have q300 : ((fI u 0 7) : Int32).toInt ≤ (at_k260 : Int32).toInt := by first | omega | decide
                            refine hret _ _ _ _ _ dX11_goOn_377 ?_ hO
                            exact ⟨hJ, hT, (show (fI u259 0 7 : Int32).toInt ≤ (fI u259 0 3 : Int32).toInt from by rw [show fI u259 0 7 = en_k260 from hen_k260, show fI u259 0 3 = (fI u 0 3) from (Km26_I3 hT)]; first | done | exact q296), (show (fI u259 0 6 : Int32).toInt ≤ (fI u259 0 7 : Int32).toInt from by rw [show fI u259 0 6 = at_k260 from hat_k260, show fI u259 0 7 = en_k260 from hen_k260]; first | done | exact q297), (show (1 : Int32).toInt = 0 ∨ (fI u259 0 6 : Int32).toInt < (fI u259 0 7 : Int32).toInt from by rw [show fI u259 0 6 = at_k260 from hat_k260, show fI u259 0 7 = en_k260 from hen_k260]; first | done | exact q298), (show ((fI u 0 7) : Int32).toInt ≤ (fI u259 0 6 : Int32).toInt from by rw [show fI u259 0 6 = at_k260 from hat_k260]; first | done | exact q300)⟩
                          · subst hvr293
                            refine bt_eq (tgt := 354) (X := 0) hx hb dX11_goOn_347 (by decide) rfl (by omega) ?_
                            refine lv_iconst (v := 4) hx hb dX11_goOn_354 (by decide) ?_
                            refine pf_RX11_208 C hO 0 mW_0 (Nat.le_of_ble_eq_true rfl) mW_s0_8 dX11_goOn_355 (fun H locs hO => ?_)
                            have hT := Km26_wI8 (x := 4) hT
                            have hJ := MIs_8 (v := 4) hJ (by first | decide | omega)
                            refine lv_goto (tgt := 377) hx hb dX11_goOn_358 (by decide) ?_
                            have q301 : (en_k260 : Int32).toInt ≤ ((fI u 0 3) : Int32).toInt := by first | omega | decide
                            have q302 : (at_k260 : Int32).toInt ≤ (en_k260 : Int32).toInt := by first | omega | decide
                            have q303 : (4 : Int32).toInt = 0 ∨ (at_k260 : Int32).toInt < (en_k260 : Int32).toInt := by have zc0 : (4 : Int32).toInt = 4 := rfl; first | omega | decide
                            have g304 : 0 ≤ (fI u 0 7).toInt ∧ (fI u 0 7).toInt ≤ 1601 := by have h := MI_7 hJ0; exact h
                            have q305 : ((fI u 0 7) : Int32).toInt ≤ (at_k260 : Int32).toInt := by first | omega | decide
                            refine hret _ _ _ _ _ dX11_goOn_377 ?_ hO
                            exact ⟨hJ, hT, (show (fI u259 0 7 : Int32).toInt ≤ (fI u259 0 3 : Int32).toInt from by rw [show fI u259 0 7 = en_k260 from hen_k260, show fI u259 0 3 = (fI u 0 3) from (Km26_I3 hT)]; first | done | exact q301), (show (fI u259 0 6 : Int32).toInt ≤ (fI u259 0 7 : Int32).toInt from by rw [show fI u259 0 6 = at_k260 from hat_k260, show fI u259 0 7 = en_k260 from hen_k260]; first | done | exact q302), (show (4 : Int32).toInt = 0 ∨ (fI u259 0 6 : Int32).toInt < (fI u259 0 7 : Int32).toInt from by rw [show fI u259 0 6 = at_k260 from hat_k260, show fI u259 0 7 = en_k260 from hen_k260]; first | done | exact q303), (show ((fI u 0 7) : Int32).toInt ≤ (fI u259 0 6 : Int32).toInt from by rw [show fI u259 0 6 = at_k260 from hat_k260]; first | done | exact q305)⟩
                  exact LP_259_k260 4000 _ _ _ _ (at_k4) (at_k4) hO (lv_sub hl [0, 1] rfl) (by exact hJ) (by exact hT) (by exact hat_k4) (by exact rfl) (by first | decide | omega) (by first | decide | omega) (by first | decide | omega) (by first | decide | omega) (by first | decide | omega) (by first | decide | omega) (by exact hr171) (by first | decide | omega)
                · subst hvr256
                  refine bt_eq (tgt := 361) (X := 0) hx hb dX11_goOn_243 (by decide) rfl (by omega) ?_
                  refine lv_aload_n hx hb dX11_goOn_361 rfl (lv_at hl 1 rfl) ?_
                  refine lv_iload_n hx hb dX11_goOn_362 rfl (lv_at hl 0 rfl) ?_
                  refine cSi (w := mW cy a) (As := [.int r171]) (rest := [.ref (a 0)]) C hO (T_X11_isSign l D cy a _ (by exact hJ) (r171)) (va_cwS 1 ht (gSS wd_1593 wd_1594 wd_121 wd_1595) rfl rfl rfl hd_yX11_isSign ⟨Nat.le_of_ble_eq_true rfl, Nat.le_of_ble_eq_true rfl⟩)  rfl hl.1 (Nat.le_of_ble_eq_true rfl) dX11_goOn_363 rfl ⟨Nat.zero_le _, Nat.zero_le _⟩ (fun r306 u307 H locs hp308 hO => ?_)
                  obtain ⟨hr306, hu307⟩ := hp308
                  have gr306 : 0 ≤ r306.toInt ∧ r306.toInt ≤ 1 := by rcases hr306 with h | h <;> rw [h] <;> decide
                  rw [hu307] at hO
                  refine bs_eq (tgt := 373) (X := (r306).toInt) hx hb dX11_goOn_366 (by decide) rfl (fun c309 => ?_) (fun c309 => ?_)
                  · refine lv_iconst (v := 1) hx hb dX11_goOn_373 (by decide) ?_
                    refine pf_RX11_208 C hO 0 mW_0 (Nat.le_of_ble_eq_true rfl) mW_s0_8 dX11_goOn_374 (fun H locs hO => ?_)
                    have hT := Km26_wI8 (x := 1) hT
                    have hJ := MIs_8 (v := 1) hJ (by first | decide | omega)
                    have q310 : (z174 : Int32).toInt ≤ ((fI u 0 3) : Int32).toInt := by first | omega | decide
                    have q311 : (at_k4 : Int32).toInt ≤ (z174 : Int32).toInt := by first | omega | decide
                    have q312 : (1 : Int32).toInt = 0 ∨ (at_k4 : Int32).toInt < (z174 : Int32).toInt := by have zc0 : (1 : Int32).toInt = 1 := rfl; first | omega | decide
                    have g313 : 0 ≤ (fI u 0 7).toInt ∧ (fI u 0 7).toInt ≤ 1601 := by have h := MI_7 hJ0; exact h
                    have q314 : ((fI u 0 7) : Int32).toInt ≤ (at_k4 : Int32).toInt := by first | omega | decide
                    refine hret _ _ _ _ _ dX11_goOn_377 ?_ hO
                    exact ⟨hJ, hT, (show (z174 : Int32).toInt ≤ (fI u3 0 3 : Int32).toInt from by rw [show fI u3 0 3 = (fI u 0 3) from (Km26_I3 hT)]; first | done | exact q310), (show (fI u3 0 6 : Int32).toInt ≤ (z174 : Int32).toInt from by rw [show fI u3 0 6 = at_k4 from hat_k4]; first | done | exact q311), (show (1 : Int32).toInt = 0 ∨ (fI u3 0 6 : Int32).toInt < (z174 : Int32).toInt from by rw [show fI u3 0 6 = at_k4 from hat_k4]; first | done | exact q312), (show ((fI u 0 7) : Int32).toInt ≤ (fI u3 0 6 : Int32).toInt from by rw [show fI u3 0 6 = at_k4 from hat_k4]; first | done | exact q314)⟩
                  · refine lv_iconst (v := 5) hx hb dX11_goOn_369 (by decide) ?_
                    refine lv_goto (tgt := 374) hx hb dX11_goOn_370 (by decide) ?_
                    refine pf_RX11_208 C hO 0 mW_0 (Nat.le_of_ble_eq_true rfl) mW_s0_8 dX11_goOn_374 (fun H locs hO => ?_)
                    have hT := Km26_wI8 (x := 5) hT
                    have hJ := MIs_8 (v := 5) hJ (by first | decide | omega)
                    have q315 : (z174 : Int32).toInt ≤ ((fI u 0 3) : Int32).toInt := by first | omega | decide
                    have q316 : (at_k4 : Int32).toInt ≤ (z174 : Int32).toInt := by first | omega | decide
                    have q317 : (5 : Int32).toInt = 0 ∨ (at_k4 : Int32).toInt < (z174 : Int32).toInt := by have zc0 : (5 : Int32).toInt = 5 := rfl; first | omega | decide
                    have g318 : 0 ≤ (fI u 0 7).toInt ∧ (fI u 0 7).toInt ≤ 1601 := by have h := MI_7 hJ0; exact h
                    have q319 : ((fI u 0 7) : Int32).toInt ≤ (at_k4 : Int32).toInt := by first | omega | decide
                    refine hret _ _ _ _ _ dX11_goOn_377 ?_ hO
                    exact ⟨hJ, hT, (show (z174 : Int32).toInt ≤ (fI u3 0 3 : Int32).toInt from by rw [show fI u3 0 3 = (fI u 0 3) from (Km26_I3 hT)]; first | done | exact q315), (show (fI u3 0 6 : Int32).toInt ≤ (z174 : Int32).toInt from by rw [show fI u3 0 6 = at_k4 from hat_k4]; first | done | exact q316), (show (5 : Int32).toInt = 0 ∨ (fI u3 0 6 : Int32).toInt < (z174 : Int32).toInt from by rw [show fI u3 0 6 = at_k4 from hat_k4]; first | done | exact q317), (show ((fI u 0 7) : Int32).toInt ≤ (fI u3 0 6 : Int32).toInt from by rw [show fI u3 0 6 = at_k4 from hat_k4]; first | done | exact q319)⟩
            · refine lv_aload_n hx hb dX11_goOn_88 rfl (lv_at hl 1 rfl) ?_
              refine lv_iconst (v := 0) hx hb dX11_goOn_89 (by decide) ?_
              refine pf_RX11_208 C hO 0 mW_0 (Nat.le_of_ble_eq_true rfl) mW_s0_8 dX11_goOn_90 (fun H locs hO => ?_)
              have hT := Km26_wI8 (x := 0) hT
              have hJ := MIs_8 (v := 0) hJ (by first | decide | omega)
              refine lv_aload_n hx hb dX11_goOn_93 rfl (lv_at hl 1 rfl) ?_
              refine lv_aload_n hx hb dX11_goOn_94 rfl (lv_at hl 1 rfl) ?_
              refine gf_RX11_152 (v := .int (fI u 0 3)) C hO 0 mW_0 (congrArg (fun z : Int32 => some (Value.int z)) (Km26_I3 hT)) dX11_goOn_95 ?_
              refine pf_RX11_201 C hO 0 mW_0 (Nat.le_of_ble_eq_true rfl) mW_s0_6 dX11_goOn_98 (fun H locs hO => ?_)
              have hT := Km26_wI6 (x := (fI u 0 3)) hT
              have hJ := MIs_6 (v := (fI u 0 3)) hJ (by first | decide | omega)
              refine lv_aload_n hx hb dX11_goOn_101 rfl (lv_at hl 1 rfl) ?_
              refine lv_aload_n hx hb dX11_goOn_102 rfl (lv_at hl 1 rfl) ?_
              refine gf_RX11_152 (v := .int (fI u 0 3)) C hO 0 mW_0 (congrArg (fun z : Int32 => some (Value.int z)) (Km26_I3 hT)) dX11_goOn_103 ?_
              refine pf_RX11_198 C hO 0 mW_0 (Nat.le_of_ble_eq_true rfl) mW_s0_7 dX11_goOn_106 (fun H locs hO => ?_)
              have hT := Km26_wI7 (x := (fI u 0 3)) hT
              have hJ := MIs_7 (v := (fI u 0 3)) hJ (by first | decide | omega)
              refine lv_goto (tgt := 377) hx hb dX11_goOn_109 (by decide) ?_
              have q320 : ((fI u 0 3) : Int32).toInt ≤ ((fI u 0 3) : Int32).toInt := by first | omega | decide
              have q321 : ((fI u 0 3) : Int32).toInt ≤ ((fI u 0 3) : Int32).toInt := by first | omega | decide
              have q322 : (0 : Int32).toInt = 0 ∨ ((fI u 0 3) : Int32).toInt < ((fI u 0 3) : Int32).toInt := by have zc0 : (0 : Int32).toInt = 0 := rfl; first | omega | decide
              have g323 : 0 ≤ (fI u 0 7).toInt ∧ (fI u 0 7).toInt ≤ 1601 := by have h := MI_7 hJ0; exact h
              have q324 : ((fI u 0 7) : Int32).toInt ≤ ((fI u 0 3) : Int32).toInt := by first | omega | decide
              refine hret _ _ _ _ _ dX11_goOn_377 ?_ hO
              exact ⟨hJ, hT, (show ((fI u 0 3) : Int32).toInt ≤ (fI u3 0 3 : Int32).toInt from by rw [show fI u3 0 3 = (fI u 0 3) from (Km26_I3 hT)]; first | done | exact q320), q321, q322, q324⟩
          · refine lv_aload_n hx hb dX11_goOn_45 rfl (lv_at hl 0 rfl) ?_
            refine lv_dup hx hb dX11_goOn_46 rfl ?_
            refine gf_RX11_201 (v := .int at_k4) C hO 0 mW_0 (congrArg (fun z : Int32 => some (Value.int z)) hat_k4) dX11_goOn_47 ?_
            refine lv_iconst (v := 1) hx hb dX11_goOn_50 (by decide) ?_
            refine lv_iadd hx hb dX11_goOn_51 ?_
            refine lv_topi (fun z325 ez325 => ?_)
            have e326 : z325.toInt = (at_k4).toInt + 1 := by rw [ez325]; exact i_add rfl rfl (by omega)
            refine pf_RX11_201 C hO 0 mW_0 (Nat.le_of_ble_eq_true rfl) mW_s0_6 dX11_goOn_52 (fun H locs hO => ?_)
            have hT := Km26_wI6 (x := z325) hT
            have hJ := MIs_6 (v := z325) hJ (by first | decide | omega)
            refine lv_goto (tgt := 8) hx hb dX11_goOn_55 (by decide) ?_
            exact ih_k4 _ _ _ _ (z325) (en_k4) hO (lv_sub hl [0] rfl) (by exact hJ) (by exact hT) (by exact rfl) (by exact hen_k4) (by first | decide | omega) (by first | decide | omega) (by first | decide | omega) (by first | decide | omega) (by first | decide | omega)
  exact LP_8_k4 4000 _ _ _ _ ((fI u 0 7)) ((fI u 0 7)) hO (lv_sub hl [0] rfl) (by exact hJ) (by exact hT) (by exact rfl) (by exact rfl) (by first | decide | omega) (by first | decide | omega) (by first | decide | omega) (by first | decide | omega) (by first | decide | omega)
def Km27 (u v : St) : Prop := fI v 0 2 = fI u 0 2 ∧ fI v 0 3 = fI u 0 3 ∧ fI v 0 36 = fI u 0 36 ∧ fI v 0 37 = fI u 0 37 ∧ fI v 0 38 = fI u 0 38 ∧ fI v 0 39 = fI u 0 39 ∧ fI v 0 40 = fI u 0 40 ∧ fI v 0 41 = fI u 0 41 ∧ fI v 0 42 = fI u 0 42 ∧ fI v 0 43 = fI u 0 43 ∧ fI v 0 45 = fI u 0 45 ∧ fI v 0 47 = fI u 0 47 ∧ fI v 0 48 = fI u 0 48 ∧ fI v 0 50 = fI u 0 50 ∧ fI v 0 61 = fI u 0 61 ∧ fI v 0 62 = fI u 0 62 ∧ fA v 1 = fA u 1 ∧ fA v 2 = fA u 2 ∧ fA v 3 = fA u 3 ∧ fA v 4 = fA u 4 ∧ fA v 5 = fA u 5 ∧ fA v 6 = fA u 6 ∧ fA v 7 = fA u 7 ∧ fA v 8 = fA u 8 ∧ fA v 9 = fA u 9 ∧ fA v 10 = fA u 10 ∧ fA v 11 = fA u 11 ∧ fA v 12 = fA u 12 ∧ fA v 13 = fA u 13 ∧ fA v 14 = fA u 14 ∧ fA v 15 = fA u 15 ∧ fA v 16 = fA u 16 ∧ fA v 17 = fA u 17 ∧ fA v 18 = fA u 18 ∧ fA v 19 = fA u 19 ∧ fJ v 20 = fJ u 20 ∧ fJ v 21 = fJ u 21 ∧ fJ v 22 = fJ u 22 ∧ fA v 23 = fA u 23 ∧ fA v 24 = fA u 24 ∧ fA v 25 = fA u 25 ∧ fA v 26 = fA u 26 ∧ fA v 27 = fA u 27 ∧ fA v 28 = fA u 28 ∧ fA v 29 = fA u 29 ∧ fA v 30 = fA u 30 ∧ fA v 31 = fA u 31 ∧ fA v 32 = fA u 32 ∧ fA v 33 = fA u 33 ∧ fA v 34 = fA u 34 ∧ fA v 35 = fA u 35 ∧ fA v 36 = fA u 36 ∧ fA v 37 = fA u 37 ∧ fA v 38 = fA u 38 ∧ fA v 39 = fA u 39 ∧ fA v 40 = fA u 40 ∧ fA v 41 = fA u 41 ∧ fA v 42 = fA u 42
theorem Km27.rf {u : St} : Km27 u u := ⟨rfl, rfl, rfl, rfl, rfl, rfl, rfl, rfl, rfl, rfl, rfl, rfl, rfl, rfl, rfl, rfl, rfl, rfl, rfl, rfl, rfl, rfl, rfl, rfl, rfl, rfl, rfl, rfl, rfl, rfl, rfl, rfl, rfl, rfl, rfl, rfl, rfl, rfl, rfl, rfl, rfl, rfl, rfl, rfl, rfl, rfl, rfl, rfl, rfl, rfl, rfl, rfl, rfl, rfl, rfl, rfl, rfl, rfl⟩
theorem Km27.tr {u v w : St} (h1 : Km27 u v) (h2 : Km27 v w) : Km27 u w := ⟨(h2.1).trans h1.1, (h2.2.1).trans h1.2.1, (h2.2.2.1).trans h1.2.2.1, (h2.2.2.2.1).trans h1.2.2.2.1, (h2.2.2.2.2.1).trans h1.2.2.2.2.1, (h2.2.2.2.2.2.1).trans h1.2.2.2.2.2.1, (h2.2.2.2.2.2.2.1).trans h1.2.2.2.2.2.2.1, (h2.2.2.2.2.2.2.2.1).trans h1.2.2.2.2.2.2.2.1, (h2.2.2.2.2.2.2.2.2.1).trans h1.2.2.2.2.2.2.2.2.1, (h2.2.2.2.2.2.2.2.2.2.1).trans h1.2.2.2.2.2.2.2.2.2.1, (h2.2.2.2.2.2.2.2.2.2.2.1).trans h1.2.2.2.2.2.2.2.2.2.2.1, (h2.2.2.2.2.2.2.2.2.2.2.2.1).trans h1.2.2.2.2.2.2.2.2.2.2.2.1, (h2.2.2.2.2.2.2.2.2.2.2.2.2.1).trans h1.2.2.2.2.2.2.2.2.2.2.2.2.1, (h2.2.2.2.2.2.2.2.2.2.2.2.2.2.1).trans h1.2.2.2.2.2.2.2.2.2.2.2.2.2.1, (h2.2.2.2.2.2.2.2.2.2.2.2.2.2.2.1).trans h1.2.2.2.2.2.2.2.2.2.2.2.2.2.2.1, (h2.2.2.2.2.2.2.2.2.2.2.2.2.2.2.2.1).trans h1.2.2.2.2.2.2.2.2.2.2.2.2.2.2.2.1, (h2.2.2.2.2.2.2.2.2.2.2.2.2.2.2.2.2.1).trans h1.2.2.2.2.2.2.2.2.2.2.2.2.2.2.2.2.1, (h2.2.2.2.2.2.2.2.2.2.2.2.2.2.2.2.2.2.1).trans h1.2.2.2.2.2.2.2.2.2.2.2.2.2.2.2.2.2.1, (h2.2.2.2.2.2.2.2.2.2.2.2.2.2.2.2.2.2.2.1).trans h1.2.2.2.2.2.2.2.2.2.2.2.2.2.2.2.2.2.2.1, (h2.2.2.2.2.2.2.2.2.2.2.2.2.2.2.2.2.2.2.2.1).trans h1.2.2.2.2.2.2.2.2.2.2.2.2.2.2.2.2.2.2.2.1, (h2.2.2.2.2.2.2.2.2.2.2.2.2.2.2.2.2.2.2.2.2.1).trans h1.2.2.2.2.2.2.2.2.2.2.2.2.2.2.2.2.2.2.2.2.1, (h2.2.2.2.2.2.2.2.2.2.2.2.2.2.2.2.2.2.2.2.2.2.1).trans h1.2.2.2.2.2.2.2.2.2.2.2.2.2.2.2.2.2.2.2.2.2.1, (h2.2.2.2.2.2.2.2.2.2.2.2.2.2.2.2.2.2.2.2.2.2.2.1).trans h1.2.2.2.2.2.2.2.2.2.2.2.2.2.2.2.2.2.2.2.2.2.2.1, (h2.2.2.2.2.2.2.2.2.2.2.2.2.2.2.2.2.2.2.2.2.2.2.2.1).trans h1.2.2.2.2.2.2.2.2.2.2.2.2.2.2.2.2.2.2.2.2.2.2.2.1, (h2.2.2.2.2.2.2.2.2.2.2.2.2.2.2.2.2.2.2.2.2.2.2.2.2.1).trans h1.2.2.2.2.2.2.2.2.2.2.2.2.2.2.2.2.2.2.2.2.2.2.2.2.1, (h2.2.2.2.2.2.2.2.2.2.2.2.2.2.2.2.2.2.2.2.2.2.2.2.2.2.1).trans h1.2.2.2.2.2.2.2.2.2.2.2.2.2.2.2.2.2.2.2.2.2.2.2.2.2.1, (h2.2.2.2.2.2.2.2.2.2.2.2.2.2.2.2.2.2.2.2.2.2.2.2.2.2.2.1).trans h1.2.2.2.2.2.2.2.2.2.2.2.2.2.2.2.2.2.2.2.2.2.2.2.2.2.2.1, (h2.2.2.2.2.2.2.2.2.2.2.2.2.2.2.2.2.2.2.2.2.2.2.2.2.2.2.2.1).trans h1.2.2.2.2.2.2.2.2.2.2.2.2.2.2.2.2.2.2.2.2.2.2.2.2.2.2.2.1, (h2.2.2.2.2.2.2.2.2.2.2.2.2.2.2.2.2.2.2.2.2.2.2.2.2.2.2.2.2.1).trans h1.2.2.2.2.2.2.2.2.2.2.2.2.2.2.2.2.2.2.2.2.2.2.2.2.2.2.2.2.1, (h2.2.2.2.2.2.2.2.2.2.2.2.2.2.2.2.2.2.2.2.2.2.2.2.2.2.2.2.2.2.1).trans h1.2.2.2.2.2.2.2.2.2.2.2.2.2.2.2.2.2.2.2.2.2.2.2.2.2.2.2.2.2.1, (h2.2.2.2.2.2.2.2.2.2.2.2.2.2.2.2.2.2.2.2.2.2.2.2.2.2.2.2.2.2.2.1).trans h1.2.2.2.2.2.2.2.2.2.2.2.2.2.2.2.2.2.2.2.2.2.2.2.2.2.2.2.2.2.2.1, (h2.2.2.2.2.2.2.2.2.2.2.2.2.2.2.2.2.2.2.2.2.2.2.2.2.2.2.2.2.2.2.2.1).trans h1.2.2.2.2.2.2.2.2.2.2.2.2.2.2.2.2.2.2.2.2.2.2.2.2.2.2.2.2.2.2.2.1, (h2.2.2.2.2.2.2.2.2.2.2.2.2.2.2.2.2.2.2.2.2.2.2.2.2.2.2.2.2.2.2.2.2.1).trans h1.2.2.2.2.2.2.2.2.2.2.2.2.2.2.2.2.2.2.2.2.2.2.2.2.2.2.2.2.2.2.2.2.1, (h2.2.2.2.2.2.2.2.2.2.2.2.2.2.2.2.2.2.2.2.2.2.2.2.2.2.2.2.2.2.2.2.2.2.1).trans h1.2.2.2.2.2.2.2.2.2.2.2.2.2.2.2.2.2.2.2.2.2.2.2.2.2.2.2.2.2.2.2.2.2.1, (h2.2.2.2.2.2.2.2.2.2.2.2.2.2.2.2.2.2.2.2.2.2.2.2.2.2.2.2.2.2.2.2.2.2.2.1).trans h1.2.2.2.2.2.2.2.2.2.2.2.2.2.2.2.2.2.2.2.2.2.2.2.2.2.2.2.2.2.2.2.2.2.2.1, (h2.2.2.2.2.2.2.2.2.2.2.2.2.2.2.2.2.2.2.2.2.2.2.2.2.2.2.2.2.2.2.2.2.2.2.2.1).trans h1.2.2.2.2.2.2.2.2.2.2.2.2.2.2.2.2.2.2.2.2.2.2.2.2.2.2.2.2.2.2.2.2.2.2.2.1, (h2.2.2.2.2.2.2.2.2.2.2.2.2.2.2.2.2.2.2.2.2.2.2.2.2.2.2.2.2.2.2.2.2.2.2.2.2.1).trans h1.2.2.2.2.2.2.2.2.2.2.2.2.2.2.2.2.2.2.2.2.2.2.2.2.2.2.2.2.2.2.2.2.2.2.2.2.1, (h2.2.2.2.2.2.2.2.2.2.2.2.2.2.2.2.2.2.2.2.2.2.2.2.2.2.2.2.2.2.2.2.2.2.2.2.2.2.1).trans h1.2.2.2.2.2.2.2.2.2.2.2.2.2.2.2.2.2.2.2.2.2.2.2.2.2.2.2.2.2.2.2.2.2.2.2.2.2.1, (h2.2.2.2.2.2.2.2.2.2.2.2.2.2.2.2.2.2.2.2.2.2.2.2.2.2.2.2.2.2.2.2.2.2.2.2.2.2.2.1).trans h1.2.2.2.2.2.2.2.2.2.2.2.2.2.2.2.2.2.2.2.2.2.2.2.2.2.2.2.2.2.2.2.2.2.2.2.2.2.2.1, (h2.2.2.2.2.2.2.2.2.2.2.2.2.2.2.2.2.2.2.2.2.2.2.2.2.2.2.2.2.2.2.2.2.2.2.2.2.2.2.2.1).trans h1.2.2.2.2.2.2.2.2.2.2.2.2.2.2.2.2.2.2.2.2.2.2.2.2.2.2.2.2.2.2.2.2.2.2.2.2.2.2.2.1, (h2.2.2.2.2.2.2.2.2.2.2.2.2.2.2.2.2.2.2.2.2.2.2.2.2.2.2.2.2.2.2.2.2.2.2.2.2.2.2.2.2.1).trans h1.2.2.2.2.2.2.2.2.2.2.2.2.2.2.2.2.2.2.2.2.2.2.2.2.2.2.2.2.2.2.2.2.2.2.2.2.2.2.2.2.1, (h2.2.2.2.2.2.2.2.2.2.2.2.2.2.2.2.2.2.2.2.2.2.2.2.2.2.2.2.2.2.2.2.2.2.2.2.2.2.2.2.2.2.1).trans h1.2.2.2.2.2.2.2.2.2.2.2.2.2.2.2.2.2.2.2.2.2.2.2.2.2.2.2.2.2.2.2.2.2.2.2.2.2.2.2.2.2.1, (h2.2.2.2.2.2.2.2.2.2.2.2.2.2.2.2.2.2.2.2.2.2.2.2.2.2.2.2.2.2.2.2.2.2.2.2.2.2.2.2.2.2.2.1).trans h1.2.2.2.2.2.2.2.2.2.2.2.2.2.2.2.2.2.2.2.2.2.2.2.2.2.2.2.2.2.2.2.2.2.2.2.2.2.2.2.2.2.2.1, (h2.2.2.2.2.2.2.2.2.2.2.2.2.2.2.2.2.2.2.2.2.2.2.2.2.2.2.2.2.2.2.2.2.2.2.2.2.2.2.2.2.2.2.2.1).trans h1.2.2.2.2.2.2.2.2.2.2.2.2.2.2.2.2.2.2.2.2.2.2.2.2.2.2.2.2.2.2.2.2.2.2.2.2.2.2.2.2.2.2.2.1, (h2.2.2.2.2.2.2.2.2.2.2.2.2.2.2.2.2.2.2.2.2.2.2.2.2.2.2.2.2.2.2.2.2.2.2.2.2.2.2.2.2.2.2.2.2.1).trans h1.2.2.2.2.2.2.2.2.2.2.2.2.2.2.2.2.2.2.2.2.2.2.2.2.2.2.2.2.2.2.2.2.2.2.2.2.2.2.2.2.2.2.2.2.1, (h2.2.2.2.2.2.2.2.2.2.2.2.2.2.2.2.2.2.2.2.2.2.2.2.2.2.2.2.2.2.2.2.2.2.2.2.2.2.2.2.2.2.2.2.2.2.1).trans h1.2.2.2.2.2.2.2.2.2.2.2.2.2.2.2.2.2.2.2.2.2.2.2.2.2.2.2.2.2.2.2.2.2.2.2.2.2.2.2.2.2.2.2.2.2.1, (h2.2.2.2.2.2.2.2.2.2.2.2.2.2.2.2.2.2.2.2.2.2.2.2.2.2.2.2.2.2.2.2.2.2.2.2.2.2.2.2.2.2.2.2.2.2.2.1).trans h1.2.2.2.2.2.2.2.2.2.2.2.2.2.2.2.2.2.2.2.2.2.2.2.2.2.2.2.2.2.2.2.2.2.2.2.2.2.2.2.2.2.2.2.2.2.2.1, (h2.2.2.2.2.2.2.2.2.2.2.2.2.2.2.2.2.2.2.2.2.2.2.2.2.2.2.2.2.2.2.2.2.2.2.2.2.2.2.2.2.2.2.2.2.2.2.2.1).trans h1.2.2.2.2.2.2.2.2.2.2.2.2.2.2.2.2.2.2.2.2.2.2.2.2.2.2.2.2.2.2.2.2.2.2.2.2.2.2.2.2.2.2.2.2.2.2.2.1, (h2.2.2.2.2.2.2.2.2.2.2.2.2.2.2.2.2.2.2.2.2.2.2.2.2.2.2.2.2.2.2.2.2.2.2.2.2.2.2.2.2.2.2.2.2.2.2.2.2.1).trans h1.2.2.2.2.2.2.2.2.2.2.2.2.2.2.2.2.2.2.2.2.2.2.2.2.2.2.2.2.2.2.2.2.2.2.2.2.2.2.2.2.2.2.2.2.2.2.2.2.1, (h2.2.2.2.2.2.2.2.2.2.2.2.2.2.2.2.2.2.2.2.2.2.2.2.2.2.2.2.2.2.2.2.2.2.2.2.2.2.2.2.2.2.2.2.2.2.2.2.2.2.1).trans h1.2.2.2.2.2.2.2.2.2.2.2.2.2.2.2.2.2.2.2.2.2.2.2.2.2.2.2.2.2.2.2.2.2.2.2.2.2.2.2.2.2.2.2.2.2.2.2.2.2.1, (h2.2.2.2.2.2.2.2.2.2.2.2.2.2.2.2.2.2.2.2.2.2.2.2.2.2.2.2.2.2.2.2.2.2.2.2.2.2.2.2.2.2.2.2.2.2.2.2.2.2.2.1).trans h1.2.2.2.2.2.2.2.2.2.2.2.2.2.2.2.2.2.2.2.2.2.2.2.2.2.2.2.2.2.2.2.2.2.2.2.2.2.2.2.2.2.2.2.2.2.2.2.2.2.2.1, (h2.2.2.2.2.2.2.2.2.2.2.2.2.2.2.2.2.2.2.2.2.2.2.2.2.2.2.2.2.2.2.2.2.2.2.2.2.2.2.2.2.2.2.2.2.2.2.2.2.2.2.2.1).trans h1.2.2.2.2.2.2.2.2.2.2.2.2.2.2.2.2.2.2.2.2.2.2.2.2.2.2.2.2.2.2.2.2.2.2.2.2.2.2.2.2.2.2.2.2.2.2.2.2.2.2.2.1, (h2.2.2.2.2.2.2.2.2.2.2.2.2.2.2.2.2.2.2.2.2.2.2.2.2.2.2.2.2.2.2.2.2.2.2.2.2.2.2.2.2.2.2.2.2.2.2.2.2.2.2.2.2.1).trans h1.2.2.2.2.2.2.2.2.2.2.2.2.2.2.2.2.2.2.2.2.2.2.2.2.2.2.2.2.2.2.2.2.2.2.2.2.2.2.2.2.2.2.2.2.2.2.2.2.2.2.2.2.1, (h2.2.2.2.2.2.2.2.2.2.2.2.2.2.2.2.2.2.2.2.2.2.2.2.2.2.2.2.2.2.2.2.2.2.2.2.2.2.2.2.2.2.2.2.2.2.2.2.2.2.2.2.2.2.1).trans h1.2.2.2.2.2.2.2.2.2.2.2.2.2.2.2.2.2.2.2.2.2.2.2.2.2.2.2.2.2.2.2.2.2.2.2.2.2.2.2.2.2.2.2.2.2.2.2.2.2.2.2.2.2.1, (h2.2.2.2.2.2.2.2.2.2.2.2.2.2.2.2.2.2.2.2.2.2.2.2.2.2.2.2.2.2.2.2.2.2.2.2.2.2.2.2.2.2.2.2.2.2.2.2.2.2.2.2.2.2.2.1).trans h1.2.2.2.2.2.2.2.2.2.2.2.2.2.2.2.2.2.2.2.2.2.2.2.2.2.2.2.2.2.2.2.2.2.2.2.2.2.2.2.2.2.2.2.2.2.2.2.2.2.2.2.2.2.2.1, (h2.2.2.2.2.2.2.2.2.2.2.2.2.2.2.2.2.2.2.2.2.2.2.2.2.2.2.2.2.2.2.2.2.2.2.2.2.2.2.2.2.2.2.2.2.2.2.2.2.2.2.2.2.2.2.2.1).trans h1.2.2.2.2.2.2.2.2.2.2.2.2.2.2.2.2.2.2.2.2.2.2.2.2.2.2.2.2.2.2.2.2.2.2.2.2.2.2.2.2.2.2.2.2.2.2.2.2.2.2.2.2.2.2.2.1, (h2.2.2.2.2.2.2.2.2.2.2.2.2.2.2.2.2.2.2.2.2.2.2.2.2.2.2.2.2.2.2.2.2.2.2.2.2.2.2.2.2.2.2.2.2.2.2.2.2.2.2.2.2.2.2.2.2.1).trans h1.2.2.2.2.2.2.2.2.2.2.2.2.2.2.2.2.2.2.2.2.2.2.2.2.2.2.2.2.2.2.2.2.2.2.2.2.2.2.2.2.2.2.2.2.2.2.2.2.2.2.2.2.2.2.2.2.1, (h2.2.2.2.2.2.2.2.2.2.2.2.2.2.2.2.2.2.2.2.2.2.2.2.2.2.2.2.2.2.2.2.2.2.2.2.2.2.2.2.2.2.2.2.2.2.2.2.2.2.2.2.2.2.2.2.2.2).trans h1.2.2.2.2.2.2.2.2.2.2.2.2.2.2.2.2.2.2.2.2.2.2.2.2.2.2.2.2.2.2.2.2.2.2.2.2.2.2.2.2.2.2.2.2.2.2.2.2.2.2.2.2.2.2.2.2.2⟩
theorem dX11_must_0 : decode cX11_must 0 = .ok (.aload_n 0, 1) := by decide +kernel
theorem dX11_must_1 : decode cX11_must 1 = .ok (.invokevirtual 236, 3) := by decide +kernel
theorem dX11_must_4 : decode cX11_must 4 = .ok (.ifCond .ne 4, 3) := by decide +kernel
theorem dX11_must_7 : decode cX11_must 7 = .ok (.return_, 1) := by decide +kernel
theorem dX11_must_8 : decode cX11_must 8 = .ok (.iload_n 1, 1) := by decide +kernel
theorem dX11_must_9 : decode cX11_must 9 = .ok (.ifCond .eq 10, 3) := by decide +kernel
theorem dX11_must_12 : decode cX11_must 12 = .ok (.aload_n 0, 1) := by decide +kernel
theorem dX11_must_13 : decode cX11_must 13 = .ok (.invokevirtual 240, 3) := by decide +kernel
theorem dX11_must_16 : decode cX11_must 16 = .ok (.goto 7, 3) := by decide +kernel
theorem dX11_must_19 : decode cX11_must 19 = .ok (.aload_n 0, 1) := by decide +kernel
theorem dX11_must_20 : decode cX11_must 20 = .ok (.invokevirtual 243, 3) := by decide +kernel
theorem dX11_must_23 : decode cX11_must 23 = .ok (.return_, 1) := by decide +kernel
theorem wd_1654 : (Cond.code ⟨"WebCourtModel", "must", "(Z)V"⟩ prog_13_method_13_code (2 : Nat) (Option.none : Option FieldType)) ∈ gtb := gtb_c7 105 (by decide +kernel) rfl
theorem wd_1596 : (Cond.methodLink "WebCourtModel" (236 : Nat) ⟨"WebCourtModel", "isGood", "()Z"⟩) ∈ gtb := gtb_c7 47 (by decide +kernel) rfl
theorem wd_1598 : (Cond.instanceMethod ⟨"WebCourtModel", "isGood", "()Z"⟩) ∈ gtb := gtb_c7 49 (by decide +kernel) rfl
theorem wd_50 : (Cond.selects "WebCourtModel" ⟨"WebCourtModel", "isGood", "()Z"⟩ ⟨"WebCourtModel", "isGood", "()Z"⟩) ∈ gtb := gtb_p 50 (by decide +kernel) rfl
theorem hd_yX11_isGood : yX11_isGood.cls = RX11 ∧ yX11_isGood.cls ≠ "java/lang/invoke/MethodHandle" ∧ yX11_isGood.cls ≠ "java/lang/invoke/VarHandle" ∧ (parseMethodDescriptor yX11_isGood.desc).map (fun d => d.parameters.length) = some 0 := by decide +kernel
theorem wd_1615 : (Cond.methodLink "WebCourtModel" (243 : Nat) ⟨"WebCourtModel", "misplaced", "()V"⟩) ∈ gtb := gtb_c7 66 (by decide +kernel) rfl
theorem wd_1617 : (Cond.instanceMethod ⟨"WebCourtModel", "misplaced", "()V"⟩) ∈ gtb := gtb_c7 68 (by decide +kernel) rfl
theorem wd_54 : (Cond.selects "WebCourtModel" ⟨"WebCourtModel", "misplaced", "()V"⟩ ⟨"WebCourtModel", "misplaced", "()V"⟩) ∈ gtb := gtb_p 54 (by decide +kernel) rfl
theorem hd_yX11_misplaced : yX11_misplaced.cls = RX11 ∧ yX11_misplaced.cls ≠ "java/lang/invoke/MethodHandle" ∧ yX11_misplaced.cls ≠ "java/lang/invoke/VarHandle" ∧ (parseMethodDescriptor yX11_misplaced.desc).map (fun d => d.parameters.length) = some 0 := by decide +kernel
theorem Km25_to_Km27 {u v : St} (h : Km25 u v) : Km27 u v := ⟨h.1, h.2.1, h.2.2.2.2.2.2.2.1, h.2.2.2.2.2.2.2.2.1, h.2.2.2.2.2.2.2.2.2.1, h.2.2.2.2.2.2.2.2.2.2.1, h.2.2.2.2.2.2.2.2.2.2.2.1, h.2.2.2.2.2.2.2.2.2.2.2.2.1, h.2.2.2.2.2.2.2.2.2.2.2.2.2.1, h.2.2.2.2.2.2.2.2.2.2.2.2.2.2.1, h.2.2.2.2.2.2.2.2.2.2.2.2.2.2.2.1, h.2.2.2.2.2.2.2.2.2.2.2.2.2.2.2.2.1, h.2.2.2.2.2.2.2.2.2.2.2.2.2.2.2.2.2.1, h.2.2.2.2.2.2.2.2.2.2.2.2.2.2.2.2.2.2.1, h.2.2.2.2.2.2.2.2.2.2.2.2.2.2.2.2.2.2.2.1, h.2.2.2.2.2.2.2.2.2.2.2.2.2.2.2.2.2.2.2.2.1, h.2.2.2.2.2.2.2.2.2.2.2.2.2.2.2.2.2.2.2.2.2.1, h.2.2.2.2.2.2.2.2.2.2.2.2.2.2.2.2.2.2.2.2.2.2.1, h.2.2.2.2.2.2.2.2.2.2.2.2.2.2.2.2.2.2.2.2.2.2.2.1, h.2.2.2.2.2.2.2.2.2.2.2.2.2.2.2.2.2.2.2.2.2.2.2.2.1, h.2.2.2.2.2.2.2.2.2.2.2.2.2.2.2.2.2.2.2.2.2.2.2.2.2.1, h.2.2.2.2.2.2.2.2.2.2.2.2.2.2.2.2.2.2.2.2.2.2.2.2.2.2.1, h.2.2.2.2.2.2.2.2.2.2.2.2.2.2.2.2.2.2.2.2.2.2.2.2.2.2.2.1, h.2.2.2.2.2.2.2.2.2.2.2.2.2.2.2.2.2.2.2.2.2.2.2.2.2.2.2.2.1, h.2.2.2.2.2.2.2.2.2.2.2.2.2.2.2.2.2.2.2.2.2.2.2.2.2.2.2.2.2.1, h.2.2.2.2.2.2.2.2.2.2.2.2.2.2.2.2.2.2.2.2.2.2.2.2.2.2.2.2.2.2.1, h.2.2.2.2.2.2.2.2.2.2.2.2.2.2.2.2.2.2.2.2.2.2.2.2.2.2.2.2.2.2.2.1, h.2.2.2.2.2.2.2.2.2.2.2.2.2.2.2.2.2.2.2.2.2.2.2.2.2.2.2.2.2.2.2.2.1, h.2.2.2.2.2.2.2.2.2.2.2.2.2.2.2.2.2.2.2.2.2.2.2.2.2.2.2.2.2.2.2.2.2.1, h.2.2.2.2.2.2.2.2.2.2.2.2.2.2.2.2.2.2.2.2.2.2.2.2.2.2.2.2.2.2.2.2.2.2.1, h.2.2.2.2.2.2.2.2.2.2.2.2.2.2.2.2.2.2.2.2.2.2.2.2.2.2.2.2.2.2.2.2.2.2.2.1, h.2.2.2.2.2.2.2.2.2.2.2.2.2.2.2.2.2.2.2.2.2.2.2.2.2.2.2.2.2.2.2.2.2.2.2.2.1, h.2.2.2.2.2.2.2.2.2.2.2.2.2.2.2.2.2.2.2.2.2.2.2.2.2.2.2.2.2.2.2.2.2.2.2.2.2.1, h.2.2.2.2.2.2.2.2.2.2.2.2.2.2.2.2.2.2.2.2.2.2.2.2.2.2.2.2.2.2.2.2.2.2.2.2.2.2.1, h.2.2.2.2.2.2.2.2.2.2.2.2.2.2.2.2.2.2.2.2.2.2.2.2.2.2.2.2.2.2.2.2.2.2.2.2.2.2.2.1, h.2.2.2.2.2.2.2.2.2.2.2.2.2.2.2.2.2.2.2.2.2.2.2.2.2.2.2.2.2.2.2.2.2.2.2.2.2.2.2.2.1, h.2.2.2.2.2.2.2.2.2.2.2.2.2.2.2.2.2.2.2.2.2.2.2.2.2.2.2.2.2.2.2.2.2.2.2.2.2.2.2.2.2.1, h.2.2.2.2.2.2.2.2.2.2.2.2.2.2.2.2.2.2.2.2.2.2.2.2.2.2.2.2.2.2.2.2.2.2.2.2.2.2.2.2.2.2.1, h.2.2.2.2.2.2.2.2.2.2.2.2.2.2.2.2.2.2.2.2.2.2.2.2.2.2.2.2.2.2.2.2.2.2.2.2.2.2.2.2.2.2.2.1, h.2.2.2.2.2.2.2.2.2.2.2.2.2.2.2.2.2.2.2.2.2.2.2.2.2.2.2.2.2.2.2.2.2.2.2.2.2.2.2.2.2.2.2.2.1, h.2.2.2.2.2.2.2.2.2.2.2.2.2.2.2.2.2.2.2.2.2.2.2.2.2.2.2.2.2.2.2.2.2.2.2.2.2.2.2.2.2.2.2.2.2.1, h.2.2.2.2.2.2.2.2.2.2.2.2.2.2.2.2.2.2.2.2.2.2.2.2.2.2.2.2.2.2.2.2.2.2.2.2.2.2.2.2.2.2.2.2.2.2.1, h.2.2.2.2.2.2.2.2.2.2.2.2.2.2.2.2.2.2.2.2.2.2.2.2.2.2.2.2.2.2.2.2.2.2.2.2.2.2.2.2.2.2.2.2.2.2.2.1, h.2.2.2.2.2.2.2.2.2.2.2.2.2.2.2.2.2.2.2.2.2.2.2.2.2.2.2.2.2.2.2.2.2.2.2.2.2.2.2.2.2.2.2.2.2.2.2.2.1, h.2.2.2.2.2.2.2.2.2.2.2.2.2.2.2.2.2.2.2.2.2.2.2.2.2.2.2.2.2.2.2.2.2.2.2.2.2.2.2.2.2.2.2.2.2.2.2.2.2.1, h.2.2.2.2.2.2.2.2.2.2.2.2.2.2.2.2.2.2.2.2.2.2.2.2.2.2.2.2.2.2.2.2.2.2.2.2.2.2.2.2.2.2.2.2.2.2.2.2.2.2.1, h.2.2.2.2.2.2.2.2.2.2.2.2.2.2.2.2.2.2.2.2.2.2.2.2.2.2.2.2.2.2.2.2.2.2.2.2.2.2.2.2.2.2.2.2.2.2.2.2.2.2.2.1, h.2.2.2.2.2.2.2.2.2.2.2.2.2.2.2.2.2.2.2.2.2.2.2.2.2.2.2.2.2.2.2.2.2.2.2.2.2.2.2.2.2.2.2.2.2.2.2.2.2.2.2.2.1, h.2.2.2.2.2.2.2.2.2.2.2.2.2.2.2.2.2.2.2.2.2.2.2.2.2.2.2.2.2.2.2.2.2.2.2.2.2.2.2.2.2.2.2.2.2.2.2.2.2.2.2.2.2.1, h.2.2.2.2.2.2.2.2.2.2.2.2.2.2.2.2.2.2.2.2.2.2.2.2.2.2.2.2.2.2.2.2.2.2.2.2.2.2.2.2.2.2.2.2.2.2.2.2.2.2.2.2.2.2.1, h.2.2.2.2.2.2.2.2.2.2.2.2.2.2.2.2.2.2.2.2.2.2.2.2.2.2.2.2.2.2.2.2.2.2.2.2.2.2.2.2.2.2.2.2.2.2.2.2.2.2.2.2.2.2.2.1, h.2.2.2.2.2.2.2.2.2.2.2.2.2.2.2.2.2.2.2.2.2.2.2.2.2.2.2.2.2.2.2.2.2.2.2.2.2.2.2.2.2.2.2.2.2.2.2.2.2.2.2.2.2.2.2.2.1, h.2.2.2.2.2.2.2.2.2.2.2.2.2.2.2.2.2.2.2.2.2.2.2.2.2.2.2.2.2.2.2.2.2.2.2.2.2.2.2.2.2.2.2.2.2.2.2.2.2.2.2.2.2.2.2.2.2.1, h.2.2.2.2.2.2.2.2.2.2.2.2.2.2.2.2.2.2.2.2.2.2.2.2.2.2.2.2.2.2.2.2.2.2.2.2.2.2.2.2.2.2.2.2.2.2.2.2.2.2.2.2.2.2.2.2.2.2.1, h.2.2.2.2.2.2.2.2.2.2.2.2.2.2.2.2.2.2.2.2.2.2.2.2.2.2.2.2.2.2.2.2.2.2.2.2.2.2.2.2.2.2.2.2.2.2.2.2.2.2.2.2.2.2.2.2.2.2.2.1, h.2.2.2.2.2.2.2.2.2.2.2.2.2.2.2.2.2.2.2.2.2.2.2.2.2.2.2.2.2.2.2.2.2.2.2.2.2.2.2.2.2.2.2.2.2.2.2.2.2.2.2.2.2.2.2.2.2.2.2.2.1, h.2.2.2.2.2.2.2.2.2.2.2.2.2.2.2.2.2.2.2.2.2.2.2.2.2.2.2.2.2.2.2.2.2.2.2.2.2.2.2.2.2.2.2.2.2.2.2.2.2.2.2.2.2.2.2.2.2.2.2.2.2.1, h.2.2.2.2.2.2.2.2.2.2.2.2.2.2.2.2.2.2.2.2.2.2.2.2.2.2.2.2.2.2.2.2.2.2.2.2.2.2.2.2.2.2.2.2.2.2.2.2.2.2.2.2.2.2.2.2.2.2.2.2.2.2⟩
theorem Km25_I7 {u v : St} (h : Km25 u v) : fI v 0 7 = fI u 0 7 := h.2.2.2.1
theorem Km27_I3 {u v : St} (h : Km27 u v) : fI v 0 3 = fI u 0 3 := h.2.1
theorem Km25_I6 {u v : St} (h : Km25 u v) : fI v 0 6 = fI u 0 6 := h.2.2.1
theorem Km25_I8 {u v : St} (h : Km25 u v) : fI v 0 8 = fI u 0 8 := h.2.2.2.2.1
theorem wd_1556 : (Cond.methodLink "WebCourtModel" (240 : Nat) ⟨"WebCourtModel", "goOn", "()V"⟩) ∈ gtb := gtb_c7 7 (by decide +kernel) rfl
theorem wd_1558 : (Cond.instanceMethod ⟨"WebCourtModel", "goOn", "()V"⟩) ∈ gtb := gtb_c7 9 (by decide +kernel) rfl
theorem wd_48 : (Cond.selects "WebCourtModel" ⟨"WebCourtModel", "goOn", "()V"⟩ ⟨"WebCourtModel", "goOn", "()V"⟩) ∈ gtb := gtb_p 48 (by decide +kernel) rfl
theorem hd_yX11_goOn : yX11_goOn.cls = RX11 ∧ yX11_goOn.cls ≠ "java/lang/invoke/MethodHandle" ∧ yX11_goOn.cls ≠ "java/lang/invoke/VarHandle" ∧ (parseMethodDescriptor yX11_goOn.desc).map (fun d => d.parameters.length) = some 0 := by decide +kernel
theorem Km26_to_Km27 {u v : St} (h : Km26 u v) : Km27 u v := ⟨h.1, h.2.1, h.2.2.2.2.1, h.2.2.2.2.2.1, h.2.2.2.2.2.2.1, h.2.2.2.2.2.2.2.1, h.2.2.2.2.2.2.2.2.1, h.2.2.2.2.2.2.2.2.2.1, h.2.2.2.2.2.2.2.2.2.2.1, h.2.2.2.2.2.2.2.2.2.2.2.1, h.2.2.2.2.2.2.2.2.2.2.2.2.1, h.2.2.2.2.2.2.2.2.2.2.2.2.2.1, h.2.2.2.2.2.2.2.2.2.2.2.2.2.2.1, h.2.2.2.2.2.2.2.2.2.2.2.2.2.2.2.1, h.2.2.2.2.2.2.2.2.2.2.2.2.2.2.2.2.1, h.2.2.2.2.2.2.2.2.2.2.2.2.2.2.2.2.2.1, h.2.2.2.2.2.2.2.2.2.2.2.2.2.2.2.2.2.2.1, h.2.2.2.2.2.2.2.2.2.2.2.2.2.2.2.2.2.2.2.1, h.2.2.2.2.2.2.2.2.2.2.2.2.2.2.2.2.2.2.2.2.1, h.2.2.2.2.2.2.2.2.2.2.2.2.2.2.2.2.2.2.2.2.2.1, h.2.2.2.2.2.2.2.2.2.2.2.2.2.2.2.2.2.2.2.2.2.2.1, h.2.2.2.2.2.2.2.2.2.2.2.2.2.2.2.2.2.2.2.2.2.2.2.1, h.2.2.2.2.2.2.2.2.2.2.2.2.2.2.2.2.2.2.2.2.2.2.2.2.1, h.2.2.2.2.2.2.2.2.2.2.2.2.2.2.2.2.2.2.2.2.2.2.2.2.2.1, h.2.2.2.2.2.2.2.2.2.2.2.2.2.2.2.2.2.2.2.2.2.2.2.2.2.2.1, h.2.2.2.2.2.2.2.2.2.2.2.2.2.2.2.2.2.2.2.2.2.2.2.2.2.2.2.1, h.2.2.2.2.2.2.2.2.2.2.2.2.2.2.2.2.2.2.2.2.2.2.2.2.2.2.2.2.1, h.2.2.2.2.2.2.2.2.2.2.2.2.2.2.2.2.2.2.2.2.2.2.2.2.2.2.2.2.2.1, h.2.2.2.2.2.2.2.2.2.2.2.2.2.2.2.2.2.2.2.2.2.2.2.2.2.2.2.2.2.2.1, h.2.2.2.2.2.2.2.2.2.2.2.2.2.2.2.2.2.2.2.2.2.2.2.2.2.2.2.2.2.2.2.1, h.2.2.2.2.2.2.2.2.2.2.2.2.2.2.2.2.2.2.2.2.2.2.2.2.2.2.2.2.2.2.2.2.1, h.2.2.2.2.2.2.2.2.2.2.2.2.2.2.2.2.2.2.2.2.2.2.2.2.2.2.2.2.2.2.2.2.2.1, h.2.2.2.2.2.2.2.2.2.2.2.2.2.2.2.2.2.2.2.2.2.2.2.2.2.2.2.2.2.2.2.2.2.2.1, h.2.2.2.2.2.2.2.2.2.2.2.2.2.2.2.2.2.2.2.2.2.2.2.2.2.2.2.2.2.2.2.2.2.2.2.1, h.2.2.2.2.2.2.2.2.2.2.2.2.2.2.2.2.2.2.2.2.2.2.2.2.2.2.2.2.2.2.2.2.2.2.2.2.1, h.2.2.2.2.2.2.2.2.2.2.2.2.2.2.2.2.2.2.2.2.2.2.2.2.2.2.2.2.2.2.2.2.2.2.2.2.2.1, h.2.2.2.2.2.2.2.2.2.2.2.2.2.2.2.2.2.2.2.2.2.2.2.2.2.2.2.2.2.2.2.2.2.2.2.2.2.2.1, h.2.2.2.2.2.2.2.2.2.2.2.2.2.2.2.2.2.2.2.2.2.2.2.2.2.2.2.2.2.2.2.2.2.2.2.2.2.2.2.1, h.2.2.2.2.2.2.2.2.2.2.2.2.2.2.2.2.2.2.2.2.2.2.2.2.2.2.2.2.2.2.2.2.2.2.2.2.2.2.2.2.1, h.2.2.2.2.2.2.2.2.2.2.2.2.2.2.2.2.2.2.2.2.2.2.2.2.2.2.2.2.2.2.2.2.2.2.2.2.2.2.2.2.2.1, h.2.2.2.2.2.2.2.2.2.2.2.2.2.2.2.2.2.2.2.2.2.2.2.2.2.2.2.2.2.2.2.2.2.2.2.2.2.2.2.2.2.2.1, h.2.2.2.2.2.2.2.2.2.2.2.2.2.2.2.2.2.2.2.2.2.2.2.2.2.2.2.2.2.2.2.2.2.2.2.2.2.2.2.2.2.2.2.1, h.2.2.2.2.2.2.2.2.2.2.2.2.2.2.2.2.2.2.2.2.2.2.2.2.2.2.2.2.2.2.2.2.2.2.2.2.2.2.2.2.2.2.2.2.1, h.2.2.2.2.2.2.2.2.2.2.2.2.2.2.2.2.2.2.2.2.2.2.2.2.2.2.2.2.2.2.2.2.2.2.2.2.2.2.2.2.2.2.2.2.2.1, h.2.2.2.2.2.2.2.2.2.2.2.2.2.2.2.2.2.2.2.2.2.2.2.2.2.2.2.2.2.2.2.2.2.2.2.2.2.2.2.2.2.2.2.2.2.2.1, h.2.2.2.2.2.2.2.2.2.2.2.2.2.2.2.2.2.2.2.2.2.2.2.2.2.2.2.2.2.2.2.2.2.2.2.2.2.2.2.2.2.2.2.2.2.2.2.1, h.2.2.2.2.2.2.2.2.2.2.2.2.2.2.2.2.2.2.2.2.2.2.2.2.2.2.2.2.2.2.2.2.2.2.2.2.2.2.2.2.2.2.2.2.2.2.2.2.1, h.2.2.2.2.2.2.2.2.2.2.2.2.2.2.2.2.2.2.2.2.2.2.2.2.2.2.2.2.2.2.2.2.2.2.2.2.2.2.2.2.2.2.2.2.2.2.2.2.2.1, h.2.2.2.2.2.2.2.2.2.2.2.2.2.2.2.2.2.2.2.2.2.2.2.2.2.2.2.2.2.2.2.2.2.2.2.2.2.2.2.2.2.2.2.2.2.2.2.2.2.2.1, h.2.2.2.2.2.2.2.2.2.2.2.2.2.2.2.2.2.2.2.2.2.2.2.2.2.2.2.2.2.2.2.2.2.2.2.2.2.2.2.2.2.2.2.2.2.2.2.2.2.2.2.1, h.2.2.2.2.2.2.2.2.2.2.2.2.2.2.2.2.2.2.2.2.2.2.2.2.2.2.2.2.2.2.2.2.2.2.2.2.2.2.2.2.2.2.2.2.2.2.2.2.2.2.2.2.1, h.2.2.2.2.2.2.2.2.2.2.2.2.2.2.2.2.2.2.2.2.2.2.2.2.2.2.2.2.2.2.2.2.2.2.2.2.2.2.2.2.2.2.2.2.2.2.2.2.2.2.2.2.2.1, h.2.2.2.2.2.2.2.2.2.2.2.2.2.2.2.2.2.2.2.2.2.2.2.2.2.2.2.2.2.2.2.2.2.2.2.2.2.2.2.2.2.2.2.2.2.2.2.2.2.2.2.2.2.2.1, h.2.2.2.2.2.2.2.2.2.2.2.2.2.2.2.2.2.2.2.2.2.2.2.2.2.2.2.2.2.2.2.2.2.2.2.2.2.2.2.2.2.2.2.2.2.2.2.2.2.2.2.2.2.2.2.1, h.2.2.2.2.2.2.2.2.2.2.2.2.2.2.2.2.2.2.2.2.2.2.2.2.2.2.2.2.2.2.2.2.2.2.2.2.2.2.2.2.2.2.2.2.2.2.2.2.2.2.2.2.2.2.2.2.1, h.2.2.2.2.2.2.2.2.2.2.2.2.2.2.2.2.2.2.2.2.2.2.2.2.2.2.2.2.2.2.2.2.2.2.2.2.2.2.2.2.2.2.2.2.2.2.2.2.2.2.2.2.2.2.2.2.2.1, h.2.2.2.2.2.2.2.2.2.2.2.2.2.2.2.2.2.2.2.2.2.2.2.2.2.2.2.2.2.2.2.2.2.2.2.2.2.2.2.2.2.2.2.2.2.2.2.2.2.2.2.2.2.2.2.2.2.2.1, h.2.2.2.2.2.2.2.2.2.2.2.2.2.2.2.2.2.2.2.2.2.2.2.2.2.2.2.2.2.2.2.2.2.2.2.2.2.2.2.2.2.2.2.2.2.2.2.2.2.2.2.2.2.2.2.2.2.2.2⟩
theorem Km26_I4 {u v : St} (h : Km26 u v) : fI v 0 4 = fI u 0 4 := h.2.2.1
set_option maxHeartbeats 4000000 in
set_option maxRecDepth 100000 in
theorem T_X11_must (l : Launch) (D : va_G) (cy : Nat → ClassId) (a : Nat → Nat) (u : St) (hJ : MI a u) (hp0 : (fI u 0 7).toInt ≤ (fI u 0 3).toInt) (hp1 : (fI u 0 6).toInt ≤ (fI u 0 7).toInt) (hp2 : (fI u 0 8).toInt = 0 ∨ (fI u 0 6).toInt < (fI u 0 7).toInt) (x1 : Int32)  : Mv l D cy (mW cy a) yX11_must (.code yX11_must cX11_must 2 none) (rmo 2 44) [.ref (a 0), .int x1] u (fun (u' : St) => (MI a u') ∧ (Km27 u u') ∧ ((fI u' 0 7).toInt ≤ (fI u' 0 3).toInt) ∧ ((fI u' 0 6).toInt ≤ (fI u' 0 7).toInt) ∧ ((fI u' 0 8).toInt = 0 ∨ (fI u' 0 6).toInt < (fI u' 0 7).toInt) ∧ ((fI u 0 6).toInt ≤ (fI u' 0 6).toInt) ∧ ((fI u 0 4).toInt = 0 ∨ ¬ (fI u' 0 4).toInt = 0)) := by
  refine Mv.of (own := RX11) rfl (by decide) (Nat.le_of_ble_eq_true rfl) ?_
  have hT : Km27 u u := Km27.rf
  have hJ0 := hJ
  intro p e s m below meth c A Q ls C hret hO hl
  obtain ⟨hx, hb, hml, hown, ht, hK, hA⟩ := id C
  have hl : lv_has ls 2 [(0, .ref (a 0)), (1, .int x1)] := hl
  refine lv_aload_n hx hb dX11_must_0 rfl (lv_at hl 0 rfl) ?_
  have g1 : 0 ≤ (fI u 0 4).toInt ∧ (fI u 0 4).toInt ≤ 5 := by have h := MI_4 hJ0; exact h
  refine cVi (w := mW cy a) (As := []) (rest := []) C hO (T_X11_isGood l D cy a _ (by exact hJ) ((fI u 0 4)) (by exact rfl)) (cwV 0 ht (gV wd_1596 wd_1598 wd_50 wd_121 wd_1599) rfl rfl rfl hd_yX11_isGood ⟨Nat.le_of_ble_eq_true rfl, Nat.le_of_ble_eq_true rfl⟩) 0 rfl mW_0 rfl rfl hl.1 (Nat.le_of_ble_eq_true rfl) dX11_must_1 rfl ⟨Nat.zero_le _, Nat.zero_le _⟩ (fun r2 u3 H locs hp4 hO => ?_)
  obtain ⟨hr2, hu3⟩ := hp4
  rw [hu3] at hO
  rcases hr2 with ⟨hcr2, hvr2⟩ | ⟨hcr2, hvr2⟩
  · subst hvr2
    refine bt_ne (tgt := 8) (X := 1) hx hb dX11_must_4 (by decide) rfl (by omega) ?_
    refine lv_iload_n hx hb dX11_must_8 rfl (lv_at hl 1 rfl) ?_
    refine bs_eq (tgt := 19) (X := (x1).toInt) hx hb dX11_must_9 (by decide) rfl (fun c5 => ?_) (fun c5 => ?_)
    · refine lv_aload_n hx hb dX11_must_19 rfl (lv_at hl 0 rfl) ?_
      refine cVv (w := mW cy a) (As := []) (rest := []) C hO (T_X11_misplaced l D cy a _ (by exact hJ)) (cwV 0 ht (gV wd_1615 wd_1617 wd_54 wd_121 wd_1618) rfl rfl rfl hd_yX11_misplaced ⟨Nat.le_of_ble_eq_true rfl, Nat.le_of_ble_eq_true rfl⟩) 0 rfl mW_0 rfl rfl hl.1 (Nat.le_of_ble_eq_true rfl) dX11_must_20 rfl ⟨Nat.zero_le _, Nat.zero_le _⟩ (fun u7 H locs hp8 hO => ?_)
      obtain ⟨hJ, hTu7, hx0u7⟩ := hp8
      have hT : Km27 u u7 := Km27.tr (by exact hT) (Km25_to_Km27 hTu7)
      have g9 : 0 ≤ (fI u7 0 4).toInt ∧ (fI u7 0 4).toInt ≤ 5 := by have h := MI_4 hJ; exact h
      have y0u7 : ¬ ((fI u7 0 4) : Int32).toInt = 0 := by exact hx0u7
      have g10 : 0 ≤ (fI u 0 7).toInt ∧ (fI u 0 7).toInt ≤ 1601 := by have h := MI_7 hJ0; exact h
      have g11 : 0 ≤ (fI u 0 3).toInt ∧ (fI u 0 3).toInt ≤ 1600 := by have h := MI_3 hJ0; exact h
      have q12 : ((fI u 0 7) : Int32).toInt ≤ ((fI u 0 3) : Int32).toInt := by first | omega | decide
      have g13 : 0 ≤ (fI u 0 6).toInt ∧ (fI u 0 6).toInt ≤ 1600 := by have h := MI_6 hJ0; exact h
      have q14 : ((fI u 0 6) : Int32).toInt ≤ ((fI u 0 7) : Int32).toInt := by first | omega | decide
      have g15 : 0 ≤ (fI u 0 8).toInt ∧ (fI u 0 8).toInt ≤ 5 := by have h := MI_8 hJ0; exact h
      have q16 : ((fI u 0 8) : Int32).toInt = 0 ∨ ((fI u 0 6) : Int32).toInt < ((fI u 0 7) : Int32).toInt := by first | omega | decide
      have q17 : ((fI u 0 6) : Int32).toInt ≤ ((fI u 0 6) : Int32).toInt := by first | omega | decide
      have q18 : ((fI u 0 4) : Int32).toInt = 0 ∨ ¬ ((fI u7 0 4) : Int32).toInt = 0 := by first | omega | decide
      refine hret _ _ _ _ _ dX11_must_23 ?_ hO
      exact ⟨hJ, hT, (show (fI u7 0 7 : Int32).toInt ≤ (fI u7 0 3 : Int32).toInt from by rw [show fI u7 0 7 = (fI u 0 7) from (Km25_I7 hTu7), show fI u7 0 3 = (fI u 0 3) from (Km27_I3 hT)]; first | done | exact q12), (show (fI u7 0 6 : Int32).toInt ≤ (fI u7 0 7 : Int32).toInt from by rw [show fI u7 0 6 = (fI u 0 6) from (Km25_I6 hTu7), show fI u7 0 7 = (fI u 0 7) from (Km25_I7 hTu7)]; first | done | exact q14), (show (fI u7 0 8 : Int32).toInt = 0 ∨ (fI u7 0 6 : Int32).toInt < (fI u7 0 7 : Int32).toInt from by rw [show fI u7 0 8 = (fI u 0 8) from (Km25_I8 hTu7), show fI u7 0 6 = (fI u 0 6) from (Km25_I6 hTu7), show fI u7 0 7 = (fI u 0 7) from (Km25_I7 hTu7)]; first | done | exact q16), (show ((fI u 0 6) : Int32).toInt ≤ (fI u7 0 6 : Int32).toInt from by rw [show fI u7 0 6 = (fI u 0 6) from (Km25_I6 hTu7)]; first | done | exact q17), q18⟩
    · refine lv_aload_n hx hb dX11_must_12 rfl (lv_at hl 0 rfl) ?_
      have g19 : 0 ≤ (fI u 0 7).toInt ∧ (fI u 0 7).toInt ≤ 1601 := by have h := MI_7 hJ0; exact h
      have g20 : 0 ≤ (fI u 0 3).toInt ∧ (fI u 0 3).toInt ≤ 1600 := by have h := MI_3 hJ0; exact h
      refine cVv (w := mW cy a) (As := []) (rest := []) C hO (T_X11_goOn l D cy a _ (by exact hJ) (by exact (show ((fI u 0 7) : Int32).toInt ≤ ((fI u 0 3) : Int32).toInt from by first | omega | decide))) (cwV 0 ht (gV wd_1556 wd_1558 wd_48 wd_121 wd_1559) rfl rfl rfl hd_yX11_goOn ⟨Nat.le_of_ble_eq_true rfl, Nat.le_of_ble_eq_true rfl⟩) 0 rfl mW_0 rfl rfl hl.1 (Nat.le_of_ble_eq_true rfl) dX11_must_13 rfl ⟨Nat.zero_le _, Nat.zero_le _⟩ (fun u22 H locs hp23 hO => ?_)
      obtain ⟨hJ, hTu22, hx0u22, hx1u22, hx2u22, hx3u22⟩ := hp23
      have hT : Km27 u u22 := Km27.tr (by exact hT) (Km26_to_Km27 hTu22)
      have g24 : 0 ≤ (fI u22 0 7).toInt ∧ (fI u22 0 7).toInt ≤ 1601 := by have h := MI_7 hJ; exact h
      have y0u22 : ((fI u22 0 7) : Int32).toInt ≤ ((fI u 0 3) : Int32).toInt := by have h := hx0u22; simp only [(Km27_I3 hT)] at h; exact h
      have g25 : 0 ≤ (fI u22 0 6).toInt ∧ (fI u22 0 6).toInt ≤ 1600 := by have h := MI_6 hJ; exact h
      have y1u22 : ((fI u22 0 6) : Int32).toInt ≤ ((fI u22 0 7) : Int32).toInt := by exact hx1u22
      have g26 : 0 ≤ (fI u22 0 8).toInt ∧ (fI u22 0 8).toInt ≤ 5 := by have h := MI_8 hJ; exact h
      have y2u22 : ((fI u22 0 8) : Int32).toInt = 0 ∨ ((fI u22 0 6) : Int32).toInt < ((fI u22 0 7) : Int32).toInt := by exact hx2u22
      have y3u22 : ((fI u 0 7) : Int32).toInt ≤ ((fI u22 0 6) : Int32).toInt := by exact hx3u22
      refine lv_goto (tgt := 23) hx hb dX11_must_16 (by decide) ?_
      have q27 : ((fI u22 0 7) : Int32).toInt ≤ ((fI u 0 3) : Int32).toInt := by first | omega | decide
      have q28 : ((fI u22 0 6) : Int32).toInt ≤ ((fI u22 0 7) : Int32).toInt := by first | omega | decide
      have q29 : ((fI u22 0 8) : Int32).toInt = 0 ∨ ((fI u22 0 6) : Int32).toInt < ((fI u22 0 7) : Int32).toInt := by first | omega | decide
      have g30 : 0 ≤ (fI u 0 6).toInt ∧ (fI u 0 6).toInt ≤ 1600 := by have h := MI_6 hJ0; exact h
      have q31 : ((fI u 0 6) : Int32).toInt ≤ ((fI u22 0 6) : Int32).toInt := by first | omega | decide
      have q32 : ((fI u 0 4) : Int32).toInt = 0 ∨ ¬ ((fI u 0 4) : Int32).toInt = 0 := by first | omega | decide
      refine hret _ _ _ _ _ dX11_must_23 ?_ hO
      exact ⟨hJ, hT, (show ((fI u22 0 7) : Int32).toInt ≤ (fI u22 0 3 : Int32).toInt from by rw [show fI u22 0 3 = (fI u 0 3) from (Km27_I3 hT)]; first | done | exact q27), q28, q29, q31, (show ((fI u 0 4) : Int32).toInt = 0 ∨ ¬ (fI u22 0 4 : Int32).toInt = 0 from by rw [show fI u22 0 4 = (fI u 0 4) from (Km26_I4 hTu22)]; first | done | exact q32)⟩
  · subst hvr2
    refine bn_ne (X := 0) hx hb dX11_must_4 rfl (by omega) ?_ (tgt := 8) (by decide)
    have g33 : 0 ≤ (fI u 0 7).toInt ∧ (fI u 0 7).toInt ≤ 1601 := by have h := MI_7 hJ0; exact h
    have g34 : 0 ≤ (fI u 0 3).toInt ∧ (fI u 0 3).toInt ≤ 1600 := by have h := MI_3 hJ0; exact h
    have q35 : ((fI u 0 7) : Int32).toInt ≤ ((fI u 0 3) : Int32).toInt := by first | omega | decide
    have g36 : 0 ≤ (fI u 0 6).toInt ∧ (fI u 0 6).toInt ≤ 1600 := by have h := MI_6 hJ0; exact h
    have q37 : ((fI u 0 6) : Int32).toInt ≤ ((fI u 0 7) : Int32).toInt := by first | omega | decide
    have g38 : 0 ≤ (fI u 0 8).toInt ∧ (fI u 0 8).toInt ≤ 5 := by have h := MI_8 hJ0; exact h
    have q39 : ((fI u 0 8) : Int32).toInt = 0 ∨ ((fI u 0 6) : Int32).toInt < ((fI u 0 7) : Int32).toInt := by first | omega | decide
    have q40 : ((fI u 0 6) : Int32).toInt ≤ ((fI u 0 6) : Int32).toInt := by first | omega | decide
    have q41 : ((fI u 0 4) : Int32).toInt = 0 ∨ ¬ ((fI u 0 4) : Int32).toInt = 0 := by first | omega | decide
    refine hret _ _ _ _ _ dX11_must_7 ?_ hO
    exact ⟨hJ, hT, q35, q37, q39, q40, q41⟩
theorem dX11_numeral_0 : decode cX11_numeral 0 = .ok (.aload_n 0, 1) := by decide +kernel
theorem dX11_numeral_1 : decode cX11_numeral 1 = .ok (.invokevirtual 236, 3) := by decide +kernel
theorem dX11_numeral_4 : decode cX11_numeral 4 = .ok (.ifCond .ne 5, 3) := by decide +kernel
theorem dX11_numeral_7 : decode cX11_numeral 7 = .ok (.iload_n 1, 1) := by decide +kernel
theorem dX11_numeral_8 : decode cX11_numeral 8 = .ok (.ireturn, 1) := by decide +kernel
theorem dX11_numeral_9 : decode cX11_numeral 9 = .ok (.aload_n 0, 1) := by decide +kernel
theorem dX11_numeral_10 : decode cX11_numeral 10 = .ok (.getfield 208, 3) := by decide +kernel
theorem dX11_numeral_13 : decode cX11_numeral 13 = .ok (.iconst 4, 1) := by decide +kernel
theorem dX11_numeral_14 : decode cX11_numeral 14 = .ok (.if_icmp .eq 7, 3) := by decide +kernel
theorem dX11_numeral_17 : decode cX11_numeral 17 = .ok (.aload_n 0, 1) := by decide +kernel
theorem dX11_numeral_18 : decode cX11_numeral 18 = .ok (.invokevirtual 243, 3) := by decide +kernel
theorem dX11_numeral_21 : decode cX11_numeral 21 = .ok (.aload_n 0, 1) := by decide +kernel
theorem dX11_numeral_22 : decode cX11_numeral 22 = .ok (.invokevirtual 236, 3) := by decide +kernel
theorem dX11_numeral_25 : decode cX11_numeral 25 = .ok (.ifCond .eq 28, 3) := by decide +kernel
theorem dX11_numeral_28 : decode cX11_numeral 28 = .ok (.aload_n 0, 1) := by decide +kernel
theorem dX11_numeral_29 : decode cX11_numeral 29 = .ok (.getfield 226, 3) := by decide +kernel
theorem dX11_numeral_32 : decode cX11_numeral 32 = .ok (.iload_n 1, 1) := by decide +kernel
theorem dX11_numeral_33 : decode cX11_numeral 33 = .ok (.if_icmp .lt 11, 3) := by decide +kernel
theorem dX11_numeral_36 : decode cX11_numeral 36 = .ok (.aload_n 0, 1) := by decide +kernel
theorem dX11_numeral_37 : decode cX11_numeral 37 = .ok (.getfield 226, 3) := by decide +kernel
theorem dX11_numeral_40 : decode cX11_numeral 40 = .ok (.iload_n 2, 1) := by decide +kernel
theorem dX11_numeral_41 : decode cX11_numeral 41 = .ok (.if_icmp .le 12, 3) := by decide +kernel
theorem dX11_numeral_44 : decode cX11_numeral 44 = .ok (.aload_n 0, 1) := by decide +kernel
theorem dX11_numeral_45 : decode cX11_numeral 45 = .ok (.iconst 4, 1) := by decide +kernel
theorem dX11_numeral_46 : decode cX11_numeral 46 = .ok (.aload_n 0, 1) := by decide +kernel
theorem dX11_numeral_47 : decode cX11_numeral 47 = .ok (.getfield 201, 3) := by decide +kernel
theorem dX11_numeral_50 : decode cX11_numeral 50 = .ok (.invokevirtual 232, 3) := by decide +kernel
theorem dX11_numeral_53 : decode cX11_numeral 53 = .ok (.aload_n 0, 1) := by decide +kernel
theorem dX11_numeral_54 : decode cX11_numeral 54 = .ok (.getfield 226, 3) := by decide +kernel
theorem dX11_numeral_57 : decode cX11_numeral 57 = .ok (.istore_n 3, 1) := by decide +kernel
theorem dX11_numeral_58 : decode cX11_numeral 58 = .ok (.aload_n 0, 1) := by decide +kernel
theorem dX11_numeral_59 : decode cX11_numeral 59 = .ok (.invokevirtual 236, 3) := by decide +kernel
theorem dX11_numeral_62 : decode cX11_numeral 62 = .ok (.ifCond .eq 7, 3) := by decide +kernel
theorem dX11_numeral_65 : decode cX11_numeral 65 = .ok (.aload_n 0, 1) := by decide +kernel
theorem dX11_numeral_66 : decode cX11_numeral 66 = .ok (.invokevirtual 240, 3) := by decide +kernel
theorem dX11_numeral_69 : decode cX11_numeral 69 = .ok (.aload_n 0, 1) := by decide +kernel
theorem dX11_numeral_70 : decode cX11_numeral 70 = .ok (.invokevirtual 236, 3) := by decide +kernel
theorem dX11_numeral_73 : decode cX11_numeral 73 = .ok (.ifCond .eq 7, 3) := by decide +kernel
theorem dX11_numeral_76 : decode cX11_numeral 76 = .ok (.iload_n 3, 1) := by decide +kernel
theorem dX11_numeral_77 : decode cX11_numeral 77 = .ok (.goto 4, 3) := by decide +kernel
theorem dX11_numeral_80 : decode cX11_numeral 80 = .ok (.iload_n 1, 1) := by decide +kernel
theorem dX11_numeral_81 : decode cX11_numeral 81 = .ok (.ireturn, 1) := by decide +kernel
theorem wd_1658 : (Cond.code ⟨"WebCourtModel", "numeral", "(II)I"⟩ prog_13_method_14_code (4 : Nat) (Option.some FieldType.int)) ∈ gtb := gtb_c7 109 (by decide +kernel) rfl
theorem Km25_I9 {u v : St} (h : Km25 u v) : fI v 0 9 = fI u 0 9 := h.2.2.2.2.2.1
set_option maxHeartbeats 4000000 in
set_option maxRecDepth 100000 in
theorem T_X11_numeral (l : Launch) (D : va_G) (cy : Nat → ClassId) (a : Nat → Nat) (u : St) (hJ : MI a u) (hp0 : (fI u 0 7).toInt ≤ (fI u 0 3).toInt) (hp1 : (fI u 0 6).toInt ≤ (fI u 0 7).toInt) (hp2 : (fI u 0 8).toInt = 0 ∨ (fI u 0 6).toInt < (fI u 0 7).toInt) (x1 : Int32) (x2 : Int32)  : Mi l D cy (mW cy a) yX11_numeral (.code yX11_numeral cX11_numeral 4 (some .int)) (rmo 2 44) [.ref (a 0), .int x1, .int x2] u (fun (r : Int32) (u' : St) => (MI a u') ∧ (Km27 u u') ∧ ((fI u' 0 7).toInt ≤ (fI u' 0 3).toInt) ∧ ((fI u' 0 6).toInt ≤ (fI u' 0 7).toInt) ∧ ((fI u' 0 8).toInt = 0 ∨ (fI u' 0 6).toInt < (fI u' 0 7).toInt) ∧ ((fI u 0 6).toInt ≤ (fI u' 0 6).toInt) ∧ ((fI u 0 4).toInt = 0 ∨ ¬ (fI u' 0 4).toInt = 0)) := by
  refine Mi.of (own := RX11) rfl (by decide) (Nat.le_of_ble_eq_true rfl) ?_
  have hT : Km27 u u := Km27.rf
  have hJ0 := hJ
  intro p e s m below meth c A Q ls C hret hO hl
  obtain ⟨hx, hb, hml, hown, ht, hK, hA⟩ := id C
  have hl : lv_has ls 4 [(0, .ref (a 0)), (1, .int x1), (2, .int x2)] := hl
  refine lv_aload_n hx hb dX11_numeral_0 rfl (lv_at hl 0 rfl) ?_
  have g1 : 0 ≤ (fI u 0 4).toInt ∧ (fI u 0 4).toInt ≤ 5 := by have h := MI_4 hJ0; exact h
  refine cVi (w := mW cy a) (As := []) (rest := []) C hO (T_X11_isGood l D cy a _ (by exact hJ) ((fI u 0 4)) (by exact rfl)) (cwV 0 ht (gV wd_1596 wd_1598 wd_50 wd_121 wd_1599) rfl rfl rfl hd_yX11_isGood ⟨Nat.le_of_ble_eq_true rfl, Nat.le_of_ble_eq_true rfl⟩) 0 rfl mW_0 rfl rfl hl.1 (Nat.le_of_ble_eq_true rfl) dX11_numeral_1 rfl ⟨Nat.zero_le _, Nat.zero_le _⟩ (fun r2 u3 H locs hp4 hO => ?_)
  obtain ⟨hr2, hu3⟩ := hp4
  rw [hu3] at hO
  rcases hr2 with ⟨hcr2, hvr2⟩ | ⟨hcr2, hvr2⟩
  · subst hvr2
    refine bt_ne (tgt := 9) (X := 1) hx hb dX11_numeral_4 (by decide) rfl (by omega) ?_
    refine lv_aload_n hx hb dX11_numeral_9 rfl (lv_at hl 0 rfl) ?_
    have g5 : 0 ≤ (fI u 0 8).toInt ∧ (fI u 0 8).toInt ≤ 5 := by have h := MI_8 hJ0; exact h
    refine gf_RX11_208 (v := .int (fI u 0 8)) C hO 0 mW_0 rfl dX11_numeral_10 ?_
    refine lv_iconst (v := 4) hx hb dX11_numeral_13 (by decide) ?_
    refine cs_eq (tgt := 21) (X := ((fI u 0 8)).toInt) (Y := 4) hx hb dX11_numeral_14 (by decide) rfl rfl (fun c6 => ?_) (fun c6 => ?_)
    · refine lv_aload_n hx hb dX11_numeral_21 rfl (lv_at hl 0 rfl) ?_
      refine cVi (w := mW cy a) (As := []) (rest := []) C hO (T_X11_isGood l D cy a _ (by exact hJ) ((fI u 0 4)) (by exact rfl)) (cwV 0 ht (gV wd_1596 wd_1598 wd_50 wd_121 wd_1599) rfl rfl rfl hd_yX11_isGood ⟨Nat.le_of_ble_eq_true rfl, Nat.le_of_ble_eq_true rfl⟩) 0 rfl mW_0 rfl rfl hl.1 (Nat.le_of_ble_eq_true rfl) dX11_numeral_22 rfl ⟨Nat.zero_le _, Nat.zero_le _⟩ (fun r7 u8 H locs hp9 hO => ?_)
      obtain ⟨hr7, hu8⟩ := hp9
      rw [hu8] at hO
      rcases hr7 with ⟨hcr7, hvr7⟩ | ⟨hcr7, hvr7⟩
      · subst hvr7
        refine bn_eq (X := 1) hx hb dX11_numeral_25 rfl (by omega) ?_ (tgt := 53) (by decide)
        refine lv_aload_n hx hb dX11_numeral_28 rfl (lv_at hl 0 rfl) ?_
        refine gf_RX11_226 (v := .int (fI u 0 9)) C hO 0 mW_0 rfl dX11_numeral_29 ?_
        refine lv_iload_n hx hb dX11_numeral_32 rfl (lv_at hl 1 rfl) ?_
        refine cs_lt (tgt := 44) (X := ((fI u 0 9)).toInt) (Y := (x1).toInt) hx hb dX11_numeral_33 (by decide) rfl rfl (fun c10 => ?_) (fun c10 => ?_)
        · refine lv_aload_n hx hb dX11_numeral_44 rfl (lv_at hl 0 rfl) ?_
          refine lv_iconst (v := 4) hx hb dX11_numeral_45 (by decide) ?_
          refine lv_aload_n hx hb dX11_numeral_46 rfl (lv_at hl 0 rfl) ?_
          have g11 : 0 ≤ (fI u 0 6).toInt ∧ (fI u 0 6).toInt ≤ 1600 := by have h := MI_6 hJ0; exact h
          refine gf_RX11_201 (v := .int (fI u 0 6)) C hO 0 mW_0 rfl dX11_numeral_47 ?_
          refine cVv (w := mW cy a) (As := [.int 4, .int (fI u 0 6)]) (rest := []) C hO (T_X11_fails l D cy a _ (by exact hJ) (4) ((fI u 0 6)) (by first | omega | decide)) (cwV 2 ht (gV wd_1619 wd_1621 wd_55 wd_121 wd_1622) rfl rfl rfl hd_yX11_fails ⟨Nat.le_of_ble_eq_true rfl, Nat.le_of_ble_eq_true rfl⟩) 0 rfl mW_0 rfl rfl hl.1 (Nat.le_of_ble_eq_true rfl) dX11_numeral_50 rfl ⟨Nat.zero_le _, Nat.zero_le _⟩ (fun u13 H locs hp14 hO => ?_)
          obtain ⟨hJ, hTu13, hx0u13⟩ := hp14
          have hT : Km27 u u13 := Km27.tr (by exact hT) (Km25_to_Km27 hTu13)
          have g15 : 0 ≤ (fI u13 0 4).toInt ∧ (fI u13 0 4).toInt ≤ 5 := by have h := MI_4 hJ; exact h
          have y0u13 : ¬ ((fI u13 0 4) : Int32).toInt = 0 := by exact hx0u13
          refine lv_aload_n hx hb dX11_numeral_53 rfl (lv_at hl 0 rfl) ?_
          refine gf_RX11_226 (v := .int (fI u 0 9)) C hO 0 mW_0 (congrArg (fun z : Int32 => some (Value.int z)) (Km25_I9 hTu13)) dX11_numeral_54 ?_
          refine lv_istore_n (lv' := [(3, .int (fI u 0 9)), (0, .ref (a 0)), (1, .int x1), (2, .int x2)]) hx hb dX11_numeral_57 rfl hl (by decide) rfl (fun ls hl => ?_)
          refine lv_aload_n hx hb dX11_numeral_58 rfl (lv_at hl 1 rfl) ?_
          refine cVi (w := mW cy a) (As := []) (rest := []) C hO (T_X11_isGood l D cy a _ (by exact hJ) ((fI u13 0 4)) (by exact rfl)) (cwV 0 ht (gV wd_1596 wd_1598 wd_50 wd_121 wd_1599) rfl rfl rfl hd_yX11_isGood ⟨Nat.le_of_ble_eq_true rfl, Nat.le_of_ble_eq_true rfl⟩) 0 rfl mW_0 rfl rfl hl.1 (Nat.le_of_ble_eq_true rfl) dX11_numeral_59 rfl ⟨Nat.zero_le _, Nat.zero_le _⟩ (fun r16 u17 H locs hp18 hO => ?_)
          obtain ⟨hr16, hu17⟩ := hp18
          rw [hu17] at hO
          rcases hr16 with ⟨hcr16, hvr16⟩ | ⟨hcr16, hvr16⟩
          · exfalso
            omega
          · subst hvr16
            refine bt_eq (tgt := 69) (X := 0) hx hb dX11_numeral_62 (by decide) rfl (by omega) ?_
            refine lv_aload_n hx hb dX11_numeral_69 rfl (lv_at hl 1 rfl) ?_
            refine cVi (w := mW cy a) (As := []) (rest := []) C hO (T_X11_isGood l D cy a _ (by exact hJ) ((fI u13 0 4)) (by exact rfl)) (cwV 0 ht (gV wd_1596 wd_1598 wd_50 wd_121 wd_1599) rfl rfl rfl hd_yX11_isGood ⟨Nat.le_of_ble_eq_true rfl, Nat.le_of_ble_eq_true rfl⟩) 0 rfl mW_0 rfl rfl hl.1 (Nat.le_of_ble_eq_true rfl) dX11_numeral_70 rfl ⟨Nat.zero_le _, Nat.zero_le _⟩ (fun r19 u20 H locs hp21 hO => ?_)
            obtain ⟨hr19, hu20⟩ := hp21
            rw [hu20] at hO
            rcases hr19 with ⟨hcr19, hvr19⟩ | ⟨hcr19, hvr19⟩
            · exfalso
              omega
            · subst hvr19
              refine bt_eq (tgt := 80) (X := 0) hx hb dX11_numeral_73 (by decide) rfl (by omega) ?_
              refine lv_iload_n hx hb dX11_numeral_80 rfl (lv_at hl 2 rfl) ?_
              have g22 : 0 ≤ (fI u 0 7).toInt ∧ (fI u 0 7).toInt ≤ 1601 := by have h := MI_7 hJ0; exact h
              have g23 : 0 ≤ (fI u 0 3).toInt ∧ (fI u 0 3).toInt ≤ 1600 := by have h := MI_3 hJ0; exact h
              have q24 : ((fI u 0 7) : Int32).toInt ≤ ((fI u 0 3) : Int32).toInt := by first | omega | decide
              have q25 : ((fI u 0 6) : Int32).toInt ≤ ((fI u 0 7) : Int32).toInt := by first | omega | decide
              have q26 : ((fI u 0 8) : Int32).toInt = 0 ∨ ((fI u 0 6) : Int32).toInt < ((fI u 0 7) : Int32).toInt := by first | omega | decide
              have q27 : ((fI u 0 6) : Int32).toInt ≤ ((fI u 0 6) : Int32).toInt := by first | omega | decide
              have q28 : ((fI u 0 4) : Int32).toInt = 0 ∨ ¬ ((fI u13 0 4) : Int32).toInt = 0 := by first | omega | decide
              refine hret _ _ _ _ _ _ dX11_numeral_81 rfl ?_ hO
              exact ⟨hJ, hT, (show (fI u13 0 7 : Int32).toInt ≤ (fI u13 0 3 : Int32).toInt from by rw [show fI u13 0 7 = (fI u 0 7) from (Km25_I7 hTu13), show fI u13 0 3 = (fI u 0 3) from (Km27_I3 hT)]; first | done | exact q24), (show (fI u13 0 6 : Int32).toInt ≤ (fI u13 0 7 : Int32).toInt from by rw [show fI u13 0 6 = (fI u 0 6) from (Km25_I6 hTu13), show fI u13 0 7 = (fI u 0 7) from (Km25_I7 hTu13)]; first | done | exact q25), (show (fI u13 0 8 : Int32).toInt = 0 ∨ (fI u13 0 6 : Int32).toInt < (fI u13 0 7 : Int32).toInt from by rw [show fI u13 0 8 = (fI u 0 8) from (Km25_I8 hTu13), show fI u13 0 6 = (fI u 0 6) from (Km25_I6 hTu13), show fI u13 0 7 = (fI u 0 7) from (Km25_I7 hTu13)]; first | done | exact q26), (show ((fI u 0 6) : Int32).toInt ≤ (fI u13 0 6 : Int32).toInt from by rw [show fI u13 0 6 = (fI u 0 6) from (Km25_I6 hTu13)]; first | done | exact q27), q28⟩
        · refine lv_aload_n hx hb dX11_numeral_36 rfl (lv_at hl 0 rfl) ?_
          refine gf_RX11_226 (v := .int (fI u 0 9)) C hO 0 mW_0 rfl dX11_numeral_37 ?_
          refine lv_iload_n hx hb dX11_numeral_40 rfl (lv_at hl 2 rfl) ?_
          refine cs_le (tgt := 53) (X := ((fI u 0 9)).toInt) (Y := (x2).toInt) hx hb dX11_numeral_41 (by decide) rfl rfl (fun c29 => ?_) (fun c29 => ?_)
          · refine lv_aload_n hx hb dX11_numeral_53 rfl (lv_at hl 0 rfl) ?_
            refine gf_RX11_226 (v := .int (fI u 0 9)) C hO 0 mW_0 rfl dX11_numeral_54 ?_
            refine lv_istore_n (lv' := [(3, .int (fI u 0 9)), (0, .ref (a 0)), (1, .int x1), (2, .int x2)]) hx hb dX11_numeral_57 rfl hl (by decide) rfl (fun ls hl => ?_)
            refine lv_aload_n hx hb dX11_numeral_58 rfl (lv_at hl 1 rfl) ?_
            refine cVi (w := mW cy a) (As := []) (rest := []) C hO (T_X11_isGood l D cy a _ (by exact hJ) ((fI u 0 4)) (by exact rfl)) (cwV 0 ht (gV wd_1596 wd_1598 wd_50 wd_121 wd_1599) rfl rfl rfl hd_yX11_isGood ⟨Nat.le_of_ble_eq_true rfl, Nat.le_of_ble_eq_true rfl⟩) 0 rfl mW_0 rfl rfl hl.1 (Nat.le_of_ble_eq_true rfl) dX11_numeral_59 rfl ⟨Nat.zero_le _, Nat.zero_le _⟩ (fun r30 u31 H locs hp32 hO => ?_)
            obtain ⟨hr30, hu31⟩ := hp32
            rw [hu31] at hO
            rcases hr30 with ⟨hcr30, hvr30⟩ | ⟨hcr30, hvr30⟩
            · subst hvr30
              refine bn_eq (X := 1) hx hb dX11_numeral_62 rfl (by omega) ?_ (tgt := 69) (by decide)
              refine lv_aload_n hx hb dX11_numeral_65 rfl (lv_at hl 1 rfl) ?_
              have g33 : 0 ≤ (fI u 0 7).toInt ∧ (fI u 0 7).toInt ≤ 1601 := by have h := MI_7 hJ0; exact h
              have g34 : 0 ≤ (fI u 0 3).toInt ∧ (fI u 0 3).toInt ≤ 1600 := by have h := MI_3 hJ0; exact h
              refine cVv (w := mW cy a) (As := []) (rest := []) C hO (T_X11_goOn l D cy a _ (by exact hJ) (by exact (show ((fI u 0 7) : Int32).toInt ≤ ((fI u 0 3) : Int32).toInt from by first | omega | decide))) (cwV 0 ht (gV wd_1556 wd_1558 wd_48 wd_121 wd_1559) rfl rfl rfl hd_yX11_goOn ⟨Nat.le_of_ble_eq_true rfl, Nat.le_of_ble_eq_true rfl⟩) 0 rfl mW_0 rfl rfl hl.1 (Nat.le_of_ble_eq_true rfl) dX11_numeral_66 rfl ⟨Nat.zero_le _, Nat.zero_le _⟩ (fun u36 H locs hp37 hO => ?_)
              obtain ⟨hJ, hTu36, hx0u36, hx1u36, hx2u36, hx3u36⟩ := hp37
              have hT : Km27 u u36 := Km27.tr (by exact hT) (Km26_to_Km27 hTu36)
              have g38 : 0 ≤ (fI u36 0 7).toInt ∧ (fI u36 0 7).toInt ≤ 1601 := by have h := MI_7 hJ; exact h
              have y0u36 : ((fI u36 0 7) : Int32).toInt ≤ ((fI u 0 3) : Int32).toInt := by have h := hx0u36; simp only [(Km27_I3 hT)] at h; exact h
              have g39 : 0 ≤ (fI u36 0 6).toInt ∧ (fI u36 0 6).toInt ≤ 1600 := by have h := MI_6 hJ; exact h
              have y1u36 : ((fI u36 0 6) : Int32).toInt ≤ ((fI u36 0 7) : Int32).toInt := by exact hx1u36
              have g40 : 0 ≤ (fI u36 0 8).toInt ∧ (fI u36 0 8).toInt ≤ 5 := by have h := MI_8 hJ; exact h
              have y2u36 : ((fI u36 0 8) : Int32).toInt = 0 ∨ ((fI u36 0 6) : Int32).toInt < ((fI u36 0 7) : Int32).toInt := by exact hx2u36
              have y3u36 : ((fI u 0 7) : Int32).toInt ≤ ((fI u36 0 6) : Int32).toInt := by exact hx3u36
              refine lv_aload_n hx hb dX11_numeral_69 rfl (lv_at hl 1 rfl) ?_
              refine cVi (w := mW cy a) (As := []) (rest := []) C hO (T_X11_isGood l D cy a _ (by exact hJ) ((fI u 0 4)) (by exact (Km26_I4 hTu36))) (cwV 0 ht (gV wd_1596 wd_1598 wd_50 wd_121 wd_1599) rfl rfl rfl hd_yX11_isGood ⟨Nat.le_of_ble_eq_true rfl, Nat.le_of_ble_eq_true rfl⟩) 0 rfl mW_0 rfl rfl hl.1 (Nat.le_of_ble_eq_true rfl) dX11_numeral_70 rfl ⟨Nat.zero_le _, Nat.zero_le _⟩ (fun r41 u42 H locs hp43 hO => ?_)
              obtain ⟨hr41, hu42⟩ := hp43
              rw [hu42] at hO
              rcases hr41 with ⟨hcr41, hvr41⟩ | ⟨hcr41, hvr41⟩
              · subst hvr41
                refine bn_eq (X := 1) hx hb dX11_numeral_73 rfl (by omega) ?_ (tgt := 80) (by decide)
                refine lv_iload_n hx hb dX11_numeral_76 rfl (lv_at hl 0 rfl) ?_
                refine lv_goto (tgt := 81) hx hb dX11_numeral_77 (by decide) ?_
                have q44 : ((fI u36 0 7) : Int32).toInt ≤ ((fI u 0 3) : Int32).toInt := by first | omega | decide
                have q45 : ((fI u36 0 6) : Int32).toInt ≤ ((fI u36 0 7) : Int32).toInt := by first | omega | decide
                have q46 : ((fI u36 0 8) : Int32).toInt = 0 ∨ ((fI u36 0 6) : Int32).toInt < ((fI u36 0 7) : Int32).toInt := by first | omega | decide
                have g47 : 0 ≤ (fI u 0 6).toInt ∧ (fI u 0 6).toInt ≤ 1600 := by have h := MI_6 hJ0; exact h
                have q48 : ((fI u 0 6) : Int32).toInt ≤ ((fI u36 0 6) : Int32).toInt := by first | omega | decide
                have q49 : ((fI u 0 4) : Int32).toInt = 0 ∨ ¬ ((fI u 0 4) : Int32).toInt = 0 := by first | omega | decide
                refine hret _ _ _ _ _ _ dX11_numeral_81 rfl ?_ hO
                exact ⟨hJ, hT, (show ((fI u36 0 7) : Int32).toInt ≤ (fI u36 0 3 : Int32).toInt from by rw [show fI u36 0 3 = (fI u 0 3) from (Km27_I3 hT)]; first | done | exact q44), q45, q46, q48, (show ((fI u 0 4) : Int32).toInt = 0 ∨ ¬ (fI u36 0 4 : Int32).toInt = 0 from by rw [show fI u36 0 4 = (fI u 0 4) from (Km26_I4 hTu36)]; first | done | exact q49)⟩
              · exfalso
                omega
            · exfalso
              omega
          · refine lv_aload_n hx hb dX11_numeral_44 rfl (lv_at hl 0 rfl) ?_
            refine lv_iconst (v := 4) hx hb dX11_numeral_45 (by decide) ?_
            refine lv_aload_n hx hb dX11_numeral_46 rfl (lv_at hl 0 rfl) ?_
            have g50 : 0 ≤ (fI u 0 6).toInt ∧ (fI u 0 6).toInt ≤ 1600 := by have h := MI_6 hJ0; exact h
            refine gf_RX11_201 (v := .int (fI u 0 6)) C hO 0 mW_0 rfl dX11_numeral_47 ?_
            refine cVv (w := mW cy a) (As := [.int 4, .int (fI u 0 6)]) (rest := []) C hO (T_X11_fails l D cy a _ (by exact hJ) (4) ((fI u 0 6)) (by first | omega | decide)) (cwV 2 ht (gV wd_1619 wd_1621 wd_55 wd_121 wd_1622) rfl rfl rfl hd_yX11_fails ⟨Nat.le_of_ble_eq_true rfl, Nat.le_of_ble_eq_true rfl⟩) 0 rfl mW_0 rfl rfl hl.1 (Nat.le_of_ble_eq_true rfl) dX11_numeral_50 rfl ⟨Nat.zero_le _, Nat.zero_le _⟩ (fun u52 H locs hp53 hO => ?_)
            obtain ⟨hJ, hTu52, hx0u52⟩ := hp53
            have hT : Km27 u u52 := Km27.tr (by exact hT) (Km25_to_Km27 hTu52)
            have g54 : 0 ≤ (fI u52 0 4).toInt ∧ (fI u52 0 4).toInt ≤ 5 := by have h := MI_4 hJ; exact h
            have y0u52 : ¬ ((fI u52 0 4) : Int32).toInt = 0 := by exact hx0u52
            refine lv_aload_n hx hb dX11_numeral_53 rfl (lv_at hl 0 rfl) ?_
            refine gf_RX11_226 (v := .int (fI u 0 9)) C hO 0 mW_0 (congrArg (fun z : Int32 => some (Value.int z)) (Km25_I9 hTu52)) dX11_numeral_54 ?_
            refine lv_istore_n (lv' := [(3, .int (fI u 0 9)), (0, .ref (a 0)), (1, .int x1), (2, .int x2)]) hx hb dX11_numeral_57 rfl hl (by decide) rfl (fun ls hl => ?_)
            refine lv_aload_n hx hb dX11_numeral_58 rfl (lv_at hl 1 rfl) ?_
            refine cVi (w := mW cy a) (As := []) (rest := []) C hO (T_X11_isGood l D cy a _ (by exact hJ) ((fI u52 0 4)) (by exact rfl)) (cwV 0 ht (gV wd_1596 wd_1598 wd_50 wd_121 wd_1599) rfl rfl rfl hd_yX11_isGood ⟨Nat.le_of_ble_eq_true rfl, Nat.le_of_ble_eq_true rfl⟩) 0 rfl mW_0 rfl rfl hl.1 (Nat.le_of_ble_eq_true rfl) dX11_numeral_59 rfl ⟨Nat.zero_le _, Nat.zero_le _⟩ (fun r55 u56 H locs hp57 hO => ?_)
            obtain ⟨hr55, hu56⟩ := hp57
            rw [hu56] at hO
            rcases hr55 with ⟨hcr55, hvr55⟩ | ⟨hcr55, hvr55⟩
            · exfalso
              omega
            · subst hvr55
              refine bt_eq (tgt := 69) (X := 0) hx hb dX11_numeral_62 (by decide) rfl (by omega) ?_
              refine lv_aload_n hx hb dX11_numeral_69 rfl (lv_at hl 1 rfl) ?_
              refine cVi (w := mW cy a) (As := []) (rest := []) C hO (T_X11_isGood l D cy a _ (by exact hJ) ((fI u52 0 4)) (by exact rfl)) (cwV 0 ht (gV wd_1596 wd_1598 wd_50 wd_121 wd_1599) rfl rfl rfl hd_yX11_isGood ⟨Nat.le_of_ble_eq_true rfl, Nat.le_of_ble_eq_true rfl⟩) 0 rfl mW_0 rfl rfl hl.1 (Nat.le_of_ble_eq_true rfl) dX11_numeral_70 rfl ⟨Nat.zero_le _, Nat.zero_le _⟩ (fun r58 u59 H locs hp60 hO => ?_)
              obtain ⟨hr58, hu59⟩ := hp60
              rw [hu59] at hO
              rcases hr58 with ⟨hcr58, hvr58⟩ | ⟨hcr58, hvr58⟩
              · exfalso
                omega
              · subst hvr58
                refine bt_eq (tgt := 80) (X := 0) hx hb dX11_numeral_73 (by decide) rfl (by omega) ?_
                refine lv_iload_n hx hb dX11_numeral_80 rfl (lv_at hl 2 rfl) ?_
                have g61 : 0 ≤ (fI u 0 7).toInt ∧ (fI u 0 7).toInt ≤ 1601 := by have h := MI_7 hJ0; exact h
                have g62 : 0 ≤ (fI u 0 3).toInt ∧ (fI u 0 3).toInt ≤ 1600 := by have h := MI_3 hJ0; exact h
                have q63 : ((fI u 0 7) : Int32).toInt ≤ ((fI u 0 3) : Int32).toInt := by first | omega | decide
                have q64 : ((fI u 0 6) : Int32).toInt ≤ ((fI u 0 7) : Int32).toInt := by first | omega | decide
                have q65 : ((fI u 0 8) : Int32).toInt = 0 ∨ ((fI u 0 6) : Int32).toInt < ((fI u 0 7) : Int32).toInt := by first | omega | decide
                have q66 : ((fI u 0 6) : Int32).toInt ≤ ((fI u 0 6) : Int32).toInt := by first | omega | decide
                have q67 : ((fI u 0 4) : Int32).toInt = 0 ∨ ¬ ((fI u52 0 4) : Int32).toInt = 0 := by first | omega | decide
                refine hret _ _ _ _ _ _ dX11_numeral_81 rfl ?_ hO
                exact ⟨hJ, hT, (show (fI u52 0 7 : Int32).toInt ≤ (fI u52 0 3 : Int32).toInt from by rw [show fI u52 0 7 = (fI u 0 7) from (Km25_I7 hTu52), show fI u52 0 3 = (fI u 0 3) from (Km27_I3 hT)]; first | done | exact q63), (show (fI u52 0 6 : Int32).toInt ≤ (fI u52 0 7 : Int32).toInt from by rw [show fI u52 0 6 = (fI u 0 6) from (Km25_I6 hTu52), show fI u52 0 7 = (fI u 0 7) from (Km25_I7 hTu52)]; first | done | exact q64), (show (fI u52 0 8 : Int32).toInt = 0 ∨ (fI u52 0 6 : Int32).toInt < (fI u52 0 7 : Int32).toInt from by rw [show fI u52 0 8 = (fI u 0 8) from (Km25_I8 hTu52), show fI u52 0 6 = (fI u 0 6) from (Km25_I6 hTu52), show fI u52 0 7 = (fI u 0 7) from (Km25_I7 hTu52)]; first | done | exact q65), (show ((fI u 0 6) : Int32).toInt ≤ (fI u52 0 6 : Int32).toInt from by rw [show fI u52 0 6 = (fI u 0 6) from (Km25_I6 hTu52)]; first | done | exact q66), q67⟩
      · subst hvr7
        refine bt_eq (tgt := 53) (X := 0) hx hb dX11_numeral_25 (by decide) rfl (by omega) ?_
        refine lv_aload_n hx hb dX11_numeral_53 rfl (lv_at hl 0 rfl) ?_
        refine gf_RX11_226 (v := .int (fI u 0 9)) C hO 0 mW_0 rfl dX11_numeral_54 ?_
        refine lv_istore_n (lv' := [(3, .int (fI u 0 9)), (0, .ref (a 0)), (1, .int x1), (2, .int x2)]) hx hb dX11_numeral_57 rfl hl (by decide) rfl (fun ls hl => ?_)
        refine lv_aload_n hx hb dX11_numeral_58 rfl (lv_at hl 1 rfl) ?_
        refine cVi (w := mW cy a) (As := []) (rest := []) C hO (T_X11_isGood l D cy a _ (by exact hJ) ((fI u 0 4)) (by exact rfl)) (cwV 0 ht (gV wd_1596 wd_1598 wd_50 wd_121 wd_1599) rfl rfl rfl hd_yX11_isGood ⟨Nat.le_of_ble_eq_true rfl, Nat.le_of_ble_eq_true rfl⟩) 0 rfl mW_0 rfl rfl hl.1 (Nat.le_of_ble_eq_true rfl) dX11_numeral_59 rfl ⟨Nat.zero_le _, Nat.zero_le _⟩ (fun r68 u69 H locs hp70 hO => ?_)
        obtain ⟨hr68, hu69⟩ := hp70
        rw [hu69] at hO
        rcases hr68 with ⟨hcr68, hvr68⟩ | ⟨hcr68, hvr68⟩
        · subst hvr68
          refine bn_eq (X := 1) hx hb dX11_numeral_62 rfl (by omega) ?_ (tgt := 69) (by decide)
          refine lv_aload_n hx hb dX11_numeral_65 rfl (lv_at hl 1 rfl) ?_
          have g71 : 0 ≤ (fI u 0 7).toInt ∧ (fI u 0 7).toInt ≤ 1601 := by have h := MI_7 hJ0; exact h
          have g72 : 0 ≤ (fI u 0 3).toInt ∧ (fI u 0 3).toInt ≤ 1600 := by have h := MI_3 hJ0; exact h
          refine cVv (w := mW cy a) (As := []) (rest := []) C hO (T_X11_goOn l D cy a _ (by exact hJ) (by exact (show ((fI u 0 7) : Int32).toInt ≤ ((fI u 0 3) : Int32).toInt from by first | omega | decide))) (cwV 0 ht (gV wd_1556 wd_1558 wd_48 wd_121 wd_1559) rfl rfl rfl hd_yX11_goOn ⟨Nat.le_of_ble_eq_true rfl, Nat.le_of_ble_eq_true rfl⟩) 0 rfl mW_0 rfl rfl hl.1 (Nat.le_of_ble_eq_true rfl) dX11_numeral_66 rfl ⟨Nat.zero_le _, Nat.zero_le _⟩ (fun u74 H locs hp75 hO => ?_)
          obtain ⟨hJ, hTu74, hx0u74, hx1u74, hx2u74, hx3u74⟩ := hp75
          have hT : Km27 u u74 := Km27.tr (by exact hT) (Km26_to_Km27 hTu74)
          have g76 : 0 ≤ (fI u74 0 7).toInt ∧ (fI u74 0 7).toInt ≤ 1601 := by have h := MI_7 hJ; exact h
          have y0u74 : ((fI u74 0 7) : Int32).toInt ≤ ((fI u 0 3) : Int32).toInt := by have h := hx0u74; simp only [(Km27_I3 hT)] at h; exact h
          have g77 : 0 ≤ (fI u74 0 6).toInt ∧ (fI u74 0 6).toInt ≤ 1600 := by have h := MI_6 hJ; exact h
          have y1u74 : ((fI u74 0 6) : Int32).toInt ≤ ((fI u74 0 7) : Int32).toInt := by exact hx1u74
          have g78 : 0 ≤ (fI u74 0 8).toInt ∧ (fI u74 0 8).toInt ≤ 5 := by have h := MI_8 hJ; exact h
          have y2u74 : ((fI u74 0 8) : Int32).toInt = 0 ∨ ((fI u74 0 6) : Int32).toInt < ((fI u74 0 7) : Int32).toInt := by exact hx2u74
          have y3u74 : ((fI u 0 7) : Int32).toInt ≤ ((fI u74 0 6) : Int32).toInt := by exact hx3u74
          refine lv_aload_n hx hb dX11_numeral_69 rfl (lv_at hl 1 rfl) ?_
          refine cVi (w := mW cy a) (As := []) (rest := []) C hO (T_X11_isGood l D cy a _ (by exact hJ) ((fI u 0 4)) (by exact (Km26_I4 hTu74))) (cwV 0 ht (gV wd_1596 wd_1598 wd_50 wd_121 wd_1599) rfl rfl rfl hd_yX11_isGood ⟨Nat.le_of_ble_eq_true rfl, Nat.le_of_ble_eq_true rfl⟩) 0 rfl mW_0 rfl rfl hl.1 (Nat.le_of_ble_eq_true rfl) dX11_numeral_70 rfl ⟨Nat.zero_le _, Nat.zero_le _⟩ (fun r79 u80 H locs hp81 hO => ?_)
          obtain ⟨hr79, hu80⟩ := hp81
          rw [hu80] at hO
          rcases hr79 with ⟨hcr79, hvr79⟩ | ⟨hcr79, hvr79⟩
          · subst hvr79
            refine bn_eq (X := 1) hx hb dX11_numeral_73 rfl (by omega) ?_ (tgt := 80) (by decide)
            refine lv_iload_n hx hb dX11_numeral_76 rfl (lv_at hl 0 rfl) ?_
            refine lv_goto (tgt := 81) hx hb dX11_numeral_77 (by decide) ?_
            have q82 : ((fI u74 0 7) : Int32).toInt ≤ ((fI u 0 3) : Int32).toInt := by first | omega | decide
            have q83 : ((fI u74 0 6) : Int32).toInt ≤ ((fI u74 0 7) : Int32).toInt := by first | omega | decide
            have q84 : ((fI u74 0 8) : Int32).toInt = 0 ∨ ((fI u74 0 6) : Int32).toInt < ((fI u74 0 7) : Int32).toInt := by first | omega | decide
            have g85 : 0 ≤ (fI u 0 6).toInt ∧ (fI u 0 6).toInt ≤ 1600 := by have h := MI_6 hJ0; exact h
            have q86 : ((fI u 0 6) : Int32).toInt ≤ ((fI u74 0 6) : Int32).toInt := by first | omega | decide
            have q87 : ((fI u 0 4) : Int32).toInt = 0 ∨ ¬ ((fI u 0 4) : Int32).toInt = 0 := by first | omega | decide
            refine hret _ _ _ _ _ _ dX11_numeral_81 rfl ?_ hO
            exact ⟨hJ, hT, (show ((fI u74 0 7) : Int32).toInt ≤ (fI u74 0 3 : Int32).toInt from by rw [show fI u74 0 3 = (fI u 0 3) from (Km27_I3 hT)]; first | done | exact q82), q83, q84, q86, (show ((fI u 0 4) : Int32).toInt = 0 ∨ ¬ (fI u74 0 4 : Int32).toInt = 0 from by rw [show fI u74 0 4 = (fI u 0 4) from (Km26_I4 hTu74)]; first | done | exact q87)⟩
          · exfalso
            omega
        · exfalso
          omega
    · refine lv_aload_n hx hb dX11_numeral_17 rfl (lv_at hl 0 rfl) ?_
      refine cVv (w := mW cy a) (As := []) (rest := []) C hO (T_X11_misplaced l D cy a _ (by exact hJ)) (cwV 0 ht (gV wd_1615 wd_1617 wd_54 wd_121 wd_1618) rfl rfl rfl hd_yX11_misplaced ⟨Nat.le_of_ble_eq_true rfl, Nat.le_of_ble_eq_true rfl⟩) 0 rfl mW_0 rfl rfl hl.1 (Nat.le_of_ble_eq_true rfl) dX11_numeral_18 rfl ⟨Nat.zero_le _, Nat.zero_le _⟩ (fun u89 H locs hp90 hO => ?_)
      obtain ⟨hJ, hTu89, hx0u89⟩ := hp90
      have hT : Km27 u u89 := Km27.tr (by exact hT) (Km25_to_Km27 hTu89)
      have g91 : 0 ≤ (fI u89 0 4).toInt ∧ (fI u89 0 4).toInt ≤ 5 := by have h := MI_4 hJ; exact h
      have y0u89 : ¬ ((fI u89 0 4) : Int32).toInt = 0 := by exact hx0u89
      refine lv_aload_n hx hb dX11_numeral_21 rfl (lv_at hl 0 rfl) ?_
      refine cVi (w := mW cy a) (As := []) (rest := []) C hO (T_X11_isGood l D cy a _ (by exact hJ) ((fI u89 0 4)) (by exact rfl)) (cwV 0 ht (gV wd_1596 wd_1598 wd_50 wd_121 wd_1599) rfl rfl rfl hd_yX11_isGood ⟨Nat.le_of_ble_eq_true rfl, Nat.le_of_ble_eq_true rfl⟩) 0 rfl mW_0 rfl rfl hl.1 (Nat.le_of_ble_eq_true rfl) dX11_numeral_22 rfl ⟨Nat.zero_le _, Nat.zero_le _⟩ (fun r92 u93 H locs hp94 hO => ?_)
      obtain ⟨hr92, hu93⟩ := hp94
      rw [hu93] at hO
      rcases hr92 with ⟨hcr92, hvr92⟩ | ⟨hcr92, hvr92⟩
      · exfalso
        omega
      · subst hvr92
        refine bt_eq (tgt := 53) (X := 0) hx hb dX11_numeral_25 (by decide) rfl (by omega) ?_
        refine lv_aload_n hx hb dX11_numeral_53 rfl (lv_at hl 0 rfl) ?_
        refine gf_RX11_226 (v := .int (fI u 0 9)) C hO 0 mW_0 (congrArg (fun z : Int32 => some (Value.int z)) (Km25_I9 hTu89)) dX11_numeral_54 ?_
        refine lv_istore_n (lv' := [(3, .int (fI u 0 9)), (0, .ref (a 0)), (1, .int x1), (2, .int x2)]) hx hb dX11_numeral_57 rfl hl (by decide) rfl (fun ls hl => ?_)
        refine lv_aload_n hx hb dX11_numeral_58 rfl (lv_at hl 1 rfl) ?_
        refine cVi (w := mW cy a) (As := []) (rest := []) C hO (T_X11_isGood l D cy a _ (by exact hJ) ((fI u89 0 4)) (by exact rfl)) (cwV 0 ht (gV wd_1596 wd_1598 wd_50 wd_121 wd_1599) rfl rfl rfl hd_yX11_isGood ⟨Nat.le_of_ble_eq_true rfl, Nat.le_of_ble_eq_true rfl⟩) 0 rfl mW_0 rfl rfl hl.1 (Nat.le_of_ble_eq_true rfl) dX11_numeral_59 rfl ⟨Nat.zero_le _, Nat.zero_le _⟩ (fun r95 u96 H locs hp97 hO => ?_)
        obtain ⟨hr95, hu96⟩ := hp97
        rw [hu96] at hO
        rcases hr95 with ⟨hcr95, hvr95⟩ | ⟨hcr95, hvr95⟩
        · exfalso
          omega
        · subst hvr95
          refine bt_eq (tgt := 69) (X := 0) hx hb dX11_numeral_62 (by decide) rfl (by omega) ?_
          refine lv_aload_n hx hb dX11_numeral_69 rfl (lv_at hl 1 rfl) ?_
          refine cVi (w := mW cy a) (As := []) (rest := []) C hO (T_X11_isGood l D cy a _ (by exact hJ) ((fI u89 0 4)) (by exact rfl)) (cwV 0 ht (gV wd_1596 wd_1598 wd_50 wd_121 wd_1599) rfl rfl rfl hd_yX11_isGood ⟨Nat.le_of_ble_eq_true rfl, Nat.le_of_ble_eq_true rfl⟩) 0 rfl mW_0 rfl rfl hl.1 (Nat.le_of_ble_eq_true rfl) dX11_numeral_70 rfl ⟨Nat.zero_le _, Nat.zero_le _⟩ (fun r98 u99 H locs hp100 hO => ?_)
          obtain ⟨hr98, hu99⟩ := hp100
          rw [hu99] at hO
          rcases hr98 with ⟨hcr98, hvr98⟩ | ⟨hcr98, hvr98⟩
          · exfalso
            omega
          · subst hvr98
            refine bt_eq (tgt := 80) (X := 0) hx hb dX11_numeral_73 (by decide) rfl (by omega) ?_
            refine lv_iload_n hx hb dX11_numeral_80 rfl (lv_at hl 2 rfl) ?_
            have g101 : 0 ≤ (fI u 0 7).toInt ∧ (fI u 0 7).toInt ≤ 1601 := by have h := MI_7 hJ0; exact h
            have g102 : 0 ≤ (fI u 0 3).toInt ∧ (fI u 0 3).toInt ≤ 1600 := by have h := MI_3 hJ0; exact h
            have q103 : ((fI u 0 7) : Int32).toInt ≤ ((fI u 0 3) : Int32).toInt := by first | omega | decide
            have g104 : 0 ≤ (fI u 0 6).toInt ∧ (fI u 0 6).toInt ≤ 1600 := by have h := MI_6 hJ0; exact h
            have q105 : ((fI u 0 6) : Int32).toInt ≤ ((fI u 0 7) : Int32).toInt := by first | omega | decide
            have q106 : ((fI u 0 8) : Int32).toInt = 0 ∨ ((fI u 0 6) : Int32).toInt < ((fI u 0 7) : Int32).toInt := by first | omega | decide
            have q107 : ((fI u 0 6) : Int32).toInt ≤ ((fI u 0 6) : Int32).toInt := by first | omega | decide
            have q108 : ((fI u 0 4) : Int32).toInt = 0 ∨ ¬ ((fI u89 0 4) : Int32).toInt = 0 := by first | omega | decide
            refine hret _ _ _ _ _ _ dX11_numeral_81 rfl ?_ hO
            exact ⟨hJ, hT, (show (fI u89 0 7 : Int32).toInt ≤ (fI u89 0 3 : Int32).toInt from by rw [show fI u89 0 7 = (fI u 0 7) from (Km25_I7 hTu89), show fI u89 0 3 = (fI u 0 3) from (Km27_I3 hT)]; first | done | exact q103), (show (fI u89 0 6 : Int32).toInt ≤ (fI u89 0 7 : Int32).toInt from by rw [show fI u89 0 6 = (fI u 0 6) from (Km25_I6 hTu89), show fI u89 0 7 = (fI u 0 7) from (Km25_I7 hTu89)]; first | done | exact q105), (show (fI u89 0 8 : Int32).toInt = 0 ∨ (fI u89 0 6 : Int32).toInt < (fI u89 0 7 : Int32).toInt from by rw [show fI u89 0 8 = (fI u 0 8) from (Km25_I8 hTu89), show fI u89 0 6 = (fI u 0 6) from (Km25_I6 hTu89), show fI u89 0 7 = (fI u 0 7) from (Km25_I7 hTu89)]; first | done | exact q106), (show ((fI u 0 6) : Int32).toInt ≤ (fI u89 0 6 : Int32).toInt from by rw [show fI u89 0 6 = (fI u 0 6) from (Km25_I6 hTu89)]; first | done | exact q107), q108⟩
  · subst hvr2
    refine bn_ne (X := 0) hx hb dX11_numeral_4 rfl (by omega) ?_ (tgt := 9) (by decide)
    refine lv_iload_n hx hb dX11_numeral_7 rfl (lv_at hl 1 rfl) ?_
    have g109 : 0 ≤ (fI u 0 7).toInt ∧ (fI u 0 7).toInt ≤ 1601 := by have h := MI_7 hJ0; exact h
    have g110 : 0 ≤ (fI u 0 3).toInt ∧ (fI u 0 3).toInt ≤ 1600 := by have h := MI_3 hJ0; exact h
    have q111 : ((fI u 0 7) : Int32).toInt ≤ ((fI u 0 3) : Int32).toInt := by first | omega | decide
    have g112 : 0 ≤ (fI u 0 6).toInt ∧ (fI u 0 6).toInt ≤ 1600 := by have h := MI_6 hJ0; exact h
    have q113 : ((fI u 0 6) : Int32).toInt ≤ ((fI u 0 7) : Int32).toInt := by first | omega | decide
    have g114 : 0 ≤ (fI u 0 8).toInt ∧ (fI u 0 8).toInt ≤ 5 := by have h := MI_8 hJ0; exact h
    have q115 : ((fI u 0 8) : Int32).toInt = 0 ∨ ((fI u 0 6) : Int32).toInt < ((fI u 0 7) : Int32).toInt := by first | omega | decide
    have q116 : ((fI u 0 6) : Int32).toInt ≤ ((fI u 0 6) : Int32).toInt := by first | omega | decide
    have q117 : ((fI u 0 4) : Int32).toInt = 0 ∨ ¬ ((fI u 0 4) : Int32).toInt = 0 := by first | omega | decide
    refine hret _ _ _ _ _ _ dX11_numeral_8 rfl ?_ hO
    exact ⟨hJ, hT, q111, q113, q115, q116, q117⟩
theorem dX11_isWord_0 : decode cX11_isWord 0 = .ok (.aload_n 0, 1) := by decide +kernel
theorem dX11_isWord_1 : decode cX11_isWord 1 = .ok (.getfield 208, 3) := by decide +kernel
theorem dX11_isWord_4 : decode cX11_isWord 4 = .ok (.iconst 3, 1) := by decide +kernel
theorem dX11_isWord_5 : decode cX11_isWord 5 = .ok (.if_icmp .ne 16, 3) := by decide +kernel
theorem dX11_isWord_8 : decode cX11_isWord 8 = .ok (.aload_n 0, 1) := by decide +kernel
theorem dX11_isWord_9 : decode cX11_isWord 9 = .ok (.getfield 215, 3) := by decide +kernel
theorem dX11_isWord_12 : decode cX11_isWord 12 = .ok (.lload_n 1, 1) := by decide +kernel
theorem dX11_isWord_13 : decode cX11_isWord 13 = .ok (.lcmp, 1) := by decide +kernel
theorem dX11_isWord_14 : decode cX11_isWord 14 = .ok (.ifCond .ne 7, 3) := by decide +kernel
theorem dX11_isWord_17 : decode cX11_isWord 17 = .ok (.iconst 1, 1) := by decide +kernel
theorem dX11_isWord_18 : decode cX11_isWord 18 = .ok (.goto 4, 3) := by decide +kernel
theorem dX11_isWord_21 : decode cX11_isWord 21 = .ok (.iconst 0, 1) := by decide +kernel
theorem dX11_isWord_22 : decode cX11_isWord 22 = .ok (.ireturn, 1) := by decide +kernel
theorem wd_1611 : (Cond.code ⟨"WebCourtModel", "isWord", "(J)Z"⟩ prog_13_method_11_code (3 : Nat) (Option.some FieldType.boolean)) ∈ gtb := gtb_c7 62 (by decide +kernel) rfl
set_option maxHeartbeats 4000000 in
set_option maxRecDepth 100000 in
theorem T_X11_isWord (l : Launch) (D : va_G) (cy : Nat → ClassId) (a : Nat → Nat) (u : St) (hJ : MI a u) (gt : Int32) (hgt : fI u 0 8 = gt) (gN : Int64) (hgN : fL u 0 10 = gN) (x1 : Int64)  : Mi l D cy (mW cy a) yX11_isWord (.code yX11_isWord cX11_isWord 3 (some .boolean)) (rmo 0 0) [.ref (a 0), .long x1] u (fun (r : Int32) (u' : St) => (((gt.toInt = 3 ∧ gN = x1) ∧ r = 1) ∨ ((¬ gt.toInt = 3 ∨ ¬ gN = x1) ∧ r = 0)) ∧ (u' = u)) := by
  refine Mi.of (own := RX11) rfl (by decide) (Nat.le_of_ble_eq_true rfl) ?_
  have hT : Km0 u u := Km0.rf
  have hJ0 := hJ
  intro p e s m below meth c A Q ls C hret hO hl
  obtain ⟨hx, hb, hml, hown, ht, hK, hA⟩ := id C
  have hl : lv_has ls 3 [(0, .ref (a 0)), (1, .long x1)] := hl
  refine lv_aload_n hx hb dX11_isWord_0 rfl (lv_at hl 0 rfl) ?_
  have g1 : 0 ≤ gt.toInt ∧ gt.toInt ≤ 5 := by have h := MI_8 hJ0; rw [hgt] at h; exact h
  refine gf_RX11_208 (v := .int gt) C hO 0 mW_0 (congrArg (fun z : Int32 => some (Value.int z)) hgt) dX11_isWord_1 ?_
  refine lv_iconst (v := 3) hx hb dX11_isWord_4 (by decide) ?_
  refine cs_ne (tgt := 21) (X := (gt).toInt) (Y := 3) hx hb dX11_isWord_5 (by decide) rfl rfl (fun c2 => ?_) (fun c2 => ?_)
  · refine lv_iconst (v := 0) hx hb dX11_isWord_21 (by decide) ?_
    refine hret _ _ _ _ _ _ dX11_isWord_22 rfl ?_ hO
    exact ⟨Or.inr ⟨Or.inl (by omega), rfl⟩, rfl⟩
  · refine lv_aload_n hx hb dX11_isWord_8 rfl (lv_at hl 0 rfl) ?_
    refine gf_RX11_215 (v := .long gN) C hO 0 mW_0 (congrArg (fun z : Int64 => some (Value.long z)) hgN) dX11_isWord_9 ?_
    refine lv_lload_n hx hb dX11_isWord_12 rfl (lv_at hl 1 rfl) ?_
    refine W.lcmp hx hb dX11_isWord_13 ?_
    refine lv_topi (fun z3 ez3 => ?_)
    refine bs_ne (tgt := 21) (X := (z3).toInt) hx hb dX11_isWord_14 (by decide) rfl (fun c4 => ?_) (fun c4 => ?_)
    · have hj5 := lc_ne ez3 (by omega)
      refine lv_iconst (v := 0) hx hb dX11_isWord_21 (by decide) ?_
      refine hret _ _ _ _ _ _ dX11_isWord_22 rfl ?_ hO
      exact ⟨Or.inr ⟨Or.inr hj5, rfl⟩, rfl⟩
    · have hj6 := lc_eq ez3 (by omega)
      refine lv_iconst (v := 1) hx hb dX11_isWord_17 (by decide) ?_
      refine lv_goto (tgt := 22) hx hb dX11_isWord_18 (by decide) ?_
      refine hret _ _ _ _ _ _ dX11_isWord_22 rfl ?_ hO
      exact ⟨Or.inl ⟨⟨by omega, hj6⟩, rfl⟩, rfl⟩
set_option maxHeartbeats 4000000 in
set_option maxRecDepth 100000 in
theorem T_X11_isWord_n (l : Launch) (D : va_G) (cy : Nat → ClassId) (a : Nat → Nat) (u : St) (hJ : MI a u) (x1 : Int64)  : Mi l D cy (mW cy a) yX11_isWord (.code yX11_isWord cX11_isWord 3 (some .boolean)) (rmo 0 0) [.ref (a 0), .long x1] u (fun (r : Int32) (u' : St) => (r = 0 ∨ r = 1) ∧ (u' = u)) := by
  refine Mi.of (own := RX11) rfl (by decide) (Nat.le_of_ble_eq_true rfl) ?_
  have hT : Km0 u u := Km0.rf
  have hJ0 := hJ
  intro p e s m below meth c A Q ls C hret hO hl
  obtain ⟨hx, hb, hml, hown, ht, hK, hA⟩ := id C
  have hl : lv_has ls 3 [(0, .ref (a 0)), (1, .long x1)] := hl
  refine lv_aload_n hx hb dX11_isWord_0 rfl (lv_at hl 0 rfl) ?_
  have g1 : 0 ≤ (fI u 0 8).toInt ∧ (fI u 0 8).toInt ≤ 5 := by have h := MI_8 hJ0; exact h
  refine gf_RX11_208 (v := .int (fI u 0 8)) C hO 0 mW_0 rfl dX11_isWord_1 ?_
  refine lv_iconst (v := 3) hx hb dX11_isWord_4 (by decide) ?_
  refine cs_ne (tgt := 21) (X := ((fI u 0 8)).toInt) (Y := 3) hx hb dX11_isWord_5 (by decide) rfl rfl (fun c2 => ?_) (fun c2 => ?_)
  · refine lv_iconst (v := 0) hx hb dX11_isWord_21 (by decide) ?_
    refine hret _ _ _ _ _ _ dX11_isWord_22 rfl ?_ hO
    exact ⟨Or.inl rfl, rfl⟩
  · refine lv_aload_n hx hb dX11_isWord_8 rfl (lv_at hl 0 rfl) ?_
    refine gf_RX11_215 (v := .long ((fL u 0 10))) C hO 0 mW_0 rfl dX11_isWord_9 ?_
    refine lv_lload_n hx hb dX11_isWord_12 rfl (lv_at hl 1 rfl) ?_
    refine W.lcmp hx hb dX11_isWord_13 ?_
    refine lv_topi (fun z3 ez3 => ?_)
    refine bs_ne (tgt := 21) (X := (z3).toInt) hx hb dX11_isWord_14 (by decide) rfl (fun c4 => ?_) (fun c4 => ?_)
    · have hj5 := lc_ne ez3 (by omega)
      refine lv_iconst (v := 0) hx hb dX11_isWord_21 (by decide) ?_
      refine hret _ _ _ _ _ _ dX11_isWord_22 rfl ?_ hO
      exact ⟨Or.inl rfl, rfl⟩
    · have hj6 := lc_eq ez3 (by omega)
      refine lv_iconst (v := 1) hx hb dX11_isWord_17 (by decide) ?_
      refine lv_goto (tgt := 22) hx hb dX11_isWord_18 (by decide) ?_
      refine hret _ _ _ _ _ _ dX11_isWord_22 rfl ?_ hO
      exact ⟨Or.inr rfl, rfl⟩
theorem dX11_isSignHere_0 : decode cX11_isSignHere 0 = .ok (.aload_n 0, 1) := by decide +kernel
theorem dX11_isSignHere_1 : decode cX11_isSignHere 1 = .ok (.getfield 208, 3) := by decide +kernel
theorem dX11_isSignHere_4 : decode cX11_isSignHere 4 = .ok (.iconst 5, 1) := by decide +kernel
theorem dX11_isSignHere_5 : decode cX11_isSignHere 5 = .ok (.if_icmp .ne 19, 3) := by decide +kernel
theorem dX11_isSignHere_8 : decode cX11_isSignHere 8 = .ok (.aload_n 0, 1) := by decide +kernel
theorem dX11_isSignHere_9 : decode cX11_isSignHere 9 = .ok (.aload_n 0, 1) := by decide +kernel
theorem dX11_isSignHere_10 : decode cX11_isSignHere 10 = .ok (.getfield 201, 3) := by decide +kernel
theorem dX11_isSignHere_13 : decode cX11_isSignHere 13 = .ok (.invokevirtual 204, 3) := by decide +kernel
theorem dX11_isSignHere_16 : decode cX11_isSignHere 16 = .ok (.iload_n 1, 1) := by decide +kernel
theorem dX11_isSignHere_17 : decode cX11_isSignHere 17 = .ok (.if_icmp .ne 7, 3) := by decide +kernel
theorem dX11_isSignHere_20 : decode cX11_isSignHere 20 = .ok (.iconst 1, 1) := by decide +kernel
theorem dX11_isSignHere_21 : decode cX11_isSignHere 21 = .ok (.goto 4, 3) := by decide +kernel
theorem dX11_isSignHere_24 : decode cX11_isSignHere 24 = .ok (.iconst 0, 1) := by decide +kernel
theorem dX11_isSignHere_25 : decode cX11_isSignHere 25 = .ok (.ireturn, 1) := by decide +kernel
theorem wd_1685 : (Cond.code ⟨"WebCourtModel", "isSignHere", "(I)Z"⟩ prog_13_method_10_code (2 : Nat) (Option.some FieldType.boolean)) ∈ gtb := gtb_c7 136 (by decide +kernel) rfl
set_option maxHeartbeats 4000000 in
set_option maxRecDepth 100000 in
theorem T_X11_isSignHere (l : Launch) (D : va_G) (cy : Nat → ClassId) (a : Nat → Nat) (u : St) (hJ : MI a u) (gt : Int32) (hgt : fI u 0 8 = gt) (gs : Int32) (hgs : sgF u (fI u 0 6) = gs) (x1 : Int32)  : Mi l D cy (mW cy a) yX11_isSignHere (.code yX11_isSignHere cX11_isSignHere 2 (some .boolean)) (rmo 1 21) [.ref (a 0), .int x1] u (fun (r : Int32) (u' : St) => (((gt.toInt = 5 ∧ gs = x1) ∧ r = 1) ∨ (True ∧ r = 0)) ∧ (u' = u)) := by
  refine Mi.of (own := RX11) rfl (by decide) (Nat.le_of_ble_eq_true rfl) ?_
  have hT : Km0 u u := Km0.rf
  have hJ0 := hJ
  intro p e s m below meth c A Q ls C hret hO hl
  obtain ⟨hx, hb, hml, hown, ht, hK, hA⟩ := id C
  have hl : lv_has ls 2 [(0, .ref (a 0)), (1, .int x1)] := hl
  refine lv_aload_n hx hb dX11_isSignHere_0 rfl (lv_at hl 0 rfl) ?_
  have g1 : 0 ≤ gt.toInt ∧ gt.toInt ≤ 5 := by have h := MI_8 hJ0; rw [hgt] at h; exact h
  refine gf_RX11_208 (v := .int gt) C hO 0 mW_0 (congrArg (fun z : Int32 => some (Value.int z)) hgt) dX11_isSignHere_1 ?_
  refine lv_iconst (v := 5) hx hb dX11_isSignHere_4 (by decide) ?_
  refine cs_ne (tgt := 24) (X := (gt).toInt) (Y := 5) hx hb dX11_isSignHere_5 (by decide) rfl rfl (fun c2 => ?_) (fun c2 => ?_)
  · refine lv_iconst (v := 0) hx hb dX11_isSignHere_24 (by decide) ?_
    refine hret _ _ _ _ _ _ dX11_isSignHere_25 rfl ?_ hO
    exact ⟨Or.inr ⟨trivial, rfl⟩, rfl⟩
  · refine lv_aload_n hx hb dX11_isSignHere_8 rfl (lv_at hl 0 rfl) ?_
    refine lv_aload_n hx hb dX11_isSignHere_9 rfl (lv_at hl 0 rfl) ?_
    have g3 : 0 ≤ (fI u 0 6).toInt ∧ (fI u 0 6).toInt ≤ 1600 := by have h := MI_6 hJ0; exact h
    refine gf_RX11_201 (v := .int (fI u 0 6)) C hO 0 mW_0 rfl dX11_isSignHere_10 ?_
    refine cVi (w := mW cy a) (As := [.int (fI u 0 6)]) (rest := []) C hO (T_X11_sign l D cy a _ (by exact hJ) ((fI u 0 6)) (by first | omega | decide)) (cwV 1 ht (gV wd_1560 wd_1562 wd_49 wd_121 wd_1563) rfl rfl rfl hd_yX11_sign ⟨Nat.le_of_ble_eq_true rfl, Nat.le_of_ble_eq_true rfl⟩) 0 rfl mW_0 rfl rfl hl.1 (Nat.le_of_ble_eq_true rfl) dX11_isSignHere_13 rfl ⟨Nat.zero_le _, Nat.zero_le _⟩ (fun r4 u5 H locs hp6 hO => ?_)
    obtain ⟨hr4, hu5⟩ := hp6
    rw [hu5] at hO
    have g7 : 0 ≤ (fI u 0 3).toInt ∧ (fI u 0 3).toInt ≤ 1600 := by have h := MI_3 hJ0; exact h
    have gr4 : (0 ≤ r4.toInt ∧ r4.toInt ≤ 255) ∧ (r4.toInt = 0 ∨ ((fI u 0 6) : Int32).toInt < ((fI u 0 3)).toInt) := by have h := sgF_r hr4; exact h
    have hr4 : r4 = sgF u (fI u 0 6) := hr4
    refine lv_iload_n hx hb dX11_isSignHere_16 rfl (lv_at hl 1 rfl) ?_
    refine cs_ne (tgt := 24) (X := (r4).toInt) (Y := (x1).toInt) hx hb dX11_isSignHere_17 (by decide) rfl rfl (fun c8 => ?_) (fun c8 => ?_)
    · refine lv_iconst (v := 0) hx hb dX11_isSignHere_24 (by decide) ?_
      refine hret _ _ _ _ _ _ dX11_isSignHere_25 rfl ?_ hO
      exact ⟨Or.inr ⟨trivial, rfl⟩, rfl⟩
    · refine lv_iconst (v := 1) hx hb dX11_isSignHere_20 (by decide) ?_
      refine lv_goto (tgt := 25) hx hb dX11_isSignHere_21 (by decide) ?_
      refine hret _ _ _ _ _ _ dX11_isSignHere_25 rfl ?_ hO
      exact ⟨Or.inl ⟨⟨by omega, (by have e1 := hr4; rw [hgs] at e1; rw [← e1]; exact i32_eq.mpr (by omega))⟩, rfl⟩, rfl⟩
