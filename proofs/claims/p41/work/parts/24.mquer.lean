theorem dX11_knot_0 : decode cX11_knot 0 = .ok (.aload_n 0, 1) := by decide +kernel
theorem dX11_knot_1 : decode cX11_knot 1 = .ok (.iload_n 1, 1) := by decide +kernel
theorem dX11_knot_2 : decode cX11_knot 2 = .ok (.invokevirtual 419, 3) := by decide +kernel
theorem dX11_knot_5 : decode cX11_knot 5 = .ok (.ifCond .ne 5, 3) := by decide +kernel
theorem dX11_knot_8 : decode cX11_knot 8 = .ok (.iconst (-1), 1) := by decide +kernel
theorem dX11_knot_9 : decode cX11_knot 9 = .ok (.ireturn, 1) := by decide +kernel
theorem dX11_knot_10 : decode cX11_knot 10 = .ok (.iload_n 2, 1) := by decide +kernel
theorem dX11_knot_11 : decode cX11_knot 11 = .ok (.tableswitch 45 0 2 #[25, 32, 39], 25) := by decide +kernel
theorem dX11_knot_36 : decode cX11_knot 36 = .ok (.aload_n 0, 1) := by decide +kernel
theorem dX11_knot_37 : decode cX11_knot 37 = .ok (.iload_n 1, 1) := by decide +kernel
theorem dX11_knot_38 : decode cX11_knot 38 = .ok (.iconst 0, 1) := by decide +kernel
theorem dX11_knot_39 : decode cX11_knot 39 = .ok (.invokevirtual 422, 3) := by decide +kernel
theorem dX11_knot_42 : decode cX11_knot 42 = .ok (.ireturn, 1) := by decide +kernel
theorem dX11_knot_43 : decode cX11_knot 43 = .ok (.aload_n 0, 1) := by decide +kernel
theorem dX11_knot_44 : decode cX11_knot 44 = .ok (.iload_n 1, 1) := by decide +kernel
theorem dX11_knot_45 : decode cX11_knot 45 = .ok (.iconst 1, 1) := by decide +kernel
theorem dX11_knot_46 : decode cX11_knot 46 = .ok (.invokevirtual 422, 3) := by decide +kernel
theorem dX11_knot_49 : decode cX11_knot 49 = .ok (.ireturn, 1) := by decide +kernel
theorem dX11_knot_50 : decode cX11_knot 50 = .ok (.aload_n 0, 1) := by decide +kernel
theorem dX11_knot_51 : decode cX11_knot 51 = .ok (.iload_n 1, 1) := by decide +kernel
theorem dX11_knot_52 : decode cX11_knot 52 = .ok (.invokevirtual 404, 3) := by decide +kernel
theorem dX11_knot_55 : decode cX11_knot 55 = .ok (.ireturn, 1) := by decide +kernel
theorem dX11_knot_56 : decode cX11_knot 56 = .ok (.iconst (-1), 1) := by decide +kernel
theorem dX11_knot_57 : decode cX11_knot 57 = .ok (.ireturn, 1) := by decide +kernel
theorem wd_1717 : (Cond.code ⟨"WebCourtModel", "knot", "(II)I"⟩ prog_13_method_65_code (3 : Nat) (Option.some FieldType.int)) ∈ gtb := gtb_c7 168 (by decide +kernel) rfl
theorem wd_1718 : (Cond.methodLink "WebCourtModel" (419 : Nat) ⟨"WebCourtModel", "isKnot", "(I)Z"⟩) ∈ gtb := gtb_c7 169 (by decide +kernel) rfl
theorem wd_1720 : (Cond.instanceMethod ⟨"WebCourtModel", "isKnot", "(I)Z"⟩) ∈ gtb := gtb_c7 171 (by decide +kernel) rfl
theorem wd_77 : (Cond.selects "WebCourtModel" ⟨"WebCourtModel", "isKnot", "(I)Z"⟩ ⟨"WebCourtModel", "isKnot", "(I)Z"⟩) ∈ gtb := gtb_p 77 (by decide +kernel) rfl
theorem hd_yX11_isKnot : yX11_isKnot.cls = RX11 ∧ yX11_isKnot.cls ≠ "java/lang/invoke/MethodHandle" ∧ yX11_isKnot.cls ≠ "java/lang/invoke/VarHandle" ∧ (parseMethodDescriptor yX11_isKnot.desc).map (fun d => d.parameters.length) = some 1 := by decide +kernel
theorem wd_1725 : (Cond.methodLink "WebCourtModel" (422 : Nat) ⟨"WebCourtModel", "nextTo", "(IZ)I"⟩) ∈ gtb := gtb_c7 176 (by decide +kernel) rfl
theorem wd_1727 : (Cond.instanceMethod ⟨"WebCourtModel", "nextTo", "(IZ)I"⟩) ∈ gtb := gtb_c7 178 (by decide +kernel) rfl
theorem wd_78 : (Cond.selects "WebCourtModel" ⟨"WebCourtModel", "nextTo", "(IZ)I"⟩ ⟨"WebCourtModel", "nextTo", "(IZ)I"⟩) ∈ gtb := gtb_p 78 (by decide +kernel) rfl
theorem hd_yX11_nextTo : yX11_nextTo.cls = RX11 ∧ yX11_nextTo.cls ≠ "java/lang/invoke/MethodHandle" ∧ yX11_nextTo.cls ≠ "java/lang/invoke/VarHandle" ∧ (parseMethodDescriptor yX11_nextTo.desc).map (fun d => d.parameters.length) = some 2 := by decide +kernel
set_option maxHeartbeats 4000000 in
set_option maxRecDepth 100000 in
theorem T_X11_knot (l : Launch) (D : va_G) (cy : Nat → ClassId) (a : Nat → Nat) (u : St) (hJ : MI a u) (x1 : Int32) (x2 : Int32)  : Mi l D cy (mW cy a) yX11_knot (.code yX11_knot cX11_knot 3 (some .int)) (rmo 2 46) [.ref (a 0), .int x1, .int x2] u (fun (r : Int32) (u' : St) => u' = u) := by
  refine Mi.of (own := RX11) rfl (by decide) (Nat.le_of_ble_eq_true rfl) ?_
  have hT : Km0 u u := Km0.rf
  have hJ0 := hJ
  intro p e s m below meth c A Q ls C hret hO hl
  obtain ⟨hx, hb, hml, hown, ht, hK, hA⟩ := id C
  have hl : lv_has ls 3 [(0, .ref (a 0)), (1, .int x1), (2, .int x2)] := hl
  refine lv_aload_n hx hb dX11_knot_0 rfl (lv_at hl 0 rfl) ?_
  refine lv_iload_n hx hb dX11_knot_1 rfl (lv_at hl 1 rfl) ?_
  have g1 : 0 ≤ (fI u 0 36).toInt ∧ (fI u 0 36).toInt ≤ 1 := by have h := MI_36 hJ0; exact h
  have g2 : 0 ≤ (fA u 3 ((fI u 0 36)).toNatClampNeg).toInt ∧ (fA u 3 ((fI u 0 36)).toNatClampNeg).toInt ≤ 8 := by have h := MI_A3 hJ0 ((fI u 0 36)).toNatClampNeg; exact h
  refine cVi (w := mW cy a) (As := [.int x1]) (rest := []) C hO (T_X11_isKnot l D cy a _ (by exact hJ) ((fA u 3 ((fI u 0 36)).toNatClampNeg)) (by exact rfl) (x1)) (cwV 1 ht (gV wd_1718 wd_1720 wd_77 wd_121 wd_1721) rfl rfl rfl hd_yX11_isKnot ⟨Nat.le_of_ble_eq_true rfl, Nat.le_of_ble_eq_true rfl⟩) 0 rfl mW_0 rfl rfl hl.1 (Nat.le_of_ble_eq_true rfl) dX11_knot_2 rfl ⟨Nat.zero_le _, Nat.zero_le _⟩ (fun r3 u4 H locs hp5 hO => ?_)
  obtain ⟨hr3, hu4⟩ := hp5
  rw [hu4] at hO
  rcases hr3 with ⟨hcr3, hvr3⟩ | ⟨hcr3, hvr3⟩
  · subst hvr3
    refine bt_ne (tgt := 10) (X := 1) hx hb dX11_knot_5 (by decide) rfl (by omega) ?_
    refine lv_iload_n hx hb dX11_knot_10 rfl (lv_at hl 2 rfl) ?_
    have c6 : ((x2).toInt < 0 ∨ 2 < (x2).toInt) ∨ (x2).toInt = 0 ∨ (x2).toInt = 1 ∨ (x2).toInt = 2 := by omega
    rcases c6 with c6 | c6 | c6 | c6
    · refine lv_tableOut (tgt := 56) hx hb dX11_knot_11 (by rw [show x2.toInt = (x2).toInt from rfl]; exact c6) (by decide) ?_
      refine lv_iconst (v := (-1)) hx hb dX11_knot_56 (by decide) ?_
      refine hret _ _ _ _ _ _ dX11_knot_57 rfl ?_ hO
      exact rfl
    · refine lv_tableIn (tgt := 36) hx hb dX11_knot_11 (by rw [c6]; decide) (by rw [c6]; decide) (by rw [c6]; rfl) (by decide) ?_
      refine lv_aload_n hx hb dX11_knot_36 rfl (lv_at hl 0 rfl) ?_
      refine lv_iload_n hx hb dX11_knot_37 rfl (lv_at hl 1 rfl) ?_
      refine lv_iconst (v := 0) hx hb dX11_knot_38 (by decide) ?_
      refine cVi (w := mW cy a) (As := [.int x1, .int 0]) (rest := []) C hO (T_X11_nextTo l D cy a _ (by exact hJ) (x1) (0)) (cwV 2 ht (gV wd_1725 wd_1727 wd_78 wd_121 wd_1728) rfl rfl rfl hd_yX11_nextTo ⟨Nat.le_of_ble_eq_true rfl, Nat.le_of_ble_eq_true rfl⟩) 0 rfl mW_0 rfl rfl hl.1 (Nat.le_of_ble_eq_true rfl) dX11_knot_39 rfl ⟨Nat.zero_le _, Nat.zero_le _⟩ (fun r7 u8 H locs hp9 hO => ?_)
      have hu8 := hp9
      rw [hu8] at hO
      refine hret _ _ _ _ _ _ dX11_knot_42 rfl ?_ hO
      exact rfl
    · refine lv_tableIn (tgt := 43) hx hb dX11_knot_11 (by rw [c6]; decide) (by rw [c6]; decide) (by rw [c6]; rfl) (by decide) ?_
      refine lv_aload_n hx hb dX11_knot_43 rfl (lv_at hl 0 rfl) ?_
      refine lv_iload_n hx hb dX11_knot_44 rfl (lv_at hl 1 rfl) ?_
      refine lv_iconst (v := 1) hx hb dX11_knot_45 (by decide) ?_
      refine cVi (w := mW cy a) (As := [.int x1, .int 1]) (rest := []) C hO (T_X11_nextTo l D cy a _ (by exact hJ) (x1) (1)) (cwV 2 ht (gV wd_1725 wd_1727 wd_78 wd_121 wd_1728) rfl rfl rfl hd_yX11_nextTo ⟨Nat.le_of_ble_eq_true rfl, Nat.le_of_ble_eq_true rfl⟩) 0 rfl mW_0 rfl rfl hl.1 (Nat.le_of_ble_eq_true rfl) dX11_knot_46 rfl ⟨Nat.zero_le _, Nat.zero_le _⟩ (fun r10 u11 H locs hp12 hO => ?_)
      have hu11 := hp12
      rw [hu11] at hO
      refine hret _ _ _ _ _ _ dX11_knot_49 rfl ?_ hO
      exact rfl
    · refine lv_tableIn (tgt := 50) hx hb dX11_knot_11 (by rw [c6]; decide) (by rw [c6]; decide) (by rw [c6]; rfl) (by decide) ?_
      refine lv_aload_n hx hb dX11_knot_50 rfl (lv_at hl 0 rfl) ?_
      refine lv_iload_n hx hb dX11_knot_51 rfl (lv_at hl 1 rfl) ?_
      have g13 : 0 ≤ (fA u 6 ((fI u 0 36)).toNatClampNeg).toInt ∧ (fA u 6 ((fI u 0 36)).toNatClampNeg).toInt ≤ 6 := by have h := MI_A6 hJ0 ((fI u 0 36)).toNatClampNeg; exact h
      refine cVi (w := mW cy a) (As := [.int x1]) (rest := []) C hO (T_X11_heldAt l D cy a _ (by exact hJ) ((fA u 6 ((fI u 0 36)).toNatClampNeg)) (by exact rfl) (x1)) (cwV 1 ht (gV wd_1729 wd_1731 wd_79 wd_121 wd_1732) rfl rfl rfl hd_yX11_heldAt ⟨Nat.le_of_ble_eq_true rfl, Nat.le_of_ble_eq_true rfl⟩) 0 rfl mW_0 rfl rfl hl.1 (Nat.le_of_ble_eq_true rfl) dX11_knot_52 rfl ⟨Nat.zero_le _, Nat.zero_le _⟩ (fun r14 u15 H locs hp16 hO => ?_)
      obtain ⟨hr14, hu15⟩ := hp16
      rw [hu15] at hO
      refine hret _ _ _ _ _ _ dX11_knot_55 rfl ?_ hO
      exact rfl
  · subst hvr3
    refine bn_ne (X := 0) hx hb dX11_knot_5 rfl (by omega) ?_ (tgt := 10) (by decide)
    refine lv_iconst (v := (-1)) hx hb dX11_knot_8 (by decide) ?_
    refine hret _ _ _ _ _ _ dX11_knot_9 rfl ?_ hO
    exact rfl
theorem dX11_plea_0 : decode cX11_plea 0 = .ok (.aload_n 0, 1) := by decide +kernel
theorem dX11_plea_1 : decode cX11_plea 1 = .ok (.iload_n 1, 1) := by decide +kernel
theorem dX11_plea_2 : decode cX11_plea 2 = .ok (.invokevirtual 426, 3) := by decide +kernel
theorem dX11_plea_5 : decode cX11_plea 5 = .ok (.ifCond .eq 20, 3) := by decide +kernel
theorem dX11_plea_8 : decode cX11_plea 8 = .ok (.aload_n 0, 1) := by decide +kernel
theorem dX11_plea_9 : decode cX11_plea 9 = .ok (.getfield 57, 3) := by decide +kernel
theorem dX11_plea_12 : decode cX11_plea 12 = .ok (.bipush 8, 2) := by decide +kernel
theorem dX11_plea_14 : decode cX11_plea 14 = .ok (.aload_n 0, 1) := by decide +kernel
theorem dX11_plea_15 : decode cX11_plea 15 = .ok (.getfield 255, 3) := by decide +kernel
theorem dX11_plea_18 : decode cX11_plea 18 = .ok (.imul, 1) := by decide +kernel
theorem dX11_plea_19 : decode cX11_plea 19 = .ok (.iload_n 1, 1) := by decide +kernel
theorem dX11_plea_20 : decode cX11_plea 20 = .ok (.iadd, 1) := by decide +kernel
theorem dX11_plea_21 : decode cX11_plea 21 = .ok (.iaload, 1) := by decide +kernel
theorem dX11_plea_22 : decode cX11_plea 22 = .ok (.goto 4, 3) := by decide +kernel
theorem dX11_plea_25 : decode cX11_plea 25 = .ok (.iconst (-1), 1) := by decide +kernel
theorem dX11_plea_26 : decode cX11_plea 26 = .ok (.ireturn, 1) := by decide +kernel
theorem wd_1740 : (Cond.code ⟨"WebCourtModel", "plea", "(I)I"⟩ prog_13_method_66_code (2 : Nat) (Option.some FieldType.int)) ∈ gtb := gtb_c7 191 (by decide +kernel) rfl
theorem wd_1741 : (Cond.methodLink "WebCourtModel" (426 : Nat) ⟨"WebCourtModel", "isPlea", "(I)Z"⟩) ∈ gtb := gtb_c7 192 (by decide +kernel) rfl
theorem wd_1743 : (Cond.instanceMethod ⟨"WebCourtModel", "isPlea", "(I)Z"⟩) ∈ gtb := gtb_c7 194 (by decide +kernel) rfl
theorem wd_81 : (Cond.selects "WebCourtModel" ⟨"WebCourtModel", "isPlea", "(I)Z"⟩ ⟨"WebCourtModel", "isPlea", "(I)Z"⟩) ∈ gtb := gtb_p 81 (by decide +kernel) rfl
theorem hd_yX11_isPlea : yX11_isPlea.cls = RX11 ∧ yX11_isPlea.cls ≠ "java/lang/invoke/MethodHandle" ∧ yX11_isPlea.cls ≠ "java/lang/invoke/VarHandle" ∧ (parseMethodDescriptor yX11_isPlea.desc).map (fun d => d.parameters.length) = some 1 := by decide +kernel
set_option maxHeartbeats 4000000 in
set_option maxRecDepth 100000 in
theorem T_X11_plea (l : Launch) (D : va_G) (cy : Nat → ClassId) (a : Nat → Nat) (u : St) (hJ : MI a u) (x1 : Int32)  : Mi l D cy (mW cy a) yX11_plea (.code yX11_plea cX11_plea 2 (some .int)) (rmo 2 43) [.ref (a 0), .int x1] u (fun (r : Int32) (u' : St) => u' = u) := by
  refine Mi.of (own := RX11) rfl (by decide) (Nat.le_of_ble_eq_true rfl) ?_
  have hT : Km0 u u := Km0.rf
  have hJ0 := hJ
  intro p e s m below meth c A Q ls C hret hO hl
  obtain ⟨hx, hb, hml, hown, ht, hK, hA⟩ := id C
  have hl : lv_has ls 2 [(0, .ref (a 0)), (1, .int x1)] := hl
  refine lv_aload_n hx hb dX11_plea_0 rfl (lv_at hl 0 rfl) ?_
  refine lv_iload_n hx hb dX11_plea_1 rfl (lv_at hl 1 rfl) ?_
  have g1 : 0 ≤ (fI u 0 36).toInt ∧ (fI u 0 36).toInt ≤ 1 := by have h := MI_36 hJ0; exact h
  have g2 : 0 ≤ (fA u 5 ((fI u 0 36)).toNatClampNeg).toInt ∧ (fA u 5 ((fI u 0 36)).toNatClampNeg).toInt ≤ 8 := by have h := MI_A5 hJ0 ((fI u 0 36)).toNatClampNeg; exact h
  refine cVi (w := mW cy a) (As := [.int x1]) (rest := []) C hO (T_X11_isPlea l D cy a _ (by exact hJ) ((fA u 5 ((fI u 0 36)).toNatClampNeg)) (by exact rfl) (x1)) (cwV 1 ht (gV wd_1741 wd_1743 wd_81 wd_121 wd_1744) rfl rfl rfl hd_yX11_isPlea ⟨Nat.le_of_ble_eq_true rfl, Nat.le_of_ble_eq_true rfl⟩) 0 rfl mW_0 rfl rfl hl.1 (Nat.le_of_ble_eq_true rfl) dX11_plea_2 rfl ⟨Nat.zero_le _, Nat.zero_le _⟩ (fun r3 u4 H locs hp5 hO => ?_)
  obtain ⟨hr3, hu4⟩ := hp5
  rw [hu4] at hO
  rcases hr3 with ⟨hcr3, hvr3⟩ | ⟨hcr3, hvr3⟩
  · subst hvr3
    refine bn_eq (X := 1) hx hb dX11_plea_5 rfl (by omega) ?_ (tgt := 25) (by decide)
    refine lv_aload_n hx hb dX11_plea_8 rfl (lv_at hl 0 rfl) ?_
    refine gf_RX11_57 (v := .ref (a 15)) C hO 0 mW_0 rfl dX11_plea_9 ?_
    refine lv_bipush (v := 8) hx hb dX11_plea_12 (by decide) ?_
    refine lv_aload_n hx hb dX11_plea_14 rfl (lv_at hl 0 rfl) ?_
    refine gf_RX11_255 (v := .int (fI u 0 36)) C hO 0 mW_0 rfl dX11_plea_15 ?_
    refine lv_imul hx hb dX11_plea_18 ?_
    refine lv_topi (fun z6 ez6 => ?_)
    have e7 : z6.toInt = 8 * ((fI u 0 36)).toInt := by rw [ez6]; exact i_mul rfl rfl (by omega)
    refine lv_iload_n hx hb dX11_plea_19 rfl (lv_at hl 1 rfl) ?_
    refine lv_iadd hx hb dX11_plea_20 ?_
    refine lv_topi (fun z8 ez8 => ?_)
    have e9 : z8.toInt = (8 * ((fI u 0 36)).toInt) + (x1).toInt := by rw [ez8]; exact i_add e7 rfl (by omega)
    refine aI C hO 15 mW_15 (i_in (X := ((8 * ((fI u 0 36)).toInt) + (x1).toInt)) e9 (by omega) (by omega)) dX11_plea_21 ?_
    refine tE (y := (fA u 15 (z8).toNatClampNeg)) (by exact rfl) ?_
    refine lv_goto (tgt := 26) hx hb dX11_plea_22 (by decide) ?_
    refine hret _ _ _ _ _ _ dX11_plea_26 rfl ?_ hO
    exact rfl
  · subst hvr3
    refine bt_eq (tgt := 25) (X := 0) hx hb dX11_plea_5 (by decide) rfl (by omega) ?_
    refine lv_iconst (v := (-1)) hx hb dX11_plea_25 (by decide) ?_
    refine hret _ _ _ _ _ _ dX11_plea_26 rfl ?_ hO
    exact rfl
theorem dX11_item_0 : decode cX11_item 0 = .ok (.aload_n 0, 1) := by decide +kernel
theorem dX11_item_1 : decode cX11_item 1 = .ok (.iload_n 1, 1) := by decide +kernel
theorem dX11_item_2 : decode cX11_item 2 = .ok (.invokevirtual 383, 3) := by decide +kernel
theorem dX11_item_5 : decode cX11_item 5 = .ok (.ifCond .ne 5, 3) := by decide +kernel
theorem dX11_item_8 : decode cX11_item 8 = .ok (.iconst (-1), 1) := by decide +kernel
theorem dX11_item_9 : decode cX11_item 9 = .ok (.ireturn, 1) := by decide +kernel
theorem dX11_item_10 : decode cX11_item 10 = .ok (.iload_n 2, 1) := by decide +kernel
theorem dX11_item_11 : decode cX11_item 11 = .ok (.tableswitch 97 0 5 #[37, 43, 52, 62, 77, 87], 37) := by decide +kernel
theorem dX11_item_48 : decode cX11_item 48 = .ok (.aload_n 0, 1) := by decide +kernel
theorem dX11_item_49 : decode cX11_item 49 = .ok (.iload_n 1, 1) := by decide +kernel
theorem dX11_item_50 : decode cX11_item 50 = .ok (.invokevirtual 401, 3) := by decide +kernel
theorem dX11_item_53 : decode cX11_item 53 = .ok (.ireturn, 1) := by decide +kernel
theorem dX11_item_54 : decode cX11_item 54 = .ok (.aload_n 0, 1) := by decide +kernel
theorem dX11_item_55 : decode cX11_item 55 = .ok (.getfield 97, 3) := by decide +kernel
theorem dX11_item_58 : decode cX11_item 58 = .ok (.iconst 0, 1) := by decide +kernel
theorem dX11_item_59 : decode cX11_item 59 = .ok (.iload_n 1, 1) := by decide +kernel
theorem dX11_item_60 : decode cX11_item 60 = .ok (.iadd, 1) := by decide +kernel
theorem dX11_item_61 : decode cX11_item 61 = .ok (.iaload, 1) := by decide +kernel
theorem dX11_item_62 : decode cX11_item 62 = .ok (.ireturn, 1) := by decide +kernel
theorem dX11_item_63 : decode cX11_item 63 = .ok (.aload_n 0, 1) := by decide +kernel
theorem dX11_item_64 : decode cX11_item 64 = .ok (.getfield 97, 3) := by decide +kernel
theorem dX11_item_67 : decode cX11_item 67 = .ok (.bipush 6, 2) := by decide +kernel
theorem dX11_item_69 : decode cX11_item 69 = .ok (.iload_n 1, 1) := by decide +kernel
theorem dX11_item_70 : decode cX11_item 70 = .ok (.iadd, 1) := by decide +kernel
theorem dX11_item_71 : decode cX11_item 71 = .ok (.iaload, 1) := by decide +kernel
theorem dX11_item_72 : decode cX11_item 72 = .ok (.ireturn, 1) := by decide +kernel
theorem dX11_item_73 : decode cX11_item 73 = .ok (.aload_n 0, 1) := by decide +kernel
theorem dX11_item_74 : decode cX11_item 74 = .ok (.getfield 63, 3) := by decide +kernel
theorem dX11_item_77 : decode cX11_item 77 = .ok (.bipush 6, 2) := by decide +kernel
theorem dX11_item_79 : decode cX11_item 79 = .ok (.aload_n 0, 1) := by decide +kernel
theorem dX11_item_80 : decode cX11_item 80 = .ok (.getfield 255, 3) := by decide +kernel
theorem dX11_item_83 : decode cX11_item 83 = .ok (.imul, 1) := by decide +kernel
theorem dX11_item_84 : decode cX11_item 84 = .ok (.iload_n 1, 1) := by decide +kernel
theorem dX11_item_85 : decode cX11_item 85 = .ok (.iadd, 1) := by decide +kernel
theorem dX11_item_86 : decode cX11_item 86 = .ok (.iaload, 1) := by decide +kernel
theorem dX11_item_87 : decode cX11_item 87 = .ok (.ireturn, 1) := by decide +kernel
theorem dX11_item_88 : decode cX11_item 88 = .ok (.aload_n 0, 1) := by decide +kernel
theorem dX11_item_89 : decode cX11_item 89 = .ok (.getfield 97, 3) := by decide +kernel
theorem dX11_item_92 : decode cX11_item 92 = .ok (.bipush 12, 2) := by decide +kernel
theorem dX11_item_94 : decode cX11_item 94 = .ok (.iload_n 1, 1) := by decide +kernel
theorem dX11_item_95 : decode cX11_item 95 = .ok (.iadd, 1) := by decide +kernel
theorem dX11_item_96 : decode cX11_item 96 = .ok (.iaload, 1) := by decide +kernel
theorem dX11_item_97 : decode cX11_item 97 = .ok (.ireturn, 1) := by decide +kernel
theorem dX11_item_98 : decode cX11_item 98 = .ok (.aload_n 0, 1) := by decide +kernel
theorem dX11_item_99 : decode cX11_item 99 = .ok (.getfield 97, 3) := by decide +kernel
theorem dX11_item_102 : decode cX11_item 102 = .ok (.bipush 18, 2) := by decide +kernel
theorem dX11_item_104 : decode cX11_item 104 = .ok (.iload_n 1, 1) := by decide +kernel
theorem dX11_item_105 : decode cX11_item 105 = .ok (.iadd, 1) := by decide +kernel
theorem dX11_item_106 : decode cX11_item 106 = .ok (.iaload, 1) := by decide +kernel
theorem dX11_item_107 : decode cX11_item 107 = .ok (.ireturn, 1) := by decide +kernel
theorem dX11_item_108 : decode cX11_item 108 = .ok (.iconst (-1), 1) := by decide +kernel
theorem dX11_item_109 : decode cX11_item 109 = .ok (.ireturn, 1) := by decide +kernel
theorem wd_1752 : (Cond.code ⟨"WebCourtModel", "item", "(II)I"⟩ prog_13_method_67_code (3 : Nat) (Option.some FieldType.int)) ∈ gtb := gtb_c7 203 (by decide +kernel) rfl
theorem wd_1381 : (Cond.fieldLink "WebCourtModel" (63 : Nat) "WebCourtModel" "pleaTold" "[I") ∈ gtb := gtb_c6 72 (by decide +kernel) rfl
theorem gf_RX11_63 {p : Program} {l : Launch} {e : Env} {R : Room} {s : State} {m : MethodId} {args : Array Value} {below : List Frame} {meth : Method} {c : Code} {H : Heap} {locs : List Loc} {cells slots : Nat} {Q : State → Prop} {cc : ByteArray} {pc nL : Nat} {ls : Array Slot} {rest : List Value} {D : va_G} {cy : Nat → ClassId} {A : Nat → Prop} {ws : va_W} {b : Nat} {fs : List Value} {v : Value} (C : Cx p s m args c cc nL RX11 D cy A) (hO : Wo D A ws s.heap H locs) (q0 : Nat) (he : ws[q0]? = some (b, .inr (11, fs))) (hv : fs[25]? = some v) (hdg : decode cc pc = .ok (.getfield 63, 3)) (kk : W p l e R s m args below meth c H locs cells slots Q (F0 m (pc + 3) ls (v :: rest))) : W p l e R s m args below meth c H locs cells slots Q (F0 m pc ls (.ref b :: rest)) := gF (k := 25) C hO q0 he rfl inFX11 (by decide) wd_1381 rfl hv hdg kk
set_option maxHeartbeats 4000000 in
set_option maxRecDepth 100000 in
theorem T_X11_item (l : Launch) (D : va_G) (cy : Nat → ClassId) (a : Nat → Nat) (u : St) (hJ : MI a u) (x1 : Int32) (x2 : Int32)  : Mi l D cy (mW cy a) yX11_item (.code yX11_item cX11_item 3 (some .int)) (rmo 2 43) [.ref (a 0), .int x1, .int x2] u (fun (r : Int32) (u' : St) => u' = u) := by
  refine Mi.of (own := RX11) rfl (by decide) (Nat.le_of_ble_eq_true rfl) ?_
  have hT : Km0 u u := Km0.rf
  have hJ0 := hJ
  intro p e s m below meth c A Q ls C hret hO hl
  obtain ⟨hx, hb, hml, hown, ht, hK, hA⟩ := id C
  have hl : lv_has ls 3 [(0, .ref (a 0)), (1, .int x1), (2, .int x2)] := hl
  refine lv_aload_n hx hb dX11_item_0 rfl (lv_at hl 0 rfl) ?_
  refine lv_iload_n hx hb dX11_item_1 rfl (lv_at hl 1 rfl) ?_
  have g1 : 0 ≤ (fI u 0 36).toInt ∧ (fI u 0 36).toInt ≤ 1 := by have h := MI_36 hJ0; exact h
  have g2 : 0 ≤ (fA u 6 ((fI u 0 36)).toNatClampNeg).toInt ∧ (fA u 6 ((fI u 0 36)).toNatClampNeg).toInt ≤ 6 := by have h := MI_A6 hJ0 ((fI u 0 36)).toNatClampNeg; exact h
  refine cVi (w := mW cy a) (As := [.int x1]) (rest := []) C hO (T_X11_isCase l D cy a _ (by exact hJ) ((fA u 6 ((fI u 0 36)).toNatClampNeg)) (by exact rfl) (x1)) (cwV 1 ht (gV wd_1753 wd_1755 wd_83 wd_121 wd_1756) rfl rfl rfl hd_yX11_isCase ⟨Nat.le_of_ble_eq_true rfl, Nat.le_of_ble_eq_true rfl⟩) 0 rfl mW_0 rfl rfl hl.1 (Nat.le_of_ble_eq_true rfl) dX11_item_2 rfl ⟨Nat.zero_le _, Nat.zero_le _⟩ (fun r3 u4 H locs hp5 hO => ?_)
  obtain ⟨hr3, hu4⟩ := hp5
  rw [hu4] at hO
  rcases hr3 with ⟨hcr3, hvr3⟩ | ⟨hcr3, hvr3⟩
  · subst hvr3
    refine bt_ne (tgt := 10) (X := 1) hx hb dX11_item_5 (by decide) rfl (by omega) ?_
    refine lv_iload_n hx hb dX11_item_10 rfl (lv_at hl 2 rfl) ?_
    have c6 : ((x2).toInt < 0 ∨ 5 < (x2).toInt) ∨ (x2).toInt = 0 ∨ (x2).toInt = 1 ∨ (x2).toInt = 2 ∨ (x2).toInt = 3 ∨ (x2).toInt = 4 ∨ (x2).toInt = 5 := by omega
    rcases c6 with c6 | c6 | c6 | c6 | c6 | c6 | c6
    · refine lv_tableOut (tgt := 108) hx hb dX11_item_11 (by rw [show x2.toInt = (x2).toInt from rfl]; exact c6) (by decide) ?_
      refine lv_iconst (v := (-1)) hx hb dX11_item_108 (by decide) ?_
      refine hret _ _ _ _ _ _ dX11_item_109 rfl ?_ hO
      exact rfl
    · refine lv_tableIn (tgt := 48) hx hb dX11_item_11 (by rw [c6]; decide) (by rw [c6]; decide) (by rw [c6]; rfl) (by decide) ?_
      refine lv_aload_n hx hb dX11_item_48 rfl (lv_at hl 0 rfl) ?_
      refine lv_iload_n hx hb dX11_item_49 rfl (lv_at hl 1 rfl) ?_
      refine cVi (w := mW cy a) (As := [.int x1]) (rest := []) C hO (T_X11_placeOf l D cy a _ (by exact hJ) (x1) (by first | omega | decide)) (cwV 1 ht (gV wd_1733 wd_1735 wd_80 wd_121 wd_1736) rfl rfl rfl hd_yX11_placeOf ⟨Nat.le_of_ble_eq_true rfl, Nat.le_of_ble_eq_true rfl⟩) 0 rfl mW_0 rfl rfl hl.1 (Nat.le_of_ble_eq_true rfl) dX11_item_50 rfl ⟨Nat.zero_le _, Nat.zero_le _⟩ (fun r7 u8 H locs hp9 hO => ?_)
      obtain ⟨hr7, hu8⟩ := hp9
      rw [hu8] at hO
      refine hret _ _ _ _ _ _ dX11_item_53 rfl ?_ hO
      exact rfl
    · refine lv_tableIn (tgt := 54) hx hb dX11_item_11 (by rw [c6]; decide) (by rw [c6]; decide) (by rw [c6]; rfl) (by decide) ?_
      refine lv_aload_n hx hb dX11_item_54 rfl (lv_at hl 0 rfl) ?_
      refine gf_RX11_97 (v := .ref (a 28)) C hO 0 mW_0 rfl dX11_item_55 ?_
      refine lv_iconst (v := 0) hx hb dX11_item_58 (by decide) ?_
      refine lv_iload_n hx hb dX11_item_59 rfl (lv_at hl 1 rfl) ?_
      refine lv_iadd hx hb dX11_item_60 ?_
      refine lv_topi (fun z10 ez10 => ?_)
      have e11 : z10.toInt = 0 + (x1).toInt := by rw [ez10]; exact i_add rfl rfl (by omega)
      refine aI C hO 28 mW_28 (i_in (X := (0 + (x1).toInt)) e11 (by omega) (by omega)) dX11_item_61 ?_
      refine tE (y := (fA u 28 (z10).toNatClampNeg)) (by exact rfl) ?_
      refine hret _ _ _ _ _ _ dX11_item_62 rfl ?_ hO
      exact rfl
    · refine lv_tableIn (tgt := 63) hx hb dX11_item_11 (by rw [c6]; decide) (by rw [c6]; decide) (by rw [c6]; rfl) (by decide) ?_
      refine lv_aload_n hx hb dX11_item_63 rfl (lv_at hl 0 rfl) ?_
      refine gf_RX11_97 (v := .ref (a 28)) C hO 0 mW_0 rfl dX11_item_64 ?_
      refine lv_bipush (v := 6) hx hb dX11_item_67 (by decide) ?_
      refine lv_iload_n hx hb dX11_item_69 rfl (lv_at hl 1 rfl) ?_
      refine lv_iadd hx hb dX11_item_70 ?_
      refine lv_topi (fun z12 ez12 => ?_)
      have e13 : z12.toInt = 6 + (x1).toInt := by rw [ez12]; exact i_add rfl rfl (by omega)
      refine aI C hO 28 mW_28 (i_in (X := (6 + (x1).toInt)) e13 (by omega) (by omega)) dX11_item_71 ?_
      refine tE (y := (fA u 28 (z12).toNatClampNeg)) (by exact rfl) ?_
      refine hret _ _ _ _ _ _ dX11_item_72 rfl ?_ hO
      exact rfl
    · refine lv_tableIn (tgt := 73) hx hb dX11_item_11 (by rw [c6]; decide) (by rw [c6]; decide) (by rw [c6]; rfl) (by decide) ?_
      refine lv_aload_n hx hb dX11_item_73 rfl (lv_at hl 0 rfl) ?_
      refine gf_RX11_63 (v := .ref (a 17)) C hO 0 mW_0 rfl dX11_item_74 ?_
      refine lv_bipush (v := 6) hx hb dX11_item_77 (by decide) ?_
      refine lv_aload_n hx hb dX11_item_79 rfl (lv_at hl 0 rfl) ?_
      refine gf_RX11_255 (v := .int (fI u 0 36)) C hO 0 mW_0 rfl dX11_item_80 ?_
      refine lv_imul hx hb dX11_item_83 ?_
      refine lv_topi (fun z14 ez14 => ?_)
      have e15 : z14.toInt = 6 * ((fI u 0 36)).toInt := by rw [ez14]; exact i_mul rfl rfl (by omega)
      refine lv_iload_n hx hb dX11_item_84 rfl (lv_at hl 1 rfl) ?_
      refine lv_iadd hx hb dX11_item_85 ?_
      refine lv_topi (fun z16 ez16 => ?_)
      have e17 : z16.toInt = (6 * ((fI u 0 36)).toInt) + (x1).toInt := by rw [ez16]; exact i_add e15 rfl (by omega)
      refine aI C hO 17 mW_17 (i_in (X := ((6 * ((fI u 0 36)).toInt) + (x1).toInt)) e17 (by omega) (by omega)) dX11_item_86 ?_
      have g18 : 0 ≤ (fA u 17 (z16).toNatClampNeg).toInt ∧ (fA u 17 (z16).toNatClampNeg).toInt ≤ 255 := by have h := MI_A17 hJ0 (z16).toNatClampNeg; exact h
      refine tE (y := (fA u 17 (z16).toNatClampNeg)) (by exact rfl) ?_
      refine hret _ _ _ _ _ _ dX11_item_87 rfl ?_ hO
      exact rfl
    · refine lv_tableIn (tgt := 88) hx hb dX11_item_11 (by rw [c6]; decide) (by rw [c6]; decide) (by rw [c6]; rfl) (by decide) ?_
      refine lv_aload_n hx hb dX11_item_88 rfl (lv_at hl 0 rfl) ?_
      refine gf_RX11_97 (v := .ref (a 28)) C hO 0 mW_0 rfl dX11_item_89 ?_
      refine lv_bipush (v := 12) hx hb dX11_item_92 (by decide) ?_
      refine lv_iload_n hx hb dX11_item_94 rfl (lv_at hl 1 rfl) ?_
      refine lv_iadd hx hb dX11_item_95 ?_
      refine lv_topi (fun z19 ez19 => ?_)
      have e20 : z19.toInt = 12 + (x1).toInt := by rw [ez19]; exact i_add rfl rfl (by omega)
      refine aI C hO 28 mW_28 (i_in (X := (12 + (x1).toInt)) e20 (by omega) (by omega)) dX11_item_96 ?_
      refine tE (y := (fA u 28 (z19).toNatClampNeg)) (by exact rfl) ?_
      refine hret _ _ _ _ _ _ dX11_item_97 rfl ?_ hO
      exact rfl
    · refine lv_tableIn (tgt := 98) hx hb dX11_item_11 (by rw [c6]; decide) (by rw [c6]; decide) (by rw [c6]; rfl) (by decide) ?_
      refine lv_aload_n hx hb dX11_item_98 rfl (lv_at hl 0 rfl) ?_
      refine gf_RX11_97 (v := .ref (a 28)) C hO 0 mW_0 rfl dX11_item_99 ?_
      refine lv_bipush (v := 18) hx hb dX11_item_102 (by decide) ?_
      refine lv_iload_n hx hb dX11_item_104 rfl (lv_at hl 1 rfl) ?_
      refine lv_iadd hx hb dX11_item_105 ?_
      refine lv_topi (fun z21 ez21 => ?_)
      have e22 : z21.toInt = 18 + (x1).toInt := by rw [ez21]; exact i_add rfl rfl (by omega)
      refine aI C hO 28 mW_28 (i_in (X := (18 + (x1).toInt)) e22 (by omega) (by omega)) dX11_item_106 ?_
      refine tE (y := (fA u 28 (z21).toNatClampNeg)) (by exact rfl) ?_
      refine hret _ _ _ _ _ _ dX11_item_107 rfl ?_ hO
      exact rfl
  · subst hvr3
    refine bn_ne (X := 0) hx hb dX11_item_5 rfl (by omega) ?_ (tgt := 10) (by decide)
    refine lv_iconst (v := (-1)) hx hb dX11_item_8 (by decide) ?_
    refine hret _ _ _ _ _ _ dX11_item_9 rfl ?_ hO
    exact rfl
theorem dX11_verdict_0 : decode cX11_verdict 0 = .ok (.aload_n 0, 1) := by decide +kernel
theorem dX11_verdict_1 : decode cX11_verdict 1 = .ok (.iload_n 1, 1) := by decide +kernel
theorem dX11_verdict_2 : decode cX11_verdict 2 = .ok (.invokevirtual 383, 3) := by decide +kernel
theorem dX11_verdict_5 : decode cX11_verdict 5 = .ok (.ifCond .eq 11, 3) := by decide +kernel
theorem dX11_verdict_8 : decode cX11_verdict 8 = .ok (.aload_n 0, 1) := by decide +kernel
theorem dX11_verdict_9 : decode cX11_verdict 9 = .ok (.iload_n 1, 1) := by decide +kernel
theorem dX11_verdict_10 : decode cX11_verdict 10 = .ok (.invokevirtual 416, 3) := by decide +kernel
theorem dX11_verdict_13 : decode cX11_verdict 13 = .ok (.goto 6, 3) := by decide +kernel
theorem dX11_verdict_16 : decode cX11_verdict 16 = .ok (.ldc_w 429, 3) := by decide +kernel
theorem dX11_verdict_19 : decode cX11_verdict 19 = .ok (.ireturn, 1) := by decide +kernel
theorem wd_1760 : (Cond.code ⟨"WebCourtModel", "verdict", "(I)I"⟩ prog_13_method_68_code (2 : Nat) (Option.some FieldType.int)) ∈ gtb := gtb_c7 211 (by decide +kernel) rfl
theorem wd_1761 : (Cond.methodLink "WebCourtModel" (416 : Nat) ⟨"WebCourtModel", "verdictOf", "(I)I"⟩) ∈ gtb := gtb_c7 212 (by decide +kernel) rfl
theorem wd_1763 : (Cond.instanceMethod ⟨"WebCourtModel", "verdictOf", "(I)I"⟩) ∈ gtb := gtb_c7 214 (by decide +kernel) rfl
theorem wd_84 : (Cond.selects "WebCourtModel" ⟨"WebCourtModel", "verdictOf", "(I)I"⟩ ⟨"WebCourtModel", "verdictOf", "(I)I"⟩) ∈ gtb := gtb_p 84 (by decide +kernel) rfl
theorem hd_yX11_verdictOf : yX11_verdictOf.cls = RX11 ∧ yX11_verdictOf.cls ≠ "java/lang/invoke/MethodHandle" ∧ yX11_verdictOf.cls ≠ "java/lang/invoke/VarHandle" ∧ (parseMethodDescriptor yX11_verdictOf.desc).map (fun d => d.parameters.length) = some 1 := by decide +kernel
theorem wd_1788 : (Cond.constant "WebCourtModel" (429 : Nat) (-1000000000 : Int32)) ∈ gtb := gtb_c7 239 (by decide +kernel) rfl
set_option maxHeartbeats 4000000 in
set_option maxRecDepth 100000 in
theorem T_X11_verdict (l : Launch) (D : va_G) (cy : Nat → ClassId) (a : Nat → Nat) (u : St) (hJ : MI a u) (x1 : Int32)  : Mi l D cy (mW cy a) yX11_verdict (.code yX11_verdict cX11_verdict 2 (some .int)) (rmo 7 153) [.ref (a 0), .int x1] u (fun (r : Int32) (u' : St) => (MI a u') ∧ (Km2 u u')) := by
  refine Mi.of (own := RX11) rfl (by decide) (Nat.le_of_ble_eq_true rfl) ?_
  have hT : Km2 u u := Km2.rf
  have hJ0 := hJ
  intro p e s m below meth c A Q ls C hret hO hl
  obtain ⟨hx, hb, hml, hown, ht, hK, hA⟩ := id C
  have hl : lv_has ls 2 [(0, .ref (a 0)), (1, .int x1)] := hl
  refine lv_aload_n hx hb dX11_verdict_0 rfl (lv_at hl 0 rfl) ?_
  refine lv_iload_n hx hb dX11_verdict_1 rfl (lv_at hl 1 rfl) ?_
  have g1 : 0 ≤ (fI u 0 36).toInt ∧ (fI u 0 36).toInt ≤ 1 := by have h := MI_36 hJ0; exact h
  have g2 : 0 ≤ (fA u 6 ((fI u 0 36)).toNatClampNeg).toInt ∧ (fA u 6 ((fI u 0 36)).toNatClampNeg).toInt ≤ 6 := by have h := MI_A6 hJ0 ((fI u 0 36)).toNatClampNeg; exact h
  refine cVi (w := mW cy a) (As := [.int x1]) (rest := []) C hO (T_X11_isCase l D cy a _ (by exact hJ) ((fA u 6 ((fI u 0 36)).toNatClampNeg)) (by exact rfl) (x1)) (cwV 1 ht (gV wd_1753 wd_1755 wd_83 wd_121 wd_1756) rfl rfl rfl hd_yX11_isCase ⟨Nat.le_of_ble_eq_true rfl, Nat.le_of_ble_eq_true rfl⟩) 0 rfl mW_0 rfl rfl hl.1 (Nat.le_of_ble_eq_true rfl) dX11_verdict_2 rfl ⟨Nat.zero_le _, Nat.zero_le _⟩ (fun r3 u4 H locs hp5 hO => ?_)
  obtain ⟨hr3, hu4⟩ := hp5
  rw [hu4] at hO
  rcases hr3 with ⟨hcr3, hvr3⟩ | ⟨hcr3, hvr3⟩
  · subst hvr3
    refine bn_eq (X := 1) hx hb dX11_verdict_5 rfl (by omega) ?_ (tgt := 16) (by decide)
    refine lv_aload_n hx hb dX11_verdict_8 rfl (lv_at hl 0 rfl) ?_
    refine lv_iload_n hx hb dX11_verdict_9 rfl (lv_at hl 1 rfl) ?_
    refine cVi (w := mW cy a) (As := [.int x1]) (rest := []) C hO (T_X11_verdictOf l D cy a _ (by exact hJ) (x1) (by first | omega | decide)) (cwV 1 ht (gV wd_1761 wd_1763 wd_84 wd_121 wd_1764) rfl rfl rfl hd_yX11_verdictOf ⟨Nat.le_of_ble_eq_true rfl, Nat.le_of_ble_eq_true rfl⟩) 0 rfl mW_0 rfl rfl hl.1 (Nat.le_of_ble_eq_true rfl) dX11_verdict_10 rfl ⟨Nat.zero_le _, Nat.zero_le _⟩ (fun r6 u7 H locs hp8 hO => ?_)
    obtain ⟨hJ, hTu7⟩ := hp8
    have hT : Km2 u u7 := Km2.tr (by exact hT) hTu7
    refine lv_goto (tgt := 19) hx hb dX11_verdict_13 (by decide) ?_
    refine hret _ _ _ _ _ _ dX11_verdict_19 rfl ?_ hO
    exact ⟨hJ, hT⟩
  · subst hvr3
    refine bt_eq (tgt := 16) (X := 0) hx hb dX11_verdict_5 (by decide) rfl (by omega) ?_
    refine lv_ldcw (v := (-1000000000)) hx hb hown (ht _ wd_1788) dX11_verdict_16 ?_
    refine hret _ _ _ _ _ _ dX11_verdict_19 rfl ?_ hO
    exact ⟨hJ, hT⟩
theorem dX11_freeNow_0 : decode cX11_freeNow 0 = .ok (.iconst 0, 1) := by decide +kernel
theorem dX11_freeNow_1 : decode cX11_freeNow 1 = .ok (.istore_n 1, 1) := by decide +kernel
theorem dX11_freeNow_2 : decode cX11_freeNow 2 = .ok (.iconst 0, 1) := by decide +kernel
theorem dX11_freeNow_3 : decode cX11_freeNow 3 = .ok (.istore_n 2, 1) := by decide +kernel
theorem dX11_freeNow_4 : decode cX11_freeNow 4 = .ok (.iload_n 2, 1) := by decide +kernel
theorem dX11_freeNow_5 : decode cX11_freeNow 5 = .ok (.aload_n 0, 1) := by decide +kernel
theorem dX11_freeNow_6 : decode cX11_freeNow 6 = .ok (.invokevirtual 371, 3) := by decide +kernel
theorem dX11_freeNow_9 : decode cX11_freeNow 9 = .ok (.if_icmp .ge 31, 3) := by decide +kernel
theorem dX11_freeNow_12 : decode cX11_freeNow 12 = .ok (.aload_n 0, 1) := by decide +kernel
theorem dX11_freeNow_13 : decode cX11_freeNow 13 = .ok (.iload_n 2, 1) := by decide +kernel
theorem dX11_freeNow_14 : decode cX11_freeNow 14 = .ok (.invokevirtual 413, 3) := by decide +kernel
theorem dX11_freeNow_17 : decode cX11_freeNow 17 = .ok (.ifCond .eq 17, 3) := by decide +kernel
theorem dX11_freeNow_20 : decode cX11_freeNow 20 = .ok (.aload_n 0, 1) := by decide +kernel
theorem dX11_freeNow_21 : decode cX11_freeNow 21 = .ok (.iload_n 2, 1) := by decide +kernel
theorem dX11_freeNow_22 : decode cX11_freeNow 22 = .ok (.invokevirtual 416, 3) := by decide +kernel
theorem dX11_freeNow_25 : decode cX11_freeNow 25 = .ok (.ifCond .le 9, 3) := by decide +kernel
theorem dX11_freeNow_28 : decode cX11_freeNow 28 = .ok (.iload_n 1, 1) := by decide +kernel
theorem dX11_freeNow_29 : decode cX11_freeNow 29 = .ok (.iconst 1, 1) := by decide +kernel
theorem dX11_freeNow_30 : decode cX11_freeNow 30 = .ok (.iload_n 2, 1) := by decide +kernel
theorem dX11_freeNow_31 : decode cX11_freeNow 31 = .ok (.ishl, 1) := by decide +kernel
theorem dX11_freeNow_32 : decode cX11_freeNow 32 = .ok (.ior, 1) := by decide +kernel
theorem dX11_freeNow_33 : decode cX11_freeNow 33 = .ok (.istore_n 1, 1) := by decide +kernel
theorem dX11_freeNow_34 : decode cX11_freeNow 34 = .ok (.iinc 2 1, 3) := by decide +kernel
theorem dX11_freeNow_37 : decode cX11_freeNow 37 = .ok (.goto (-33), 3) := by decide +kernel
theorem dX11_freeNow_40 : decode cX11_freeNow 40 = .ok (.iload_n 1, 1) := by decide +kernel
theorem dX11_freeNow_41 : decode cX11_freeNow 41 = .ok (.ireturn, 1) := by decide +kernel
theorem wd_1796 : (Cond.code ⟨"WebCourtModel", "freeNow", "()I"⟩ prog_13_method_63_code (3 : Nat) (Option.some FieldType.int)) ∈ gtb := gtb_c8 7 (by decide +kernel) rfl
theorem Km2_I36 {u v : St} (h : Km2 u v) : fI v 0 36 = fI u 0 36 := h.2.2.2.2.2.2.2.2.2.1
theorem Km2_A6 {u v : St} (h : Km2 u v) : fA v 6 = fA u 6 := h.2.2.2.2.2.2.2.2.2.2.2.2.2.2.2.2.2.2.2.2.2.2.2.2.2.2.1
theorem wd_1797 : (Cond.methodLink "WebCourtModel" (413 : Nat) ⟨"WebCourtModel", "isHeld", "(I)Z"⟩) ∈ gtb := gtb_c8 8 (by decide +kernel) rfl
theorem wd_1799 : (Cond.instanceMethod ⟨"WebCourtModel", "isHeld", "(I)Z"⟩) ∈ gtb := gtb_c8 10 (by decide +kernel) rfl
theorem wd_91 : (Cond.selects "WebCourtModel" ⟨"WebCourtModel", "isHeld", "(I)Z"⟩ ⟨"WebCourtModel", "isHeld", "(I)Z"⟩) ∈ gtb := gtb_p 91 (by decide +kernel) rfl
theorem hd_yX11_isHeld : yX11_isHeld.cls = RX11 ∧ yX11_isHeld.cls ≠ "java/lang/invoke/MethodHandle" ∧ yX11_isHeld.cls ≠ "java/lang/invoke/VarHandle" ∧ (parseMethodDescriptor yX11_isHeld.desc).map (fun d => d.parameters.length) = some 1 := by decide +kernel
set_option maxHeartbeats 4000000 in
set_option maxRecDepth 100000 in
theorem T_X11_freeNow (l : Launch) (D : va_G) (cy : Nat → ClassId) (a : Nat → Nat) (u : St) (hJ : MI a u)   : Mi l D cy (mW cy a) yX11_freeNow (.code yX11_freeNow cX11_freeNow 3 (some .int)) (rmo 7 153) [.ref (a 0)] u (fun (r : Int32) (u' : St) => (0 ≤ r.toInt ∧ r.toInt ≤ 63) ∧ (MI a u') ∧ (Km2 u u')) := by
  refine Mi.of (own := RX11) rfl (by decide) (Nat.le_of_ble_eq_true rfl) ?_
  have hT : Km2 u u := Km2.rf
  have hJ0 := hJ
  intro p e s m below meth c A Q ls C hret hO hl
  obtain ⟨hx, hb, hml, hown, ht, hK, hA⟩ := id C
  have hl : lv_has ls 3 [(0, .ref (a 0))] := hl
  refine lv_iconst (v := 0) hx hb dX11_freeNow_0 (by decide) ?_
  refine lv_istore_n (lv' := [(1, .int 0), (0, .ref (a 0))]) hx hb dX11_freeNow_1 rfl hl (by decide) rfl (fun ls hl => ?_)
  refine lv_iconst (v := 0) hx hb dX11_freeNow_2 (by decide) ?_
  refine lv_istore_n (lv' := [(2, .int 0), (1, .int 0), (0, .ref (a 0))]) hx hb dX11_freeNow_3 rfl hl (by decide) rfl (fun ls hl => ?_)
  have LP_4_k2 : ∀ (n : Nat) (u1 : St) (H : Heap) (locs : List Loc) (ls : Array Slot) (i_k2 : Int32) (w1_k2 : Int32), Wo D A (mW cy a u1) s.heap H locs → lv_has ls 3 [(2, .int i_k2), (1, .int w1_k2), (0, .ref (a 0))] → MI a u1 → Km2 u u1 → 0 ≤ i_k2.toInt ∧ i_k2.toInt ≤ 6 → 0 ≤ w1_k2.toInt ∧ w1_k2.toInt ≤ 63 → 6 - i_k2.toInt < (n : Int) → W p l e (rmo 7 153) s m [.ref (a 0)].toArray below meth c H locs 0 0 Q (F0 m 4 ls []) := by
    intro n
    induction n with
    | zero =>
      intro u1 H locs ls i_k2 w1_k2 hO hl hJ hT iv0_k2 iv1_k2 hm_k2
      exact absurd hm_k2 (by omega)
    | succ n ih_k2 =>
      intro u1 H locs ls i_k2 w1_k2 hO hl hJ hT iv0_k2 iv1_k2 hm_k2
      refine lv_iload_n hx hb dX11_freeNow_4 rfl (lv_at hl 0 rfl) ?_
      refine lv_aload_n hx hb dX11_freeNow_5 rfl (lv_at hl 2 rfl) ?_
      have g3 : 0 ≤ (fI u 0 36).toInt ∧ (fI u 0 36).toInt ≤ 1 := by have h := MI_36 hJ0; exact h
      have g4 : 0 ≤ (fA u 6 ((fI u 0 36)).toNatClampNeg).toInt ∧ (fA u 6 ((fI u 0 36)).toNatClampNeg).toInt ≤ 6 := by have h := MI_A6 hJ0 ((fI u 0 36)).toNatClampNeg; exact h
      refine cVi (w := mW cy a) (As := []) (rest := [.int i_k2]) C hO (T_X11_many l D cy a _ (by exact hJ) ((fA u 6 ((fI u 0 36)).toNatClampNeg)) (by exact (Eq.trans (congrArg (fun z : Int32 => fA _ 6 z.toNatClampNeg) (Km2_I36 hT)) (congrFun (Km2_A6 hT) _)))) (cwV 0 ht (gV wd_1348 wd_1350 wd_46 wd_121 wd_1351) rfl rfl rfl hd_yX11_many ⟨Nat.le_of_ble_eq_true rfl, Nat.le_of_ble_eq_true rfl⟩) 0 rfl mW_0 rfl rfl hl.1 (Nat.le_of_ble_eq_true rfl) dX11_freeNow_6 rfl ⟨Nat.zero_le _, Nat.zero_le _⟩ (fun r5 u6 H locs hp7 hO => ?_)
      obtain ⟨hr5, hu6⟩ := hp7
      refine tE hr5 ?_
      rw [hu6] at hO
      refine cs_ge (tgt := 40) (X := (i_k2).toInt) (Y := ((fA u 6 ((fI u 0 36)).toNatClampNeg)).toInt) hx hb dX11_freeNow_9 (by decide) rfl rfl (fun c8 => ?_) (fun c8 => ?_)
      · refine lv_iload_n hx hb dX11_freeNow_40 rfl (lv_at hl 1 rfl) ?_
        refine hret _ _ _ _ _ _ dX11_freeNow_41 rfl ?_ hO
        exact ⟨(by first | decide | omega), hJ, hT⟩
      · refine lv_aload_n hx hb dX11_freeNow_12 rfl (lv_at hl 2 rfl) ?_
        refine lv_iload_n hx hb dX11_freeNow_13 rfl (lv_at hl 0 rfl) ?_
        refine cVi (w := mW cy a) (As := [.int i_k2]) (rest := []) C hO (T_X11_isHeld l D cy a _ (by exact hJ) ((fA u 6 ((fI u 0 36)).toNatClampNeg)) (by exact (Eq.trans (congrArg (fun z : Int32 => fA _ 6 z.toNatClampNeg) (Km2_I36 hT)) (congrFun (Km2_A6 hT) _))) (i_k2)) (cwV 1 ht (gV wd_1797 wd_1799 wd_91 wd_121 wd_1800) rfl rfl rfl hd_yX11_isHeld ⟨Nat.le_of_ble_eq_true rfl, Nat.le_of_ble_eq_true rfl⟩) 0 rfl mW_0 rfl rfl hl.1 (Nat.le_of_ble_eq_true rfl) dX11_freeNow_14 rfl ⟨Nat.zero_le _, Nat.zero_le _⟩ (fun r9 u10 H locs hp11 hO => ?_)
        obtain ⟨hr9, hu10⟩ := hp11
        rw [hu10] at hO
        rcases hr9 with ⟨hcr9, hvr9⟩ | ⟨hcr9, hvr9⟩
        · subst hvr9
          refine bn_eq (X := 1) hx hb dX11_freeNow_17 rfl (by omega) ?_ (tgt := 34) (by decide)
          refine lv_aload_n hx hb dX11_freeNow_20 rfl (lv_at hl 2 rfl) ?_
          refine lv_iload_n hx hb dX11_freeNow_21 rfl (lv_at hl 0 rfl) ?_
          refine cVi (w := mW cy a) (As := [.int i_k2]) (rest := []) C hO (T_X11_verdictOf l D cy a _ (by exact hJ) (i_k2) (by first | omega | decide)) (cwV 1 ht (gV wd_1761 wd_1763 wd_84 wd_121 wd_1764) rfl rfl rfl hd_yX11_verdictOf ⟨Nat.le_of_ble_eq_true rfl, Nat.le_of_ble_eq_true rfl⟩) 0 rfl mW_0 rfl rfl hl.1 (Nat.le_of_ble_eq_true rfl) dX11_freeNow_22 rfl ⟨Nat.zero_le _, Nat.zero_le _⟩ (fun r12 u13 H locs hp14 hO => ?_)
          obtain ⟨hJ, hTu13⟩ := hp14
          have hT : Km2 u u13 := Km2.tr (by exact hT) hTu13
          refine bs_le (tgt := 34) (X := (r12).toInt) hx hb dX11_freeNow_25 (by decide) rfl (fun c15 => ?_) (fun c15 => ?_)
          · obtain ⟨z16, ez16⟩ : ∃ z : Int32, z = i_k2 + Int32.ofInt 1 := ⟨_, rfl⟩
            have e17 : z16.toInt = (i_k2).toInt + 1 := by rw [ez16]; exact i_add rfl rfl (by omega)
            refine lv_iinc (v := z16) (lv' := [(2, .int z16), (1, .int w1_k2), (0, .ref (a 0))]) hx hb dX11_freeNow_34 hl (k := 0) rfl ez16.symm (by decide) rfl (fun ls hl => ?_)
            refine lv_goto (tgt := 4) hx hb dX11_freeNow_37 (by decide) ?_
            exact ih_k2 _ _ _ _ (z16) (w1_k2) hO (lv_sub hl [0, 1, 2] rfl) (by exact hJ) (by exact hT) (by first | decide | omega) (by first | decide | omega) (by first | decide | omega)
          · refine lv_iload_n hx hb dX11_freeNow_28 rfl (lv_at hl 1 rfl) ?_
            refine lv_iconst (v := 1) hx hb dX11_freeNow_29 (by decide) ?_
            refine lv_iload_n hx hb dX11_freeNow_30 rfl (lv_at hl 0 rfl) ?_
            refine lv_ishl hx hb dX11_freeNow_31 ?_
            refine lv_topi (fun z18 ez18 => ?_)
            have g19 : 0 ≤ z18.toInt ∧ z18.toInt ≤ 2 ^ 5 := by rw [ez18]; exact i_shl1 rfl (by omega) (by omega) (by decide)
            refine lv_ior hx hb dX11_freeNow_32 ?_
            refine lv_topi (fun z20 ez20 => ?_)
            have g21 : 0 ≤ z20.toInt ∧ z20.toInt < 2 ^ 6 := by rw [ez20]; exact i_or rfl rfl (by omega) (by omega) (by decide)
            refine lv_istore_n (lv' := [(1, .int z20), (2, .int i_k2), (0, .ref (a 0))]) hx hb dX11_freeNow_33 rfl hl (by decide) rfl (fun ls hl => ?_)
            obtain ⟨z22, ez22⟩ : ∃ z : Int32, z = i_k2 + Int32.ofInt 1 := ⟨_, rfl⟩
            have e23 : z22.toInt = (i_k2).toInt + 1 := by rw [ez22]; exact i_add rfl rfl (by omega)
            refine lv_iinc (v := z22) (lv' := [(2, .int z22), (1, .int z20), (0, .ref (a 0))]) hx hb dX11_freeNow_34 hl (k := 1) rfl ez22.symm (by decide) rfl (fun ls hl => ?_)
            refine lv_goto (tgt := 4) hx hb dX11_freeNow_37 (by decide) ?_
            exact ih_k2 _ _ _ _ (z22) (z20) hO (lv_sub hl [0, 1, 2] rfl) (by exact hJ) (by exact hT) (by first | decide | omega) (by first | decide | omega) (by first | decide | omega)
        · subst hvr9
          refine bt_eq (tgt := 34) (X := 0) hx hb dX11_freeNow_17 (by decide) rfl (by omega) ?_
          obtain ⟨z24, ez24⟩ : ∃ z : Int32, z = i_k2 + Int32.ofInt 1 := ⟨_, rfl⟩
          have e25 : z24.toInt = (i_k2).toInt + 1 := by rw [ez24]; exact i_add rfl rfl (by omega)
          refine lv_iinc (v := z24) (lv' := [(2, .int z24), (1, .int w1_k2), (0, .ref (a 0))]) hx hb dX11_freeNow_34 hl (k := 0) rfl ez24.symm (by decide) rfl (fun ls hl => ?_)
          refine lv_goto (tgt := 4) hx hb dX11_freeNow_37 (by decide) ?_
          exact ih_k2 _ _ _ _ (z24) (w1_k2) hO (lv_sub hl [0, 1, 2] rfl) (by exact hJ) (by exact hT) (by first | decide | omega) (by first | decide | omega) (by first | decide | omega)
  have zc26 : (0 : Int32).toInt = 0 := rfl
  exact LP_4_k2 4000 _ _ _ _ (0) (0) hO (lv_sub hl [0, 1, 2] rfl) (by exact hJ) (by exact hT) (by first | decide | omega) (by first | decide | omega) (by first | decide | omega)
theorem dX11_free_0 : decode cX11_free 0 = .ok (.aload_n 0, 1) := by decide +kernel
theorem dX11_free_1 : decode cX11_free 1 = .ok (.invokevirtual 430, 3) := by decide +kernel
theorem dX11_free_4 : decode cX11_free 4 = .ok (.ireturn, 1) := by decide +kernel
theorem wd_1792 : (Cond.code ⟨"WebCourtModel", "free", "()I"⟩ prog_13_method_69_code (1 : Nat) (Option.some FieldType.int)) ∈ gtb := gtb_c8 3 (by decide +kernel) rfl
theorem wd_1793 : (Cond.methodLink "WebCourtModel" (430 : Nat) ⟨"WebCourtModel", "freeNow", "()I"⟩) ∈ gtb := gtb_c8 4 (by decide +kernel) rfl
theorem wd_1795 : (Cond.instanceMethod ⟨"WebCourtModel", "freeNow", "()I"⟩) ∈ gtb := gtb_c8 6 (by decide +kernel) rfl
theorem wd_90 : (Cond.selects "WebCourtModel" ⟨"WebCourtModel", "freeNow", "()I"⟩ ⟨"WebCourtModel", "freeNow", "()I"⟩) ∈ gtb := gtb_p 90 (by decide +kernel) rfl
theorem hd_yX11_freeNow : yX11_freeNow.cls = RX11 ∧ yX11_freeNow.cls ≠ "java/lang/invoke/MethodHandle" ∧ yX11_freeNow.cls ≠ "java/lang/invoke/VarHandle" ∧ (parseMethodDescriptor yX11_freeNow.desc).map (fun d => d.parameters.length) = some 0 := by decide +kernel
set_option maxHeartbeats 4000000 in
set_option maxRecDepth 100000 in
theorem T_X11_free (l : Launch) (D : va_G) (cy : Nat → ClassId) (a : Nat → Nat) (u : St) (hJ : MI a u)   : Mi l D cy (mW cy a) yX11_free (.code yX11_free cX11_free 1 (some .int)) (rmo 8 175) [.ref (a 0)] u (fun (r : Int32) (u' : St) => (MI a u') ∧ (Km2 u u')) := by
  refine Mi.of (own := RX11) rfl (by decide) (Nat.le_of_ble_eq_true rfl) ?_
  have hT : Km2 u u := Km2.rf
  have hJ0 := hJ
  intro p e s m below meth c A Q ls C hret hO hl
  obtain ⟨hx, hb, hml, hown, ht, hK, hA⟩ := id C
  have hl : lv_has ls 1 [(0, .ref (a 0))] := hl
  refine lv_aload_n hx hb dX11_free_0 rfl (lv_at hl 0 rfl) ?_
  refine cVi (w := mW cy a) (As := []) (rest := []) C hO (T_X11_freeNow l D cy a _ (by exact hJ)) (cwV 0 ht (gV wd_1793 wd_1795 wd_90 wd_121 wd_1796) rfl rfl rfl hd_yX11_freeNow ⟨Nat.le_of_ble_eq_true rfl, Nat.le_of_ble_eq_true rfl⟩) 0 rfl mW_0 rfl rfl hl.1 (Nat.le_of_ble_eq_true rfl) dX11_free_1 rfl ⟨Nat.zero_le _, Nat.zero_le _⟩ (fun r1 u2 H locs hp3 hO => ?_)
  obtain ⟨hr1, hJ, hTu2⟩ := hp3
  have hT : Km2 u u2 := Km2.tr (by exact hT) hTu2
  refine hret _ _ _ _ _ _ dX11_free_4 rfl ?_ hO
  exact ⟨hJ, hT⟩
theorem dX11_likeliest_0 : decode cX11_likeliest 0 = .ok (.iconst (-1), 1) := by decide +kernel
theorem dX11_likeliest_1 : decode cX11_likeliest 1 = .ok (.istore_n 1, 1) := by decide +kernel
theorem dX11_likeliest_2 : decode cX11_likeliest 2 = .ok (.iconst 0, 1) := by decide +kernel
theorem dX11_likeliest_3 : decode cX11_likeliest 3 = .ok (.istore_n 2, 1) := by decide +kernel
theorem dX11_likeliest_4 : decode cX11_likeliest 4 = .ok (.iload_n 2, 1) := by decide +kernel
theorem dX11_likeliest_5 : decode cX11_likeliest 5 = .ok (.aload_n 0, 1) := by decide +kernel
theorem dX11_likeliest_6 : decode cX11_likeliest 6 = .ok (.invokevirtual 371, 3) := by decide +kernel
theorem dX11_likeliest_9 : decode cX11_likeliest 9 = .ok (.if_icmp .ge 36, 3) := by decide +kernel
theorem dX11_likeliest_12 : decode cX11_likeliest 12 = .ok (.aload_n 0, 1) := by decide +kernel
theorem dX11_likeliest_13 : decode cX11_likeliest 13 = .ok (.iload_n 2, 1) := by decide +kernel
theorem dX11_likeliest_14 : decode cX11_likeliest 14 = .ok (.invokevirtual 413, 3) := by decide +kernel
theorem dX11_likeliest_17 : decode cX11_likeliest 17 = .ok (.ifCond .eq 22, 3) := by decide +kernel
theorem dX11_likeliest_20 : decode cX11_likeliest 20 = .ok (.iload_n 1, 1) := by decide +kernel
theorem dX11_likeliest_21 : decode cX11_likeliest 21 = .ok (.ifCond .lt 16, 3) := by decide +kernel
theorem dX11_likeliest_24 : decode cX11_likeliest 24 = .ok (.aload_n 0, 1) := by decide +kernel
theorem dX11_likeliest_25 : decode cX11_likeliest 25 = .ok (.iload_n 2, 1) := by decide +kernel
theorem dX11_likeliest_26 : decode cX11_likeliest 26 = .ok (.invokevirtual 416, 3) := by decide +kernel
theorem dX11_likeliest_29 : decode cX11_likeliest 29 = .ok (.aload_n 0, 1) := by decide +kernel
theorem dX11_likeliest_30 : decode cX11_likeliest 30 = .ok (.iload_n 1, 1) := by decide +kernel
theorem dX11_likeliest_31 : decode cX11_likeliest 31 = .ok (.invokevirtual 416, 3) := by decide +kernel
theorem dX11_likeliest_34 : decode cX11_likeliest 34 = .ok (.if_icmp .le 5, 3) := by decide +kernel
theorem dX11_likeliest_37 : decode cX11_likeliest 37 = .ok (.iload_n 2, 1) := by decide +kernel
theorem dX11_likeliest_38 : decode cX11_likeliest 38 = .ok (.istore_n 1, 1) := by decide +kernel
theorem dX11_likeliest_39 : decode cX11_likeliest 39 = .ok (.iinc 2 1, 3) := by decide +kernel
theorem dX11_likeliest_42 : decode cX11_likeliest 42 = .ok (.goto (-38), 3) := by decide +kernel
theorem dX11_likeliest_45 : decode cX11_likeliest 45 = .ok (.iload_n 1, 1) := by decide +kernel
theorem dX11_likeliest_46 : decode cX11_likeliest 46 = .ok (.ireturn, 1) := by decide +kernel
theorem wd_1804 : (Cond.code ⟨"WebCourtModel", "likeliest", "()I"⟩ prog_13_method_70_code (3 : Nat) (Option.some FieldType.int)) ∈ gtb := gtb_c8 15 (by decide +kernel) rfl
set_option maxHeartbeats 4000000 in
set_option maxRecDepth 100000 in
theorem T_X11_likeliest (l : Launch) (D : va_G) (cy : Nat → ClassId) (a : Nat → Nat) (u : St) (hJ : MI a u)   : Mi l D cy (mW cy a) yX11_likeliest (.code yX11_likeliest cX11_likeliest 3 (some .int)) (rmo 7 153) [.ref (a 0)] u (fun (r : Int32) (u' : St) => (MI a u') ∧ (Km2 u u')) := by
  refine Mi.of (own := RX11) rfl (by decide) (Nat.le_of_ble_eq_true rfl) ?_
  have hT : Km2 u u := Km2.rf
  have hJ0 := hJ
  intro p e s m below meth c A Q ls C hret hO hl
  obtain ⟨hx, hb, hml, hown, ht, hK, hA⟩ := id C
  have hl : lv_has ls 3 [(0, .ref (a 0))] := hl
  refine lv_iconst (v := (-1)) hx hb dX11_likeliest_0 (by decide) ?_
  refine lv_istore_n (lv' := [(1, .int (-1)), (0, .ref (a 0))]) hx hb dX11_likeliest_1 rfl hl (by decide) rfl (fun ls hl => ?_)
  refine lv_iconst (v := 0) hx hb dX11_likeliest_2 (by decide) ?_
  refine lv_istore_n (lv' := [(2, .int 0), (1, .int (-1)), (0, .ref (a 0))]) hx hb dX11_likeliest_3 rfl hl (by decide) rfl (fun ls hl => ?_)
  have LP_4_k2 : ∀ (n : Nat) (u1 : St) (H : Heap) (locs : List Loc) (ls : Array Slot) (i_k2 : Int32) (w1_k2 : Int32), Wo D A (mW cy a u1) s.heap H locs → lv_has ls 3 [(2, .int i_k2), (1, .int w1_k2), (0, .ref (a 0))] → MI a u1 → Km2 u u1 → 0 ≤ i_k2.toInt ∧ i_k2.toInt ≤ 6 → (-1) ≤ w1_k2.toInt ∧ w1_k2.toInt ≤ 5 → 6 - i_k2.toInt < (n : Int) → W p l e (rmo 7 153) s m [.ref (a 0)].toArray below meth c H locs 0 0 Q (F0 m 4 ls []) := by
    intro n
    induction n with
    | zero =>
      intro u1 H locs ls i_k2 w1_k2 hO hl hJ hT iv0_k2 iv1_k2 hm_k2
      exact absurd hm_k2 (by omega)
    | succ n ih_k2 =>
      intro u1 H locs ls i_k2 w1_k2 hO hl hJ hT iv0_k2 iv1_k2 hm_k2
      refine lv_iload_n hx hb dX11_likeliest_4 rfl (lv_at hl 0 rfl) ?_
      refine lv_aload_n hx hb dX11_likeliest_5 rfl (lv_at hl 2 rfl) ?_
      have g3 : 0 ≤ (fI u 0 36).toInt ∧ (fI u 0 36).toInt ≤ 1 := by have h := MI_36 hJ0; exact h
      have g4 : 0 ≤ (fA u 6 ((fI u 0 36)).toNatClampNeg).toInt ∧ (fA u 6 ((fI u 0 36)).toNatClampNeg).toInt ≤ 6 := by have h := MI_A6 hJ0 ((fI u 0 36)).toNatClampNeg; exact h
      refine cVi (w := mW cy a) (As := []) (rest := [.int i_k2]) C hO (T_X11_many l D cy a _ (by exact hJ) ((fA u 6 ((fI u 0 36)).toNatClampNeg)) (by exact (Eq.trans (congrArg (fun z : Int32 => fA _ 6 z.toNatClampNeg) (Km2_I36 hT)) (congrFun (Km2_A6 hT) _)))) (cwV 0 ht (gV wd_1348 wd_1350 wd_46 wd_121 wd_1351) rfl rfl rfl hd_yX11_many ⟨Nat.le_of_ble_eq_true rfl, Nat.le_of_ble_eq_true rfl⟩) 0 rfl mW_0 rfl rfl hl.1 (Nat.le_of_ble_eq_true rfl) dX11_likeliest_6 rfl ⟨Nat.zero_le _, Nat.zero_le _⟩ (fun r5 u6 H locs hp7 hO => ?_)
      obtain ⟨hr5, hu6⟩ := hp7
      refine tE hr5 ?_
      rw [hu6] at hO
      refine cs_ge (tgt := 45) (X := (i_k2).toInt) (Y := ((fA u 6 ((fI u 0 36)).toNatClampNeg)).toInt) hx hb dX11_likeliest_9 (by decide) rfl rfl (fun c8 => ?_) (fun c8 => ?_)
      · refine lv_iload_n hx hb dX11_likeliest_45 rfl (lv_at hl 1 rfl) ?_
        refine hret _ _ _ _ _ _ dX11_likeliest_46 rfl ?_ hO
        exact ⟨hJ, hT⟩
      · refine lv_aload_n hx hb dX11_likeliest_12 rfl (lv_at hl 2 rfl) ?_
        refine lv_iload_n hx hb dX11_likeliest_13 rfl (lv_at hl 0 rfl) ?_
        refine cVi (w := mW cy a) (As := [.int i_k2]) (rest := []) C hO (T_X11_isHeld l D cy a _ (by exact hJ) ((fA u 6 ((fI u 0 36)).toNatClampNeg)) (by exact (Eq.trans (congrArg (fun z : Int32 => fA _ 6 z.toNatClampNeg) (Km2_I36 hT)) (congrFun (Km2_A6 hT) _))) (i_k2)) (cwV 1 ht (gV wd_1797 wd_1799 wd_91 wd_121 wd_1800) rfl rfl rfl hd_yX11_isHeld ⟨Nat.le_of_ble_eq_true rfl, Nat.le_of_ble_eq_true rfl⟩) 0 rfl mW_0 rfl rfl hl.1 (Nat.le_of_ble_eq_true rfl) dX11_likeliest_14 rfl ⟨Nat.zero_le _, Nat.zero_le _⟩ (fun r9 u10 H locs hp11 hO => ?_)
        obtain ⟨hr9, hu10⟩ := hp11
        rw [hu10] at hO
        rcases hr9 with ⟨hcr9, hvr9⟩ | ⟨hcr9, hvr9⟩
        · subst hvr9
          refine bn_eq (X := 1) hx hb dX11_likeliest_17 rfl (by omega) ?_ (tgt := 39) (by decide)
          refine lv_iload_n hx hb dX11_likeliest_20 rfl (lv_at hl 1 rfl) ?_
          refine bs_lt (tgt := 37) (X := (w1_k2).toInt) hx hb dX11_likeliest_21 (by decide) rfl (fun c12 => ?_) (fun c12 => ?_)
          · refine lv_iload_n hx hb dX11_likeliest_37 rfl (lv_at hl 0 rfl) ?_
            refine lv_istore_n (lv' := [(1, .int i_k2), (2, .int i_k2), (0, .ref (a 0))]) hx hb dX11_likeliest_38 rfl hl (by decide) rfl (fun ls hl => ?_)
            obtain ⟨z13, ez13⟩ : ∃ z : Int32, z = i_k2 + Int32.ofInt 1 := ⟨_, rfl⟩
            have e14 : z13.toInt = (i_k2).toInt + 1 := by rw [ez13]; exact i_add rfl rfl (by omega)
            refine lv_iinc (v := z13) (lv' := [(2, .int z13), (1, .int i_k2), (0, .ref (a 0))]) hx hb dX11_likeliest_39 hl (k := 1) rfl ez13.symm (by decide) rfl (fun ls hl => ?_)
            refine lv_goto (tgt := 4) hx hb dX11_likeliest_42 (by decide) ?_
            exact ih_k2 _ _ _ _ (z13) (i_k2) hO (lv_sub hl [0, 1, 2] rfl) (by exact hJ) (by exact hT) (by first | decide | omega) (by first | decide | omega) (by first | decide | omega)
          · refine lv_aload_n hx hb dX11_likeliest_24 rfl (lv_at hl 2 rfl) ?_
            refine lv_iload_n hx hb dX11_likeliest_25 rfl (lv_at hl 0 rfl) ?_
            refine cVi (w := mW cy a) (As := [.int i_k2]) (rest := []) C hO (T_X11_verdictOf l D cy a _ (by exact hJ) (i_k2) (by first | omega | decide)) (cwV 1 ht (gV wd_1761 wd_1763 wd_84 wd_121 wd_1764) rfl rfl rfl hd_yX11_verdictOf ⟨Nat.le_of_ble_eq_true rfl, Nat.le_of_ble_eq_true rfl⟩) 0 rfl mW_0 rfl rfl hl.1 (Nat.le_of_ble_eq_true rfl) dX11_likeliest_26 rfl ⟨Nat.zero_le _, Nat.zero_le _⟩ (fun r15 u16 H locs hp17 hO => ?_)
            obtain ⟨hJ, hTu16⟩ := hp17
            have hT : Km2 u u16 := Km2.tr (by exact hT) hTu16
            refine lv_aload_n hx hb dX11_likeliest_29 rfl (lv_at hl 2 rfl) ?_
            refine lv_iload_n hx hb dX11_likeliest_30 rfl (lv_at hl 1 rfl) ?_
            refine cVi (w := mW cy a) (As := [.int w1_k2]) (rest := [.int r15]) C hO (T_X11_verdictOf l D cy a _ (by exact hJ) (w1_k2) (by first | omega | decide)) (cwV 1 ht (gV wd_1761 wd_1763 wd_84 wd_121 wd_1764) rfl rfl rfl hd_yX11_verdictOf ⟨Nat.le_of_ble_eq_true rfl, Nat.le_of_ble_eq_true rfl⟩) 0 rfl mW_0 rfl rfl hl.1 (Nat.le_of_ble_eq_true rfl) dX11_likeliest_31 rfl ⟨Nat.zero_le _, Nat.zero_le _⟩ (fun r18 u19 H locs hp20 hO => ?_)
            obtain ⟨hJ, hTu19⟩ := hp20
            have hT : Km2 u u19 := Km2.tr (by exact hT) hTu19
            refine cs_le (tgt := 39) (X := (r15).toInt) (Y := (r18).toInt) hx hb dX11_likeliest_34 (by decide) rfl rfl (fun c21 => ?_) (fun c21 => ?_)
            · obtain ⟨z22, ez22⟩ : ∃ z : Int32, z = i_k2 + Int32.ofInt 1 := ⟨_, rfl⟩
              have e23 : z22.toInt = (i_k2).toInt + 1 := by rw [ez22]; exact i_add rfl rfl (by omega)
              refine lv_iinc (v := z22) (lv' := [(2, .int z22), (1, .int w1_k2), (0, .ref (a 0))]) hx hb dX11_likeliest_39 hl (k := 0) rfl ez22.symm (by decide) rfl (fun ls hl => ?_)
              refine lv_goto (tgt := 4) hx hb dX11_likeliest_42 (by decide) ?_
              exact ih_k2 _ _ _ _ (z22) (w1_k2) hO (lv_sub hl [0, 1, 2] rfl) (by exact hJ) (by exact hT) (by first | decide | omega) (by first | decide | omega) (by first | decide | omega)
            · refine lv_iload_n hx hb dX11_likeliest_37 rfl (lv_at hl 0 rfl) ?_
              refine lv_istore_n (lv' := [(1, .int i_k2), (2, .int i_k2), (0, .ref (a 0))]) hx hb dX11_likeliest_38 rfl hl (by decide) rfl (fun ls hl => ?_)
              obtain ⟨z24, ez24⟩ : ∃ z : Int32, z = i_k2 + Int32.ofInt 1 := ⟨_, rfl⟩
              have e25 : z24.toInt = (i_k2).toInt + 1 := by rw [ez24]; exact i_add rfl rfl (by omega)
              refine lv_iinc (v := z24) (lv' := [(2, .int z24), (1, .int i_k2), (0, .ref (a 0))]) hx hb dX11_likeliest_39 hl (k := 1) rfl ez24.symm (by decide) rfl (fun ls hl => ?_)
              refine lv_goto (tgt := 4) hx hb dX11_likeliest_42 (by decide) ?_
              exact ih_k2 _ _ _ _ (z24) (i_k2) hO (lv_sub hl [0, 1, 2] rfl) (by exact hJ) (by exact hT) (by first | decide | omega) (by first | decide | omega) (by first | decide | omega)
        · subst hvr9
          refine bt_eq (tgt := 39) (X := 0) hx hb dX11_likeliest_17 (by decide) rfl (by omega) ?_
          obtain ⟨z26, ez26⟩ : ∃ z : Int32, z = i_k2 + Int32.ofInt 1 := ⟨_, rfl⟩
          have e27 : z26.toInt = (i_k2).toInt + 1 := by rw [ez26]; exact i_add rfl rfl (by omega)
          refine lv_iinc (v := z26) (lv' := [(2, .int z26), (1, .int w1_k2), (0, .ref (a 0))]) hx hb dX11_likeliest_39 hl (k := 0) rfl ez26.symm (by decide) rfl (fun ls hl => ?_)
          refine lv_goto (tgt := 4) hx hb dX11_likeliest_42 (by decide) ?_
          exact ih_k2 _ _ _ _ (z26) (w1_k2) hO (lv_sub hl [0, 1, 2] rfl) (by exact hJ) (by exact hT) (by first | decide | omega) (by first | decide | omega) (by first | decide | omega)
  have zc28 : ((-1) : Int32).toInt = (-1) := rfl
  have zc29 : (0 : Int32).toInt = 0 := rfl
  exact LP_4_k2 4000 _ _ _ _ (0) ((-1)) hO (lv_sub hl [0, 1, 2] rfl) (by exact hJ) (by exact hT) (by first | decide | omega) (by first | decide | omega) (by first | decide | omega)
theorem dX11_haveIt_0 : decode cX11_haveIt 0 = .ok (.iconst 0, 1) := by decide +kernel
theorem dX11_haveIt_1 : decode cX11_haveIt 1 = .ok (.istore_n 2, 1) := by decide +kernel
theorem dX11_haveIt_2 : decode cX11_haveIt 2 = .ok (.iconst 0, 1) := by decide +kernel
theorem dX11_haveIt_3 : decode cX11_haveIt 3 = .ok (.istore_n 3, 1) := by decide +kernel
theorem dX11_haveIt_4 : decode cX11_haveIt 4 = .ok (.iload_n 3, 1) := by decide +kernel
theorem dX11_haveIt_5 : decode cX11_haveIt 5 = .ok (.aload_n 0, 1) := by decide +kernel
theorem dX11_haveIt_6 : decode cX11_haveIt 6 = .ok (.invokevirtual 371, 3) := by decide +kernel
theorem dX11_haveIt_9 : decode cX11_haveIt 9 = .ok (.if_icmp .ge 41, 3) := by decide +kernel
theorem dX11_haveIt_12 : decode cX11_haveIt 12 = .ok (.iload_n 2, 1) := by decide +kernel
theorem dX11_haveIt_13 : decode cX11_haveIt 13 = .ok (.aload_n 0, 1) := by decide +kernel
theorem dX11_haveIt_14 : decode cX11_haveIt 14 = .ok (.iload_n 3, 1) := by decide +kernel
theorem dX11_haveIt_15 : decode cX11_haveIt 15 = .ok (.invokevirtual 413, 3) := by decide +kernel
theorem dX11_haveIt_18 : decode cX11_haveIt 18 = .ok (.ifCond .eq 23, 3) := by decide +kernel
theorem dX11_haveIt_21 : decode cX11_haveIt 21 = .ok (.aload_n 0, 1) := by decide +kernel
theorem dX11_haveIt_22 : decode cX11_haveIt 22 = .ok (.getfield 97, 3) := by decide +kernel
theorem dX11_haveIt_25 : decode cX11_haveIt 25 = .ok (.bipush 6, 2) := by decide +kernel
theorem dX11_haveIt_27 : decode cX11_haveIt 27 = .ok (.iload_n 3, 1) := by decide +kernel
theorem dX11_haveIt_28 : decode cX11_haveIt 28 = .ok (.iadd, 1) := by decide +kernel
theorem dX11_haveIt_29 : decode cX11_haveIt 29 = .ok (.iaload, 1) := by decide +kernel
theorem dX11_haveIt_30 : decode cX11_haveIt 30 = .ok (.iload_n 1, 1) := by decide +kernel
theorem dX11_haveIt_31 : decode cX11_haveIt 31 = .ok (.invokestatic 264, 3) := by decide +kernel
theorem dX11_haveIt_34 : decode cX11_haveIt 34 = .ok (.ifCond .eq 7, 3) := by decide +kernel
theorem dX11_haveIt_37 : decode cX11_haveIt 37 = .ok (.iconst 1, 1) := by decide +kernel
theorem dX11_haveIt_38 : decode cX11_haveIt 38 = .ok (.goto 4, 3) := by decide +kernel
theorem dX11_haveIt_41 : decode cX11_haveIt 41 = .ok (.iconst 0, 1) := by decide +kernel
theorem dX11_haveIt_42 : decode cX11_haveIt 42 = .ok (.iadd, 1) := by decide +kernel
theorem dX11_haveIt_43 : decode cX11_haveIt 43 = .ok (.istore_n 2, 1) := by decide +kernel
theorem dX11_haveIt_44 : decode cX11_haveIt 44 = .ok (.iinc 3 1, 3) := by decide +kernel
theorem dX11_haveIt_47 : decode cX11_haveIt 47 = .ok (.goto (-43), 3) := by decide +kernel
theorem dX11_haveIt_50 : decode cX11_haveIt 50 = .ok (.iload_n 2, 1) := by decide +kernel
theorem dX11_haveIt_51 : decode cX11_haveIt 51 = .ok (.ireturn, 1) := by decide +kernel
theorem wd_1812 : (Cond.code ⟨"WebCourtModel", "haveIt", "(I)I"⟩ prog_13_method_71_code (4 : Nat) (Option.some FieldType.int)) ∈ gtb := gtb_c8 23 (by decide +kernel) rfl
set_option maxHeartbeats 4000000 in
set_option maxRecDepth 100000 in
theorem T_X11_haveIt (l : Launch) (D : va_G) (cy : Nat → ClassId) (a : Nat → Nat) (u : St) (hJ : MI a u) (x1 : Int32)  : Mi l D cy (mW cy a) yX11_haveIt (.code yX11_haveIt cX11_haveIt 4 (some .int)) (rmo 3 64) [.ref (a 0), .int x1] u (fun (r : Int32) (u' : St) => u' = u) := by
  refine Mi.of (own := RX11) rfl (by decide) (Nat.le_of_ble_eq_true rfl) ?_
  have hT : Km0 u u := Km0.rf
  have hJ0 := hJ
  intro p e s m below meth c A Q ls C hret hO hl
  obtain ⟨hx, hb, hml, hown, ht, hK, hA⟩ := id C
  have hl : lv_has ls 4 [(0, .ref (a 0)), (1, .int x1)] := hl
  refine lv_iconst (v := 0) hx hb dX11_haveIt_0 (by decide) ?_
  refine lv_istore_n (lv' := [(2, .int 0), (0, .ref (a 0)), (1, .int x1)]) hx hb dX11_haveIt_1 rfl hl (by decide) rfl (fun ls hl => ?_)
  refine lv_iconst (v := 0) hx hb dX11_haveIt_2 (by decide) ?_
  refine lv_istore_n (lv' := [(3, .int 0), (2, .int 0), (0, .ref (a 0)), (1, .int x1)]) hx hb dX11_haveIt_3 rfl hl (by decide) rfl (fun ls hl => ?_)
  have LP_4_k1 : ∀ (n : Nat) (H : Heap) (locs : List Loc) (ls : Array Slot) (i_k1 : Int32) (w2_k1 : Int32), Wo D A (mW cy a u) s.heap H locs → lv_has ls 4 [(3, .int i_k1), (2, .int w2_k1), (0, .ref (a 0)), (1, .int x1)] → 0 ≤ i_k1.toInt ∧ i_k1.toInt ≤ 6 → 6 - i_k1.toInt < (n : Int) → W p l e (rmo 3 64) s m [.ref (a 0), .int x1].toArray below meth c H locs 0 0 Q (F0 m 4 ls []) := by
    intro n
    induction n with
    | zero =>
      intro H locs ls i_k1 w2_k1 hO hl iv0_k1 hm_k1
      exact absurd hm_k1 (by omega)
    | succ n ih_k1 =>
      intro H locs ls i_k1 w2_k1 hO hl iv0_k1 hm_k1
      refine lv_iload_n hx hb dX11_haveIt_4 rfl (lv_at hl 0 rfl) ?_
      refine lv_aload_n hx hb dX11_haveIt_5 rfl (lv_at hl 2 rfl) ?_
      have g2 : 0 ≤ (fI u 0 36).toInt ∧ (fI u 0 36).toInt ≤ 1 := by have h := MI_36 hJ0; exact h
      have g3 : 0 ≤ (fA u 6 ((fI u 0 36)).toNatClampNeg).toInt ∧ (fA u 6 ((fI u 0 36)).toNatClampNeg).toInt ≤ 6 := by have h := MI_A6 hJ0 ((fI u 0 36)).toNatClampNeg; exact h
      refine cVi (w := mW cy a) (As := []) (rest := [.int i_k1]) C hO (T_X11_many l D cy a _ (by exact hJ) ((fA u 6 ((fI u 0 36)).toNatClampNeg)) (by exact rfl)) (cwV 0 ht (gV wd_1348 wd_1350 wd_46 wd_121 wd_1351) rfl rfl rfl hd_yX11_many ⟨Nat.le_of_ble_eq_true rfl, Nat.le_of_ble_eq_true rfl⟩) 0 rfl mW_0 rfl rfl hl.1 (Nat.le_of_ble_eq_true rfl) dX11_haveIt_6 rfl ⟨Nat.zero_le _, Nat.zero_le _⟩ (fun r4 u5 H locs hp6 hO => ?_)
      obtain ⟨hr4, hu5⟩ := hp6
      refine tE hr4 ?_
      rw [hu5] at hO
      refine cs_ge (tgt := 50) (X := (i_k1).toInt) (Y := ((fA u 6 ((fI u 0 36)).toNatClampNeg)).toInt) hx hb dX11_haveIt_9 (by decide) rfl rfl (fun c7 => ?_) (fun c7 => ?_)
      · refine lv_iload_n hx hb dX11_haveIt_50 rfl (lv_at hl 1 rfl) ?_
        refine hret _ _ _ _ _ _ dX11_haveIt_51 rfl ?_ hO
        exact rfl
      · refine lv_iload_n hx hb dX11_haveIt_12 rfl (lv_at hl 1 rfl) ?_
        refine lv_aload_n hx hb dX11_haveIt_13 rfl (lv_at hl 2 rfl) ?_
        refine lv_iload_n hx hb dX11_haveIt_14 rfl (lv_at hl 0 rfl) ?_
        refine cVi (w := mW cy a) (As := [.int i_k1]) (rest := [.int w2_k1]) C hO (T_X11_isHeld l D cy a _ (by exact hJ) ((fA u 6 ((fI u 0 36)).toNatClampNeg)) (by exact rfl) (i_k1)) (cwV 1 ht (gV wd_1797 wd_1799 wd_91 wd_121 wd_1800) rfl rfl rfl hd_yX11_isHeld ⟨Nat.le_of_ble_eq_true rfl, Nat.le_of_ble_eq_true rfl⟩) 0 rfl mW_0 rfl rfl hl.1 (Nat.le_of_ble_eq_true rfl) dX11_haveIt_15 rfl ⟨Nat.zero_le _, Nat.zero_le _⟩ (fun r8 u9 H locs hp10 hO => ?_)
        obtain ⟨hr8, hu9⟩ := hp10
        rw [hu9] at hO
        rcases hr8 with ⟨hcr8, hvr8⟩ | ⟨hcr8, hvr8⟩
        · subst hvr8
          refine bn_eq (X := 1) hx hb dX11_haveIt_18 rfl (by omega) ?_ (tgt := 41) (by decide)
          refine lv_aload_n hx hb dX11_haveIt_21 rfl (lv_at hl 2 rfl) ?_
          refine gf_RX11_97 (v := .ref (a 28)) C hO 0 mW_0 rfl dX11_haveIt_22 ?_
          refine lv_bipush (v := 6) hx hb dX11_haveIt_25 (by decide) ?_
          refine lv_iload_n hx hb dX11_haveIt_27 rfl (lv_at hl 0 rfl) ?_
          refine lv_iadd hx hb dX11_haveIt_28 ?_
          refine lv_topi (fun z11 ez11 => ?_)
          have e12 : z11.toInt = 6 + (i_k1).toInt := by rw [ez11]; exact i_add rfl rfl (by omega)
          refine aI C hO 28 mW_28 (i_in (X := (6 + (i_k1).toInt)) e12 (by omega) (by omega)) dX11_haveIt_29 ?_
          refine tE (y := (fA u 28 (z11).toNatClampNeg)) (by exact rfl) ?_
          refine lv_iload_n hx hb dX11_haveIt_30 rfl (lv_at hl 3 rfl) ?_
          refine cSi (w := mW cy a) (As := [.int (fA u 28 (z11).toNatClampNeg), .int x1]) (rest := [.int w2_k1]) C hO (T_X11_bit l D cy a _ (by exact hJ) ((fA u 28 (z11).toNatClampNeg)) (x1)) (va_cwS 2 ht (gSS wd_1612 wd_1613 wd_121 wd_1614) rfl rfl rfl hd_yX11_bit ⟨Nat.le_of_ble_eq_true rfl, Nat.le_of_ble_eq_true rfl⟩)  rfl hl.1 (Nat.le_of_ble_eq_true rfl) dX11_haveIt_31 rfl ⟨Nat.zero_le _, Nat.zero_le _⟩ (fun r13 u14 H locs hp15 hO => ?_)
          obtain ⟨hr13, hu14⟩ := hp15
          rw [hu14] at hO
          obtain ⟨hr13, hbr13⟩ := hr13
          have gr13 : 0 ≤ r13.toInt ∧ r13.toInt ≤ 1 := by rcases hr13 with h | h <;> rw [h] <;> decide
          refine bs_eq (tgt := 41) (X := (r13).toInt) hx hb dX11_haveIt_34 (by decide) rfl (fun c16 => ?_) (fun c16 => ?_)
          · refine lv_iconst (v := 0) hx hb dX11_haveIt_41 (by decide) ?_
            refine lv_iadd hx hb dX11_haveIt_42 ?_
            refine lv_topi (fun z17 ez17 => ?_)
            refine lv_istore_n (lv' := [(2, .int z17), (3, .int i_k1), (0, .ref (a 0)), (1, .int x1)]) hx hb dX11_haveIt_43 rfl hl (by decide) rfl (fun ls hl => ?_)
            obtain ⟨z18, ez18⟩ : ∃ z : Int32, z = i_k1 + Int32.ofInt 1 := ⟨_, rfl⟩
            have e19 : z18.toInt = (i_k1).toInt + 1 := by rw [ez18]; exact i_add rfl rfl (by omega)
            refine lv_iinc (v := z18) (lv' := [(3, .int z18), (2, .int z17), (0, .ref (a 0)), (1, .int x1)]) hx hb dX11_haveIt_44 hl (k := 1) rfl ez18.symm (by decide) rfl (fun ls hl => ?_)
            refine lv_goto (tgt := 4) hx hb dX11_haveIt_47 (by decide) ?_
            exact ih_k1 _ _ _ (z18) (z17) hO (lv_sub hl [0, 1, 2, 3] rfl) (by first | decide | omega) (by first | decide | omega)
          · refine lv_iconst (v := 1) hx hb dX11_haveIt_37 (by decide) ?_
            refine lv_goto (tgt := 42) hx hb dX11_haveIt_38 (by decide) ?_
            refine lv_iadd hx hb dX11_haveIt_42 ?_
            refine lv_topi (fun z20 ez20 => ?_)
            refine lv_istore_n (lv' := [(2, .int z20), (3, .int i_k1), (0, .ref (a 0)), (1, .int x1)]) hx hb dX11_haveIt_43 rfl hl (by decide) rfl (fun ls hl => ?_)
            obtain ⟨z21, ez21⟩ : ∃ z : Int32, z = i_k1 + Int32.ofInt 1 := ⟨_, rfl⟩
            have e22 : z21.toInt = (i_k1).toInt + 1 := by rw [ez21]; exact i_add rfl rfl (by omega)
            refine lv_iinc (v := z21) (lv' := [(3, .int z21), (2, .int z20), (0, .ref (a 0)), (1, .int x1)]) hx hb dX11_haveIt_44 hl (k := 1) rfl ez21.symm (by decide) rfl (fun ls hl => ?_)
            refine lv_goto (tgt := 4) hx hb dX11_haveIt_47 (by decide) ?_
            exact ih_k1 _ _ _ (z21) (z20) hO (lv_sub hl [0, 1, 2, 3] rfl) (by first | decide | omega) (by first | decide | omega)
        · subst hvr8
          refine bt_eq (tgt := 41) (X := 0) hx hb dX11_haveIt_18 (by decide) rfl (by omega) ?_
          refine lv_iconst (v := 0) hx hb dX11_haveIt_41 (by decide) ?_
          refine lv_iadd hx hb dX11_haveIt_42 ?_
          refine lv_topi (fun z23 ez23 => ?_)
          refine lv_istore_n (lv' := [(2, .int z23), (3, .int i_k1), (0, .ref (a 0)), (1, .int x1)]) hx hb dX11_haveIt_43 rfl hl (by decide) rfl (fun ls hl => ?_)
          obtain ⟨z24, ez24⟩ : ∃ z : Int32, z = i_k1 + Int32.ofInt 1 := ⟨_, rfl⟩
          have e25 : z24.toInt = (i_k1).toInt + 1 := by rw [ez24]; exact i_add rfl rfl (by omega)
          refine lv_iinc (v := z24) (lv' := [(3, .int z24), (2, .int z23), (0, .ref (a 0)), (1, .int x1)]) hx hb dX11_haveIt_44 hl (k := 1) rfl ez24.symm (by decide) rfl (fun ls hl => ?_)
          refine lv_goto (tgt := 4) hx hb dX11_haveIt_47 (by decide) ?_
          exact ih_k1 _ _ _ (z24) (z23) hO (lv_sub hl [0, 1, 2, 3] rfl) (by first | decide | omega) (by first | decide | omega)
  have zc26 : (0 : Int32).toInt = 0 := rfl
  exact LP_4_k1 4000 _ _ _ (0) (0) hO (lv_sub hl [0, 1, 2, 3] rfl) (by first | decide | omega) (by first | decide | omega)
theorem dX11_fashion_0 : decode cX11_fashion 0 = .ok (.iconst (-1), 1) := by decide +kernel
theorem dX11_fashion_1 : decode cX11_fashion 1 = .ok (.istore_n 1, 1) := by decide +kernel
theorem dX11_fashion_2 : decode cX11_fashion 2 = .ok (.iconst 0, 1) := by decide +kernel
theorem dX11_fashion_3 : decode cX11_fashion 3 = .ok (.istore_n 2, 1) := by decide +kernel
theorem dX11_fashion_4 : decode cX11_fashion 4 = .ok (.iload_n 2, 1) := by decide +kernel
theorem dX11_fashion_5 : decode cX11_fashion 5 = .ok (.aload_n 0, 1) := by decide +kernel
theorem dX11_fashion_6 : decode cX11_fashion 6 = .ok (.invokevirtual 377, 3) := by decide +kernel
theorem dX11_fashion_9 : decode cX11_fashion 9 = .ok (.if_icmp .ge 28, 3) := by decide +kernel
theorem dX11_fashion_12 : decode cX11_fashion 12 = .ok (.iload_n 1, 1) := by decide +kernel
theorem dX11_fashion_13 : decode cX11_fashion 13 = .ok (.ifCond .lt 16, 3) := by decide +kernel
theorem dX11_fashion_16 : decode cX11_fashion 16 = .ok (.aload_n 0, 1) := by decide +kernel
theorem dX11_fashion_17 : decode cX11_fashion 17 = .ok (.iload_n 2, 1) := by decide +kernel
theorem dX11_fashion_18 : decode cX11_fashion 18 = .ok (.invokevirtual 433, 3) := by decide +kernel
theorem dX11_fashion_21 : decode cX11_fashion 21 = .ok (.aload_n 0, 1) := by decide +kernel
theorem dX11_fashion_22 : decode cX11_fashion 22 = .ok (.iload_n 1, 1) := by decide +kernel
theorem dX11_fashion_23 : decode cX11_fashion 23 = .ok (.invokevirtual 433, 3) := by decide +kernel
theorem dX11_fashion_26 : decode cX11_fashion 26 = .ok (.if_icmp .le 5, 3) := by decide +kernel
theorem dX11_fashion_29 : decode cX11_fashion 29 = .ok (.iload_n 2, 1) := by decide +kernel
theorem dX11_fashion_30 : decode cX11_fashion 30 = .ok (.istore_n 1, 1) := by decide +kernel
theorem dX11_fashion_31 : decode cX11_fashion 31 = .ok (.iinc 2 1, 3) := by decide +kernel
theorem dX11_fashion_34 : decode cX11_fashion 34 = .ok (.goto (-30), 3) := by decide +kernel
theorem dX11_fashion_37 : decode cX11_fashion 37 = .ok (.iload_n 1, 1) := by decide +kernel
theorem dX11_fashion_38 : decode cX11_fashion 38 = .ok (.ireturn, 1) := by decide +kernel
theorem wd_1808 : (Cond.code ⟨"WebCourtModel", "fashion", "()I"⟩ prog_13_method_72_code (3 : Nat) (Option.some FieldType.int)) ∈ gtb := gtb_c8 19 (by decide +kernel) rfl
theorem wd_1809 : (Cond.methodLink "WebCourtModel" (433 : Nat) ⟨"WebCourtModel", "haveIt", "(I)I"⟩) ∈ gtb := gtb_c8 20 (by decide +kernel) rfl
theorem wd_1811 : (Cond.instanceMethod ⟨"WebCourtModel", "haveIt", "(I)I"⟩) ∈ gtb := gtb_c8 22 (by decide +kernel) rfl
theorem wd_92 : (Cond.selects "WebCourtModel" ⟨"WebCourtModel", "haveIt", "(I)I"⟩ ⟨"WebCourtModel", "haveIt", "(I)I"⟩) ∈ gtb := gtb_p 92 (by decide +kernel) rfl
theorem hd_yX11_haveIt : yX11_haveIt.cls = RX11 ∧ yX11_haveIt.cls ≠ "java/lang/invoke/MethodHandle" ∧ yX11_haveIt.cls ≠ "java/lang/invoke/VarHandle" ∧ (parseMethodDescriptor yX11_haveIt.desc).map (fun d => d.parameters.length) = some 1 := by decide +kernel
set_option maxHeartbeats 4000000 in
set_option maxRecDepth 100000 in
theorem T_X11_fashion (l : Launch) (D : va_G) (cy : Nat → ClassId) (a : Nat → Nat) (u : St) (hJ : MI a u)   : Mi l D cy (mW cy a) yX11_fashion (.code yX11_fashion cX11_fashion 3 (some .int)) (rmo 4 87) [.ref (a 0)] u (fun (r : Int32) (u' : St) => u' = u) := by
  refine Mi.of (own := RX11) rfl (by decide) (Nat.le_of_ble_eq_true rfl) ?_
  have hT : Km0 u u := Km0.rf
  have hJ0 := hJ
  intro p e s m below meth c A Q ls C hret hO hl
  obtain ⟨hx, hb, hml, hown, ht, hK, hA⟩ := id C
  have hl : lv_has ls 3 [(0, .ref (a 0))] := hl
  refine lv_iconst (v := (-1)) hx hb dX11_fashion_0 (by decide) ?_
  refine lv_istore_n (lv' := [(1, .int (-1)), (0, .ref (a 0))]) hx hb dX11_fashion_1 rfl hl (by decide) rfl (fun ls hl => ?_)
  refine lv_iconst (v := 0) hx hb dX11_fashion_2 (by decide) ?_
  refine lv_istore_n (lv' := [(2, .int 0), (1, .int (-1)), (0, .ref (a 0))]) hx hb dX11_fashion_3 rfl hl (by decide) rfl (fun ls hl => ?_)
  have LP_4_k1 : ∀ (n : Nat) (H : Heap) (locs : List Loc) (ls : Array Slot) (i_k1 : Int32) (w1_k1 : Int32), Wo D A (mW cy a u) s.heap H locs → lv_has ls 3 [(2, .int i_k1), (1, .int w1_k1), (0, .ref (a 0))] → 0 ≤ i_k1.toInt ∧ i_k1.toInt ≤ 8 → (-1) ≤ w1_k1.toInt ∧ w1_k1.toInt ≤ 7 → 8 - i_k1.toInt < (n : Int) → W p l e (rmo 4 87) s m [.ref (a 0)].toArray below meth c H locs 0 0 Q (F0 m 4 ls []) := by
    intro n
    induction n with
    | zero =>
      intro H locs ls i_k1 w1_k1 hO hl iv0_k1 iv1_k1 hm_k1
      exact absurd hm_k1 (by omega)
    | succ n ih_k1 =>
      intro H locs ls i_k1 w1_k1 hO hl iv0_k1 iv1_k1 hm_k1
      refine lv_iload_n hx hb dX11_fashion_4 rfl (lv_at hl 0 rfl) ?_
      refine lv_aload_n hx hb dX11_fashion_5 rfl (lv_at hl 2 rfl) ?_
      have g2 : 0 ≤ (fI u 0 36).toInt ∧ (fI u 0 36).toInt ≤ 1 := by have h := MI_36 hJ0; exact h
      have g3 : 0 ≤ (fA u 5 ((fI u 0 36)).toNatClampNeg).toInt ∧ (fA u 5 ((fI u 0 36)).toNatClampNeg).toInt ≤ 8 := by have h := MI_A5 hJ0 ((fI u 0 36)).toNatClampNeg; exact h
      refine cVi (w := mW cy a) (As := []) (rest := [.int i_k1]) C hO (T_X11_pleads l D cy a _ (by exact hJ) ((fA u 5 ((fI u 0 36)).toNatClampNeg)) (by exact rfl)) (cwV 0 ht (gV wd_1745 wd_1747 wd_82 wd_121 wd_1748) rfl rfl rfl hd_yX11_pleads ⟨Nat.le_of_ble_eq_true rfl, Nat.le_of_ble_eq_true rfl⟩) 0 rfl mW_0 rfl rfl hl.1 (Nat.le_of_ble_eq_true rfl) dX11_fashion_6 rfl ⟨Nat.zero_le _, Nat.zero_le _⟩ (fun r4 u5 H locs hp6 hO => ?_)
      obtain ⟨hr4, hu5⟩ := hp6
      refine tE hr4 ?_
      rw [hu5] at hO
      refine cs_ge (tgt := 37) (X := (i_k1).toInt) (Y := ((fA u 5 ((fI u 0 36)).toNatClampNeg)).toInt) hx hb dX11_fashion_9 (by decide) rfl rfl (fun c7 => ?_) (fun c7 => ?_)
      · refine lv_iload_n hx hb dX11_fashion_37 rfl (lv_at hl 1 rfl) ?_
        refine hret _ _ _ _ _ _ dX11_fashion_38 rfl ?_ hO
        exact rfl
      · refine lv_iload_n hx hb dX11_fashion_12 rfl (lv_at hl 1 rfl) ?_
        refine bs_lt (tgt := 29) (X := (w1_k1).toInt) hx hb dX11_fashion_13 (by decide) rfl (fun c8 => ?_) (fun c8 => ?_)
        · refine lv_iload_n hx hb dX11_fashion_29 rfl (lv_at hl 0 rfl) ?_
          refine lv_istore_n (lv' := [(1, .int i_k1), (2, .int i_k1), (0, .ref (a 0))]) hx hb dX11_fashion_30 rfl hl (by decide) rfl (fun ls hl => ?_)
          obtain ⟨z9, ez9⟩ : ∃ z : Int32, z = i_k1 + Int32.ofInt 1 := ⟨_, rfl⟩
          have e10 : z9.toInt = (i_k1).toInt + 1 := by rw [ez9]; exact i_add rfl rfl (by omega)
          refine lv_iinc (v := z9) (lv' := [(2, .int z9), (1, .int i_k1), (0, .ref (a 0))]) hx hb dX11_fashion_31 hl (k := 1) rfl ez9.symm (by decide) rfl (fun ls hl => ?_)
          refine lv_goto (tgt := 4) hx hb dX11_fashion_34 (by decide) ?_
          exact ih_k1 _ _ _ (z9) (i_k1) hO (lv_sub hl [0, 1, 2] rfl) (by first | decide | omega) (by first | decide | omega) (by first | decide | omega)
        · refine lv_aload_n hx hb dX11_fashion_16 rfl (lv_at hl 2 rfl) ?_
          refine lv_iload_n hx hb dX11_fashion_17 rfl (lv_at hl 0 rfl) ?_
          refine cVi (w := mW cy a) (As := [.int i_k1]) (rest := []) C hO (T_X11_haveIt l D cy a _ (by exact hJ) (i_k1)) (cwV 1 ht (gV wd_1809 wd_1811 wd_92 wd_121 wd_1812) rfl rfl rfl hd_yX11_haveIt ⟨Nat.le_of_ble_eq_true rfl, Nat.le_of_ble_eq_true rfl⟩) 0 rfl mW_0 rfl rfl hl.1 (Nat.le_of_ble_eq_true rfl) dX11_fashion_18 rfl ⟨Nat.zero_le _, Nat.zero_le _⟩ (fun r11 u12 H locs hp13 hO => ?_)
          have hu12 := hp13
          rw [hu12] at hO
          refine lv_aload_n hx hb dX11_fashion_21 rfl (lv_at hl 2 rfl) ?_
          refine lv_iload_n hx hb dX11_fashion_22 rfl (lv_at hl 1 rfl) ?_
          refine cVi (w := mW cy a) (As := [.int w1_k1]) (rest := [.int r11]) C hO (T_X11_haveIt l D cy a _ (by exact hJ) (w1_k1)) (cwV 1 ht (gV wd_1809 wd_1811 wd_92 wd_121 wd_1812) rfl rfl rfl hd_yX11_haveIt ⟨Nat.le_of_ble_eq_true rfl, Nat.le_of_ble_eq_true rfl⟩) 0 rfl mW_0 rfl rfl hl.1 (Nat.le_of_ble_eq_true rfl) dX11_fashion_23 rfl ⟨Nat.zero_le _, Nat.zero_le _⟩ (fun r14 u15 H locs hp16 hO => ?_)
          have hu15 := hp16
          rw [hu15] at hO
          refine cs_le (tgt := 31) (X := (r11).toInt) (Y := (r14).toInt) hx hb dX11_fashion_26 (by decide) rfl rfl (fun c17 => ?_) (fun c17 => ?_)
          · obtain ⟨z18, ez18⟩ : ∃ z : Int32, z = i_k1 + Int32.ofInt 1 := ⟨_, rfl⟩
            have e19 : z18.toInt = (i_k1).toInt + 1 := by rw [ez18]; exact i_add rfl rfl (by omega)
            refine lv_iinc (v := z18) (lv' := [(2, .int z18), (1, .int w1_k1), (0, .ref (a 0))]) hx hb dX11_fashion_31 hl (k := 0) rfl ez18.symm (by decide) rfl (fun ls hl => ?_)
            refine lv_goto (tgt := 4) hx hb dX11_fashion_34 (by decide) ?_
            exact ih_k1 _ _ _ (z18) (w1_k1) hO (lv_sub hl [0, 1, 2] rfl) (by first | decide | omega) (by first | decide | omega) (by first | decide | omega)
          · refine lv_iload_n hx hb dX11_fashion_29 rfl (lv_at hl 0 rfl) ?_
            refine lv_istore_n (lv' := [(1, .int i_k1), (2, .int i_k1), (0, .ref (a 0))]) hx hb dX11_fashion_30 rfl hl (by decide) rfl (fun ls hl => ?_)
            obtain ⟨z20, ez20⟩ : ∃ z : Int32, z = i_k1 + Int32.ofInt 1 := ⟨_, rfl⟩
            have e21 : z20.toInt = (i_k1).toInt + 1 := by rw [ez20]; exact i_add rfl rfl (by omega)
            refine lv_iinc (v := z20) (lv' := [(2, .int z20), (1, .int i_k1), (0, .ref (a 0))]) hx hb dX11_fashion_31 hl (k := 1) rfl ez20.symm (by decide) rfl (fun ls hl => ?_)
            refine lv_goto (tgt := 4) hx hb dX11_fashion_34 (by decide) ?_
            exact ih_k1 _ _ _ (z20) (i_k1) hO (lv_sub hl [0, 1, 2] rfl) (by first | decide | omega) (by first | decide | omega) (by first | decide | omega)
  have zc22 : ((-1) : Int32).toInt = (-1) := rfl
  have zc23 : (0 : Int32).toInt = 0 := rfl
  exact LP_4_k1 4000 _ _ _ (0) ((-1)) hO (lv_sub hl [0, 1, 2] rfl) (by first | decide | omega) (by first | decide | omega) (by first | decide | omega)
theorem dX11_toldOf_0 : decode cX11_toldOf 0 = .ok (.iload_n 1, 1) := by decide +kernel
theorem dX11_toldOf_1 : decode cX11_toldOf 1 = .ok (.ifCond .ge 7, 3) := by decide +kernel
theorem dX11_toldOf_4 : decode cX11_toldOf 4 = .ok (.iconst (-1), 1) := by decide +kernel
theorem dX11_toldOf_5 : decode cX11_toldOf 5 = .ok (.goto 15, 3) := by decide +kernel
theorem dX11_toldOf_8 : decode cX11_toldOf 8 = .ok (.iload_n 2, 1) := by decide +kernel
theorem dX11_toldOf_9 : decode cX11_toldOf 9 = .ok (.ifCond .ne 10, 3) := by decide +kernel
theorem dX11_toldOf_12 : decode cX11_toldOf 12 = .ok (.iload_n 1, 1) := by decide +kernel
theorem dX11_toldOf_13 : decode cX11_toldOf 13 = .ok (.invokestatic 316, 3) := by decide +kernel
theorem dX11_toldOf_16 : decode cX11_toldOf 16 = .ok (.goto 4, 3) := by decide +kernel
theorem dX11_toldOf_19 : decode cX11_toldOf 19 = .ok (.iload_n 1, 1) := by decide +kernel
theorem dX11_toldOf_20 : decode cX11_toldOf 20 = .ok (.ireturn, 1) := by decide +kernel
theorem wd_1879 : (Cond.code ⟨"WebCourtModel", "toldOf", "(II)I"⟩ prog_13_method_85_code (3 : Nat) (Option.some FieldType.int)) ∈ gtb := gtb_c8 90 (by decide +kernel) rfl
set_option maxHeartbeats 4000000 in
set_option maxRecDepth 100000 in
theorem T_X11_toldOf (l : Launch) (D : va_G) (cy : Nat → ClassId) (a : Nat → Nat) (u : St) (hJ : MI a u) (x1 : Int32) (x2 : Int32)  : Mi l D cy (mW cy a) yX11_toldOf (.code yX11_toldOf cX11_toldOf 3 (some .int)) (rmo 1 22) [.ref (a 0), .int x1, .int x2] u (fun (r : Int32) (u' : St) => u' = u) := by
  refine Mi.of (own := RX11) rfl (by decide) (Nat.le_of_ble_eq_true rfl) ?_
  have hT : Km0 u u := Km0.rf
  have hJ0 := hJ
  intro p e s m below meth c A Q ls C hret hO hl
  obtain ⟨hx, hb, hml, hown, ht, hK, hA⟩ := id C
  have hl : lv_has ls 3 [(0, .ref (a 0)), (1, .int x1), (2, .int x2)] := hl
  refine lv_iload_n hx hb dX11_toldOf_0 rfl (lv_at hl 1 rfl) ?_
  refine bs_ge (tgt := 8) (X := (x1).toInt) hx hb dX11_toldOf_1 (by decide) rfl (fun c1 => ?_) (fun c1 => ?_)
  · refine lv_iload_n hx hb dX11_toldOf_8 rfl (lv_at hl 2 rfl) ?_
    refine bs_ne (tgt := 19) (X := (x2).toInt) hx hb dX11_toldOf_9 (by decide) rfl (fun c2 => ?_) (fun c2 => ?_)
    · refine lv_iload_n hx hb dX11_toldOf_19 rfl (lv_at hl 1 rfl) ?_
      refine hret _ _ _ _ _ _ dX11_toldOf_20 rfl ?_ hO
      exact rfl
    · refine lv_iload_n hx hb dX11_toldOf_12 rfl (lv_at hl 1 rfl) ?_
      refine cSi (w := mW cy a) (As := [.int x1]) (rest := []) C hO (T_X11_bitsOf l D cy a _ (by exact hJ) (x1)) (va_cwS 1 ht (gSS wd_1663 wd_1664 wd_121 wd_1665) rfl rfl rfl hd_yX11_bitsOf ⟨Nat.le_of_ble_eq_true rfl, Nat.le_of_ble_eq_true rfl⟩)  rfl hl.1 (Nat.le_of_ble_eq_true rfl) dX11_toldOf_13 rfl ⟨Nat.zero_le _, Nat.zero_le _⟩ (fun r3 u4 H locs hp5 hO => ?_)
      have hu4 := hp5
      rw [hu4] at hO
      refine lv_goto (tgt := 20) hx hb dX11_toldOf_16 (by decide) ?_
      refine hret _ _ _ _ _ _ dX11_toldOf_20 rfl ?_ hO
      exact rfl
  · refine lv_iconst (v := (-1)) hx hb dX11_toldOf_4 (by decide) ?_
    refine lv_goto (tgt := 20) hx hb dX11_toldOf_5 (by decide) ?_
    refine hret _ _ _ _ _ _ dX11_toldOf_20 rfl ?_ hO
    exact rfl
theorem dX11_allPleas_0 : decode cX11_allPleas 0 = .ok (.iconst 1, 1) := by decide +kernel
theorem dX11_allPleas_1 : decode cX11_allPleas 1 = .ok (.aload_n 0, 1) := by decide +kernel
theorem dX11_allPleas_2 : decode cX11_allPleas 2 = .ok (.invokevirtual 377, 3) := by decide +kernel
theorem dX11_allPleas_5 : decode cX11_allPleas 5 = .ok (.ishl, 1) := by decide +kernel
theorem dX11_allPleas_6 : decode cX11_allPleas 6 = .ok (.iconst 1, 1) := by decide +kernel
theorem dX11_allPleas_7 : decode cX11_allPleas 7 = .ok (.isub, 1) := by decide +kernel
theorem dX11_allPleas_8 : decode cX11_allPleas 8 = .ok (.ireturn, 1) := by decide +kernel
theorem wd_1871 : (Cond.code ⟨"WebCourtModel", "allPleas", "()I"⟩ prog_13_method_86_code (1 : Nat) (Option.some FieldType.int)) ∈ gtb := gtb_c8 82 (by decide +kernel) rfl
set_option maxHeartbeats 4000000 in
set_option maxRecDepth 100000 in
theorem T_X11_allPleas (l : Launch) (D : va_G) (cy : Nat → ClassId) (a : Nat → Nat) (u : St) (hJ : MI a u)   : Mi l D cy (mW cy a) yX11_allPleas (.code yX11_allPleas cX11_allPleas 1 (some .int)) (rmo 1 20) [.ref (a 0)] u (fun (r : Int32) (u' : St) => ((-1) ≤ r.toInt ∧ r.toInt ≤ 255) ∧ (u' = u)) := by
  refine Mi.of (own := RX11) rfl (by decide) (Nat.le_of_ble_eq_true rfl) ?_
  have hT : Km0 u u := Km0.rf
  have hJ0 := hJ
  intro p e s m below meth c A Q ls C hret hO hl
  obtain ⟨hx, hb, hml, hown, ht, hK, hA⟩ := id C
  have hl : lv_has ls 1 [(0, .ref (a 0))] := hl
  refine lv_iconst (v := 1) hx hb dX11_allPleas_0 (by decide) ?_
  refine lv_aload_n hx hb dX11_allPleas_1 rfl (lv_at hl 0 rfl) ?_
  have g1 : 0 ≤ (fI u 0 36).toInt ∧ (fI u 0 36).toInt ≤ 1 := by have h := MI_36 hJ0; exact h
  have g2 : 0 ≤ (fA u 5 ((fI u 0 36)).toNatClampNeg).toInt ∧ (fA u 5 ((fI u 0 36)).toNatClampNeg).toInt ≤ 8 := by have h := MI_A5 hJ0 ((fI u 0 36)).toNatClampNeg; exact h
  refine cVi (w := mW cy a) (As := []) (rest := [.int 1]) C hO (T_X11_pleads l D cy a _ (by exact hJ) ((fA u 5 ((fI u 0 36)).toNatClampNeg)) (by exact rfl)) (cwV 0 ht (gV wd_1745 wd_1747 wd_82 wd_121 wd_1748) rfl rfl rfl hd_yX11_pleads ⟨Nat.le_of_ble_eq_true rfl, Nat.le_of_ble_eq_true rfl⟩) 0 rfl mW_0 rfl rfl hl.1 (Nat.le_of_ble_eq_true rfl) dX11_allPleas_2 rfl ⟨Nat.zero_le _, Nat.zero_le _⟩ (fun r3 u4 H locs hp5 hO => ?_)
  obtain ⟨hr3, hu4⟩ := hp5
  refine tE hr3 ?_
  rw [hu4] at hO
  refine lv_ishl hx hb dX11_allPleas_5 ?_
  refine lv_topi (fun z6 ez6 => ?_)
  have g7 : 0 ≤ z6.toInt ∧ z6.toInt ≤ 2 ^ 8 := by rw [ez6]; exact i_shl1 rfl (by omega) (by omega) (by decide)
  refine lv_iconst (v := 1) hx hb dX11_allPleas_6 (by decide) ?_
  refine lv_isub hx hb dX11_allPleas_7 ?_
  refine lv_topi (fun z8 ez8 => ?_)
  have e9 : z8.toInt = (z6).toInt - 1 := by rw [ez8]; exact i_sub rfl rfl (by omega)
  refine hret _ _ _ _ _ _ dX11_allPleas_8 rfl ?_ hO
  exact ⟨(by first | decide | omega), rfl⟩
theorem dX11_fewestOf_0 : decode cX11_fewestOf 0 = .ok (.iconst (-1), 1) := by decide +kernel
theorem dX11_fewestOf_1 : decode cX11_fewestOf 1 = .ok (.istore_n 3, 1) := by decide +kernel
theorem dX11_fewestOf_2 : decode cX11_fewestOf 2 = .ok (.iconst 1, 1) := by decide +kernel
theorem dX11_fewestOf_3 : decode cX11_fewestOf 3 = .ok (.istore 4, 2) := by decide +kernel
theorem dX11_fewestOf_5 : decode cX11_fewestOf 5 = .ok (.iload 4, 2) := by decide +kernel
theorem dX11_fewestOf_7 : decode cX11_fewestOf 7 = .ok (.iload_n 2, 1) := by decide +kernel
theorem dX11_fewestOf_8 : decode cX11_fewestOf 8 = .ok (.if_icmp .gt 59, 3) := by decide +kernel
theorem dX11_fewestOf_11 : decode cX11_fewestOf 11 = .ok (.iload 4, 2) := by decide +kernel
theorem dX11_fewestOf_13 : decode cX11_fewestOf 13 = .ok (.iload_n 2, 1) := by decide +kernel
theorem dX11_fewestOf_14 : decode cX11_fewestOf 14 = .ok (.iconst (-1), 1) := by decide +kernel
theorem dX11_fewestOf_15 : decode cX11_fewestOf 15 = .ok (.ixor, 1) := by decide +kernel
theorem dX11_fewestOf_16 : decode cX11_fewestOf 16 = .ok (.iand, 1) := by decide +kernel
theorem dX11_fewestOf_17 : decode cX11_fewestOf 17 = .ok (.ifCond .ne 44, 3) := by decide +kernel
theorem dX11_fewestOf_20 : decode cX11_fewestOf 20 = .ok (.iload 4, 2) := by decide +kernel
theorem dX11_fewestOf_22 : decode cX11_fewestOf 22 = .ok (.invokestatic 316, 3) := by decide +kernel
theorem dX11_fewestOf_25 : decode cX11_fewestOf 25 = .ok (.iconst 4, 1) := by decide +kernel
theorem dX11_fewestOf_26 : decode cX11_fewestOf 26 = .ok (.if_icmp .gt 35, 3) := by decide +kernel
theorem dX11_fewestOf_29 : decode cX11_fewestOf 29 = .ok (.iload_n 3, 1) := by decide +kernel
theorem dX11_fewestOf_30 : decode cX11_fewestOf 30 = .ok (.ifCond .lt 18, 3) := by decide +kernel
theorem dX11_fewestOf_33 : decode cX11_fewestOf 33 = .ok (.iload 4, 2) := by decide +kernel
theorem dX11_fewestOf_35 : decode cX11_fewestOf 35 = .ok (.invokestatic 316, 3) := by decide +kernel
theorem dX11_fewestOf_38 : decode cX11_fewestOf 38 = .ok (.iload_n 3, 1) := by decide +kernel
theorem dX11_fewestOf_39 : decode cX11_fewestOf 39 = .ok (.invokestatic 316, 3) := by decide +kernel
theorem dX11_fewestOf_42 : decode cX11_fewestOf 42 = .ok (.if_icmp .lt 6, 3) := by decide +kernel
theorem dX11_fewestOf_45 : decode cX11_fewestOf 45 = .ok (.goto 16, 3) := by decide +kernel
theorem dX11_fewestOf_48 : decode cX11_fewestOf 48 = .ok (.aload_n 0, 1) := by decide +kernel
theorem dX11_fewestOf_49 : decode cX11_fewestOf 49 = .ok (.iload_n 1, 1) := by decide +kernel
theorem dX11_fewestOf_50 : decode cX11_fewestOf 50 = .ok (.iload 4, 2) := by decide +kernel
theorem dX11_fewestOf_52 : decode cX11_fewestOf 52 = .ok (.invokevirtual 410, 3) := by decide +kernel
theorem dX11_fewestOf_55 : decode cX11_fewestOf 55 = .ok (.ifCond .le 6, 3) := by decide +kernel
theorem dX11_fewestOf_58 : decode cX11_fewestOf 58 = .ok (.iload 4, 2) := by decide +kernel
theorem dX11_fewestOf_60 : decode cX11_fewestOf 60 = .ok (.istore_n 3, 1) := by decide +kernel
theorem dX11_fewestOf_61 : decode cX11_fewestOf 61 = .ok (.iinc 4 1, 3) := by decide +kernel
theorem dX11_fewestOf_64 : decode cX11_fewestOf 64 = .ok (.goto (-59), 3) := by decide +kernel
theorem dX11_fewestOf_67 : decode cX11_fewestOf 67 = .ok (.iload_n 3, 1) := by decide +kernel
theorem dX11_fewestOf_68 : decode cX11_fewestOf 68 = .ok (.ireturn, 1) := by decide +kernel
theorem wd_1875 : (Cond.code ⟨"WebCourtModel", "fewestOf", "(II)I"⟩ prog_13_method_84_code (5 : Nat) (Option.some FieldType.int)) ∈ gtb := gtb_c8 86 (by decide +kernel) rfl
set_option maxHeartbeats 4000000 in
set_option maxRecDepth 100000 in
theorem T_X11_fewestOf (l : Launch) (D : va_G) (cy : Nat → ClassId) (a : Nat → Nat) (u : St) (hJ : MI a u) (x1 : Int32) (x2 : Int32) (hx_x1 : 0 ≤ x1.toInt ∧ x1.toInt ≤ 5) (hx_x2 : -1 ≤ x2.toInt ∧ x2.toInt ≤ 255) : Mi l D cy (mW cy a) yX11_fewestOf (.code yX11_fewestOf cX11_fewestOf 5 (some .int)) (rmo 6 132) [.ref (a 0), .int x1, .int x2] u (fun (r : Int32) (u' : St) => ((-1) ≤ r.toInt ∧ r.toInt ≤ 255) ∧ (MI a u') ∧ (Km2 u u')) := by
  refine Mi.of (own := RX11) rfl (by decide) (Nat.le_of_ble_eq_true rfl) ?_
  have hT : Km2 u u := Km2.rf
  have hJ0 := hJ
  intro p e s m below meth c A Q ls C hret hO hl
  obtain ⟨hx, hb, hml, hown, ht, hK, hA⟩ := id C
  have hl : lv_has ls 5 [(0, .ref (a 0)), (1, .int x1), (2, .int x2)] := hl
  refine lv_iconst (v := (-1)) hx hb dX11_fewestOf_0 (by decide) ?_
  refine lv_istore_n (lv' := [(3, .int (-1)), (0, .ref (a 0)), (1, .int x1), (2, .int x2)]) hx hb dX11_fewestOf_1 rfl hl (by decide) rfl (fun ls hl => ?_)
  refine lv_iconst (v := 1) hx hb dX11_fewestOf_2 (by decide) ?_
  refine lv_istore (lv' := [(4, .int 1), (3, .int (-1)), (0, .ref (a 0)), (1, .int x1), (2, .int x2)]) hx hb dX11_fewestOf_3 hl (by decide) rfl (fun ls hl => ?_)
  have LP_5_k2 : ∀ (n : Nat) (u1 : St) (H : Heap) (locs : List Loc) (ls : Array Slot) (i_k2 : Int32) (w3_k2 : Int32), Wo D A (mW cy a u1) s.heap H locs → lv_has ls 5 [(4, .int i_k2), (3, .int w3_k2), (0, .ref (a 0)), (1, .int x1), (2, .int x2)] → MI a u1 → Km2 u u1 → 1 ≤ i_k2.toInt ∧ i_k2.toInt ≤ 256 → (-1) ≤ w3_k2.toInt ∧ w3_k2.toInt ≤ 255 → 256 - i_k2.toInt < (n : Int) → W p l e (rmo 6 132) s m [.ref (a 0), .int x1, .int x2].toArray below meth c H locs 0 0 Q (F0 m 5 ls []) := by
    intro n
    induction n with
    | zero =>
      intro u1 H locs ls i_k2 w3_k2 hO hl hJ hT iv0_k2 iv1_k2 hm_k2
      exact absurd hm_k2 (by omega)
    | succ n ih_k2 =>
      intro u1 H locs ls i_k2 w3_k2 hO hl hJ hT iv0_k2 iv1_k2 hm_k2
      refine lv_iload hx hb dX11_fewestOf_5 (lv_at hl 0 rfl) ?_
      refine lv_iload_n hx hb dX11_fewestOf_7 rfl (lv_at hl 4 rfl) ?_
      refine cs_gt (tgt := 67) (X := (i_k2).toInt) (Y := (x2).toInt) hx hb dX11_fewestOf_8 (by decide) rfl rfl (fun c3 => ?_) (fun c3 => ?_)
      · refine lv_iload_n hx hb dX11_fewestOf_67 rfl (lv_at hl 1 rfl) ?_
        refine hret _ _ _ _ _ _ dX11_fewestOf_68 rfl ?_ hO
        exact ⟨(by first | decide | omega), hJ, hT⟩
      · refine lv_iload hx hb dX11_fewestOf_11 (lv_at hl 0 rfl) ?_
        refine lv_iload_n hx hb dX11_fewestOf_13 rfl (lv_at hl 4 rfl) ?_
        refine lv_iconst (v := (-1)) hx hb dX11_fewestOf_14 (by decide) ?_
        refine lv_ixor hx hb dX11_fewestOf_15 ?_
        refine lv_topi (fun z4 ez4 => ?_)
        refine lv_iand hx hb dX11_fewestOf_16 ?_
        refine lv_topi (fun z5 ez5 => ?_)
        have g6 : 0 ≤ z5.toInt ∧ z5.toInt ≤ (i_k2).toInt := by rw [ez5]; exact i_andl rfl (by omega)
        refine bs_ne (tgt := 61) (X := (z5).toInt) hx hb dX11_fewestOf_17 (by decide) rfl (fun c7 => ?_) (fun c7 => ?_)
        · obtain ⟨z8, ez8⟩ : ∃ z : Int32, z = i_k2 + Int32.ofInt 1 := ⟨_, rfl⟩
          have e9 : z8.toInt = (i_k2).toInt + 1 := by rw [ez8]; exact i_add rfl rfl (by omega)
          refine lv_iinc (v := z8) (lv' := [(4, .int z8), (3, .int w3_k2), (0, .ref (a 0)), (1, .int x1), (2, .int x2)]) hx hb dX11_fewestOf_61 hl (k := 0) rfl ez8.symm (by decide) rfl (fun ls hl => ?_)
          refine lv_goto (tgt := 5) hx hb dX11_fewestOf_64 (by decide) ?_
          exact ih_k2 _ _ _ _ (z8) (w3_k2) hO (lv_sub hl [0, 1, 2, 3, 4] rfl) (by exact hJ) (by exact hT) (by first | decide | omega) (by first | decide | omega) (by first | decide | omega)
        · refine lv_iload hx hb dX11_fewestOf_20 (lv_at hl 0 rfl) ?_
          refine cSi (w := mW cy a) (As := [.int i_k2]) (rest := []) C hO (T_X11_bitsOf_8 l D cy a _ (by exact hJ) (i_k2) (by first | omega | decide)) (va_cwS 1 ht (gSS wd_1663 wd_1664 wd_121 wd_1665) rfl rfl rfl hd_yX11_bitsOf ⟨Nat.le_of_ble_eq_true rfl, Nat.le_of_ble_eq_true rfl⟩)  rfl hl.1 (Nat.le_of_ble_eq_true rfl) dX11_fewestOf_22 rfl ⟨Nat.zero_le _, Nat.zero_le _⟩ (fun r10 u11 H locs hp12 hO => ?_)
          obtain ⟨hr10, hu11⟩ := hp12
          rw [hu11] at hO
          have gpr10 := pc8_b (x := (i_k2 : Int32).toInt) (by omega) (by omega)
          have gr10 : 0 ≤ r10.toInt ∧ r10.toInt ≤ 8 := by omega
          refine lv_iconst (v := 4) hx hb dX11_fewestOf_25 (by decide) ?_
          refine cs_gt (tgt := 61) (X := (r10).toInt) (Y := 4) hx hb dX11_fewestOf_26 (by decide) rfl rfl (fun c13 => ?_) (fun c13 => ?_)
          · obtain ⟨z14, ez14⟩ : ∃ z : Int32, z = i_k2 + Int32.ofInt 1 := ⟨_, rfl⟩
            have e15 : z14.toInt = (i_k2).toInt + 1 := by rw [ez14]; exact i_add rfl rfl (by omega)
            refine lv_iinc (v := z14) (lv' := [(4, .int z14), (3, .int w3_k2), (0, .ref (a 0)), (1, .int x1), (2, .int x2)]) hx hb dX11_fewestOf_61 hl (k := 0) rfl ez14.symm (by decide) rfl (fun ls hl => ?_)
            refine lv_goto (tgt := 5) hx hb dX11_fewestOf_64 (by decide) ?_
            exact ih_k2 _ _ _ _ (z14) (w3_k2) hO (lv_sub hl [0, 1, 2, 3, 4] rfl) (by exact hJ) (by exact hT) (by first | decide | omega) (by first | decide | omega) (by first | decide | omega)
          · refine lv_iload_n hx hb dX11_fewestOf_29 rfl (lv_at hl 1 rfl) ?_
            refine bs_lt (tgt := 48) (X := (w3_k2).toInt) hx hb dX11_fewestOf_30 (by decide) rfl (fun c16 => ?_) (fun c16 => ?_)
            · refine lv_aload_n hx hb dX11_fewestOf_48 rfl (lv_at hl 2 rfl) ?_
              refine lv_iload_n hx hb dX11_fewestOf_49 rfl (lv_at hl 3 rfl) ?_
              refine lv_iload hx hb dX11_fewestOf_50 (lv_at hl 0 rfl) ?_
              refine cVi (w := mW cy a) (As := [.int x1, .int i_k2]) (rest := []) C hO (T_X11_verdictBy l D cy a _ (by exact hJ) (x1) (i_k2) (by first | omega | decide)) (cwV 2 ht (gV wd_1765 wd_1767 wd_85 wd_121 wd_1768) rfl rfl rfl hd_yX11_verdictBy ⟨Nat.le_of_ble_eq_true rfl, Nat.le_of_ble_eq_true rfl⟩) 0 rfl mW_0 rfl rfl hl.1 (Nat.le_of_ble_eq_true rfl) dX11_fewestOf_52 rfl ⟨Nat.zero_le _, Nat.zero_le _⟩ (fun r17 u18 H locs hp19 hO => ?_)
              obtain ⟨hJ, hTu18⟩ := hp19
              have hT : Km2 u u18 := Km2.tr (by exact hT) hTu18
              refine bs_le (tgt := 61) (X := (r17).toInt) hx hb dX11_fewestOf_55 (by decide) rfl (fun c20 => ?_) (fun c20 => ?_)
              · obtain ⟨z21, ez21⟩ : ∃ z : Int32, z = i_k2 + Int32.ofInt 1 := ⟨_, rfl⟩
                have e22 : z21.toInt = (i_k2).toInt + 1 := by rw [ez21]; exact i_add rfl rfl (by omega)
                refine lv_iinc (v := z21) (lv' := [(4, .int z21), (3, .int w3_k2), (0, .ref (a 0)), (1, .int x1), (2, .int x2)]) hx hb dX11_fewestOf_61 hl (k := 0) rfl ez21.symm (by decide) rfl (fun ls hl => ?_)
                refine lv_goto (tgt := 5) hx hb dX11_fewestOf_64 (by decide) ?_
                exact ih_k2 _ _ _ _ (z21) (w3_k2) hO (lv_sub hl [0, 1, 2, 3, 4] rfl) (by exact hJ) (by exact hT) (by first | decide | omega) (by first | decide | omega) (by first | decide | omega)
              · refine lv_iload hx hb dX11_fewestOf_58 (lv_at hl 0 rfl) ?_
                refine lv_istore_n (lv' := [(3, .int i_k2), (4, .int i_k2), (0, .ref (a 0)), (1, .int x1), (2, .int x2)]) hx hb dX11_fewestOf_60 rfl hl (by decide) rfl (fun ls hl => ?_)
                obtain ⟨z23, ez23⟩ : ∃ z : Int32, z = i_k2 + Int32.ofInt 1 := ⟨_, rfl⟩
                have e24 : z23.toInt = (i_k2).toInt + 1 := by rw [ez23]; exact i_add rfl rfl (by omega)
                refine lv_iinc (v := z23) (lv' := [(4, .int z23), (3, .int i_k2), (0, .ref (a 0)), (1, .int x1), (2, .int x2)]) hx hb dX11_fewestOf_61 hl (k := 1) rfl ez23.symm (by decide) rfl (fun ls hl => ?_)
                refine lv_goto (tgt := 5) hx hb dX11_fewestOf_64 (by decide) ?_
                exact ih_k2 _ _ _ _ (z23) (i_k2) hO (lv_sub hl [0, 1, 2, 3, 4] rfl) (by exact hJ) (by exact hT) (by first | decide | omega) (by first | decide | omega) (by first | decide | omega)
            · refine lv_iload hx hb dX11_fewestOf_33 (lv_at hl 0 rfl) ?_
              refine cSi (w := mW cy a) (As := [.int i_k2]) (rest := []) C hO (T_X11_bitsOf_8 l D cy a _ (by exact hJ) (i_k2) (by first | omega | decide)) (va_cwS 1 ht (gSS wd_1663 wd_1664 wd_121 wd_1665) rfl rfl rfl hd_yX11_bitsOf ⟨Nat.le_of_ble_eq_true rfl, Nat.le_of_ble_eq_true rfl⟩)  rfl hl.1 (Nat.le_of_ble_eq_true rfl) dX11_fewestOf_35 rfl ⟨Nat.zero_le _, Nat.zero_le _⟩ (fun r25 u26 H locs hp27 hO => ?_)
              obtain ⟨hr25, hu26⟩ := hp27
              rw [hu26] at hO
              have gpr25 := pc8_b (x := (i_k2 : Int32).toInt) (by omega) (by omega)
              have gr25 : 0 ≤ r25.toInt ∧ r25.toInt ≤ 8 := by omega
              refine lv_iload_n hx hb dX11_fewestOf_38 rfl (lv_at hl 1 rfl) ?_
              refine cSi (w := mW cy a) (As := [.int w3_k2]) (rest := [.int r25]) C hO (T_X11_bitsOf_8 l D cy a _ (by exact hJ) (w3_k2) (by first | omega | decide)) (va_cwS 1 ht (gSS wd_1663 wd_1664 wd_121 wd_1665) rfl rfl rfl hd_yX11_bitsOf ⟨Nat.le_of_ble_eq_true rfl, Nat.le_of_ble_eq_true rfl⟩)  rfl hl.1 (Nat.le_of_ble_eq_true rfl) dX11_fewestOf_39 rfl ⟨Nat.zero_le _, Nat.zero_le _⟩ (fun r28 u29 H locs hp30 hO => ?_)
              obtain ⟨hr28, hu29⟩ := hp30
              rw [hu29] at hO
              have gpr28 := pc8_b (x := (w3_k2 : Int32).toInt) (by omega) (by omega)
              have gr28 : 0 ≤ r28.toInt ∧ r28.toInt ≤ 8 := by omega
              refine cs_lt (tgt := 48) (X := (r25).toInt) (Y := (r28).toInt) hx hb dX11_fewestOf_42 (by decide) rfl rfl (fun c31 => ?_) (fun c31 => ?_)
              · refine lv_aload_n hx hb dX11_fewestOf_48 rfl (lv_at hl 2 rfl) ?_
                refine lv_iload_n hx hb dX11_fewestOf_49 rfl (lv_at hl 3 rfl) ?_
                refine lv_iload hx hb dX11_fewestOf_50 (lv_at hl 0 rfl) ?_
                refine cVi (w := mW cy a) (As := [.int x1, .int i_k2]) (rest := []) C hO (T_X11_verdictBy l D cy a _ (by exact hJ) (x1) (i_k2) (by first | omega | decide)) (cwV 2 ht (gV wd_1765 wd_1767 wd_85 wd_121 wd_1768) rfl rfl rfl hd_yX11_verdictBy ⟨Nat.le_of_ble_eq_true rfl, Nat.le_of_ble_eq_true rfl⟩) 0 rfl mW_0 rfl rfl hl.1 (Nat.le_of_ble_eq_true rfl) dX11_fewestOf_52 rfl ⟨Nat.zero_le _, Nat.zero_le _⟩ (fun r32 u33 H locs hp34 hO => ?_)
                obtain ⟨hJ, hTu33⟩ := hp34
                have hT : Km2 u u33 := Km2.tr (by exact hT) hTu33
                refine bs_le (tgt := 61) (X := (r32).toInt) hx hb dX11_fewestOf_55 (by decide) rfl (fun c35 => ?_) (fun c35 => ?_)
                · obtain ⟨z36, ez36⟩ : ∃ z : Int32, z = i_k2 + Int32.ofInt 1 := ⟨_, rfl⟩
                  have e37 : z36.toInt = (i_k2).toInt + 1 := by rw [ez36]; exact i_add rfl rfl (by omega)
                  refine lv_iinc (v := z36) (lv' := [(4, .int z36), (3, .int w3_k2), (0, .ref (a 0)), (1, .int x1), (2, .int x2)]) hx hb dX11_fewestOf_61 hl (k := 0) rfl ez36.symm (by decide) rfl (fun ls hl => ?_)
                  refine lv_goto (tgt := 5) hx hb dX11_fewestOf_64 (by decide) ?_
                  exact ih_k2 _ _ _ _ (z36) (w3_k2) hO (lv_sub hl [0, 1, 2, 3, 4] rfl) (by exact hJ) (by exact hT) (by first | decide | omega) (by first | decide | omega) (by first | decide | omega)
                · refine lv_iload hx hb dX11_fewestOf_58 (lv_at hl 0 rfl) ?_
                  refine lv_istore_n (lv' := [(3, .int i_k2), (4, .int i_k2), (0, .ref (a 0)), (1, .int x1), (2, .int x2)]) hx hb dX11_fewestOf_60 rfl hl (by decide) rfl (fun ls hl => ?_)
                  obtain ⟨z38, ez38⟩ : ∃ z : Int32, z = i_k2 + Int32.ofInt 1 := ⟨_, rfl⟩
                  have e39 : z38.toInt = (i_k2).toInt + 1 := by rw [ez38]; exact i_add rfl rfl (by omega)
                  refine lv_iinc (v := z38) (lv' := [(4, .int z38), (3, .int i_k2), (0, .ref (a 0)), (1, .int x1), (2, .int x2)]) hx hb dX11_fewestOf_61 hl (k := 1) rfl ez38.symm (by decide) rfl (fun ls hl => ?_)
                  refine lv_goto (tgt := 5) hx hb dX11_fewestOf_64 (by decide) ?_
                  exact ih_k2 _ _ _ _ (z38) (i_k2) hO (lv_sub hl [0, 1, 2, 3, 4] rfl) (by exact hJ) (by exact hT) (by first | decide | omega) (by first | decide | omega) (by first | decide | omega)
              · refine lv_goto (tgt := 61) hx hb dX11_fewestOf_45 (by decide) ?_
                obtain ⟨z40, ez40⟩ : ∃ z : Int32, z = i_k2 + Int32.ofInt 1 := ⟨_, rfl⟩
                have e41 : z40.toInt = (i_k2).toInt + 1 := by rw [ez40]; exact i_add rfl rfl (by omega)
                refine lv_iinc (v := z40) (lv' := [(4, .int z40), (3, .int w3_k2), (0, .ref (a 0)), (1, .int x1), (2, .int x2)]) hx hb dX11_fewestOf_61 hl (k := 0) rfl ez40.symm (by decide) rfl (fun ls hl => ?_)
                refine lv_goto (tgt := 5) hx hb dX11_fewestOf_64 (by decide) ?_
                exact ih_k2 _ _ _ _ (z40) (w3_k2) hO (lv_sub hl [0, 1, 2, 3, 4] rfl) (by exact hJ) (by exact hT) (by first | decide | omega) (by first | decide | omega) (by first | decide | omega)
  have zc42 : ((-1) : Int32).toInt = (-1) := rfl
  have zc43 : (1 : Int32).toInt = 1 := rfl
  exact LP_5_k2 4000 _ _ _ _ (1) ((-1)) hO (lv_sub hl [0, 1, 2, 3, 4] rfl) (by exact hJ) (by exact hT) (by first | decide | omega) (by first | decide | omega) (by first | decide | omega)
theorem dX11_shortest_0 : decode cX11_shortest 0 = .ok (.aload_n 0, 1) := by decide +kernel
theorem dX11_shortest_1 : decode cX11_shortest 1 = .ok (.iload_n 1, 1) := by decide +kernel
theorem dX11_shortest_2 : decode cX11_shortest 2 = .ok (.invokevirtual 413, 3) := by decide +kernel
theorem dX11_shortest_5 : decode cX11_shortest 5 = .ok (.ifCond .eq 29, 3) := by decide +kernel
theorem dX11_shortest_8 : decode cX11_shortest 8 = .ok (.iload_n 2, 1) := by decide +kernel
theorem dX11_shortest_9 : decode cX11_shortest 9 = .ok (.iconst 0, 1) := by decide +kernel
theorem dX11_shortest_10 : decode cX11_shortest 10 = .ok (.iconst 1, 1) := by decide +kernel
theorem dX11_shortest_11 : decode cX11_shortest 11 = .ok (.invokestatic 374, 3) := by decide +kernel
theorem dX11_shortest_14 : decode cX11_shortest 14 = .ok (.ifCond .eq 20, 3) := by decide +kernel
theorem dX11_shortest_17 : decode cX11_shortest 17 = .ok (.aload_n 0, 1) := by decide +kernel
theorem dX11_shortest_18 : decode cX11_shortest 18 = .ok (.aload_n 0, 1) := by decide +kernel
theorem dX11_shortest_19 : decode cX11_shortest 19 = .ok (.iload_n 1, 1) := by decide +kernel
theorem dX11_shortest_20 : decode cX11_shortest 20 = .ok (.aload_n 0, 1) := by decide +kernel
theorem dX11_shortest_21 : decode cX11_shortest 21 = .ok (.invokevirtual 448, 3) := by decide +kernel
theorem dX11_shortest_24 : decode cX11_shortest 24 = .ok (.invokevirtual 451, 3) := by decide +kernel
theorem dX11_shortest_27 : decode cX11_shortest 27 = .ok (.iload_n 2, 1) := by decide +kernel
theorem dX11_shortest_28 : decode cX11_shortest 28 = .ok (.invokevirtual 454, 3) := by decide +kernel
theorem dX11_shortest_31 : decode cX11_shortest 31 = .ok (.goto 4, 3) := by decide +kernel
theorem dX11_shortest_34 : decode cX11_shortest 34 = .ok (.iconst (-1), 1) := by decide +kernel
theorem dX11_shortest_35 : decode cX11_shortest 35 = .ok (.ireturn, 1) := by decide +kernel
theorem wd_1867 : (Cond.code ⟨"WebCourtModel", "shortest", "(II)I"⟩ prog_13_method_87_code (3 : Nat) (Option.some FieldType.int)) ∈ gtb := gtb_c8 78 (by decide +kernel) rfl
theorem wd_1868 : (Cond.methodLink "WebCourtModel" (448 : Nat) ⟨"WebCourtModel", "allPleas", "()I"⟩) ∈ gtb := gtb_c8 79 (by decide +kernel) rfl
theorem wd_1870 : (Cond.instanceMethod ⟨"WebCourtModel", "allPleas", "()I"⟩) ∈ gtb := gtb_c8 81 (by decide +kernel) rfl
theorem wd_96 : (Cond.selects "WebCourtModel" ⟨"WebCourtModel", "allPleas", "()I"⟩ ⟨"WebCourtModel", "allPleas", "()I"⟩) ∈ gtb := gtb_p 96 (by decide +kernel) rfl
theorem hd_yX11_allPleas : yX11_allPleas.cls = RX11 ∧ yX11_allPleas.cls ≠ "java/lang/invoke/MethodHandle" ∧ yX11_allPleas.cls ≠ "java/lang/invoke/VarHandle" ∧ (parseMethodDescriptor yX11_allPleas.desc).map (fun d => d.parameters.length) = some 0 := by decide +kernel
theorem wd_1872 : (Cond.methodLink "WebCourtModel" (451 : Nat) ⟨"WebCourtModel", "fewestOf", "(II)I"⟩) ∈ gtb := gtb_c8 83 (by decide +kernel) rfl
theorem wd_1874 : (Cond.instanceMethod ⟨"WebCourtModel", "fewestOf", "(II)I"⟩) ∈ gtb := gtb_c8 85 (by decide +kernel) rfl
theorem wd_97 : (Cond.selects "WebCourtModel" ⟨"WebCourtModel", "fewestOf", "(II)I"⟩ ⟨"WebCourtModel", "fewestOf", "(II)I"⟩) ∈ gtb := gtb_p 97 (by decide +kernel) rfl
theorem hd_yX11_fewestOf : yX11_fewestOf.cls = RX11 ∧ yX11_fewestOf.cls ≠ "java/lang/invoke/MethodHandle" ∧ yX11_fewestOf.cls ≠ "java/lang/invoke/VarHandle" ∧ (parseMethodDescriptor yX11_fewestOf.desc).map (fun d => d.parameters.length) = some 2 := by decide +kernel
theorem wd_1876 : (Cond.methodLink "WebCourtModel" (454 : Nat) ⟨"WebCourtModel", "toldOf", "(II)I"⟩) ∈ gtb := gtb_c8 87 (by decide +kernel) rfl
theorem wd_1878 : (Cond.instanceMethod ⟨"WebCourtModel", "toldOf", "(II)I"⟩) ∈ gtb := gtb_c8 89 (by decide +kernel) rfl
theorem wd_98 : (Cond.selects "WebCourtModel" ⟨"WebCourtModel", "toldOf", "(II)I"⟩ ⟨"WebCourtModel", "toldOf", "(II)I"⟩) ∈ gtb := gtb_p 98 (by decide +kernel) rfl
theorem hd_yX11_toldOf : yX11_toldOf.cls = RX11 ∧ yX11_toldOf.cls ≠ "java/lang/invoke/MethodHandle" ∧ yX11_toldOf.cls ≠ "java/lang/invoke/VarHandle" ∧ (parseMethodDescriptor yX11_toldOf.desc).map (fun d => d.parameters.length) = some 2 := by decide +kernel
set_option maxHeartbeats 4000000 in
set_option maxRecDepth 100000 in
theorem T_X11_shortest (l : Launch) (D : va_G) (cy : Nat → ClassId) (a : Nat → Nat) (u : St) (hJ : MI a u) (x1 : Int32) (x2 : Int32)  : Mi l D cy (mW cy a) yX11_shortest (.code yX11_shortest cX11_shortest 3 (some .int)) (rmo 7 156) [.ref (a 0), .int x1, .int x2] u (fun (r : Int32) (u' : St) => (MI a u') ∧ (Km2 u u')) := by
  refine Mi.of (own := RX11) rfl (by decide) (Nat.le_of_ble_eq_true rfl) ?_
  have hT : Km2 u u := Km2.rf
  have hJ0 := hJ
  intro p e s m below meth c A Q ls C hret hO hl
  obtain ⟨hx, hb, hml, hown, ht, hK, hA⟩ := id C
  have hl : lv_has ls 3 [(0, .ref (a 0)), (1, .int x1), (2, .int x2)] := hl
  refine lv_aload_n hx hb dX11_shortest_0 rfl (lv_at hl 0 rfl) ?_
  refine lv_iload_n hx hb dX11_shortest_1 rfl (lv_at hl 1 rfl) ?_
  have g1 : 0 ≤ (fI u 0 36).toInt ∧ (fI u 0 36).toInt ≤ 1 := by have h := MI_36 hJ0; exact h
  have g2 : 0 ≤ (fA u 6 ((fI u 0 36)).toNatClampNeg).toInt ∧ (fA u 6 ((fI u 0 36)).toNatClampNeg).toInt ≤ 6 := by have h := MI_A6 hJ0 ((fI u 0 36)).toNatClampNeg; exact h
  refine cVi (w := mW cy a) (As := [.int x1]) (rest := []) C hO (T_X11_isHeld l D cy a _ (by exact hJ) ((fA u 6 ((fI u 0 36)).toNatClampNeg)) (by exact rfl) (x1)) (cwV 1 ht (gV wd_1797 wd_1799 wd_91 wd_121 wd_1800) rfl rfl rfl hd_yX11_isHeld ⟨Nat.le_of_ble_eq_true rfl, Nat.le_of_ble_eq_true rfl⟩) 0 rfl mW_0 rfl rfl hl.1 (Nat.le_of_ble_eq_true rfl) dX11_shortest_2 rfl ⟨Nat.zero_le _, Nat.zero_le _⟩ (fun r3 u4 H locs hp5 hO => ?_)
  obtain ⟨hr3, hu4⟩ := hp5
  rw [hu4] at hO
  rcases hr3 with ⟨hcr3, hvr3⟩ | ⟨hcr3, hvr3⟩
  · subst hvr3
    refine bn_eq (X := 1) hx hb dX11_shortest_5 rfl (by omega) ?_ (tgt := 34) (by decide)
    refine lv_iload_n hx hb dX11_shortest_8 rfl (lv_at hl 2 rfl) ?_
    refine lv_iconst (v := 0) hx hb dX11_shortest_9 (by decide) ?_
    refine lv_iconst (v := 1) hx hb dX11_shortest_10 (by decide) ?_
    refine cSi (w := mW cy a) (As := [.int x2, .int 0, .int 1]) (rest := []) C hO (T_X11_isIn l D cy a _ (by exact hJ) (x2) (0) (1)) (va_cwS 3 ht (gSS wd_1722 wd_1723 wd_121 wd_1724) rfl rfl rfl hd_yX11_isIn ⟨Nat.le_of_ble_eq_true rfl, Nat.le_of_ble_eq_true rfl⟩)  rfl hl.1 (Nat.le_of_ble_eq_true rfl) dX11_shortest_11 rfl ⟨Nat.zero_le _, Nat.zero_le _⟩ (fun r6 u7 H locs hp8 hO => ?_)
    obtain ⟨hr6, hu7⟩ := hp8
    rw [hu7] at hO
    have zz9 : (0 : Int32).toInt = 0 := rfl
    have zz10 : (1 : Int32).toInt = 1 := rfl
    rcases hr6 with ⟨hcr6, hvr6⟩ | ⟨hcr6, hvr6⟩
    · subst hvr6
      refine bn_eq (X := 1) hx hb dX11_shortest_14 rfl (by omega) ?_ (tgt := 34) (by decide)
      refine lv_aload_n hx hb dX11_shortest_17 rfl (lv_at hl 0 rfl) ?_
      refine lv_aload_n hx hb dX11_shortest_18 rfl (lv_at hl 0 rfl) ?_
      refine lv_iload_n hx hb dX11_shortest_19 rfl (lv_at hl 1 rfl) ?_
      refine lv_aload_n hx hb dX11_shortest_20 rfl (lv_at hl 0 rfl) ?_
      refine cVi (w := mW cy a) (As := []) (rest := [.int x1, .ref (a 0), .ref (a 0)]) C hO (T_X11_allPleas l D cy a _ (by exact hJ)) (cwV 0 ht (gV wd_1868 wd_1870 wd_96 wd_121 wd_1871) rfl rfl rfl hd_yX11_allPleas ⟨Nat.le_of_ble_eq_true rfl, Nat.le_of_ble_eq_true rfl⟩) 0 rfl mW_0 rfl rfl hl.1 (Nat.le_of_ble_eq_true rfl) dX11_shortest_21 rfl ⟨Nat.zero_le _, Nat.zero_le _⟩ (fun r11 u12 H locs hp13 hO => ?_)
      obtain ⟨hr11, hu12⟩ := hp13
      rw [hu12] at hO
      refine cVi (w := mW cy a) (As := [.int x1, .int r11]) (rest := [.ref (a 0)]) C hO (T_X11_fewestOf l D cy a _ (by exact hJ) (x1) (r11) (by first | omega | decide) (by first | omega | decide)) (cwV 2 ht (gV wd_1872 wd_1874 wd_97 wd_121 wd_1875) rfl rfl rfl hd_yX11_fewestOf ⟨Nat.le_of_ble_eq_true rfl, Nat.le_of_ble_eq_true rfl⟩) 0 rfl mW_0 rfl rfl hl.1 (Nat.le_of_ble_eq_true rfl) dX11_shortest_24 rfl ⟨Nat.zero_le _, Nat.zero_le _⟩ (fun r14 u15 H locs hp16 hO => ?_)
      obtain ⟨hr14, hJ, hTu15⟩ := hp16
      have hT : Km2 u u15 := Km2.tr (by exact hT) hTu15
      refine lv_iload_n hx hb dX11_shortest_27 rfl (lv_at hl 2 rfl) ?_
      refine cVi (w := mW cy a) (As := [.int r14, .int x2]) (rest := []) C hO (T_X11_toldOf l D cy a _ (by exact hJ) (r14) (x2)) (cwV 2 ht (gV wd_1876 wd_1878 wd_98 wd_121 wd_1879) rfl rfl rfl hd_yX11_toldOf ⟨Nat.le_of_ble_eq_true rfl, Nat.le_of_ble_eq_true rfl⟩) 0 rfl mW_0 rfl rfl hl.1 (Nat.le_of_ble_eq_true rfl) dX11_shortest_28 rfl ⟨Nat.zero_le _, Nat.zero_le _⟩ (fun r17 u18 H locs hp19 hO => ?_)
      have hu18 := hp19
      rw [hu18] at hO
      refine lv_goto (tgt := 35) hx hb dX11_shortest_31 (by decide) ?_
      refine hret _ _ _ _ _ _ dX11_shortest_35 rfl ?_ hO
      exact ⟨hJ, hT⟩
    · subst hvr6
      refine bt_eq (tgt := 34) (X := 0) hx hb dX11_shortest_14 (by decide) rfl (by omega) ?_
      refine lv_iconst (v := (-1)) hx hb dX11_shortest_34 (by decide) ?_
      refine hret _ _ _ _ _ _ dX11_shortest_35 rfl ?_ hO
      exact ⟨hJ, hT⟩
  · subst hvr3
    refine bt_eq (tgt := 34) (X := 0) hx hb dX11_shortest_5 (by decide) rfl (by omega) ?_
    refine lv_iconst (v := (-1)) hx hb dX11_shortest_34 (by decide) ?_
    refine hret _ _ _ _ _ _ dX11_shortest_35 rfl ?_ hO
    exact ⟨hJ, hT⟩
theorem dX11_honest_0 : decode cX11_honest 0 = .ok (.aload_n 0, 1) := by decide +kernel
theorem dX11_honest_1 : decode cX11_honest 1 = .ok (.iload_n 1, 1) := by decide +kernel
theorem dX11_honest_2 : decode cX11_honest 2 = .ok (.invokevirtual 413, 3) := by decide +kernel
theorem dX11_honest_5 : decode cX11_honest 5 = .ok (.ifCond .eq 39, 3) := by decide +kernel
theorem dX11_honest_8 : decode cX11_honest 8 = .ok (.iload_n 2, 1) := by decide +kernel
theorem dX11_honest_9 : decode cX11_honest 9 = .ok (.iconst 0, 1) := by decide +kernel
theorem dX11_honest_10 : decode cX11_honest 10 = .ok (.iconst 1, 1) := by decide +kernel
theorem dX11_honest_11 : decode cX11_honest 11 = .ok (.invokestatic 374, 3) := by decide +kernel
theorem dX11_honest_14 : decode cX11_honest 14 = .ok (.ifCond .eq 30, 3) := by decide +kernel
theorem dX11_honest_17 : decode cX11_honest 17 = .ok (.aload_n 0, 1) := by decide +kernel
theorem dX11_honest_18 : decode cX11_honest 18 = .ok (.aload_n 0, 1) := by decide +kernel
theorem dX11_honest_19 : decode cX11_honest 19 = .ok (.iload_n 1, 1) := by decide +kernel
theorem dX11_honest_20 : decode cX11_honest 20 = .ok (.aload_n 0, 1) := by decide +kernel
theorem dX11_honest_21 : decode cX11_honest 21 = .ok (.getfield 63, 3) := by decide +kernel
theorem dX11_honest_24 : decode cX11_honest 24 = .ok (.bipush 6, 2) := by decide +kernel
theorem dX11_honest_26 : decode cX11_honest 26 = .ok (.aload_n 0, 1) := by decide +kernel
theorem dX11_honest_27 : decode cX11_honest 27 = .ok (.getfield 255, 3) := by decide +kernel
theorem dX11_honest_30 : decode cX11_honest 30 = .ok (.imul, 1) := by decide +kernel
theorem dX11_honest_31 : decode cX11_honest 31 = .ok (.iload_n 1, 1) := by decide +kernel
theorem dX11_honest_32 : decode cX11_honest 32 = .ok (.iadd, 1) := by decide +kernel
theorem dX11_honest_33 : decode cX11_honest 33 = .ok (.iaload, 1) := by decide +kernel
theorem dX11_honest_34 : decode cX11_honest 34 = .ok (.invokevirtual 451, 3) := by decide +kernel
theorem dX11_honest_37 : decode cX11_honest 37 = .ok (.iload_n 2, 1) := by decide +kernel
theorem dX11_honest_38 : decode cX11_honest 38 = .ok (.invokevirtual 454, 3) := by decide +kernel
theorem dX11_honest_41 : decode cX11_honest 41 = .ok (.goto 4, 3) := by decide +kernel
theorem dX11_honest_44 : decode cX11_honest 44 = .ok (.iconst (-1), 1) := by decide +kernel
theorem dX11_honest_45 : decode cX11_honest 45 = .ok (.ireturn, 1) := by decide +kernel
theorem wd_1883 : (Cond.code ⟨"WebCourtModel", "honest", "(II)I"⟩ prog_13_method_88_code (3 : Nat) (Option.some FieldType.int)) ∈ gtb := gtb_c8 94 (by decide +kernel) rfl
set_option maxHeartbeats 4000000 in
set_option maxRecDepth 100000 in
theorem T_X11_honest (l : Launch) (D : va_G) (cy : Nat → ClassId) (a : Nat → Nat) (u : St) (hJ : MI a u) (x1 : Int32) (x2 : Int32)  : Mi l D cy (mW cy a) yX11_honest (.code yX11_honest cX11_honest 3 (some .int)) (rmo 7 156) [.ref (a 0), .int x1, .int x2] u (fun (r : Int32) (u' : St) => (MI a u') ∧ (Km2 u u')) := by
  refine Mi.of (own := RX11) rfl (by decide) (Nat.le_of_ble_eq_true rfl) ?_
  have hT : Km2 u u := Km2.rf
  have hJ0 := hJ
  intro p e s m below meth c A Q ls C hret hO hl
  obtain ⟨hx, hb, hml, hown, ht, hK, hA⟩ := id C
  have hl : lv_has ls 3 [(0, .ref (a 0)), (1, .int x1), (2, .int x2)] := hl
  refine lv_aload_n hx hb dX11_honest_0 rfl (lv_at hl 0 rfl) ?_
  refine lv_iload_n hx hb dX11_honest_1 rfl (lv_at hl 1 rfl) ?_
  have g1 : 0 ≤ (fI u 0 36).toInt ∧ (fI u 0 36).toInt ≤ 1 := by have h := MI_36 hJ0; exact h
  have g2 : 0 ≤ (fA u 6 ((fI u 0 36)).toNatClampNeg).toInt ∧ (fA u 6 ((fI u 0 36)).toNatClampNeg).toInt ≤ 6 := by have h := MI_A6 hJ0 ((fI u 0 36)).toNatClampNeg; exact h
  refine cVi (w := mW cy a) (As := [.int x1]) (rest := []) C hO (T_X11_isHeld l D cy a _ (by exact hJ) ((fA u 6 ((fI u 0 36)).toNatClampNeg)) (by exact rfl) (x1)) (cwV 1 ht (gV wd_1797 wd_1799 wd_91 wd_121 wd_1800) rfl rfl rfl hd_yX11_isHeld ⟨Nat.le_of_ble_eq_true rfl, Nat.le_of_ble_eq_true rfl⟩) 0 rfl mW_0 rfl rfl hl.1 (Nat.le_of_ble_eq_true rfl) dX11_honest_2 rfl ⟨Nat.zero_le _, Nat.zero_le _⟩ (fun r3 u4 H locs hp5 hO => ?_)
  obtain ⟨hr3, hu4⟩ := hp5
  rw [hu4] at hO
  rcases hr3 with ⟨hcr3, hvr3⟩ | ⟨hcr3, hvr3⟩
  · subst hvr3
    refine bn_eq (X := 1) hx hb dX11_honest_5 rfl (by omega) ?_ (tgt := 44) (by decide)
    refine lv_iload_n hx hb dX11_honest_8 rfl (lv_at hl 2 rfl) ?_
    refine lv_iconst (v := 0) hx hb dX11_honest_9 (by decide) ?_
    refine lv_iconst (v := 1) hx hb dX11_honest_10 (by decide) ?_
    refine cSi (w := mW cy a) (As := [.int x2, .int 0, .int 1]) (rest := []) C hO (T_X11_isIn l D cy a _ (by exact hJ) (x2) (0) (1)) (va_cwS 3 ht (gSS wd_1722 wd_1723 wd_121 wd_1724) rfl rfl rfl hd_yX11_isIn ⟨Nat.le_of_ble_eq_true rfl, Nat.le_of_ble_eq_true rfl⟩)  rfl hl.1 (Nat.le_of_ble_eq_true rfl) dX11_honest_11 rfl ⟨Nat.zero_le _, Nat.zero_le _⟩ (fun r6 u7 H locs hp8 hO => ?_)
    obtain ⟨hr6, hu7⟩ := hp8
    rw [hu7] at hO
    have zz9 : (0 : Int32).toInt = 0 := rfl
    have zz10 : (1 : Int32).toInt = 1 := rfl
    rcases hr6 with ⟨hcr6, hvr6⟩ | ⟨hcr6, hvr6⟩
    · subst hvr6
      refine bn_eq (X := 1) hx hb dX11_honest_14 rfl (by omega) ?_ (tgt := 44) (by decide)
      refine lv_aload_n hx hb dX11_honest_17 rfl (lv_at hl 0 rfl) ?_
      refine lv_aload_n hx hb dX11_honest_18 rfl (lv_at hl 0 rfl) ?_
      refine lv_iload_n hx hb dX11_honest_19 rfl (lv_at hl 1 rfl) ?_
      refine lv_aload_n hx hb dX11_honest_20 rfl (lv_at hl 0 rfl) ?_
      refine gf_RX11_63 (v := .ref (a 17)) C hO 0 mW_0 rfl dX11_honest_21 ?_
      refine lv_bipush (v := 6) hx hb dX11_honest_24 (by decide) ?_
      refine lv_aload_n hx hb dX11_honest_26 rfl (lv_at hl 0 rfl) ?_
      refine gf_RX11_255 (v := .int (fI u 0 36)) C hO 0 mW_0 rfl dX11_honest_27 ?_
      refine lv_imul hx hb dX11_honest_30 ?_
      refine lv_topi (fun z11 ez11 => ?_)
      have e12 : z11.toInt = 6 * ((fI u 0 36)).toInt := by rw [ez11]; exact i_mul rfl rfl (by omega)
      refine lv_iload_n hx hb dX11_honest_31 rfl (lv_at hl 1 rfl) ?_
      refine lv_iadd hx hb dX11_honest_32 ?_
      refine lv_topi (fun z13 ez13 => ?_)
      have e14 : z13.toInt = (6 * ((fI u 0 36)).toInt) + (x1).toInt := by rw [ez13]; exact i_add e12 rfl (by omega)
      refine aI C hO 17 mW_17 (i_in (X := ((6 * ((fI u 0 36)).toInt) + (x1).toInt)) e14 (by omega) (by omega)) dX11_honest_33 ?_
      have g15 : 0 ≤ (fA u 17 (z13).toNatClampNeg).toInt ∧ (fA u 17 (z13).toNatClampNeg).toInt ≤ 255 := by have h := MI_A17 hJ0 (z13).toNatClampNeg; exact h
      refine tE (y := (fA u 17 (z13).toNatClampNeg)) (by exact rfl) ?_
      refine cVi (w := mW cy a) (As := [.int x1, .int (fA u 17 (z13).toNatClampNeg)]) (rest := [.ref (a 0)]) C hO (T_X11_fewestOf l D cy a _ (by exact hJ) (x1) ((fA u 17 (z13).toNatClampNeg)) (by first | omega | decide) (by first | omega | decide)) (cwV 2 ht (gV wd_1872 wd_1874 wd_97 wd_121 wd_1875) rfl rfl rfl hd_yX11_fewestOf ⟨Nat.le_of_ble_eq_true rfl, Nat.le_of_ble_eq_true rfl⟩) 0 rfl mW_0 rfl rfl hl.1 (Nat.le_of_ble_eq_true rfl) dX11_honest_34 rfl ⟨Nat.zero_le _, Nat.zero_le _⟩ (fun r16 u17 H locs hp18 hO => ?_)
      obtain ⟨hr16, hJ, hTu17⟩ := hp18
      have hT : Km2 u u17 := Km2.tr (by exact hT) hTu17
      refine lv_iload_n hx hb dX11_honest_37 rfl (lv_at hl 2 rfl) ?_
      refine cVi (w := mW cy a) (As := [.int r16, .int x2]) (rest := []) C hO (T_X11_toldOf l D cy a _ (by exact hJ) (r16) (x2)) (cwV 2 ht (gV wd_1876 wd_1878 wd_98 wd_121 wd_1879) rfl rfl rfl hd_yX11_toldOf ⟨Nat.le_of_ble_eq_true rfl, Nat.le_of_ble_eq_true rfl⟩) 0 rfl mW_0 rfl rfl hl.1 (Nat.le_of_ble_eq_true rfl) dX11_honest_38 rfl ⟨Nat.zero_le _, Nat.zero_le _⟩ (fun r19 u20 H locs hp21 hO => ?_)
      have hu20 := hp21
      rw [hu20] at hO
      refine lv_goto (tgt := 45) hx hb dX11_honest_41 (by decide) ?_
      refine hret _ _ _ _ _ _ dX11_honest_45 rfl ?_ hO
      exact ⟨hJ, hT⟩
    · subst hvr6
      refine bt_eq (tgt := 44) (X := 0) hx hb dX11_honest_14 (by decide) rfl (by omega) ?_
      refine lv_iconst (v := (-1)) hx hb dX11_honest_44 (by decide) ?_
      refine hret _ _ _ _ _ _ dX11_honest_45 rfl ?_ hO
      exact ⟨hJ, hT⟩
  · subst hvr3
    refine bt_eq (tgt := 44) (X := 0) hx hb dX11_honest_5 (by decide) rfl (by omega) ?_
    refine lv_iconst (v := (-1)) hx hb dX11_honest_44 (by decide) ?_
    refine hret _ _ _ _ _ _ dX11_honest_45 rfl ?_ hO
    exact ⟨hJ, hT⟩
theorem dX11_hopeless_0 : decode cX11_hopeless 0 = .ok (.iconst 0, 1) := by decide +kernel
theorem dX11_hopeless_1 : decode cX11_hopeless 1 = .ok (.istore_n 1, 1) := by decide +kernel
theorem dX11_hopeless_2 : decode cX11_hopeless 2 = .ok (.iconst 0, 1) := by decide +kernel
theorem dX11_hopeless_3 : decode cX11_hopeless 3 = .ok (.istore_n 2, 1) := by decide +kernel
theorem dX11_hopeless_4 : decode cX11_hopeless 4 = .ok (.iload_n 2, 1) := by decide +kernel
theorem dX11_hopeless_5 : decode cX11_hopeless 5 = .ok (.aload_n 0, 1) := by decide +kernel
theorem dX11_hopeless_6 : decode cX11_hopeless 6 = .ok (.invokevirtual 371, 3) := by decide +kernel
theorem dX11_hopeless_9 : decode cX11_hopeless 9 = .ok (.if_icmp .ge 35, 3) := by decide +kernel
theorem dX11_hopeless_12 : decode cX11_hopeless 12 = .ok (.aload_n 0, 1) := by decide +kernel
theorem dX11_hopeless_13 : decode cX11_hopeless 13 = .ok (.iload_n 2, 1) := by decide +kernel
theorem dX11_hopeless_14 : decode cX11_hopeless 14 = .ok (.invokevirtual 413, 3) := by decide +kernel
theorem dX11_hopeless_17 : decode cX11_hopeless 17 = .ok (.ifCond .eq 21, 3) := by decide +kernel
theorem dX11_hopeless_20 : decode cX11_hopeless 20 = .ok (.aload_n 0, 1) := by decide +kernel
theorem dX11_hopeless_21 : decode cX11_hopeless 21 = .ok (.iload_n 2, 1) := by decide +kernel
theorem dX11_hopeless_22 : decode cX11_hopeless 22 = .ok (.aload_n 0, 1) := by decide +kernel
theorem dX11_hopeless_23 : decode cX11_hopeless 23 = .ok (.invokevirtual 448, 3) := by decide +kernel
theorem dX11_hopeless_26 : decode cX11_hopeless 26 = .ok (.invokevirtual 451, 3) := by decide +kernel
theorem dX11_hopeless_29 : decode cX11_hopeless 29 = .ok (.ifCond .ge 9, 3) := by decide +kernel
theorem dX11_hopeless_32 : decode cX11_hopeless 32 = .ok (.iload_n 1, 1) := by decide +kernel
theorem dX11_hopeless_33 : decode cX11_hopeless 33 = .ok (.iconst 1, 1) := by decide +kernel
theorem dX11_hopeless_34 : decode cX11_hopeless 34 = .ok (.iload_n 2, 1) := by decide +kernel
theorem dX11_hopeless_35 : decode cX11_hopeless 35 = .ok (.ishl, 1) := by decide +kernel
theorem dX11_hopeless_36 : decode cX11_hopeless 36 = .ok (.ior, 1) := by decide +kernel
theorem dX11_hopeless_37 : decode cX11_hopeless 37 = .ok (.istore_n 1, 1) := by decide +kernel
theorem dX11_hopeless_38 : decode cX11_hopeless 38 = .ok (.iinc 2 1, 3) := by decide +kernel
theorem dX11_hopeless_41 : decode cX11_hopeless 41 = .ok (.goto (-37), 3) := by decide +kernel
theorem dX11_hopeless_44 : decode cX11_hopeless 44 = .ok (.iload_n 1, 1) := by decide +kernel
theorem dX11_hopeless_45 : decode cX11_hopeless 45 = .ok (.ireturn, 1) := by decide +kernel
theorem wd_1887 : (Cond.code ⟨"WebCourtModel", "hopeless", "()I"⟩ prog_13_method_89_code (3 : Nat) (Option.some FieldType.int)) ∈ gtb := gtb_c8 98 (by decide +kernel) rfl
set_option maxHeartbeats 4000000 in
set_option maxRecDepth 100000 in
theorem T_X11_hopeless (l : Launch) (D : va_G) (cy : Nat → ClassId) (a : Nat → Nat) (u : St) (hJ : MI a u)   : Mi l D cy (mW cy a) yX11_hopeless (.code yX11_hopeless cX11_hopeless 3 (some .int)) (rmo 7 156) [.ref (a 0)] u (fun (r : Int32) (u' : St) => (MI a u') ∧ (Km2 u u')) := by
  refine Mi.of (own := RX11) rfl (by decide) (Nat.le_of_ble_eq_true rfl) ?_
  have hT : Km2 u u := Km2.rf
  have hJ0 := hJ
  intro p e s m below meth c A Q ls C hret hO hl
  obtain ⟨hx, hb, hml, hown, ht, hK, hA⟩ := id C
  have hl : lv_has ls 3 [(0, .ref (a 0))] := hl
  refine lv_iconst (v := 0) hx hb dX11_hopeless_0 (by decide) ?_
  refine lv_istore_n (lv' := [(1, .int 0), (0, .ref (a 0))]) hx hb dX11_hopeless_1 rfl hl (by decide) rfl (fun ls hl => ?_)
  refine lv_iconst (v := 0) hx hb dX11_hopeless_2 (by decide) ?_
  refine lv_istore_n (lv' := [(2, .int 0), (1, .int 0), (0, .ref (a 0))]) hx hb dX11_hopeless_3 rfl hl (by decide) rfl (fun ls hl => ?_)
  have LP_4_k2 : ∀ (n : Nat) (u1 : St) (H : Heap) (locs : List Loc) (ls : Array Slot) (i_k2 : Int32) (w1_k2 : Int32), Wo D A (mW cy a u1) s.heap H locs → lv_has ls 3 [(2, .int i_k2), (1, .int w1_k2), (0, .ref (a 0))] → MI a u1 → Km2 u u1 → 0 ≤ i_k2.toInt ∧ i_k2.toInt ≤ 6 → 6 - i_k2.toInt < (n : Int) → W p l e (rmo 7 156) s m [.ref (a 0)].toArray below meth c H locs 0 0 Q (F0 m 4 ls []) := by
    intro n
    induction n with
    | zero =>
      intro u1 H locs ls i_k2 w1_k2 hO hl hJ hT iv0_k2 hm_k2
      exact absurd hm_k2 (by omega)
    | succ n ih_k2 =>
      intro u1 H locs ls i_k2 w1_k2 hO hl hJ hT iv0_k2 hm_k2
      refine lv_iload_n hx hb dX11_hopeless_4 rfl (lv_at hl 0 rfl) ?_
      refine lv_aload_n hx hb dX11_hopeless_5 rfl (lv_at hl 2 rfl) ?_
      have g3 : 0 ≤ (fI u 0 36).toInt ∧ (fI u 0 36).toInt ≤ 1 := by have h := MI_36 hJ0; exact h
      have g4 : 0 ≤ (fA u 6 ((fI u 0 36)).toNatClampNeg).toInt ∧ (fA u 6 ((fI u 0 36)).toNatClampNeg).toInt ≤ 6 := by have h := MI_A6 hJ0 ((fI u 0 36)).toNatClampNeg; exact h
      refine cVi (w := mW cy a) (As := []) (rest := [.int i_k2]) C hO (T_X11_many l D cy a _ (by exact hJ) ((fA u 6 ((fI u 0 36)).toNatClampNeg)) (by exact (Eq.trans (congrArg (fun z : Int32 => fA _ 6 z.toNatClampNeg) (Km2_I36 hT)) (congrFun (Km2_A6 hT) _)))) (cwV 0 ht (gV wd_1348 wd_1350 wd_46 wd_121 wd_1351) rfl rfl rfl hd_yX11_many ⟨Nat.le_of_ble_eq_true rfl, Nat.le_of_ble_eq_true rfl⟩) 0 rfl mW_0 rfl rfl hl.1 (Nat.le_of_ble_eq_true rfl) dX11_hopeless_6 rfl ⟨Nat.zero_le _, Nat.zero_le _⟩ (fun r5 u6 H locs hp7 hO => ?_)
      obtain ⟨hr5, hu6⟩ := hp7
      refine tE hr5 ?_
      rw [hu6] at hO
      refine cs_ge (tgt := 44) (X := (i_k2).toInt) (Y := ((fA u 6 ((fI u 0 36)).toNatClampNeg)).toInt) hx hb dX11_hopeless_9 (by decide) rfl rfl (fun c8 => ?_) (fun c8 => ?_)
      · refine lv_iload_n hx hb dX11_hopeless_44 rfl (lv_at hl 1 rfl) ?_
        refine hret _ _ _ _ _ _ dX11_hopeless_45 rfl ?_ hO
        exact ⟨hJ, hT⟩
      · refine lv_aload_n hx hb dX11_hopeless_12 rfl (lv_at hl 2 rfl) ?_
        refine lv_iload_n hx hb dX11_hopeless_13 rfl (lv_at hl 0 rfl) ?_
        refine cVi (w := mW cy a) (As := [.int i_k2]) (rest := []) C hO (T_X11_isHeld l D cy a _ (by exact hJ) ((fA u 6 ((fI u 0 36)).toNatClampNeg)) (by exact (Eq.trans (congrArg (fun z : Int32 => fA _ 6 z.toNatClampNeg) (Km2_I36 hT)) (congrFun (Km2_A6 hT) _))) (i_k2)) (cwV 1 ht (gV wd_1797 wd_1799 wd_91 wd_121 wd_1800) rfl rfl rfl hd_yX11_isHeld ⟨Nat.le_of_ble_eq_true rfl, Nat.le_of_ble_eq_true rfl⟩) 0 rfl mW_0 rfl rfl hl.1 (Nat.le_of_ble_eq_true rfl) dX11_hopeless_14 rfl ⟨Nat.zero_le _, Nat.zero_le _⟩ (fun r9 u10 H locs hp11 hO => ?_)
        obtain ⟨hr9, hu10⟩ := hp11
        rw [hu10] at hO
        rcases hr9 with ⟨hcr9, hvr9⟩ | ⟨hcr9, hvr9⟩
        · subst hvr9
          refine bn_eq (X := 1) hx hb dX11_hopeless_17 rfl (by omega) ?_ (tgt := 38) (by decide)
          refine lv_aload_n hx hb dX11_hopeless_20 rfl (lv_at hl 2 rfl) ?_
          refine lv_iload_n hx hb dX11_hopeless_21 rfl (lv_at hl 0 rfl) ?_
          refine lv_aload_n hx hb dX11_hopeless_22 rfl (lv_at hl 2 rfl) ?_
          refine cVi (w := mW cy a) (As := []) (rest := [.int i_k2, .ref (a 0)]) C hO (T_X11_allPleas l D cy a _ (by exact hJ)) (cwV 0 ht (gV wd_1868 wd_1870 wd_96 wd_121 wd_1871) rfl rfl rfl hd_yX11_allPleas ⟨Nat.le_of_ble_eq_true rfl, Nat.le_of_ble_eq_true rfl⟩) 0 rfl mW_0 rfl rfl hl.1 (Nat.le_of_ble_eq_true rfl) dX11_hopeless_23 rfl ⟨Nat.zero_le _, Nat.zero_le _⟩ (fun r12 u13 H locs hp14 hO => ?_)
          obtain ⟨hr12, hu13⟩ := hp14
          rw [hu13] at hO
          refine cVi (w := mW cy a) (As := [.int i_k2, .int r12]) (rest := []) C hO (T_X11_fewestOf l D cy a _ (by exact hJ) (i_k2) (r12) (by first | omega | decide) (by first | omega | decide)) (cwV 2 ht (gV wd_1872 wd_1874 wd_97 wd_121 wd_1875) rfl rfl rfl hd_yX11_fewestOf ⟨Nat.le_of_ble_eq_true rfl, Nat.le_of_ble_eq_true rfl⟩) 0 rfl mW_0 rfl rfl hl.1 (Nat.le_of_ble_eq_true rfl) dX11_hopeless_26 rfl ⟨Nat.zero_le _, Nat.zero_le _⟩ (fun r15 u16 H locs hp17 hO => ?_)
          obtain ⟨hr15, hJ, hTu16⟩ := hp17
          have hT : Km2 u u16 := Km2.tr (by exact hT) hTu16
          refine bs_ge (tgt := 38) (X := (r15).toInt) hx hb dX11_hopeless_29 (by decide) rfl (fun c18 => ?_) (fun c18 => ?_)
          · obtain ⟨z19, ez19⟩ : ∃ z : Int32, z = i_k2 + Int32.ofInt 1 := ⟨_, rfl⟩
            have e20 : z19.toInt = (i_k2).toInt + 1 := by rw [ez19]; exact i_add rfl rfl (by omega)
            refine lv_iinc (v := z19) (lv' := [(2, .int z19), (1, .int w1_k2), (0, .ref (a 0))]) hx hb dX11_hopeless_38 hl (k := 0) rfl ez19.symm (by decide) rfl (fun ls hl => ?_)
            refine lv_goto (tgt := 4) hx hb dX11_hopeless_41 (by decide) ?_
            exact ih_k2 _ _ _ _ (z19) (w1_k2) hO (lv_sub hl [0, 1, 2] rfl) (by exact hJ) (by exact hT) (by first | decide | omega) (by first | decide | omega)
          · refine lv_iload_n hx hb dX11_hopeless_32 rfl (lv_at hl 1 rfl) ?_
            refine lv_iconst (v := 1) hx hb dX11_hopeless_33 (by decide) ?_
            refine lv_iload_n hx hb dX11_hopeless_34 rfl (lv_at hl 0 rfl) ?_
            refine lv_ishl hx hb dX11_hopeless_35 ?_
            refine lv_topi (fun z21 ez21 => ?_)
            have g22 : 0 ≤ z21.toInt ∧ z21.toInt ≤ 2 ^ 5 := by rw [ez21]; exact i_shl1 rfl (by omega) (by omega) (by decide)
            refine lv_ior hx hb dX11_hopeless_36 ?_
            refine lv_topi (fun z23 ez23 => ?_)
            refine lv_istore_n (lv' := [(1, .int z23), (2, .int i_k2), (0, .ref (a 0))]) hx hb dX11_hopeless_37 rfl hl (by decide) rfl (fun ls hl => ?_)
            obtain ⟨z24, ez24⟩ : ∃ z : Int32, z = i_k2 + Int32.ofInt 1 := ⟨_, rfl⟩
            have e25 : z24.toInt = (i_k2).toInt + 1 := by rw [ez24]; exact i_add rfl rfl (by omega)
            refine lv_iinc (v := z24) (lv' := [(2, .int z24), (1, .int z23), (0, .ref (a 0))]) hx hb dX11_hopeless_38 hl (k := 1) rfl ez24.symm (by decide) rfl (fun ls hl => ?_)
            refine lv_goto (tgt := 4) hx hb dX11_hopeless_41 (by decide) ?_
            exact ih_k2 _ _ _ _ (z24) (z23) hO (lv_sub hl [0, 1, 2] rfl) (by exact hJ) (by exact hT) (by first | decide | omega) (by first | decide | omega)
        · subst hvr9
          refine bt_eq (tgt := 38) (X := 0) hx hb dX11_hopeless_17 (by decide) rfl (by omega) ?_
          obtain ⟨z26, ez26⟩ : ∃ z : Int32, z = i_k2 + Int32.ofInt 1 := ⟨_, rfl⟩
          have e27 : z26.toInt = (i_k2).toInt + 1 := by rw [ez26]; exact i_add rfl rfl (by omega)
          refine lv_iinc (v := z26) (lv' := [(2, .int z26), (1, .int w1_k2), (0, .ref (a 0))]) hx hb dX11_hopeless_38 hl (k := 0) rfl ez26.symm (by decide) rfl (fun ls hl => ?_)
          refine lv_goto (tgt := 4) hx hb dX11_hopeless_41 (by decide) ?_
          exact ih_k2 _ _ _ _ (z26) (w1_k2) hO (lv_sub hl [0, 1, 2] rfl) (by exact hJ) (by exact hT) (by first | decide | omega) (by first | decide | omega)
  have zc28 : (0 : Int32).toInt = 0 := rfl
  exact LP_4_k2 4000 _ _ _ _ (0) (0) hO (lv_sub hl [0, 1, 2] rfl) (by exact hJ) (by exact hT) (by first | decide | omega) (by first | decide | omega)
theorem dX11_advice_0 : decode cX11_advice 0 = .ok (.aload_n 0, 1) := by decide +kernel
theorem dX11_advice_1 : decode cX11_advice 1 = .ok (.iload_n 1, 1) := by decide +kernel
theorem dX11_advice_2 : decode cX11_advice 2 = .ok (.invokevirtual 413, 3) := by decide +kernel
theorem dX11_advice_5 : decode cX11_advice 5 = .ok (.ifCond .eq 28, 3) := by decide +kernel
theorem dX11_advice_8 : decode cX11_advice 8 = .ok (.iload_n 2, 1) := by decide +kernel
theorem dX11_advice_9 : decode cX11_advice 9 = .ok (.iconst 0, 1) := by decide +kernel
theorem dX11_advice_10 : decode cX11_advice 10 = .ok (.iconst 1, 1) := by decide +kernel
theorem dX11_advice_11 : decode cX11_advice 11 = .ok (.invokestatic 374, 3) := by decide +kernel
theorem dX11_advice_14 : decode cX11_advice 14 = .ok (.ifCond .eq 19, 3) := by decide +kernel
theorem dX11_advice_17 : decode cX11_advice 17 = .ok (.aload_n 0, 1) := by decide +kernel
theorem dX11_advice_18 : decode cX11_advice 18 = .ok (.getfield 97, 3) := by decide +kernel
theorem dX11_advice_21 : decode cX11_advice 21 = .ok (.bipush 6, 2) := by decide +kernel
theorem dX11_advice_23 : decode cX11_advice 23 = .ok (.iload_n 1, 1) := by decide +kernel
theorem dX11_advice_24 : decode cX11_advice 24 = .ok (.iadd, 1) := by decide +kernel
theorem dX11_advice_25 : decode cX11_advice 25 = .ok (.iaload, 1) := by decide +kernel
theorem dX11_advice_26 : decode cX11_advice 26 = .ok (.invokestatic 316, 3) := by decide +kernel
theorem dX11_advice_29 : decode cX11_advice 29 = .ok (.iconst 4, 1) := by decide +kernel
theorem dX11_advice_30 : decode cX11_advice 30 = .ok (.if_icmp .ne 7, 3) := by decide +kernel
theorem dX11_advice_33 : decode cX11_advice 33 = .ok (.ldc_w 429, 3) := by decide +kernel
theorem dX11_advice_36 : decode cX11_advice 36 = .ok (.ireturn, 1) := by decide +kernel
theorem dX11_advice_37 : decode cX11_advice 37 = .ok (.iconst (-1), 1) := by decide +kernel
theorem dX11_advice_38 : decode cX11_advice 38 = .ok (.istore_n 3, 1) := by decide +kernel
theorem dX11_advice_39 : decode cX11_advice 39 = .ok (.iconst 0, 1) := by decide +kernel
theorem dX11_advice_40 : decode cX11_advice 40 = .ok (.istore 4, 2) := by decide +kernel
theorem dX11_advice_42 : decode cX11_advice 42 = .ok (.iconst 0, 1) := by decide +kernel
theorem dX11_advice_43 : decode cX11_advice 43 = .ok (.istore 5, 2) := by decide +kernel
theorem dX11_advice_45 : decode cX11_advice 45 = .ok (.iload 5, 2) := by decide +kernel
theorem dX11_advice_47 : decode cX11_advice 47 = .ok (.aload_n 0, 1) := by decide +kernel
theorem dX11_advice_48 : decode cX11_advice 48 = .ok (.invokevirtual 377, 3) := by decide +kernel
theorem dX11_advice_51 : decode cX11_advice 51 = .ok (.if_icmp .ge 71, 3) := by decide +kernel
theorem dX11_advice_54 : decode cX11_advice 54 = .ok (.aload_n 0, 1) := by decide +kernel
theorem dX11_advice_55 : decode cX11_advice 55 = .ok (.getfield 97, 3) := by decide +kernel
theorem dX11_advice_58 : decode cX11_advice 58 = .ok (.bipush 6, 2) := by decide +kernel
theorem dX11_advice_60 : decode cX11_advice 60 = .ok (.iload_n 1, 1) := by decide +kernel
theorem dX11_advice_61 : decode cX11_advice 61 = .ok (.iadd, 1) := by decide +kernel
theorem dX11_advice_62 : decode cX11_advice 62 = .ok (.iaload, 1) := by decide +kernel
theorem dX11_advice_63 : decode cX11_advice 63 = .ok (.iload 5, 2) := by decide +kernel
theorem dX11_advice_65 : decode cX11_advice 65 = .ok (.invokestatic 264, 3) := by decide +kernel
theorem dX11_advice_68 : decode cX11_advice 68 = .ok (.ifCond .eq 6, 3) := by decide +kernel
theorem dX11_advice_71 : decode cX11_advice 71 = .ok (.goto 45, 3) := by decide +kernel
theorem dX11_advice_74 : decode cX11_advice 74 = .ok (.aload_n 0, 1) := by decide +kernel
theorem dX11_advice_75 : decode cX11_advice 75 = .ok (.iload_n 1, 1) := by decide +kernel
theorem dX11_advice_76 : decode cX11_advice 76 = .ok (.aload_n 0, 1) := by decide +kernel
theorem dX11_advice_77 : decode cX11_advice 77 = .ok (.getfield 97, 3) := by decide +kernel
theorem dX11_advice_80 : decode cX11_advice 80 = .ok (.bipush 6, 2) := by decide +kernel
theorem dX11_advice_82 : decode cX11_advice 82 = .ok (.iload_n 1, 1) := by decide +kernel
theorem dX11_advice_83 : decode cX11_advice 83 = .ok (.iadd, 1) := by decide +kernel
theorem dX11_advice_84 : decode cX11_advice 84 = .ok (.iaload, 1) := by decide +kernel
theorem dX11_advice_85 : decode cX11_advice 85 = .ok (.iconst 1, 1) := by decide +kernel
theorem dX11_advice_86 : decode cX11_advice 86 = .ok (.iload 5, 2) := by decide +kernel
theorem dX11_advice_88 : decode cX11_advice 88 = .ok (.ishl, 1) := by decide +kernel
theorem dX11_advice_89 : decode cX11_advice 89 = .ok (.ior, 1) := by decide +kernel
theorem dX11_advice_90 : decode cX11_advice 90 = .ok (.invokevirtual 410, 3) := by decide +kernel
theorem dX11_advice_93 : decode cX11_advice 93 = .ok (.istore 6, 2) := by decide +kernel
theorem dX11_advice_95 : decode cX11_advice 95 = .ok (.iload_n 3, 1) := by decide +kernel
theorem dX11_advice_96 : decode cX11_advice 96 = .ok (.ifCond .lt 13, 3) := by decide +kernel
theorem dX11_advice_99 : decode cX11_advice 99 = .ok (.iload 6, 2) := by decide +kernel
theorem dX11_advice_101 : decode cX11_advice 101 = .ok (.iload 4, 2) := by decide +kernel
theorem dX11_advice_103 : decode cX11_advice 103 = .ok (.if_icmp .gt 6, 3) := by decide +kernel
theorem dX11_advice_106 : decode cX11_advice 106 = .ok (.goto 10, 3) := by decide +kernel
theorem dX11_advice_109 : decode cX11_advice 109 = .ok (.iload 5, 2) := by decide +kernel
theorem dX11_advice_111 : decode cX11_advice 111 = .ok (.istore_n 3, 1) := by decide +kernel
theorem dX11_advice_112 : decode cX11_advice 112 = .ok (.iload 6, 2) := by decide +kernel
theorem dX11_advice_114 : decode cX11_advice 114 = .ok (.istore 4, 2) := by decide +kernel
theorem dX11_advice_116 : decode cX11_advice 116 = .ok (.iinc 5 1, 3) := by decide +kernel
theorem dX11_advice_119 : decode cX11_advice 119 = .ok (.goto (-74), 3) := by decide +kernel
theorem dX11_advice_122 : decode cX11_advice 122 = .ok (.iload_n 3, 1) := by decide +kernel
theorem dX11_advice_123 : decode cX11_advice 123 = .ok (.ifCond .ge 9, 3) := by decide +kernel
theorem dX11_advice_126 : decode cX11_advice 126 = .ok (.ldc_w 429, 3) := by decide +kernel
theorem dX11_advice_129 : decode cX11_advice 129 = .ok (.goto 13, 3) := by decide +kernel
theorem dX11_advice_132 : decode cX11_advice 132 = .ok (.iload_n 2, 1) := by decide +kernel
theorem dX11_advice_133 : decode cX11_advice 133 = .ok (.ifCond .ne 7, 3) := by decide +kernel
theorem dX11_advice_136 : decode cX11_advice 136 = .ok (.iload_n 3, 1) := by decide +kernel
theorem dX11_advice_137 : decode cX11_advice 137 = .ok (.goto 5, 3) := by decide +kernel
theorem dX11_advice_140 : decode cX11_advice 140 = .ok (.iload 4, 2) := by decide +kernel
theorem dX11_advice_142 : decode cX11_advice 142 = .ok (.ireturn, 1) := by decide +kernel
theorem wd_1891 : (Cond.code ⟨"WebCourtModel", "advice", "(II)I"⟩ prog_13_method_90_code (7 : Nat) (Option.some FieldType.int)) ∈ gtb := gtb_c8 102 (by decide +kernel) rfl
theorem Km2_A5 {u v : St} (h : Km2 u v) : fA v 5 = fA u 5 := h.2.2.2.2.2.2.2.2.2.2.2.2.2.2.2.2.2.2.2.2.2.2.2.2.2.1
theorem Km2_A28 {u v : St} (h : Km2 u v) : fA v 28 = fA u 28 := h.2.2.2.2.2.2.2.2.2.2.2.2.2.2.2.2.2.2.2.2.2.2.2.2.2.2.2.2.2.2.2.2.2.2.2.2.2.2.2.2.2.2.2.2.2.2.2.1
set_option maxHeartbeats 4000000 in
set_option maxRecDepth 100000 in
theorem T_X11_advice (l : Launch) (D : va_G) (cy : Nat → ClassId) (a : Nat → Nat) (u : St) (hJ : MI a u) (x1 : Int32) (x2 : Int32)  : Mi l D cy (mW cy a) yX11_advice (.code yX11_advice cX11_advice 7 (some .int)) (rmo 6 132) [.ref (a 0), .int x1, .int x2] u (fun (r : Int32) (u' : St) => (MI a u') ∧ (Km2 u u')) := by
  refine Mi.of (own := RX11) rfl (by decide) (Nat.le_of_ble_eq_true rfl) ?_
  have hT : Km2 u u := Km2.rf
  have hJ0 := hJ
  intro p e s m below meth c A Q ls C hret hO hl
  obtain ⟨hx, hb, hml, hown, ht, hK, hA⟩ := id C
  have hl : lv_has ls 7 [(0, .ref (a 0)), (1, .int x1), (2, .int x2)] := hl
  refine lv_aload_n hx hb dX11_advice_0 rfl (lv_at hl 0 rfl) ?_
  refine lv_iload_n hx hb dX11_advice_1 rfl (lv_at hl 1 rfl) ?_
  have g1 : 0 ≤ (fI u 0 36).toInt ∧ (fI u 0 36).toInt ≤ 1 := by have h := MI_36 hJ0; exact h
  have g2 : 0 ≤ (fA u 6 ((fI u 0 36)).toNatClampNeg).toInt ∧ (fA u 6 ((fI u 0 36)).toNatClampNeg).toInt ≤ 6 := by have h := MI_A6 hJ0 ((fI u 0 36)).toNatClampNeg; exact h
  refine cVi (w := mW cy a) (As := [.int x1]) (rest := []) C hO (T_X11_isHeld l D cy a _ (by exact hJ) ((fA u 6 ((fI u 0 36)).toNatClampNeg)) (by exact rfl) (x1)) (cwV 1 ht (gV wd_1797 wd_1799 wd_91 wd_121 wd_1800) rfl rfl rfl hd_yX11_isHeld ⟨Nat.le_of_ble_eq_true rfl, Nat.le_of_ble_eq_true rfl⟩) 0 rfl mW_0 rfl rfl hl.1 (Nat.le_of_ble_eq_true rfl) dX11_advice_2 rfl ⟨Nat.zero_le _, Nat.zero_le _⟩ (fun r3 u4 H locs hp5 hO => ?_)
  obtain ⟨hr3, hu4⟩ := hp5
  rw [hu4] at hO
  rcases hr3 with ⟨hcr3, hvr3⟩ | ⟨hcr3, hvr3⟩
  · subst hvr3
    refine bn_eq (X := 1) hx hb dX11_advice_5 rfl (by omega) ?_ (tgt := 33) (by decide)
    refine lv_iload_n hx hb dX11_advice_8 rfl (lv_at hl 2 rfl) ?_
    refine lv_iconst (v := 0) hx hb dX11_advice_9 (by decide) ?_
    refine lv_iconst (v := 1) hx hb dX11_advice_10 (by decide) ?_
    refine cSi (w := mW cy a) (As := [.int x2, .int 0, .int 1]) (rest := []) C hO (T_X11_isIn l D cy a _ (by exact hJ) (x2) (0) (1)) (va_cwS 3 ht (gSS wd_1722 wd_1723 wd_121 wd_1724) rfl rfl rfl hd_yX11_isIn ⟨Nat.le_of_ble_eq_true rfl, Nat.le_of_ble_eq_true rfl⟩)  rfl hl.1 (Nat.le_of_ble_eq_true rfl) dX11_advice_11 rfl ⟨Nat.zero_le _, Nat.zero_le _⟩ (fun r6 u7 H locs hp8 hO => ?_)
    obtain ⟨hr6, hu7⟩ := hp8
    rw [hu7] at hO
    have zz9 : (0 : Int32).toInt = 0 := rfl
    have zz10 : (1 : Int32).toInt = 1 := rfl
    rcases hr6 with ⟨hcr6, hvr6⟩ | ⟨hcr6, hvr6⟩
    · subst hvr6
      refine bn_eq (X := 1) hx hb dX11_advice_14 rfl (by omega) ?_ (tgt := 33) (by decide)
      refine lv_aload_n hx hb dX11_advice_17 rfl (lv_at hl 0 rfl) ?_
      refine gf_RX11_97 (v := .ref (a 28)) C hO 0 mW_0 rfl dX11_advice_18 ?_
      refine lv_bipush (v := 6) hx hb dX11_advice_21 (by decide) ?_
      refine lv_iload_n hx hb dX11_advice_23 rfl (lv_at hl 1 rfl) ?_
      refine lv_iadd hx hb dX11_advice_24 ?_
      refine lv_topi (fun z11 ez11 => ?_)
      have e12 : z11.toInt = 6 + (x1).toInt := by rw [ez11]; exact i_add rfl rfl (by omega)
      refine aI C hO 28 mW_28 (i_in (X := (6 + (x1).toInt)) e12 (by omega) (by omega)) dX11_advice_25 ?_
      refine tE (y := (fA u 28 (z11).toNatClampNeg)) (by exact rfl) ?_
      refine cSi (w := mW cy a) (As := [.int (fA u 28 (z11).toNatClampNeg)]) (rest := []) C hO (T_X11_bitsOf l D cy a _ (by exact hJ) ((fA u 28 (z11).toNatClampNeg))) (va_cwS 1 ht (gSS wd_1663 wd_1664 wd_121 wd_1665) rfl rfl rfl hd_yX11_bitsOf ⟨Nat.le_of_ble_eq_true rfl, Nat.le_of_ble_eq_true rfl⟩)  rfl hl.1 (Nat.le_of_ble_eq_true rfl) dX11_advice_26 rfl ⟨Nat.zero_le _, Nat.zero_le _⟩ (fun r13 u14 H locs hp15 hO => ?_)
      have hu14 := hp15
      rw [hu14] at hO
      refine lv_iconst (v := 4) hx hb dX11_advice_29 (by decide) ?_
      refine cs_ne (tgt := 37) (X := (r13).toInt) (Y := 4) hx hb dX11_advice_30 (by decide) rfl rfl (fun c16 => ?_) (fun c16 => ?_)
      · refine lv_iconst (v := (-1)) hx hb dX11_advice_37 (by decide) ?_
        refine lv_istore_n (lv' := [(3, .int (-1)), (0, .ref (a 0)), (1, .int x1), (2, .int x2)]) hx hb dX11_advice_38 rfl hl (by decide) rfl (fun ls hl => ?_)
        refine lv_iconst (v := 0) hx hb dX11_advice_39 (by decide) ?_
        refine lv_istore (lv' := [(4, .int 0), (3, .int (-1)), (0, .ref (a 0)), (1, .int x1), (2, .int x2)]) hx hb dX11_advice_40 hl (by decide) rfl (fun ls hl => ?_)
        refine lv_iconst (v := 0) hx hb dX11_advice_42 (by decide) ?_
        refine lv_istore (lv' := [(5, .int 0), (4, .int 0), (3, .int (-1)), (0, .ref (a 0)), (1, .int x1), (2, .int x2)]) hx hb dX11_advice_43 hl (by decide) rfl (fun ls hl => ?_)
        have LP_45_k18 : ∀ (n : Nat) (u17 : St) (H : Heap) (locs : List Loc) (ls : Array Slot) (i_k18 : Int32) (w4_k18 : Int32) (w3_k18 : Int32), Wo D A (mW cy a u17) s.heap H locs → lv_has ls 7 [(5, .int i_k18), (4, .int w4_k18), (3, .int w3_k18), (0, .ref (a 0)), (1, .int x1), (2, .int x2)] → MI a u17 → Km2 u u17 → 0 ≤ i_k18.toInt ∧ i_k18.toInt ≤ 8 → 8 - i_k18.toInt < (n : Int) → W p l e (rmo 6 132) s m [.ref (a 0), .int x1, .int x2].toArray below meth c H locs 0 0 Q (F0 m 45 ls []) := by
          intro n
          induction n with
          | zero =>
            intro u17 H locs ls i_k18 w4_k18 w3_k18 hO hl hJ hT iv0_k18 hm_k18
            exact absurd hm_k18 (by omega)
          | succ n ih_k18 =>
            intro u17 H locs ls i_k18 w4_k18 w3_k18 hO hl hJ hT iv0_k18 hm_k18
            refine lv_iload hx hb dX11_advice_45 (lv_at hl 0 rfl) ?_
            refine lv_aload_n hx hb dX11_advice_47 rfl (lv_at hl 3 rfl) ?_
            have g19 : 0 ≤ (fI u 0 36).toInt ∧ (fI u 0 36).toInt ≤ 1 := by have h := MI_36 hJ0; exact h
            have g20 : 0 ≤ (fA u 5 ((fI u 0 36)).toNatClampNeg).toInt ∧ (fA u 5 ((fI u 0 36)).toNatClampNeg).toInt ≤ 8 := by have h := MI_A5 hJ0 ((fI u 0 36)).toNatClampNeg; exact h
            refine cVi (w := mW cy a) (As := []) (rest := [.int i_k18]) C hO (T_X11_pleads l D cy a _ (by exact hJ) ((fA u 5 ((fI u 0 36)).toNatClampNeg)) (by exact (Eq.trans (congrArg (fun z : Int32 => fA _ 5 z.toNatClampNeg) (Km2_I36 hT)) (congrFun (Km2_A5 hT) _)))) (cwV 0 ht (gV wd_1745 wd_1747 wd_82 wd_121 wd_1748) rfl rfl rfl hd_yX11_pleads ⟨Nat.le_of_ble_eq_true rfl, Nat.le_of_ble_eq_true rfl⟩) 0 rfl mW_0 rfl rfl hl.1 (Nat.le_of_ble_eq_true rfl) dX11_advice_48 rfl ⟨Nat.zero_le _, Nat.zero_le _⟩ (fun r21 u22 H locs hp23 hO => ?_)
            obtain ⟨hr21, hu22⟩ := hp23
            refine tE hr21 ?_
            rw [hu22] at hO
            refine cs_ge (tgt := 122) (X := (i_k18).toInt) (Y := ((fA u 5 ((fI u 0 36)).toNatClampNeg)).toInt) hx hb dX11_advice_51 (by decide) rfl rfl (fun c24 => ?_) (fun c24 => ?_)
            · refine lv_iload_n hx hb dX11_advice_122 rfl (lv_at hl 2 rfl) ?_
              refine bs_ge (tgt := 132) (X := (w3_k18).toInt) hx hb dX11_advice_123 (by decide) rfl (fun c25 => ?_) (fun c25 => ?_)
              · refine lv_iload_n hx hb dX11_advice_132 rfl (lv_at hl 5 rfl) ?_
                refine bs_ne (tgt := 140) (X := (x2).toInt) hx hb dX11_advice_133 (by decide) rfl (fun c26 => ?_) (fun c26 => ?_)
                · refine lv_iload hx hb dX11_advice_140 (lv_at hl 1 rfl) ?_
                  refine hret _ _ _ _ _ _ dX11_advice_142 rfl ?_ hO
                  exact ⟨hJ, hT⟩
                · refine lv_iload_n hx hb dX11_advice_136 rfl (lv_at hl 2 rfl) ?_
                  refine lv_goto (tgt := 142) hx hb dX11_advice_137 (by decide) ?_
                  refine hret _ _ _ _ _ _ dX11_advice_142 rfl ?_ hO
                  exact ⟨hJ, hT⟩
              · refine lv_ldcw (v := (-1000000000)) hx hb hown (ht _ wd_1788) dX11_advice_126 ?_
                refine lv_goto (tgt := 142) hx hb dX11_advice_129 (by decide) ?_
                refine hret _ _ _ _ _ _ dX11_advice_142 rfl ?_ hO
                exact ⟨hJ, hT⟩
            · refine lv_aload_n hx hb dX11_advice_54 rfl (lv_at hl 3 rfl) ?_
              refine gf_RX11_97 (v := .ref (a 28)) C hO 0 mW_0 rfl dX11_advice_55 ?_
              refine lv_bipush (v := 6) hx hb dX11_advice_58 (by decide) ?_
              refine lv_iload_n hx hb dX11_advice_60 rfl (lv_at hl 4 rfl) ?_
              refine lv_iadd hx hb dX11_advice_61 ?_
              refine lv_topi (fun z27 ez27 => ?_)
              have e28 : z27.toInt = 6 + (x1).toInt := by rw [ez27]; exact i_add rfl rfl (by omega)
              refine aI C hO 28 mW_28 (i_in (X := (6 + (x1).toInt)) e28 (by omega) (by omega)) dX11_advice_62 ?_
              refine tE (y := (fA u 28 (z27).toNatClampNeg)) (by exact (congrFun (Km2_A28 hT) _)) ?_
              refine lv_iload hx hb dX11_advice_63 (lv_at hl 0 rfl) ?_
              refine cSi (w := mW cy a) (As := [.int (fA u 28 (z27).toNatClampNeg), .int i_k18]) (rest := []) C hO (T_X11_bit l D cy a _ (by exact hJ) ((fA u 28 (z27).toNatClampNeg)) (i_k18)) (va_cwS 2 ht (gSS wd_1612 wd_1613 wd_121 wd_1614) rfl rfl rfl hd_yX11_bit ⟨Nat.le_of_ble_eq_true rfl, Nat.le_of_ble_eq_true rfl⟩)  rfl hl.1 (Nat.le_of_ble_eq_true rfl) dX11_advice_65 rfl ⟨Nat.zero_le _, Nat.zero_le _⟩ (fun r29 u30 H locs hp31 hO => ?_)
              obtain ⟨hr29, hu30⟩ := hp31
              rw [hu30] at hO
              obtain ⟨hr29, hbr29⟩ := hr29
              have gr29 : 0 ≤ r29.toInt ∧ r29.toInt ≤ 1 := by rcases hr29 with h | h <;> rw [h] <;> decide
              refine bs_eq (tgt := 74) (X := (r29).toInt) hx hb dX11_advice_68 (by decide) rfl (fun c32 => ?_) (fun c32 => ?_)
              · refine lv_aload_n hx hb dX11_advice_74 rfl (lv_at hl 3 rfl) ?_
                refine lv_iload_n hx hb dX11_advice_75 rfl (lv_at hl 4 rfl) ?_
                refine lv_aload_n hx hb dX11_advice_76 rfl (lv_at hl 3 rfl) ?_
                refine gf_RX11_97 (v := .ref (a 28)) C hO 0 mW_0 rfl dX11_advice_77 ?_
                refine lv_bipush (v := 6) hx hb dX11_advice_80 (by decide) ?_
                refine lv_iload_n hx hb dX11_advice_82 rfl (lv_at hl 4 rfl) ?_
                refine lv_iadd hx hb dX11_advice_83 ?_
                refine lv_topi (fun z33 ez33 => ?_)
                have e34 : z33.toInt = 6 + (x1).toInt := by rw [ez33]; exact i_add rfl rfl (by omega)
                refine aI C hO 28 mW_28 (i_in (X := (6 + (x1).toInt)) e34 (by omega) (by omega)) dX11_advice_84 ?_
                refine tE (y := (fA u 28 (z33).toNatClampNeg)) (by exact (congrFun (Km2_A28 hT) _)) ?_
                refine lv_iconst (v := 1) hx hb dX11_advice_85 (by decide) ?_
                refine lv_iload hx hb dX11_advice_86 (lv_at hl 0 rfl) ?_
                refine lv_ishl hx hb dX11_advice_88 ?_
                refine lv_topi (fun z35 ez35 => ?_)
                have g36 : 0 ≤ z35.toInt ∧ z35.toInt ≤ 2 ^ 7 := by rw [ez35]; exact i_shl1 rfl (by omega) (by omega) (by decide)
                refine lv_ior hx hb dX11_advice_89 ?_
                refine lv_topi (fun z37 ez37 => ?_)
                refine cVi (w := mW cy a) (As := [.int x1, .int z37]) (rest := []) C hO (T_X11_verdictBy l D cy a _ (by exact hJ) (x1) (z37) (by first | omega | decide)) (cwV 2 ht (gV wd_1765 wd_1767 wd_85 wd_121 wd_1768) rfl rfl rfl hd_yX11_verdictBy ⟨Nat.le_of_ble_eq_true rfl, Nat.le_of_ble_eq_true rfl⟩) 0 rfl mW_0 rfl rfl hl.1 (Nat.le_of_ble_eq_true rfl) dX11_advice_90 rfl ⟨Nat.zero_le _, Nat.zero_le _⟩ (fun r38 u39 H locs hp40 hO => ?_)
                obtain ⟨hJ, hTu39⟩ := hp40
                have hT : Km2 u u39 := Km2.tr (by exact hT) hTu39
                refine lv_istore (lv' := [(6, .int r38), (5, .int i_k18), (4, .int w4_k18), (3, .int w3_k18), (0, .ref (a 0)), (1, .int x1), (2, .int x2)]) hx hb dX11_advice_93 hl (by decide) rfl (fun ls hl => ?_)
                refine lv_iload_n hx hb dX11_advice_95 rfl (lv_at hl 3 rfl) ?_
                refine bs_lt (tgt := 109) (X := (w3_k18).toInt) hx hb dX11_advice_96 (by decide) rfl (fun c41 => ?_) (fun c41 => ?_)
                · refine lv_iload hx hb dX11_advice_109 (lv_at hl 1 rfl) ?_
                  refine lv_istore_n (lv' := [(3, .int i_k18), (6, .int r38), (5, .int i_k18), (4, .int w4_k18), (0, .ref (a 0)), (1, .int x1), (2, .int x2)]) hx hb dX11_advice_111 rfl hl (by decide) rfl (fun ls hl => ?_)
                  refine lv_iload hx hb dX11_advice_112 (lv_at hl 1 rfl) ?_
                  refine lv_istore (lv' := [(4, .int r38), (3, .int i_k18), (6, .int r38), (5, .int i_k18), (0, .ref (a 0)), (1, .int x1), (2, .int x2)]) hx hb dX11_advice_114 hl (by decide) rfl (fun ls hl => ?_)
                  obtain ⟨z42, ez42⟩ : ∃ z : Int32, z = i_k18 + Int32.ofInt 1 := ⟨_, rfl⟩
                  have e43 : z42.toInt = (i_k18).toInt + 1 := by rw [ez42]; exact i_add rfl rfl (by omega)
                  refine lv_iinc (v := z42) (lv' := [(5, .int z42), (4, .int r38), (3, .int i_k18), (6, .int r38), (0, .ref (a 0)), (1, .int x1), (2, .int x2)]) hx hb dX11_advice_116 hl (k := 3) rfl ez42.symm (by decide) rfl (fun ls hl => ?_)
                  refine lv_goto (tgt := 45) hx hb dX11_advice_119 (by decide) ?_
                  exact ih_k18 _ _ _ _ (z42) (r38) (i_k18) hO (lv_sub hl [0, 1, 2, 4, 5, 6] rfl) (by exact hJ) (by exact hT) (by first | decide | omega) (by first | decide | omega)
                · refine lv_iload hx hb dX11_advice_99 (lv_at hl 0 rfl) ?_
                  refine lv_iload hx hb dX11_advice_101 (lv_at hl 2 rfl) ?_
                  refine cs_gt (tgt := 109) (X := (r38).toInt) (Y := (w4_k18).toInt) hx hb dX11_advice_103 (by decide) rfl rfl (fun c44 => ?_) (fun c44 => ?_)
                  · refine lv_iload hx hb dX11_advice_109 (lv_at hl 1 rfl) ?_
                    refine lv_istore_n (lv' := [(3, .int i_k18), (6, .int r38), (5, .int i_k18), (4, .int w4_k18), (0, .ref (a 0)), (1, .int x1), (2, .int x2)]) hx hb dX11_advice_111 rfl hl (by decide) rfl (fun ls hl => ?_)
                    refine lv_iload hx hb dX11_advice_112 (lv_at hl 1 rfl) ?_
                    refine lv_istore (lv' := [(4, .int r38), (3, .int i_k18), (6, .int r38), (5, .int i_k18), (0, .ref (a 0)), (1, .int x1), (2, .int x2)]) hx hb dX11_advice_114 hl (by decide) rfl (fun ls hl => ?_)
                    obtain ⟨z45, ez45⟩ : ∃ z : Int32, z = i_k18 + Int32.ofInt 1 := ⟨_, rfl⟩
                    have e46 : z45.toInt = (i_k18).toInt + 1 := by rw [ez45]; exact i_add rfl rfl (by omega)
                    refine lv_iinc (v := z45) (lv' := [(5, .int z45), (4, .int r38), (3, .int i_k18), (6, .int r38), (0, .ref (a 0)), (1, .int x1), (2, .int x2)]) hx hb dX11_advice_116 hl (k := 3) rfl ez45.symm (by decide) rfl (fun ls hl => ?_)
                    refine lv_goto (tgt := 45) hx hb dX11_advice_119 (by decide) ?_
                    exact ih_k18 _ _ _ _ (z45) (r38) (i_k18) hO (lv_sub hl [0, 1, 2, 4, 5, 6] rfl) (by exact hJ) (by exact hT) (by first | decide | omega) (by first | decide | omega)
                  · refine lv_goto (tgt := 116) hx hb dX11_advice_106 (by decide) ?_
                    obtain ⟨z47, ez47⟩ : ∃ z : Int32, z = i_k18 + Int32.ofInt 1 := ⟨_, rfl⟩
                    have e48 : z47.toInt = (i_k18).toInt + 1 := by rw [ez47]; exact i_add rfl rfl (by omega)
                    refine lv_iinc (v := z47) (lv' := [(5, .int z47), (6, .int r38), (4, .int w4_k18), (3, .int w3_k18), (0, .ref (a 0)), (1, .int x1), (2, .int x2)]) hx hb dX11_advice_116 hl (k := 1) rfl ez47.symm (by decide) rfl (fun ls hl => ?_)
                    refine lv_goto (tgt := 45) hx hb dX11_advice_119 (by decide) ?_
                    exact ih_k18 _ _ _ _ (z47) (w4_k18) (w3_k18) hO (lv_sub hl [0, 2, 3, 4, 5, 6] rfl) (by exact hJ) (by exact hT) (by first | decide | omega) (by first | decide | omega)
              · refine lv_goto (tgt := 116) hx hb dX11_advice_71 (by decide) ?_
                obtain ⟨z49, ez49⟩ : ∃ z : Int32, z = i_k18 + Int32.ofInt 1 := ⟨_, rfl⟩
                have e50 : z49.toInt = (i_k18).toInt + 1 := by rw [ez49]; exact i_add rfl rfl (by omega)
                refine lv_iinc (v := z49) (lv' := [(5, .int z49), (4, .int w4_k18), (3, .int w3_k18), (0, .ref (a 0)), (1, .int x1), (2, .int x2)]) hx hb dX11_advice_116 hl (k := 0) rfl ez49.symm (by decide) rfl (fun ls hl => ?_)
                refine lv_goto (tgt := 45) hx hb dX11_advice_119 (by decide) ?_
                exact ih_k18 _ _ _ _ (z49) (w4_k18) (w3_k18) hO (lv_sub hl [0, 1, 2, 3, 4, 5] rfl) (by exact hJ) (by exact hT) (by first | decide | omega) (by first | decide | omega)
        have zc51 : ((-1) : Int32).toInt = (-1) := rfl
        have zc52 : (0 : Int32).toInt = 0 := rfl
        exact LP_45_k18 4000 _ _ _ _ (0) (0) ((-1)) hO (lv_sub hl [0, 1, 2, 3, 4, 5] rfl) (by exact hJ) (by exact hT) (by first | decide | omega) (by first | decide | omega)
      · refine lv_ldcw (v := (-1000000000)) hx hb hown (ht _ wd_1788) dX11_advice_33 ?_
        refine hret _ _ _ _ _ _ dX11_advice_36 rfl ?_ hO
        exact ⟨hJ, hT⟩
    · subst hvr6
      refine bt_eq (tgt := 33) (X := 0) hx hb dX11_advice_14 (by decide) rfl (by omega) ?_
      refine lv_ldcw (v := (-1000000000)) hx hb hown (ht _ wd_1788) dX11_advice_33 ?_
      refine hret _ _ _ _ _ _ dX11_advice_36 rfl ?_ hO
      exact ⟨hJ, hT⟩
  · subst hvr3
    refine bt_eq (tgt := 33) (X := 0) hx hb dX11_advice_5 (by decide) rfl (by omega) ?_
    refine lv_ldcw (v := (-1000000000)) hx hb hown (ht _ wd_1788) dX11_advice_33 ?_
    refine hret _ _ _ _ _ _ dX11_advice_36 rfl ?_ hO
    exact ⟨hJ, hT⟩
theorem dX11_forbid_0 : decode cX11_forbid 0 = .ok (.iload_n 1, 1) := by decide +kernel
theorem dX11_forbid_1 : decode cX11_forbid 1 = .ok (.iconst 0, 1) := by decide +kernel
theorem dX11_forbid_2 : decode cX11_forbid 2 = .ok (.iconst 1, 1) := by decide +kernel
theorem dX11_forbid_3 : decode cX11_forbid 3 = .ok (.invokestatic 374, 3) := by decide +kernel
theorem dX11_forbid_6 : decode cX11_forbid 6 = .ok (.ifCond .ne 5, 3) := by decide +kernel
theorem dX11_forbid_9 : decode cX11_forbid 9 = .ok (.iconst (-1), 1) := by decide +kernel
theorem dX11_forbid_10 : decode cX11_forbid 10 = .ok (.ireturn, 1) := by decide +kernel
theorem dX11_forbid_11 : decode cX11_forbid 11 = .ok (.iconst (-1), 1) := by decide +kernel
theorem dX11_forbid_12 : decode cX11_forbid 12 = .ok (.istore_n 2, 1) := by decide +kernel
theorem dX11_forbid_13 : decode cX11_forbid 13 = .ok (.sipush 1000, 3) := by decide +kernel
theorem dX11_forbid_16 : decode cX11_forbid 16 = .ok (.istore_n 3, 1) := by decide +kernel
theorem dX11_forbid_17 : decode cX11_forbid 17 = .ok (.iconst 0, 1) := by decide +kernel
theorem dX11_forbid_18 : decode cX11_forbid 18 = .ok (.istore 4, 2) := by decide +kernel
theorem dX11_forbid_20 : decode cX11_forbid 20 = .ok (.iload 4, 2) := by decide +kernel
theorem dX11_forbid_22 : decode cX11_forbid 22 = .ok (.aload_n 0, 1) := by decide +kernel
theorem dX11_forbid_23 : decode cX11_forbid 23 = .ok (.invokevirtual 377, 3) := by decide +kernel
theorem dX11_forbid_26 : decode cX11_forbid 26 = .ok (.if_icmp .ge 90, 3) := by decide +kernel
theorem dX11_forbid_29 : decode cX11_forbid 29 = .ok (.iconst 0, 1) := by decide +kernel
theorem dX11_forbid_30 : decode cX11_forbid 30 = .ok (.istore 5, 2) := by decide +kernel
theorem dX11_forbid_32 : decode cX11_forbid 32 = .ok (.iconst 0, 1) := by decide +kernel
theorem dX11_forbid_33 : decode cX11_forbid 33 = .ok (.istore 6, 2) := by decide +kernel
theorem dX11_forbid_35 : decode cX11_forbid 35 = .ok (.iload 6, 2) := by decide +kernel
theorem dX11_forbid_37 : decode cX11_forbid 37 = .ok (.aload_n 0, 1) := by decide +kernel
theorem dX11_forbid_38 : decode cX11_forbid 38 = .ok (.invokevirtual 371, 3) := by decide +kernel
theorem dX11_forbid_41 : decode cX11_forbid 41 = .ok (.if_icmp .ge 54, 3) := by decide +kernel
theorem dX11_forbid_44 : decode cX11_forbid 44 = .ok (.iload 5, 2) := by decide +kernel
theorem dX11_forbid_46 : decode cX11_forbid 46 = .ok (.aload_n 0, 1) := by decide +kernel
theorem dX11_forbid_47 : decode cX11_forbid 47 = .ok (.iload 6, 2) := by decide +kernel
theorem dX11_forbid_49 : decode cX11_forbid 49 = .ok (.invokevirtual 413, 3) := by decide +kernel
theorem dX11_forbid_52 : decode cX11_forbid 52 = .ok (.ifCond .eq 33, 3) := by decide +kernel
theorem dX11_forbid_55 : decode cX11_forbid 55 = .ok (.aload_n 0, 1) := by decide +kernel
theorem dX11_forbid_56 : decode cX11_forbid 56 = .ok (.iload 6, 2) := by decide +kernel
theorem dX11_forbid_58 : decode cX11_forbid 58 = .ok (.aload_n 0, 1) := by decide +kernel
theorem dX11_forbid_59 : decode cX11_forbid 59 = .ok (.getfield 97, 3) := by decide +kernel
theorem dX11_forbid_62 : decode cX11_forbid 62 = .ok (.bipush 6, 2) := by decide +kernel
theorem dX11_forbid_64 : decode cX11_forbid 64 = .ok (.iload 6, 2) := by decide +kernel
theorem dX11_forbid_66 : decode cX11_forbid 66 = .ok (.iadd, 1) := by decide +kernel
theorem dX11_forbid_67 : decode cX11_forbid 67 = .ok (.iaload, 1) := by decide +kernel
theorem dX11_forbid_68 : decode cX11_forbid 68 = .ok (.iconst 1, 1) := by decide +kernel
theorem dX11_forbid_69 : decode cX11_forbid 69 = .ok (.iload 4, 2) := by decide +kernel
theorem dX11_forbid_71 : decode cX11_forbid 71 = .ok (.ishl, 1) := by decide +kernel
theorem dX11_forbid_72 : decode cX11_forbid 72 = .ok (.iconst (-1), 1) := by decide +kernel
theorem dX11_forbid_73 : decode cX11_forbid 73 = .ok (.ixor, 1) := by decide +kernel
theorem dX11_forbid_74 : decode cX11_forbid 74 = .ok (.iand, 1) := by decide +kernel
theorem dX11_forbid_75 : decode cX11_forbid 75 = .ok (.invokevirtual 410, 3) := by decide +kernel
theorem dX11_forbid_78 : decode cX11_forbid 78 = .ok (.ifCond .le 7, 3) := by decide +kernel
theorem dX11_forbid_81 : decode cX11_forbid 81 = .ok (.iconst 1, 1) := by decide +kernel
theorem dX11_forbid_82 : decode cX11_forbid 82 = .ok (.goto 4, 3) := by decide +kernel
theorem dX11_forbid_85 : decode cX11_forbid 85 = .ok (.iconst 0, 1) := by decide +kernel
theorem dX11_forbid_86 : decode cX11_forbid 86 = .ok (.iadd, 1) := by decide +kernel
theorem dX11_forbid_87 : decode cX11_forbid 87 = .ok (.istore 5, 2) := by decide +kernel
theorem dX11_forbid_89 : decode cX11_forbid 89 = .ok (.iinc 6 1, 3) := by decide +kernel
theorem dX11_forbid_92 : decode cX11_forbid 92 = .ok (.goto (-57), 3) := by decide +kernel
theorem dX11_forbid_95 : decode cX11_forbid 95 = .ok (.iload 5, 2) := by decide +kernel
theorem dX11_forbid_97 : decode cX11_forbid 97 = .ok (.iload_n 3, 1) := by decide +kernel
theorem dX11_forbid_98 : decode cX11_forbid 98 = .ok (.if_icmp .lt 6, 3) := by decide +kernel
theorem dX11_forbid_101 : decode cX11_forbid 101 = .ok (.goto 9, 3) := by decide +kernel
theorem dX11_forbid_104 : decode cX11_forbid 104 = .ok (.iload 4, 2) := by decide +kernel
theorem dX11_forbid_106 : decode cX11_forbid 106 = .ok (.istore_n 2, 1) := by decide +kernel
theorem dX11_forbid_107 : decode cX11_forbid 107 = .ok (.iload 5, 2) := by decide +kernel
theorem dX11_forbid_109 : decode cX11_forbid 109 = .ok (.istore_n 3, 1) := by decide +kernel
theorem dX11_forbid_110 : decode cX11_forbid 110 = .ok (.iinc 4 1, 3) := by decide +kernel
theorem dX11_forbid_113 : decode cX11_forbid 113 = .ok (.goto (-93), 3) := by decide +kernel
theorem dX11_forbid_116 : decode cX11_forbid 116 = .ok (.iload_n 2, 1) := by decide +kernel
theorem dX11_forbid_117 : decode cX11_forbid 117 = .ok (.ifCond .ge 7, 3) := by decide +kernel
theorem dX11_forbid_120 : decode cX11_forbid 120 = .ok (.iconst (-1), 1) := by decide +kernel
theorem dX11_forbid_121 : decode cX11_forbid 121 = .ok (.goto 12, 3) := by decide +kernel
theorem dX11_forbid_124 : decode cX11_forbid 124 = .ok (.iload_n 1, 1) := by decide +kernel
theorem dX11_forbid_125 : decode cX11_forbid 125 = .ok (.ifCond .ne 7, 3) := by decide +kernel
theorem dX11_forbid_128 : decode cX11_forbid 128 = .ok (.iload_n 2, 1) := by decide +kernel
theorem dX11_forbid_129 : decode cX11_forbid 129 = .ok (.goto 4, 3) := by decide +kernel
theorem dX11_forbid_132 : decode cX11_forbid 132 = .ok (.iload_n 3, 1) := by decide +kernel
theorem dX11_forbid_133 : decode cX11_forbid 133 = .ok (.ireturn, 1) := by decide +kernel
theorem wd_1895 : (Cond.code ⟨"WebCourtModel", "forbid", "(I)I"⟩ prog_13_method_91_code (7 : Nat) (Option.some FieldType.int)) ∈ gtb := gtb_c8 106 (by decide +kernel) rfl
set_option maxHeartbeats 4000000 in
set_option maxRecDepth 100000 in
theorem T_X11_forbid (l : Launch) (D : va_G) (cy : Nat → ClassId) (a : Nat → Nat) (u : St) (hJ : MI a u) (x1 : Int32)  : Mi l D cy (mW cy a) yX11_forbid (.code yX11_forbid cX11_forbid 7 (some .int)) (rmo 6 132) [.ref (a 0), .int x1] u (fun (r : Int32) (u' : St) => (MI a u') ∧ (Km2 u u')) := by
  refine Mi.of (own := RX11) rfl (by decide) (Nat.le_of_ble_eq_true rfl) ?_
  have hT : Km2 u u := Km2.rf
  have hJ0 := hJ
  intro p e s m below meth c A Q ls C hret hO hl
  obtain ⟨hx, hb, hml, hown, ht, hK, hA⟩ := id C
  have hl : lv_has ls 7 [(0, .ref (a 0)), (1, .int x1)] := hl
  refine lv_iload_n hx hb dX11_forbid_0 rfl (lv_at hl 1 rfl) ?_
  refine lv_iconst (v := 0) hx hb dX11_forbid_1 (by decide) ?_
  refine lv_iconst (v := 1) hx hb dX11_forbid_2 (by decide) ?_
  refine cSi (w := mW cy a) (As := [.int x1, .int 0, .int 1]) (rest := []) C hO (T_X11_isIn l D cy a _ (by exact hJ) (x1) (0) (1)) (va_cwS 3 ht (gSS wd_1722 wd_1723 wd_121 wd_1724) rfl rfl rfl hd_yX11_isIn ⟨Nat.le_of_ble_eq_true rfl, Nat.le_of_ble_eq_true rfl⟩)  rfl hl.1 (Nat.le_of_ble_eq_true rfl) dX11_forbid_3 rfl ⟨Nat.zero_le _, Nat.zero_le _⟩ (fun r1 u2 H locs hp3 hO => ?_)
  obtain ⟨hr1, hu2⟩ := hp3
  rw [hu2] at hO
  have zz4 : (0 : Int32).toInt = 0 := rfl
  have zz5 : (1 : Int32).toInt = 1 := rfl
  rcases hr1 with ⟨hcr1, hvr1⟩ | ⟨hcr1, hvr1⟩
  · subst hvr1
    refine bt_ne (tgt := 11) (X := 1) hx hb dX11_forbid_6 (by decide) rfl (by omega) ?_
    refine lv_iconst (v := (-1)) hx hb dX11_forbid_11 (by decide) ?_
    refine lv_istore_n (lv' := [(2, .int (-1)), (0, .ref (a 0)), (1, .int x1)]) hx hb dX11_forbid_12 rfl hl (by decide) rfl (fun ls hl => ?_)
    refine lv_sipush (v := 1000) hx hb dX11_forbid_13 (by decide) ?_
    refine lv_istore_n (lv' := [(3, .int 1000), (2, .int (-1)), (0, .ref (a 0)), (1, .int x1)]) hx hb dX11_forbid_16 rfl hl (by decide) rfl (fun ls hl => ?_)
    refine lv_iconst (v := 0) hx hb dX11_forbid_17 (by decide) ?_
    refine lv_istore (lv' := [(4, .int 0), (3, .int 1000), (2, .int (-1)), (0, .ref (a 0)), (1, .int x1)]) hx hb dX11_forbid_18 hl (by decide) rfl (fun ls hl => ?_)
    have LP_20_k7 : ∀ (n : Nat) (u6 : St) (H : Heap) (locs : List Loc) (ls : Array Slot) (i_k7 : Int32) (w3_k7 : Int32) (w2_k7 : Int32), Wo D A (mW cy a u6) s.heap H locs → lv_has ls 7 [(4, .int i_k7), (3, .int w3_k7), (2, .int w2_k7), (0, .ref (a 0)), (1, .int x1)] → MI a u6 → Km2 u u6 → 0 ≤ i_k7.toInt ∧ i_k7.toInt ≤ 8 → 8 - i_k7.toInt < (n : Int) → W p l e (rmo 6 132) s m [.ref (a 0), .int x1].toArray below meth c H locs 0 0 Q (F0 m 20 ls []) := by
      intro n
      induction n with
      | zero =>
        intro u6 H locs ls i_k7 w3_k7 w2_k7 hO hl hJ hT iv0_k7 hm_k7
        exact absurd hm_k7 (by omega)
      | succ n ih_k7 =>
        intro u6 H locs ls i_k7 w3_k7 w2_k7 hO hl hJ hT iv0_k7 hm_k7
        refine lv_iload hx hb dX11_forbid_20 (lv_at hl 0 rfl) ?_
        refine lv_aload_n hx hb dX11_forbid_22 rfl (lv_at hl 3 rfl) ?_
        have g8 : 0 ≤ (fI u 0 36).toInt ∧ (fI u 0 36).toInt ≤ 1 := by have h := MI_36 hJ0; exact h
        have g9 : 0 ≤ (fA u 5 ((fI u 0 36)).toNatClampNeg).toInt ∧ (fA u 5 ((fI u 0 36)).toNatClampNeg).toInt ≤ 8 := by have h := MI_A5 hJ0 ((fI u 0 36)).toNatClampNeg; exact h
        refine cVi (w := mW cy a) (As := []) (rest := [.int i_k7]) C hO (T_X11_pleads l D cy a _ (by exact hJ) ((fA u 5 ((fI u 0 36)).toNatClampNeg)) (by exact (Eq.trans (congrArg (fun z : Int32 => fA _ 5 z.toNatClampNeg) (Km2_I36 hT)) (congrFun (Km2_A5 hT) _)))) (cwV 0 ht (gV wd_1745 wd_1747 wd_82 wd_121 wd_1748) rfl rfl rfl hd_yX11_pleads ⟨Nat.le_of_ble_eq_true rfl, Nat.le_of_ble_eq_true rfl⟩) 0 rfl mW_0 rfl rfl hl.1 (Nat.le_of_ble_eq_true rfl) dX11_forbid_23 rfl ⟨Nat.zero_le _, Nat.zero_le _⟩ (fun r10 u11 H locs hp12 hO => ?_)
        obtain ⟨hr10, hu11⟩ := hp12
        refine tE hr10 ?_
        rw [hu11] at hO
        refine cs_ge (tgt := 116) (X := (i_k7).toInt) (Y := ((fA u 5 ((fI u 0 36)).toNatClampNeg)).toInt) hx hb dX11_forbid_26 (by decide) rfl rfl (fun c13 => ?_) (fun c13 => ?_)
        · refine lv_iload_n hx hb dX11_forbid_116 rfl (lv_at hl 2 rfl) ?_
          refine bs_ge (tgt := 124) (X := (w2_k7).toInt) hx hb dX11_forbid_117 (by decide) rfl (fun c14 => ?_) (fun c14 => ?_)
          · refine lv_iload_n hx hb dX11_forbid_124 rfl (lv_at hl 4 rfl) ?_
            refine bs_ne (tgt := 132) (X := (x1).toInt) hx hb dX11_forbid_125 (by decide) rfl (fun c15 => ?_) (fun c15 => ?_)
            · refine lv_iload_n hx hb dX11_forbid_132 rfl (lv_at hl 1 rfl) ?_
              refine hret _ _ _ _ _ _ dX11_forbid_133 rfl ?_ hO
              exact ⟨hJ, hT⟩
            · refine lv_iload_n hx hb dX11_forbid_128 rfl (lv_at hl 2 rfl) ?_
              refine lv_goto (tgt := 133) hx hb dX11_forbid_129 (by decide) ?_
              refine hret _ _ _ _ _ _ dX11_forbid_133 rfl ?_ hO
              exact ⟨hJ, hT⟩
          · refine lv_iconst (v := (-1)) hx hb dX11_forbid_120 (by decide) ?_
            refine lv_goto (tgt := 133) hx hb dX11_forbid_121 (by decide) ?_
            refine hret _ _ _ _ _ _ dX11_forbid_133 rfl ?_ hO
            exact ⟨hJ, hT⟩
        · refine lv_iconst (v := 0) hx hb dX11_forbid_29 (by decide) ?_
          refine lv_istore (lv' := [(5, .int 0), (4, .int i_k7), (3, .int w3_k7), (2, .int w2_k7), (0, .ref (a 0)), (1, .int x1)]) hx hb dX11_forbid_30 hl (by decide) rfl (fun ls hl => ?_)
          refine lv_iconst (v := 0) hx hb dX11_forbid_32 (by decide) ?_
          refine lv_istore (lv' := [(6, .int 0), (5, .int 0), (4, .int i_k7), (3, .int w3_k7), (2, .int w2_k7), (0, .ref (a 0)), (1, .int x1)]) hx hb dX11_forbid_33 hl (by decide) rfl (fun ls hl => ?_)
          have LP_35_k17 : ∀ (n : Nat) (u16 : St) (H : Heap) (locs : List Loc) (ls : Array Slot) (i_k17 : Int32) (w5_k17 : Int32), Wo D A (mW cy a u16) s.heap H locs → lv_has ls 7 [(6, .int i_k17), (5, .int w5_k17), (4, .int i_k7), (3, .int w3_k7), (2, .int w2_k7), (0, .ref (a 0)), (1, .int x1)] → MI a u16 → Km2 u u16 → 0 ≤ i_k17.toInt ∧ i_k17.toInt ≤ 6 → 6 - i_k17.toInt < (n : Int) → W p l e (rmo 6 132) s m [.ref (a 0), .int x1].toArray below meth c H locs 0 0 Q (F0 m 35 ls []) := by
            intro n
            induction n with
            | zero =>
              intro u16 H locs ls i_k17 w5_k17 hO hl hJ hT iv0_k17 hm_k17
              exact absurd hm_k17 (by omega)
            | succ n ih_k17 =>
              intro u16 H locs ls i_k17 w5_k17 hO hl hJ hT iv0_k17 hm_k17
              refine lv_iload hx hb dX11_forbid_35 (lv_at hl 0 rfl) ?_
              refine lv_aload_n hx hb dX11_forbid_37 rfl (lv_at hl 5 rfl) ?_
              have g18 : 0 ≤ (fI u 0 36).toInt ∧ (fI u 0 36).toInt ≤ 1 := by have h := MI_36 hJ0; exact h
              have g19 : 0 ≤ (fA u 6 ((fI u 0 36)).toNatClampNeg).toInt ∧ (fA u 6 ((fI u 0 36)).toNatClampNeg).toInt ≤ 6 := by have h := MI_A6 hJ0 ((fI u 0 36)).toNatClampNeg; exact h
              refine cVi (w := mW cy a) (As := []) (rest := [.int i_k17]) C hO (T_X11_many l D cy a _ (by exact hJ) ((fA u 6 ((fI u 0 36)).toNatClampNeg)) (by exact (Eq.trans (congrArg (fun z : Int32 => fA _ 6 z.toNatClampNeg) (Km2_I36 hT)) (congrFun (Km2_A6 hT) _)))) (cwV 0 ht (gV wd_1348 wd_1350 wd_46 wd_121 wd_1351) rfl rfl rfl hd_yX11_many ⟨Nat.le_of_ble_eq_true rfl, Nat.le_of_ble_eq_true rfl⟩) 0 rfl mW_0 rfl rfl hl.1 (Nat.le_of_ble_eq_true rfl) dX11_forbid_38 rfl ⟨Nat.zero_le _, Nat.zero_le _⟩ (fun r20 u21 H locs hp22 hO => ?_)
              obtain ⟨hr20, hu21⟩ := hp22
              refine tE hr20 ?_
              rw [hu21] at hO
              refine cs_ge (tgt := 95) (X := (i_k17).toInt) (Y := ((fA u 6 ((fI u 0 36)).toNatClampNeg)).toInt) hx hb dX11_forbid_41 (by decide) rfl rfl (fun c23 => ?_) (fun c23 => ?_)
              · refine lv_iload hx hb dX11_forbid_95 (lv_at hl 1 rfl) ?_
                refine lv_iload_n hx hb dX11_forbid_97 rfl (lv_at hl 3 rfl) ?_
                refine cs_lt (tgt := 104) (X := (w5_k17).toInt) (Y := (w3_k7).toInt) hx hb dX11_forbid_98 (by decide) rfl rfl (fun c24 => ?_) (fun c24 => ?_)
                · refine lv_iload hx hb dX11_forbid_104 (lv_at hl 2 rfl) ?_
                  refine lv_istore_n (lv' := [(2, .int i_k7), (6, .int i_k17), (5, .int w5_k17), (4, .int i_k7), (3, .int w3_k7), (0, .ref (a 0)), (1, .int x1)]) hx hb dX11_forbid_106 rfl hl (by decide) rfl (fun ls hl => ?_)
                  refine lv_iload hx hb dX11_forbid_107 (lv_at hl 2 rfl) ?_
                  refine lv_istore_n (lv' := [(3, .int w5_k17), (2, .int i_k7), (6, .int i_k17), (5, .int w5_k17), (4, .int i_k7), (0, .ref (a 0)), (1, .int x1)]) hx hb dX11_forbid_109 rfl hl (by decide) rfl (fun ls hl => ?_)
                  obtain ⟨z25, ez25⟩ : ∃ z : Int32, z = i_k7 + Int32.ofInt 1 := ⟨_, rfl⟩
                  have e26 : z25.toInt = (i_k7).toInt + 1 := by rw [ez25]; exact i_add rfl rfl (by omega)
                  refine lv_iinc (v := z25) (lv' := [(4, .int z25), (3, .int w5_k17), (2, .int i_k7), (6, .int i_k17), (5, .int w5_k17), (0, .ref (a 0)), (1, .int x1)]) hx hb dX11_forbid_110 hl (k := 4) rfl ez25.symm (by decide) rfl (fun ls hl => ?_)
                  refine lv_goto (tgt := 20) hx hb dX11_forbid_113 (by decide) ?_
                  exact ih_k7 _ _ _ _ (z25) (w5_k17) (i_k7) hO (lv_sub hl [0, 1, 2, 5, 6] rfl) (by exact hJ) (by exact hT) (by first | decide | omega) (by first | decide | omega)
                · refine lv_goto (tgt := 110) hx hb dX11_forbid_101 (by decide) ?_
                  obtain ⟨z27, ez27⟩ : ∃ z : Int32, z = i_k7 + Int32.ofInt 1 := ⟨_, rfl⟩
                  have e28 : z27.toInt = (i_k7).toInt + 1 := by rw [ez27]; exact i_add rfl rfl (by omega)
                  refine lv_iinc (v := z27) (lv' := [(4, .int z27), (6, .int i_k17), (5, .int w5_k17), (3, .int w3_k7), (2, .int w2_k7), (0, .ref (a 0)), (1, .int x1)]) hx hb dX11_forbid_110 hl (k := 2) rfl ez27.symm (by decide) rfl (fun ls hl => ?_)
                  refine lv_goto (tgt := 20) hx hb dX11_forbid_113 (by decide) ?_
                  exact ih_k7 _ _ _ _ (z27) (w3_k7) (w2_k7) hO (lv_sub hl [0, 3, 4, 5, 6] rfl) (by exact hJ) (by exact hT) (by first | decide | omega) (by first | decide | omega)
              · refine lv_iload hx hb dX11_forbid_44 (lv_at hl 1 rfl) ?_
                refine lv_aload_n hx hb dX11_forbid_46 rfl (lv_at hl 5 rfl) ?_
                refine lv_iload hx hb dX11_forbid_47 (lv_at hl 0 rfl) ?_
                refine cVi (w := mW cy a) (As := [.int i_k17]) (rest := [.int w5_k17]) C hO (T_X11_isHeld l D cy a _ (by exact hJ) ((fA u 6 ((fI u 0 36)).toNatClampNeg)) (by exact (Eq.trans (congrArg (fun z : Int32 => fA _ 6 z.toNatClampNeg) (Km2_I36 hT)) (congrFun (Km2_A6 hT) _))) (i_k17)) (cwV 1 ht (gV wd_1797 wd_1799 wd_91 wd_121 wd_1800) rfl rfl rfl hd_yX11_isHeld ⟨Nat.le_of_ble_eq_true rfl, Nat.le_of_ble_eq_true rfl⟩) 0 rfl mW_0 rfl rfl hl.1 (Nat.le_of_ble_eq_true rfl) dX11_forbid_49 rfl ⟨Nat.zero_le _, Nat.zero_le _⟩ (fun r29 u30 H locs hp31 hO => ?_)
                obtain ⟨hr29, hu30⟩ := hp31
                rw [hu30] at hO
                rcases hr29 with ⟨hcr29, hvr29⟩ | ⟨hcr29, hvr29⟩
                · subst hvr29
                  refine bn_eq (X := 1) hx hb dX11_forbid_52 rfl (by omega) ?_ (tgt := 85) (by decide)
                  refine lv_aload_n hx hb dX11_forbid_55 rfl (lv_at hl 5 rfl) ?_
                  refine lv_iload hx hb dX11_forbid_56 (lv_at hl 0 rfl) ?_
                  refine lv_aload_n hx hb dX11_forbid_58 rfl (lv_at hl 5 rfl) ?_
                  refine gf_RX11_97 (v := .ref (a 28)) C hO 0 mW_0 rfl dX11_forbid_59 ?_
                  refine lv_bipush (v := 6) hx hb dX11_forbid_62 (by decide) ?_
                  refine lv_iload hx hb dX11_forbid_64 (lv_at hl 0 rfl) ?_
                  refine lv_iadd hx hb dX11_forbid_66 ?_
                  refine lv_topi (fun z32 ez32 => ?_)
                  have e33 : z32.toInt = 6 + (i_k17).toInt := by rw [ez32]; exact i_add rfl rfl (by omega)
                  refine aI C hO 28 mW_28 (i_in (X := (6 + (i_k17).toInt)) e33 (by omega) (by omega)) dX11_forbid_67 ?_
                  refine tE (y := (fA u 28 (z32).toNatClampNeg)) (by exact (congrFun (Km2_A28 hT) _)) ?_
                  refine lv_iconst (v := 1) hx hb dX11_forbid_68 (by decide) ?_
                  refine lv_iload hx hb dX11_forbid_69 (lv_at hl 2 rfl) ?_
                  refine lv_ishl hx hb dX11_forbid_71 ?_
                  refine lv_topi (fun z34 ez34 => ?_)
                  have g35 : 0 ≤ z34.toInt ∧ z34.toInt ≤ 2 ^ 7 := by rw [ez34]; exact i_shl1 rfl (by omega) (by omega) (by decide)
                  refine lv_iconst (v := (-1)) hx hb dX11_forbid_72 (by decide) ?_
                  refine lv_ixor hx hb dX11_forbid_73 ?_
                  refine lv_topi (fun z36 ez36 => ?_)
                  refine lv_iand hx hb dX11_forbid_74 ?_
                  refine lv_topi (fun z37 ez37 => ?_)
                  refine cVi (w := mW cy a) (As := [.int i_k17, .int z37]) (rest := [.int w5_k17]) C hO (T_X11_verdictBy l D cy a _ (by exact hJ) (i_k17) (z37) (by first | omega | decide)) (cwV 2 ht (gV wd_1765 wd_1767 wd_85 wd_121 wd_1768) rfl rfl rfl hd_yX11_verdictBy ⟨Nat.le_of_ble_eq_true rfl, Nat.le_of_ble_eq_true rfl⟩) 0 rfl mW_0 rfl rfl hl.1 (Nat.le_of_ble_eq_true rfl) dX11_forbid_75 rfl ⟨Nat.zero_le _, Nat.zero_le _⟩ (fun r38 u39 H locs hp40 hO => ?_)
                  obtain ⟨hJ, hTu39⟩ := hp40
                  have hT : Km2 u u39 := Km2.tr (by exact hT) hTu39
                  refine bs_le (tgt := 85) (X := (r38).toInt) hx hb dX11_forbid_78 (by decide) rfl (fun c41 => ?_) (fun c41 => ?_)
                  · refine lv_iconst (v := 0) hx hb dX11_forbid_85 (by decide) ?_
                    refine lv_iadd hx hb dX11_forbid_86 ?_
                    refine lv_topi (fun z42 ez42 => ?_)
                    refine lv_istore (lv' := [(5, .int z42), (6, .int i_k17), (4, .int i_k7), (3, .int w3_k7), (2, .int w2_k7), (0, .ref (a 0)), (1, .int x1)]) hx hb dX11_forbid_87 hl (by decide) rfl (fun ls hl => ?_)
                    obtain ⟨z43, ez43⟩ : ∃ z : Int32, z = i_k17 + Int32.ofInt 1 := ⟨_, rfl⟩
                    have e44 : z43.toInt = (i_k17).toInt + 1 := by rw [ez43]; exact i_add rfl rfl (by omega)
                    refine lv_iinc (v := z43) (lv' := [(6, .int z43), (5, .int z42), (4, .int i_k7), (3, .int w3_k7), (2, .int w2_k7), (0, .ref (a 0)), (1, .int x1)]) hx hb dX11_forbid_89 hl (k := 1) rfl ez43.symm (by decide) rfl (fun ls hl => ?_)
                    refine lv_goto (tgt := 35) hx hb dX11_forbid_92 (by decide) ?_
                    exact ih_k17 _ _ _ _ (z43) (z42) hO (lv_sub hl [0, 1, 2, 3, 4, 5, 6] rfl) (by exact hJ) (by exact hT) (by first | decide | omega) (by first | decide | omega)
                  · refine lv_iconst (v := 1) hx hb dX11_forbid_81 (by decide) ?_
                    refine lv_goto (tgt := 86) hx hb dX11_forbid_82 (by decide) ?_
                    refine lv_iadd hx hb dX11_forbid_86 ?_
                    refine lv_topi (fun z45 ez45 => ?_)
                    refine lv_istore (lv' := [(5, .int z45), (6, .int i_k17), (4, .int i_k7), (3, .int w3_k7), (2, .int w2_k7), (0, .ref (a 0)), (1, .int x1)]) hx hb dX11_forbid_87 hl (by decide) rfl (fun ls hl => ?_)
                    obtain ⟨z46, ez46⟩ : ∃ z : Int32, z = i_k17 + Int32.ofInt 1 := ⟨_, rfl⟩
                    have e47 : z46.toInt = (i_k17).toInt + 1 := by rw [ez46]; exact i_add rfl rfl (by omega)
                    refine lv_iinc (v := z46) (lv' := [(6, .int z46), (5, .int z45), (4, .int i_k7), (3, .int w3_k7), (2, .int w2_k7), (0, .ref (a 0)), (1, .int x1)]) hx hb dX11_forbid_89 hl (k := 1) rfl ez46.symm (by decide) rfl (fun ls hl => ?_)
                    refine lv_goto (tgt := 35) hx hb dX11_forbid_92 (by decide) ?_
                    exact ih_k17 _ _ _ _ (z46) (z45) hO (lv_sub hl [0, 1, 2, 3, 4, 5, 6] rfl) (by exact hJ) (by exact hT) (by first | decide | omega) (by first | decide | omega)
                · subst hvr29
                  refine bt_eq (tgt := 85) (X := 0) hx hb dX11_forbid_52 (by decide) rfl (by omega) ?_
                  refine lv_iconst (v := 0) hx hb dX11_forbid_85 (by decide) ?_
                  refine lv_iadd hx hb dX11_forbid_86 ?_
                  refine lv_topi (fun z48 ez48 => ?_)
                  refine lv_istore (lv' := [(5, .int z48), (6, .int i_k17), (4, .int i_k7), (3, .int w3_k7), (2, .int w2_k7), (0, .ref (a 0)), (1, .int x1)]) hx hb dX11_forbid_87 hl (by decide) rfl (fun ls hl => ?_)
                  obtain ⟨z49, ez49⟩ : ∃ z : Int32, z = i_k17 + Int32.ofInt 1 := ⟨_, rfl⟩
                  have e50 : z49.toInt = (i_k17).toInt + 1 := by rw [ez49]; exact i_add rfl rfl (by omega)
                  refine lv_iinc (v := z49) (lv' := [(6, .int z49), (5, .int z48), (4, .int i_k7), (3, .int w3_k7), (2, .int w2_k7), (0, .ref (a 0)), (1, .int x1)]) hx hb dX11_forbid_89 hl (k := 1) rfl ez49.symm (by decide) rfl (fun ls hl => ?_)
                  refine lv_goto (tgt := 35) hx hb dX11_forbid_92 (by decide) ?_
                  exact ih_k17 _ _ _ _ (z49) (z48) hO (lv_sub hl [0, 1, 2, 3, 4, 5, 6] rfl) (by exact hJ) (by exact hT) (by first | decide | omega) (by first | decide | omega)
          have zc51 : (0 : Int32).toInt = 0 := rfl
          exact LP_35_k17 4000 _ _ _ _ (0) (0) hO (lv_sub hl [0, 1, 2, 3, 4, 5, 6] rfl) (by exact hJ) (by exact hT) (by first | decide | omega) (by first | decide | omega)
    have zc52 : ((-1) : Int32).toInt = (-1) := rfl
    have zc53 : (0 : Int32).toInt = 0 := rfl
    have zc54 : (1000 : Int32).toInt = 1000 := rfl
    exact LP_20_k7 4000 _ _ _ _ (0) (1000) ((-1)) hO (lv_sub hl [0, 1, 2, 3, 4] rfl) (by exact hJ) (by exact hT) (by first | decide | omega) (by first | decide | omega)
  · subst hvr1
    refine bn_ne (X := 0) hx hb dX11_forbid_6 rfl (by omega) ?_ (tgt := 11) (by decide)
    refine lv_iconst (v := (-1)) hx hb dX11_forbid_9 (by decide) ?_
    refine hret _ _ _ _ _ _ dX11_forbid_10 rfl ?_ hO
    exact ⟨hJ, hT⟩
theorem dX11_freeWith_0 : decode cX11_freeWith 0 = .ok (.iconst 0, 1) := by decide +kernel
theorem dX11_freeWith_1 : decode cX11_freeWith 1 = .ok (.istore_n 3, 1) := by decide +kernel
theorem dX11_freeWith_2 : decode cX11_freeWith 2 = .ok (.iconst 0, 1) := by decide +kernel
theorem dX11_freeWith_3 : decode cX11_freeWith 3 = .ok (.istore 4, 2) := by decide +kernel
theorem dX11_freeWith_5 : decode cX11_freeWith 5 = .ok (.iload 4, 2) := by decide +kernel
theorem dX11_freeWith_7 : decode cX11_freeWith 7 = .ok (.aload_n 0, 1) := by decide +kernel
theorem dX11_freeWith_8 : decode cX11_freeWith 8 = .ok (.invokevirtual 371, 3) := by decide +kernel
theorem dX11_freeWith_11 : decode cX11_freeWith 11 = .ok (.if_icmp .ge 65, 3) := by decide +kernel
theorem dX11_freeWith_14 : decode cX11_freeWith 14 = .ok (.iload_n 3, 1) := by decide +kernel
theorem dX11_freeWith_15 : decode cX11_freeWith 15 = .ok (.aload_n 0, 1) := by decide +kernel
theorem dX11_freeWith_16 : decode cX11_freeWith 16 = .ok (.iload 4, 2) := by decide +kernel
theorem dX11_freeWith_18 : decode cX11_freeWith 18 = .ok (.invokevirtual 413, 3) := by decide +kernel
theorem dX11_freeWith_21 : decode cX11_freeWith 21 = .ok (.ifCond .eq 46, 3) := by decide +kernel
theorem dX11_freeWith_24 : decode cX11_freeWith 24 = .ok (.aload_n 0, 1) := by decide +kernel
theorem dX11_freeWith_25 : decode cX11_freeWith 25 = .ok (.iload 4, 2) := by decide +kernel
theorem dX11_freeWith_27 : decode cX11_freeWith 27 = .ok (.aload_n 0, 1) := by decide +kernel
theorem dX11_freeWith_28 : decode cX11_freeWith 28 = .ok (.getfield 97, 3) := by decide +kernel
theorem dX11_freeWith_31 : decode cX11_freeWith 31 = .ok (.bipush 6, 2) := by decide +kernel
theorem dX11_freeWith_33 : decode cX11_freeWith 33 = .ok (.iload 4, 2) := by decide +kernel
theorem dX11_freeWith_35 : decode cX11_freeWith 35 = .ok (.iload_n 1, 1) := by decide +kernel
theorem dX11_freeWith_36 : decode cX11_freeWith 36 = .ok (.if_icmp .ne 7, 3) := by decide +kernel
theorem dX11_freeWith_39 : decode cX11_freeWith 39 = .ok (.iload_n 2, 1) := by decide +kernel
theorem dX11_freeWith_40 : decode cX11_freeWith 40 = .ok (.goto 15, 3) := by decide +kernel
theorem dX11_freeWith_43 : decode cX11_freeWith 43 = .ok (.iload 4, 2) := by decide +kernel
theorem dX11_freeWith_45 : decode cX11_freeWith 45 = .ok (.iload_n 2, 1) := by decide +kernel
theorem dX11_freeWith_46 : decode cX11_freeWith 46 = .ok (.if_icmp .ne 7, 3) := by decide +kernel
theorem dX11_freeWith_49 : decode cX11_freeWith 49 = .ok (.iload_n 1, 1) := by decide +kernel
theorem dX11_freeWith_50 : decode cX11_freeWith 50 = .ok (.goto 5, 3) := by decide +kernel
theorem dX11_freeWith_53 : decode cX11_freeWith 53 = .ok (.iload 4, 2) := by decide +kernel
theorem dX11_freeWith_55 : decode cX11_freeWith 55 = .ok (.iadd, 1) := by decide +kernel
theorem dX11_freeWith_56 : decode cX11_freeWith 56 = .ok (.iaload, 1) := by decide +kernel
theorem dX11_freeWith_57 : decode cX11_freeWith 57 = .ok (.invokevirtual 410, 3) := by decide +kernel
theorem dX11_freeWith_60 : decode cX11_freeWith 60 = .ok (.ifCond .le 7, 3) := by decide +kernel
theorem dX11_freeWith_63 : decode cX11_freeWith 63 = .ok (.iconst 1, 1) := by decide +kernel
theorem dX11_freeWith_64 : decode cX11_freeWith 64 = .ok (.goto 4, 3) := by decide +kernel
theorem dX11_freeWith_67 : decode cX11_freeWith 67 = .ok (.iconst 0, 1) := by decide +kernel
theorem dX11_freeWith_68 : decode cX11_freeWith 68 = .ok (.iadd, 1) := by decide +kernel
theorem dX11_freeWith_69 : decode cX11_freeWith 69 = .ok (.istore_n 3, 1) := by decide +kernel
theorem dX11_freeWith_70 : decode cX11_freeWith 70 = .ok (.iinc 4 1, 3) := by decide +kernel
theorem dX11_freeWith_73 : decode cX11_freeWith 73 = .ok (.goto (-68), 3) := by decide +kernel
theorem dX11_freeWith_76 : decode cX11_freeWith 76 = .ok (.iload_n 3, 1) := by decide +kernel
theorem dX11_freeWith_77 : decode cX11_freeWith 77 = .ok (.ireturn, 1) := by decide +kernel
theorem wd_1903 : (Cond.code ⟨"WebCourtModel", "freeWith", "(II)I"⟩ prog_13_method_92_code (5 : Nat) (Option.some FieldType.int)) ∈ gtb := gtb_c8 114 (by decide +kernel) rfl
set_option maxHeartbeats 4000000 in
set_option maxRecDepth 100000 in
theorem T_X11_freeWith (l : Launch) (D : va_G) (cy : Nat → ClassId) (a : Nat → Nat) (u : St) (hJ : MI a u) (x1 : Int32) (x2 : Int32) (hx_x1 : 0 ≤ x1.toInt ∧ x1.toInt ≤ 5) (hx_x2 : 0 ≤ x2.toInt ∧ x2.toInt ≤ 5) : Mi l D cy (mW cy a) yX11_freeWith (.code yX11_freeWith cX11_freeWith 5 (some .int)) (rmo 6 132) [.ref (a 0), .int x1, .int x2] u (fun (r : Int32) (u' : St) => (MI a u') ∧ (Km2 u u')) := by
  refine Mi.of (own := RX11) rfl (by decide) (Nat.le_of_ble_eq_true rfl) ?_
  have hT : Km2 u u := Km2.rf
  have hJ0 := hJ
  intro p e s m below meth c A Q ls C hret hO hl
  obtain ⟨hx, hb, hml, hown, ht, hK, hA⟩ := id C
  have hl : lv_has ls 5 [(0, .ref (a 0)), (1, .int x1), (2, .int x2)] := hl
  refine lv_iconst (v := 0) hx hb dX11_freeWith_0 (by decide) ?_
  refine lv_istore_n (lv' := [(3, .int 0), (0, .ref (a 0)), (1, .int x1), (2, .int x2)]) hx hb dX11_freeWith_1 rfl hl (by decide) rfl (fun ls hl => ?_)
  refine lv_iconst (v := 0) hx hb dX11_freeWith_2 (by decide) ?_
  refine lv_istore (lv' := [(4, .int 0), (3, .int 0), (0, .ref (a 0)), (1, .int x1), (2, .int x2)]) hx hb dX11_freeWith_3 hl (by decide) rfl (fun ls hl => ?_)
  have LP_5_k2 : ∀ (n : Nat) (u1 : St) (H : Heap) (locs : List Loc) (ls : Array Slot) (i_k2 : Int32) (w3_k2 : Int32), Wo D A (mW cy a u1) s.heap H locs → lv_has ls 5 [(4, .int i_k2), (3, .int w3_k2), (0, .ref (a 0)), (1, .int x1), (2, .int x2)] → MI a u1 → Km2 u u1 → 0 ≤ i_k2.toInt ∧ i_k2.toInt ≤ 6 → 6 - i_k2.toInt < (n : Int) → W p l e (rmo 6 132) s m [.ref (a 0), .int x1, .int x2].toArray below meth c H locs 0 0 Q (F0 m 5 ls []) := by
    intro n
    induction n with
    | zero =>
      intro u1 H locs ls i_k2 w3_k2 hO hl hJ hT iv0_k2 hm_k2
      exact absurd hm_k2 (by omega)
    | succ n ih_k2 =>
      intro u1 H locs ls i_k2 w3_k2 hO hl hJ hT iv0_k2 hm_k2
      refine lv_iload hx hb dX11_freeWith_5 (lv_at hl 0 rfl) ?_
      refine lv_aload_n hx hb dX11_freeWith_7 rfl (lv_at hl 2 rfl) ?_
      have g3 : 0 ≤ (fI u 0 36).toInt ∧ (fI u 0 36).toInt ≤ 1 := by have h := MI_36 hJ0; exact h
      have g4 : 0 ≤ (fA u 6 ((fI u 0 36)).toNatClampNeg).toInt ∧ (fA u 6 ((fI u 0 36)).toNatClampNeg).toInt ≤ 6 := by have h := MI_A6 hJ0 ((fI u 0 36)).toNatClampNeg; exact h
      refine cVi (w := mW cy a) (As := []) (rest := [.int i_k2]) C hO (T_X11_many l D cy a _ (by exact hJ) ((fA u 6 ((fI u 0 36)).toNatClampNeg)) (by exact (Eq.trans (congrArg (fun z : Int32 => fA _ 6 z.toNatClampNeg) (Km2_I36 hT)) (congrFun (Km2_A6 hT) _)))) (cwV 0 ht (gV wd_1348 wd_1350 wd_46 wd_121 wd_1351) rfl rfl rfl hd_yX11_many ⟨Nat.le_of_ble_eq_true rfl, Nat.le_of_ble_eq_true rfl⟩) 0 rfl mW_0 rfl rfl hl.1 (Nat.le_of_ble_eq_true rfl) dX11_freeWith_8 rfl ⟨Nat.zero_le _, Nat.zero_le _⟩ (fun r5 u6 H locs hp7 hO => ?_)
      obtain ⟨hr5, hu6⟩ := hp7
      refine tE hr5 ?_
      rw [hu6] at hO
      refine cs_ge (tgt := 76) (X := (i_k2).toInt) (Y := ((fA u 6 ((fI u 0 36)).toNatClampNeg)).toInt) hx hb dX11_freeWith_11 (by decide) rfl rfl (fun c8 => ?_) (fun c8 => ?_)
      · refine lv_iload_n hx hb dX11_freeWith_76 rfl (lv_at hl 1 rfl) ?_
        refine hret _ _ _ _ _ _ dX11_freeWith_77 rfl ?_ hO
        exact ⟨hJ, hT⟩
      · refine lv_iload_n hx hb dX11_freeWith_14 rfl (lv_at hl 1 rfl) ?_
        refine lv_aload_n hx hb dX11_freeWith_15 rfl (lv_at hl 2 rfl) ?_
        refine lv_iload hx hb dX11_freeWith_16 (lv_at hl 0 rfl) ?_
        refine cVi (w := mW cy a) (As := [.int i_k2]) (rest := [.int w3_k2]) C hO (T_X11_isHeld l D cy a _ (by exact hJ) ((fA u 6 ((fI u 0 36)).toNatClampNeg)) (by exact (Eq.trans (congrArg (fun z : Int32 => fA _ 6 z.toNatClampNeg) (Km2_I36 hT)) (congrFun (Km2_A6 hT) _))) (i_k2)) (cwV 1 ht (gV wd_1797 wd_1799 wd_91 wd_121 wd_1800) rfl rfl rfl hd_yX11_isHeld ⟨Nat.le_of_ble_eq_true rfl, Nat.le_of_ble_eq_true rfl⟩) 0 rfl mW_0 rfl rfl hl.1 (Nat.le_of_ble_eq_true rfl) dX11_freeWith_18 rfl ⟨Nat.zero_le _, Nat.zero_le _⟩ (fun r9 u10 H locs hp11 hO => ?_)
        obtain ⟨hr9, hu10⟩ := hp11
        rw [hu10] at hO
        rcases hr9 with ⟨hcr9, hvr9⟩ | ⟨hcr9, hvr9⟩
        · subst hvr9
          refine bn_eq (X := 1) hx hb dX11_freeWith_21 rfl (by omega) ?_ (tgt := 67) (by decide)
          refine lv_aload_n hx hb dX11_freeWith_24 rfl (lv_at hl 2 rfl) ?_
          refine lv_iload hx hb dX11_freeWith_25 (lv_at hl 0 rfl) ?_
          refine lv_aload_n hx hb dX11_freeWith_27 rfl (lv_at hl 2 rfl) ?_
          refine gf_RX11_97 (v := .ref (a 28)) C hO 0 mW_0 rfl dX11_freeWith_28 ?_
          refine lv_bipush (v := 6) hx hb dX11_freeWith_31 (by decide) ?_
          refine lv_iload hx hb dX11_freeWith_33 (lv_at hl 0 rfl) ?_
          refine lv_iload_n hx hb dX11_freeWith_35 rfl (lv_at hl 3 rfl) ?_
          refine cs_ne (tgt := 43) (X := (i_k2).toInt) (Y := (x1).toInt) hx hb dX11_freeWith_36 (by decide) rfl rfl (fun c12 => ?_) (fun c12 => ?_)
          · refine lv_iload hx hb dX11_freeWith_43 (lv_at hl 0 rfl) ?_
            refine lv_iload_n hx hb dX11_freeWith_45 rfl (lv_at hl 4 rfl) ?_
            refine cs_ne (tgt := 53) (X := (i_k2).toInt) (Y := (x2).toInt) hx hb dX11_freeWith_46 (by decide) rfl rfl (fun c13 => ?_) (fun c13 => ?_)
            · refine lv_iload hx hb dX11_freeWith_53 (lv_at hl 0 rfl) ?_
              refine lv_iadd hx hb dX11_freeWith_55 ?_
              refine lv_topi (fun z14 ez14 => ?_)
              have e15 : z14.toInt = 6 + (i_k2).toInt := by rw [ez14]; exact i_add rfl rfl (by omega)
              refine aI C hO 28 mW_28 (i_in (X := (6 + (i_k2).toInt)) e15 (by omega) (by omega)) dX11_freeWith_56 ?_
              refine tE (y := (fA u 28 (z14).toNatClampNeg)) (by exact (congrFun (Km2_A28 hT) _)) ?_
              refine cVi (w := mW cy a) (As := [.int i_k2, .int (fA u 28 (z14).toNatClampNeg)]) (rest := [.int w3_k2]) C hO (T_X11_verdictBy l D cy a _ (by exact hJ) (i_k2) ((fA u 28 (z14).toNatClampNeg)) (by first | omega | decide)) (cwV 2 ht (gV wd_1765 wd_1767 wd_85 wd_121 wd_1768) rfl rfl rfl hd_yX11_verdictBy ⟨Nat.le_of_ble_eq_true rfl, Nat.le_of_ble_eq_true rfl⟩) 0 rfl mW_0 rfl rfl hl.1 (Nat.le_of_ble_eq_true rfl) dX11_freeWith_57 rfl ⟨Nat.zero_le _, Nat.zero_le _⟩ (fun r16 u17 H locs hp18 hO => ?_)
              obtain ⟨hJ, hTu17⟩ := hp18
              have hT : Km2 u u17 := Km2.tr (by exact hT) hTu17
              refine bs_le (tgt := 67) (X := (r16).toInt) hx hb dX11_freeWith_60 (by decide) rfl (fun c19 => ?_) (fun c19 => ?_)
              · refine lv_iconst (v := 0) hx hb dX11_freeWith_67 (by decide) ?_
                refine lv_iadd hx hb dX11_freeWith_68 ?_
                refine lv_topi (fun z20 ez20 => ?_)
                refine lv_istore_n (lv' := [(3, .int z20), (4, .int i_k2), (0, .ref (a 0)), (1, .int x1), (2, .int x2)]) hx hb dX11_freeWith_69 rfl hl (by decide) rfl (fun ls hl => ?_)
                obtain ⟨z21, ez21⟩ : ∃ z : Int32, z = i_k2 + Int32.ofInt 1 := ⟨_, rfl⟩
                have e22 : z21.toInt = (i_k2).toInt + 1 := by rw [ez21]; exact i_add rfl rfl (by omega)
                refine lv_iinc (v := z21) (lv' := [(4, .int z21), (3, .int z20), (0, .ref (a 0)), (1, .int x1), (2, .int x2)]) hx hb dX11_freeWith_70 hl (k := 1) rfl ez21.symm (by decide) rfl (fun ls hl => ?_)
                refine lv_goto (tgt := 5) hx hb dX11_freeWith_73 (by decide) ?_
                exact ih_k2 _ _ _ _ (z21) (z20) hO (lv_sub hl [0, 1, 2, 3, 4] rfl) (by exact hJ) (by exact hT) (by first | decide | omega) (by first | decide | omega)
              · refine lv_iconst (v := 1) hx hb dX11_freeWith_63 (by decide) ?_
                refine lv_goto (tgt := 68) hx hb dX11_freeWith_64 (by decide) ?_
                refine lv_iadd hx hb dX11_freeWith_68 ?_
                refine lv_topi (fun z23 ez23 => ?_)
                refine lv_istore_n (lv' := [(3, .int z23), (4, .int i_k2), (0, .ref (a 0)), (1, .int x1), (2, .int x2)]) hx hb dX11_freeWith_69 rfl hl (by decide) rfl (fun ls hl => ?_)
                obtain ⟨z24, ez24⟩ : ∃ z : Int32, z = i_k2 + Int32.ofInt 1 := ⟨_, rfl⟩
                have e25 : z24.toInt = (i_k2).toInt + 1 := by rw [ez24]; exact i_add rfl rfl (by omega)
                refine lv_iinc (v := z24) (lv' := [(4, .int z24), (3, .int z23), (0, .ref (a 0)), (1, .int x1), (2, .int x2)]) hx hb dX11_freeWith_70 hl (k := 1) rfl ez24.symm (by decide) rfl (fun ls hl => ?_)
                refine lv_goto (tgt := 5) hx hb dX11_freeWith_73 (by decide) ?_
                exact ih_k2 _ _ _ _ (z24) (z23) hO (lv_sub hl [0, 1, 2, 3, 4] rfl) (by exact hJ) (by exact hT) (by first | decide | omega) (by first | decide | omega)
            · refine lv_iload_n hx hb dX11_freeWith_49 rfl (lv_at hl 3 rfl) ?_
              refine lv_goto (tgt := 55) hx hb dX11_freeWith_50 (by decide) ?_
              refine lv_iadd hx hb dX11_freeWith_55 ?_
              refine lv_topi (fun z26 ez26 => ?_)
              have e27 : z26.toInt = 6 + (x1).toInt := by rw [ez26]; exact i_add rfl rfl (by omega)
              refine aI C hO 28 mW_28 (i_in (X := (6 + (x1).toInt)) e27 (by omega) (by omega)) dX11_freeWith_56 ?_
              refine tE (y := (fA u 28 (z26).toNatClampNeg)) (by exact (congrFun (Km2_A28 hT) _)) ?_
              refine cVi (w := mW cy a) (As := [.int i_k2, .int (fA u 28 (z26).toNatClampNeg)]) (rest := [.int w3_k2]) C hO (T_X11_verdictBy l D cy a _ (by exact hJ) (i_k2) ((fA u 28 (z26).toNatClampNeg)) (by first | omega | decide)) (cwV 2 ht (gV wd_1765 wd_1767 wd_85 wd_121 wd_1768) rfl rfl rfl hd_yX11_verdictBy ⟨Nat.le_of_ble_eq_true rfl, Nat.le_of_ble_eq_true rfl⟩) 0 rfl mW_0 rfl rfl hl.1 (Nat.le_of_ble_eq_true rfl) dX11_freeWith_57 rfl ⟨Nat.zero_le _, Nat.zero_le _⟩ (fun r28 u29 H locs hp30 hO => ?_)
              obtain ⟨hJ, hTu29⟩ := hp30
              have hT : Km2 u u29 := Km2.tr (by exact hT) hTu29
              refine bs_le (tgt := 67) (X := (r28).toInt) hx hb dX11_freeWith_60 (by decide) rfl (fun c31 => ?_) (fun c31 => ?_)
              · refine lv_iconst (v := 0) hx hb dX11_freeWith_67 (by decide) ?_
                refine lv_iadd hx hb dX11_freeWith_68 ?_
                refine lv_topi (fun z32 ez32 => ?_)
                refine lv_istore_n (lv' := [(3, .int z32), (4, .int i_k2), (0, .ref (a 0)), (1, .int x1), (2, .int x2)]) hx hb dX11_freeWith_69 rfl hl (by decide) rfl (fun ls hl => ?_)
                obtain ⟨z33, ez33⟩ : ∃ z : Int32, z = i_k2 + Int32.ofInt 1 := ⟨_, rfl⟩
                have e34 : z33.toInt = (i_k2).toInt + 1 := by rw [ez33]; exact i_add rfl rfl (by omega)
                refine lv_iinc (v := z33) (lv' := [(4, .int z33), (3, .int z32), (0, .ref (a 0)), (1, .int x1), (2, .int x2)]) hx hb dX11_freeWith_70 hl (k := 1) rfl ez33.symm (by decide) rfl (fun ls hl => ?_)
                refine lv_goto (tgt := 5) hx hb dX11_freeWith_73 (by decide) ?_
                exact ih_k2 _ _ _ _ (z33) (z32) hO (lv_sub hl [0, 1, 2, 3, 4] rfl) (by exact hJ) (by exact hT) (by first | decide | omega) (by first | decide | omega)
              · refine lv_iconst (v := 1) hx hb dX11_freeWith_63 (by decide) ?_
                refine lv_goto (tgt := 68) hx hb dX11_freeWith_64 (by decide) ?_
                refine lv_iadd hx hb dX11_freeWith_68 ?_
                refine lv_topi (fun z35 ez35 => ?_)
                refine lv_istore_n (lv' := [(3, .int z35), (4, .int i_k2), (0, .ref (a 0)), (1, .int x1), (2, .int x2)]) hx hb dX11_freeWith_69 rfl hl (by decide) rfl (fun ls hl => ?_)
                obtain ⟨z36, ez36⟩ : ∃ z : Int32, z = i_k2 + Int32.ofInt 1 := ⟨_, rfl⟩
                have e37 : z36.toInt = (i_k2).toInt + 1 := by rw [ez36]; exact i_add rfl rfl (by omega)
                refine lv_iinc (v := z36) (lv' := [(4, .int z36), (3, .int z35), (0, .ref (a 0)), (1, .int x1), (2, .int x2)]) hx hb dX11_freeWith_70 hl (k := 1) rfl ez36.symm (by decide) rfl (fun ls hl => ?_)
                refine lv_goto (tgt := 5) hx hb dX11_freeWith_73 (by decide) ?_
                exact ih_k2 _ _ _ _ (z36) (z35) hO (lv_sub hl [0, 1, 2, 3, 4] rfl) (by exact hJ) (by exact hT) (by first | decide | omega) (by first | decide | omega)
          · refine lv_iload_n hx hb dX11_freeWith_39 rfl (lv_at hl 4 rfl) ?_
            refine lv_goto (tgt := 55) hx hb dX11_freeWith_40 (by decide) ?_
            refine lv_iadd hx hb dX11_freeWith_55 ?_
            refine lv_topi (fun z38 ez38 => ?_)
            have e39 : z38.toInt = 6 + (x2).toInt := by rw [ez38]; exact i_add rfl rfl (by omega)
            refine aI C hO 28 mW_28 (i_in (X := (6 + (x2).toInt)) e39 (by omega) (by omega)) dX11_freeWith_56 ?_
            refine tE (y := (fA u 28 (z38).toNatClampNeg)) (by exact (congrFun (Km2_A28 hT) _)) ?_
            refine cVi (w := mW cy a) (As := [.int i_k2, .int (fA u 28 (z38).toNatClampNeg)]) (rest := [.int w3_k2]) C hO (T_X11_verdictBy l D cy a _ (by exact hJ) (i_k2) ((fA u 28 (z38).toNatClampNeg)) (by first | omega | decide)) (cwV 2 ht (gV wd_1765 wd_1767 wd_85 wd_121 wd_1768) rfl rfl rfl hd_yX11_verdictBy ⟨Nat.le_of_ble_eq_true rfl, Nat.le_of_ble_eq_true rfl⟩) 0 rfl mW_0 rfl rfl hl.1 (Nat.le_of_ble_eq_true rfl) dX11_freeWith_57 rfl ⟨Nat.zero_le _, Nat.zero_le _⟩ (fun r40 u41 H locs hp42 hO => ?_)
            obtain ⟨hJ, hTu41⟩ := hp42
            have hT : Km2 u u41 := Km2.tr (by exact hT) hTu41
            refine bs_le (tgt := 67) (X := (r40).toInt) hx hb dX11_freeWith_60 (by decide) rfl (fun c43 => ?_) (fun c43 => ?_)
            · refine lv_iconst (v := 0) hx hb dX11_freeWith_67 (by decide) ?_
              refine lv_iadd hx hb dX11_freeWith_68 ?_
              refine lv_topi (fun z44 ez44 => ?_)
              refine lv_istore_n (lv' := [(3, .int z44), (4, .int i_k2), (0, .ref (a 0)), (1, .int x1), (2, .int x2)]) hx hb dX11_freeWith_69 rfl hl (by decide) rfl (fun ls hl => ?_)
              obtain ⟨z45, ez45⟩ : ∃ z : Int32, z = i_k2 + Int32.ofInt 1 := ⟨_, rfl⟩
              have e46 : z45.toInt = (i_k2).toInt + 1 := by rw [ez45]; exact i_add rfl rfl (by omega)
              refine lv_iinc (v := z45) (lv' := [(4, .int z45), (3, .int z44), (0, .ref (a 0)), (1, .int x1), (2, .int x2)]) hx hb dX11_freeWith_70 hl (k := 1) rfl ez45.symm (by decide) rfl (fun ls hl => ?_)
              refine lv_goto (tgt := 5) hx hb dX11_freeWith_73 (by decide) ?_
              exact ih_k2 _ _ _ _ (z45) (z44) hO (lv_sub hl [0, 1, 2, 3, 4] rfl) (by exact hJ) (by exact hT) (by first | decide | omega) (by first | decide | omega)
            · refine lv_iconst (v := 1) hx hb dX11_freeWith_63 (by decide) ?_
              refine lv_goto (tgt := 68) hx hb dX11_freeWith_64 (by decide) ?_
              refine lv_iadd hx hb dX11_freeWith_68 ?_
              refine lv_topi (fun z47 ez47 => ?_)
              refine lv_istore_n (lv' := [(3, .int z47), (4, .int i_k2), (0, .ref (a 0)), (1, .int x1), (2, .int x2)]) hx hb dX11_freeWith_69 rfl hl (by decide) rfl (fun ls hl => ?_)
              obtain ⟨z48, ez48⟩ : ∃ z : Int32, z = i_k2 + Int32.ofInt 1 := ⟨_, rfl⟩
              have e49 : z48.toInt = (i_k2).toInt + 1 := by rw [ez48]; exact i_add rfl rfl (by omega)
              refine lv_iinc (v := z48) (lv' := [(4, .int z48), (3, .int z47), (0, .ref (a 0)), (1, .int x1), (2, .int x2)]) hx hb dX11_freeWith_70 hl (k := 1) rfl ez48.symm (by decide) rfl (fun ls hl => ?_)
              refine lv_goto (tgt := 5) hx hb dX11_freeWith_73 (by decide) ?_
              exact ih_k2 _ _ _ _ (z48) (z47) hO (lv_sub hl [0, 1, 2, 3, 4] rfl) (by exact hJ) (by exact hT) (by first | decide | omega) (by first | decide | omega)
        · subst hvr9
          refine bt_eq (tgt := 67) (X := 0) hx hb dX11_freeWith_21 (by decide) rfl (by omega) ?_
          refine lv_iconst (v := 0) hx hb dX11_freeWith_67 (by decide) ?_
          refine lv_iadd hx hb dX11_freeWith_68 ?_
          refine lv_topi (fun z50 ez50 => ?_)
          refine lv_istore_n (lv' := [(3, .int z50), (4, .int i_k2), (0, .ref (a 0)), (1, .int x1), (2, .int x2)]) hx hb dX11_freeWith_69 rfl hl (by decide) rfl (fun ls hl => ?_)
          obtain ⟨z51, ez51⟩ : ∃ z : Int32, z = i_k2 + Int32.ofInt 1 := ⟨_, rfl⟩
          have e52 : z51.toInt = (i_k2).toInt + 1 := by rw [ez51]; exact i_add rfl rfl (by omega)
          refine lv_iinc (v := z51) (lv' := [(4, .int z51), (3, .int z50), (0, .ref (a 0)), (1, .int x1), (2, .int x2)]) hx hb dX11_freeWith_70 hl (k := 1) rfl ez51.symm (by decide) rfl (fun ls hl => ?_)
          refine lv_goto (tgt := 5) hx hb dX11_freeWith_73 (by decide) ?_
          exact ih_k2 _ _ _ _ (z51) (z50) hO (lv_sub hl [0, 1, 2, 3, 4] rfl) (by exact hJ) (by exact hT) (by first | decide | omega) (by first | decide | omega)
  have zc53 : (0 : Int32).toInt = 0 := rfl
  exact LP_5_k2 4000 _ _ _ _ (0) (0) hO (lv_sub hl [0, 1, 2, 3, 4] rfl) (by exact hJ) (by exact hT) (by first | decide | omega) (by first | decide | omega)
theorem dX11_swap_0 : decode cX11_swap 0 = .ok (.iload_n 1, 1) := by decide +kernel
theorem dX11_swap_1 : decode cX11_swap 1 = .ok (.iconst 0, 1) := by decide +kernel
theorem dX11_swap_2 : decode cX11_swap 2 = .ok (.iconst 2, 1) := by decide +kernel
theorem dX11_swap_3 : decode cX11_swap 3 = .ok (.invokestatic 374, 3) := by decide +kernel
theorem dX11_swap_6 : decode cX11_swap 6 = .ok (.ifCond .ne 5, 3) := by decide +kernel
theorem dX11_swap_9 : decode cX11_swap 9 = .ok (.iconst (-1), 1) := by decide +kernel
theorem dX11_swap_10 : decode cX11_swap 10 = .ok (.ireturn, 1) := by decide +kernel
theorem dX11_swap_11 : decode cX11_swap 11 = .ok (.iconst (-1), 1) := by decide +kernel
theorem dX11_swap_12 : decode cX11_swap 12 = .ok (.istore_n 2, 1) := by decide +kernel
theorem dX11_swap_13 : decode cX11_swap 13 = .ok (.aload_n 0, 1) := by decide +kernel
theorem dX11_swap_14 : decode cX11_swap 14 = .ok (.invokevirtual 430, 3) := by decide +kernel
theorem dX11_swap_17 : decode cX11_swap 17 = .ok (.invokestatic 316, 3) := by decide +kernel
theorem dX11_swap_20 : decode cX11_swap 20 = .ok (.istore_n 3, 1) := by decide +kernel
theorem dX11_swap_21 : decode cX11_swap 21 = .ok (.iconst 0, 1) := by decide +kernel
theorem dX11_swap_22 : decode cX11_swap 22 = .ok (.istore 4, 2) := by decide +kernel
theorem dX11_swap_24 : decode cX11_swap 24 = .ok (.iload 4, 2) := by decide +kernel
theorem dX11_swap_26 : decode cX11_swap 26 = .ok (.bipush 36, 2) := by decide +kernel
theorem dX11_swap_28 : decode cX11_swap 28 = .ok (.if_icmp .ge 76, 3) := by decide +kernel
theorem dX11_swap_31 : decode cX11_swap 31 = .ok (.iload 4, 2) := by decide +kernel
theorem dX11_swap_33 : decode cX11_swap 33 = .ok (.bipush 6, 2) := by decide +kernel
theorem dX11_swap_35 : decode cX11_swap 35 = .ok (.idiv, 1) := by decide +kernel
theorem dX11_swap_36 : decode cX11_swap 36 = .ok (.istore 5, 2) := by decide +kernel
theorem dX11_swap_38 : decode cX11_swap 38 = .ok (.iload 4, 2) := by decide +kernel
theorem dX11_swap_40 : decode cX11_swap 40 = .ok (.bipush 6, 2) := by decide +kernel
theorem dX11_swap_42 : decode cX11_swap 42 = .ok (.irem, 1) := by decide +kernel
theorem dX11_swap_43 : decode cX11_swap 43 = .ok (.istore 6, 2) := by decide +kernel
theorem dX11_swap_45 : decode cX11_swap 45 = .ok (.iload 5, 2) := by decide +kernel
theorem dX11_swap_47 : decode cX11_swap 47 = .ok (.iload 6, 2) := by decide +kernel
theorem dX11_swap_49 : decode cX11_swap 49 = .ok (.if_icmp .ge 49, 3) := by decide +kernel
theorem dX11_swap_52 : decode cX11_swap 52 = .ok (.aload_n 0, 1) := by decide +kernel
theorem dX11_swap_53 : decode cX11_swap 53 = .ok (.iload 5, 2) := by decide +kernel
theorem dX11_swap_55 : decode cX11_swap 55 = .ok (.invokevirtual 413, 3) := by decide +kernel
theorem dX11_swap_58 : decode cX11_swap 58 = .ok (.ifCond .eq 40, 3) := by decide +kernel
theorem dX11_swap_61 : decode cX11_swap 61 = .ok (.aload_n 0, 1) := by decide +kernel
theorem dX11_swap_62 : decode cX11_swap 62 = .ok (.iload 6, 2) := by decide +kernel
theorem dX11_swap_64 : decode cX11_swap 64 = .ok (.invokevirtual 413, 3) := by decide +kernel
theorem dX11_swap_67 : decode cX11_swap 67 = .ok (.ifCond .ne 6, 3) := by decide +kernel
theorem dX11_swap_70 : decode cX11_swap 70 = .ok (.goto 28, 3) := by decide +kernel
theorem dX11_swap_73 : decode cX11_swap 73 = .ok (.aload_n 0, 1) := by decide +kernel
theorem dX11_swap_74 : decode cX11_swap 74 = .ok (.iload 5, 2) := by decide +kernel
theorem dX11_swap_76 : decode cX11_swap 76 = .ok (.iload 6, 2) := by decide +kernel
theorem dX11_swap_78 : decode cX11_swap 78 = .ok (.invokevirtual 457, 3) := by decide +kernel
theorem dX11_swap_81 : decode cX11_swap 81 = .ok (.istore 7, 2) := by decide +kernel
theorem dX11_swap_83 : decode cX11_swap 83 = .ok (.iload 7, 2) := by decide +kernel
theorem dX11_swap_85 : decode cX11_swap 85 = .ok (.iload_n 3, 1) := by decide +kernel
theorem dX11_swap_86 : decode cX11_swap 86 = .ok (.if_icmp .gt 6, 3) := by decide +kernel
theorem dX11_swap_89 : decode cX11_swap 89 = .ok (.goto 9, 3) := by decide +kernel
theorem dX11_swap_92 : decode cX11_swap 92 = .ok (.iload 4, 2) := by decide +kernel
theorem dX11_swap_94 : decode cX11_swap 94 = .ok (.istore_n 2, 1) := by decide +kernel
theorem dX11_swap_95 : decode cX11_swap 95 = .ok (.iload 7, 2) := by decide +kernel
theorem dX11_swap_97 : decode cX11_swap 97 = .ok (.istore_n 3, 1) := by decide +kernel
theorem dX11_swap_98 : decode cX11_swap 98 = .ok (.iinc 4 1, 3) := by decide +kernel
theorem dX11_swap_101 : decode cX11_swap 101 = .ok (.goto (-77), 3) := by decide +kernel
theorem dX11_swap_104 : decode cX11_swap 104 = .ok (.iload_n 2, 1) := by decide +kernel
theorem dX11_swap_105 : decode cX11_swap 105 = .ok (.ifCond .ge 7, 3) := by decide +kernel
theorem dX11_swap_108 : decode cX11_swap 108 = .ok (.iconst (-1), 1) := by decide +kernel
theorem dX11_swap_109 : decode cX11_swap 109 = .ok (.goto 27, 3) := by decide +kernel
theorem dX11_swap_112 : decode cX11_swap 112 = .ok (.iload_n 1, 1) := by decide +kernel
theorem dX11_swap_113 : decode cX11_swap 113 = .ok (.ifCond .ne 10, 3) := by decide +kernel
theorem dX11_swap_116 : decode cX11_swap 116 = .ok (.iload_n 2, 1) := by decide +kernel
theorem dX11_swap_117 : decode cX11_swap 117 = .ok (.bipush 6, 2) := by decide +kernel
theorem dX11_swap_119 : decode cX11_swap 119 = .ok (.idiv, 1) := by decide +kernel
theorem dX11_swap_120 : decode cX11_swap 120 = .ok (.goto 16, 3) := by decide +kernel
theorem dX11_swap_123 : decode cX11_swap 123 = .ok (.iload_n 1, 1) := by decide +kernel
theorem dX11_swap_124 : decode cX11_swap 124 = .ok (.iconst 1, 1) := by decide +kernel
theorem dX11_swap_125 : decode cX11_swap 125 = .ok (.if_icmp .ne 10, 3) := by decide +kernel
theorem dX11_swap_128 : decode cX11_swap 128 = .ok (.iload_n 2, 1) := by decide +kernel
theorem dX11_swap_129 : decode cX11_swap 129 = .ok (.bipush 6, 2) := by decide +kernel
theorem dX11_swap_131 : decode cX11_swap 131 = .ok (.irem, 1) := by decide +kernel
theorem dX11_swap_132 : decode cX11_swap 132 = .ok (.goto 4, 3) := by decide +kernel
theorem dX11_swap_135 : decode cX11_swap 135 = .ok (.iload_n 3, 1) := by decide +kernel
theorem dX11_swap_136 : decode cX11_swap 136 = .ok (.ireturn, 1) := by decide +kernel
theorem wd_1899 : (Cond.code ⟨"WebCourtModel", "swap", "(I)I"⟩ prog_13_method_93_code (8 : Nat) (Option.some FieldType.int)) ∈ gtb := gtb_c8 110 (by decide +kernel) rfl
theorem wd_1900 : (Cond.methodLink "WebCourtModel" (457 : Nat) ⟨"WebCourtModel", "freeWith", "(II)I"⟩) ∈ gtb := gtb_c8 111 (by decide +kernel) rfl
theorem wd_1902 : (Cond.instanceMethod ⟨"WebCourtModel", "freeWith", "(II)I"⟩) ∈ gtb := gtb_c8 113 (by decide +kernel) rfl
theorem wd_99 : (Cond.selects "WebCourtModel" ⟨"WebCourtModel", "freeWith", "(II)I"⟩ ⟨"WebCourtModel", "freeWith", "(II)I"⟩) ∈ gtb := gtb_p 99 (by decide +kernel) rfl
theorem hd_yX11_freeWith : yX11_freeWith.cls = RX11 ∧ yX11_freeWith.cls ≠ "java/lang/invoke/MethodHandle" ∧ yX11_freeWith.cls ≠ "java/lang/invoke/VarHandle" ∧ (parseMethodDescriptor yX11_freeWith.desc).map (fun d => d.parameters.length) = some 2 := by decide +kernel
set_option maxHeartbeats 4000000 in
set_option maxRecDepth 100000 in
theorem T_X11_swap (l : Launch) (D : va_G) (cy : Nat → ClassId) (a : Nat → Nat) (u : St) (hJ : MI a u) (x1 : Int32)  : Mi l D cy (mW cy a) yX11_swap (.code yX11_swap cX11_swap 8 (some .int)) (rmo 8 175) [.ref (a 0), .int x1] u (fun (r : Int32) (u' : St) => (MI a u') ∧ (Km2 u u')) := by
  refine Mi.of (own := RX11) rfl (by decide) (Nat.le_of_ble_eq_true rfl) ?_
  have hT : Km2 u u := Km2.rf
  have hJ0 := hJ
  intro p e s m below meth c A Q ls C hret hO hl
  obtain ⟨hx, hb, hml, hown, ht, hK, hA⟩ := id C
  have hl : lv_has ls 8 [(0, .ref (a 0)), (1, .int x1)] := hl
  refine lv_iload_n hx hb dX11_swap_0 rfl (lv_at hl 1 rfl) ?_
  refine lv_iconst (v := 0) hx hb dX11_swap_1 (by decide) ?_
  refine lv_iconst (v := 2) hx hb dX11_swap_2 (by decide) ?_
  refine cSi (w := mW cy a) (As := [.int x1, .int 0, .int 2]) (rest := []) C hO (T_X11_isIn l D cy a _ (by exact hJ) (x1) (0) (2)) (va_cwS 3 ht (gSS wd_1722 wd_1723 wd_121 wd_1724) rfl rfl rfl hd_yX11_isIn ⟨Nat.le_of_ble_eq_true rfl, Nat.le_of_ble_eq_true rfl⟩)  rfl hl.1 (Nat.le_of_ble_eq_true rfl) dX11_swap_3 rfl ⟨Nat.zero_le _, Nat.zero_le _⟩ (fun r1 u2 H locs hp3 hO => ?_)
  obtain ⟨hr1, hu2⟩ := hp3
  rw [hu2] at hO
  have zz4 : (0 : Int32).toInt = 0 := rfl
  have zz5 : (2 : Int32).toInt = 2 := rfl
  rcases hr1 with ⟨hcr1, hvr1⟩ | ⟨hcr1, hvr1⟩
  · subst hvr1
    refine bt_ne (tgt := 11) (X := 1) hx hb dX11_swap_6 (by decide) rfl (by omega) ?_
    refine lv_iconst (v := (-1)) hx hb dX11_swap_11 (by decide) ?_
    refine lv_istore_n (lv' := [(2, .int (-1)), (0, .ref (a 0)), (1, .int x1)]) hx hb dX11_swap_12 rfl hl (by decide) rfl (fun ls hl => ?_)
    refine lv_aload_n hx hb dX11_swap_13 rfl (lv_at hl 1 rfl) ?_
    refine cVi (w := mW cy a) (As := []) (rest := []) C hO (T_X11_freeNow l D cy a _ (by exact hJ)) (cwV 0 ht (gV wd_1793 wd_1795 wd_90 wd_121 wd_1796) rfl rfl rfl hd_yX11_freeNow ⟨Nat.le_of_ble_eq_true rfl, Nat.le_of_ble_eq_true rfl⟩) 0 rfl mW_0 rfl rfl hl.1 (Nat.le_of_ble_eq_true rfl) dX11_swap_14 rfl ⟨Nat.zero_le _, Nat.zero_le _⟩ (fun r6 u7 H locs hp8 hO => ?_)
    obtain ⟨hr6, hJ, hTu7⟩ := hp8
    have hT : Km2 u u7 := Km2.tr (by exact hT) hTu7
    refine cSi (w := mW cy a) (As := [.int r6]) (rest := []) C hO (T_X11_bitsOf_8 l D cy a _ (by exact hJ) (r6) (by first | omega | decide)) (va_cwS 1 ht (gSS wd_1663 wd_1664 wd_121 wd_1665) rfl rfl rfl hd_yX11_bitsOf ⟨Nat.le_of_ble_eq_true rfl, Nat.le_of_ble_eq_true rfl⟩)  rfl hl.1 (Nat.le_of_ble_eq_true rfl) dX11_swap_17 rfl ⟨Nat.zero_le _, Nat.zero_le _⟩ (fun r9 u10 H locs hp11 hO => ?_)
    obtain ⟨hr9, hu10⟩ := hp11
    rw [hu10] at hO
    have gpr9 := pc8_b (x := (r6 : Int32).toInt) (by omega) (by omega)
    have gr9 : 0 ≤ r9.toInt ∧ r9.toInt ≤ 6 := by omega
    refine lv_istore_n (lv' := [(3, .int r9), (2, .int (-1)), (0, .ref (a 0)), (1, .int x1)]) hx hb dX11_swap_20 rfl hl (by decide) rfl (fun ls hl => ?_)
    refine lv_iconst (v := 0) hx hb dX11_swap_21 (by decide) ?_
    refine lv_istore (lv' := [(4, .int 0), (3, .int r9), (2, .int (-1)), (0, .ref (a 0)), (1, .int x1)]) hx hb dX11_swap_22 hl (by decide) rfl (fun ls hl => ?_)
    have LP_24_k13 : ∀ (n : Nat) (u12 : St) (H : Heap) (locs : List Loc) (ls : Array Slot) (i_k13 : Int32) (w3_k13 : Int32) (w2_k13 : Int32), Wo D A (mW cy a u12) s.heap H locs → lv_has ls 8 [(4, .int i_k13), (3, .int w3_k13), (2, .int w2_k13), (0, .ref (a 0)), (1, .int x1)] → MI a u12 → Km2 u u12 → 0 ≤ i_k13.toInt ∧ i_k13.toInt ≤ 36 → 36 - i_k13.toInt < (n : Int) → W p l e (rmo 8 175) s m [.ref (a 0), .int x1].toArray below meth c H locs 0 0 Q (F0 m 24 ls []) := by
      intro n
      induction n with
      | zero =>
        intro u12 H locs ls i_k13 w3_k13 w2_k13 hO hl hJ hT iv0_k13 hm_k13
        exact absurd hm_k13 (by omega)
      | succ n ih_k13 =>
        intro u12 H locs ls i_k13 w3_k13 w2_k13 hO hl hJ hT iv0_k13 hm_k13
        refine lv_iload hx hb dX11_swap_24 (lv_at hl 0 rfl) ?_
        refine lv_bipush (v := 36) hx hb dX11_swap_26 (by decide) ?_
        refine cs_ge (tgt := 104) (X := (i_k13).toInt) (Y := 36) hx hb dX11_swap_28 (by decide) rfl rfl (fun c14 => ?_) (fun c14 => ?_)
        · refine lv_iload_n hx hb dX11_swap_104 rfl (lv_at hl 2 rfl) ?_
          refine bs_ge (tgt := 112) (X := (w2_k13).toInt) hx hb dX11_swap_105 (by decide) rfl (fun c15 => ?_) (fun c15 => ?_)
          · refine lv_iload_n hx hb dX11_swap_112 rfl (lv_at hl 4 rfl) ?_
            refine bs_ne (tgt := 123) (X := (x1).toInt) hx hb dX11_swap_113 (by decide) rfl (fun c16 => ?_) (fun c16 => ?_)
            · refine lv_iload_n hx hb dX11_swap_123 rfl (lv_at hl 4 rfl) ?_
              refine lv_iconst (v := 1) hx hb dX11_swap_124 (by decide) ?_
              refine cs_ne (tgt := 135) (X := (x1).toInt) (Y := 1) hx hb dX11_swap_125 (by decide) rfl rfl (fun c17 => ?_) (fun c17 => ?_)
              · refine lv_iload_n hx hb dX11_swap_135 rfl (lv_at hl 1 rfl) ?_
                refine hret _ _ _ _ _ _ dX11_swap_136 rfl ?_ hO
                exact ⟨hJ, hT⟩
              · refine lv_iload_n hx hb dX11_swap_128 rfl (lv_at hl 2 rfl) ?_
                refine lv_bipush (v := 6) hx hb dX11_swap_129 (by decide) ?_
                refine lv_irem hx hb dX11_swap_131 (i_ne0 (X := 6) rfl (by omega)) ?_
                refine lv_topi (fun z18 ez18 => ?_)
                have d19 := i_remj (x := w2_k13) (y := 6) rfl (d := 6) rfl (by omega) (by decide)
                rw [← ez18] at d19
                refine lv_goto (tgt := 136) hx hb dX11_swap_132 (by decide) ?_
                refine hret _ _ _ _ _ _ dX11_swap_136 rfl ?_ hO
                exact ⟨hJ, hT⟩
            · refine lv_iload_n hx hb dX11_swap_116 rfl (lv_at hl 2 rfl) ?_
              refine lv_bipush (v := 6) hx hb dX11_swap_117 (by decide) ?_
              refine lv_idiv hx hb dX11_swap_119 (i_ne0 (X := 6) rfl (by omega)) ?_
              refine lv_topi (fun z20 ez20 => ?_)
              have d21 := i_div (x := w2_k13) (y := 6) rfl (d := 6) rfl (by omega) (by decide)
              rw [← ez20] at d21
              refine lv_goto (tgt := 136) hx hb dX11_swap_120 (by decide) ?_
              refine hret _ _ _ _ _ _ dX11_swap_136 rfl ?_ hO
              exact ⟨hJ, hT⟩
          · refine lv_iconst (v := (-1)) hx hb dX11_swap_108 (by decide) ?_
            refine lv_goto (tgt := 136) hx hb dX11_swap_109 (by decide) ?_
            refine hret _ _ _ _ _ _ dX11_swap_136 rfl ?_ hO
            exact ⟨hJ, hT⟩
        · refine lv_iload hx hb dX11_swap_31 (lv_at hl 0 rfl) ?_
          refine lv_bipush (v := 6) hx hb dX11_swap_33 (by decide) ?_
          refine lv_idiv hx hb dX11_swap_35 (i_ne0 (X := 6) rfl (by omega)) ?_
          refine lv_topi (fun z22 ez22 => ?_)
          have d23 := i_div (x := i_k13) (y := 6) rfl (d := 6) rfl (by omega) (by decide)
          rw [← ez22] at d23
          refine lv_istore (lv' := [(5, .int z22), (4, .int i_k13), (3, .int w3_k13), (2, .int w2_k13), (0, .ref (a 0)), (1, .int x1)]) hx hb dX11_swap_36 hl (by decide) rfl (fun ls hl => ?_)
          refine lv_iload hx hb dX11_swap_38 (lv_at hl 1 rfl) ?_
          refine lv_bipush (v := 6) hx hb dX11_swap_40 (by decide) ?_
          refine lv_irem hx hb dX11_swap_42 (i_ne0 (X := 6) rfl (by omega)) ?_
          refine lv_topi (fun z24 ez24 => ?_)
          have d25 := i_remj (x := i_k13) (y := 6) rfl (d := 6) rfl (by omega) (by decide)
          rw [← ez24] at d25
          refine lv_istore (lv' := [(6, .int z24), (5, .int z22), (4, .int i_k13), (3, .int w3_k13), (2, .int w2_k13), (0, .ref (a 0)), (1, .int x1)]) hx hb dX11_swap_43 hl (by decide) rfl (fun ls hl => ?_)
          refine lv_iload hx hb dX11_swap_45 (lv_at hl 1 rfl) ?_
          refine lv_iload hx hb dX11_swap_47 (lv_at hl 0 rfl) ?_
          refine cs_ge (tgt := 98) (X := (z22).toInt) (Y := (z24).toInt) hx hb dX11_swap_49 (by decide) rfl rfl (fun c26 => ?_) (fun c26 => ?_)
          · obtain ⟨z27, ez27⟩ : ∃ z : Int32, z = i_k13 + Int32.ofInt 1 := ⟨_, rfl⟩
            have e28 : z27.toInt = (i_k13).toInt + 1 := by rw [ez27]; exact i_add rfl rfl (by omega)
            refine lv_iinc (v := z27) (lv' := [(4, .int z27), (6, .int z24), (5, .int z22), (3, .int w3_k13), (2, .int w2_k13), (0, .ref (a 0)), (1, .int x1)]) hx hb dX11_swap_98 hl (k := 2) rfl ez27.symm (by decide) rfl (fun ls hl => ?_)
            refine lv_goto (tgt := 24) hx hb dX11_swap_101 (by decide) ?_
            exact ih_k13 _ _ _ _ (z27) (w3_k13) (w2_k13) hO (lv_sub hl [0, 3, 4, 5, 6] rfl) (by exact hJ) (by exact hT) (by first | decide | omega) (by first | decide | omega)
          · refine lv_aload_n hx hb dX11_swap_52 rfl (lv_at hl 5 rfl) ?_
            refine lv_iload hx hb dX11_swap_53 (lv_at hl 1 rfl) ?_
            have g29 : 0 ≤ (fI u 0 36).toInt ∧ (fI u 0 36).toInt ≤ 1 := by have h := MI_36 hJ0; exact h
            have g30 : 0 ≤ (fA u 6 ((fI u 0 36)).toNatClampNeg).toInt ∧ (fA u 6 ((fI u 0 36)).toNatClampNeg).toInt ≤ 6 := by have h := MI_A6 hJ0 ((fI u 0 36)).toNatClampNeg; exact h
            refine cVi (w := mW cy a) (As := [.int z22]) (rest := []) C hO (T_X11_isHeld l D cy a _ (by exact hJ) ((fA u 6 ((fI u 0 36)).toNatClampNeg)) (by exact (Eq.trans (congrArg (fun z : Int32 => fA _ 6 z.toNatClampNeg) (Km2_I36 hT)) (congrFun (Km2_A6 hT) _))) (z22)) (cwV 1 ht (gV wd_1797 wd_1799 wd_91 wd_121 wd_1800) rfl rfl rfl hd_yX11_isHeld ⟨Nat.le_of_ble_eq_true rfl, Nat.le_of_ble_eq_true rfl⟩) 0 rfl mW_0 rfl rfl hl.1 (Nat.le_of_ble_eq_true rfl) dX11_swap_55 rfl ⟨Nat.zero_le _, Nat.zero_le _⟩ (fun r31 u32 H locs hp33 hO => ?_)
            obtain ⟨hr31, hu32⟩ := hp33
            rw [hu32] at hO
            rcases hr31 with ⟨hcr31, hvr31⟩ | ⟨hcr31, hvr31⟩
            · subst hvr31
              refine bn_eq (X := 1) hx hb dX11_swap_58 rfl (by omega) ?_ (tgt := 98) (by decide)
              refine lv_aload_n hx hb dX11_swap_61 rfl (lv_at hl 5 rfl) ?_
              refine lv_iload hx hb dX11_swap_62 (lv_at hl 0 rfl) ?_
              refine cVi (w := mW cy a) (As := [.int z24]) (rest := []) C hO (T_X11_isHeld l D cy a _ (by exact hJ) ((fA u 6 ((fI u 0 36)).toNatClampNeg)) (by exact (Eq.trans (congrArg (fun z : Int32 => fA _ 6 z.toNatClampNeg) (Km2_I36 hT)) (congrFun (Km2_A6 hT) _))) (z24)) (cwV 1 ht (gV wd_1797 wd_1799 wd_91 wd_121 wd_1800) rfl rfl rfl hd_yX11_isHeld ⟨Nat.le_of_ble_eq_true rfl, Nat.le_of_ble_eq_true rfl⟩) 0 rfl mW_0 rfl rfl hl.1 (Nat.le_of_ble_eq_true rfl) dX11_swap_64 rfl ⟨Nat.zero_le _, Nat.zero_le _⟩ (fun r34 u35 H locs hp36 hO => ?_)
              obtain ⟨hr34, hu35⟩ := hp36
              rw [hu35] at hO
              rcases hr34 with ⟨hcr34, hvr34⟩ | ⟨hcr34, hvr34⟩
              · subst hvr34
                refine bt_ne (tgt := 73) (X := 1) hx hb dX11_swap_67 (by decide) rfl (by omega) ?_
                refine lv_aload_n hx hb dX11_swap_73 rfl (lv_at hl 5 rfl) ?_
                refine lv_iload hx hb dX11_swap_74 (lv_at hl 1 rfl) ?_
                refine lv_iload hx hb dX11_swap_76 (lv_at hl 0 rfl) ?_
                refine cVi (w := mW cy a) (As := [.int z22, .int z24]) (rest := []) C hO (T_X11_freeWith l D cy a _ (by exact hJ) (z22) (z24) (by first | omega | decide) (by first | omega | decide)) (cwV 2 ht (gV wd_1900 wd_1902 wd_99 wd_121 wd_1903) rfl rfl rfl hd_yX11_freeWith ⟨Nat.le_of_ble_eq_true rfl, Nat.le_of_ble_eq_true rfl⟩) 0 rfl mW_0 rfl rfl hl.1 (Nat.le_of_ble_eq_true rfl) dX11_swap_78 rfl ⟨Nat.zero_le _, Nat.zero_le _⟩ (fun r37 u38 H locs hp39 hO => ?_)
                obtain ⟨hJ, hTu38⟩ := hp39
                have hT : Km2 u u38 := Km2.tr (by exact hT) hTu38
                refine lv_istore (lv' := [(7, .int r37), (6, .int z24), (5, .int z22), (4, .int i_k13), (3, .int w3_k13), (2, .int w2_k13), (0, .ref (a 0)), (1, .int x1)]) hx hb dX11_swap_81 hl (by decide) rfl (fun ls hl => ?_)
                refine lv_iload hx hb dX11_swap_83 (lv_at hl 0 rfl) ?_
                refine lv_iload_n hx hb dX11_swap_85 rfl (lv_at hl 4 rfl) ?_
                refine cs_gt (tgt := 92) (X := (r37).toInt) (Y := (w3_k13).toInt) hx hb dX11_swap_86 (by decide) rfl rfl (fun c40 => ?_) (fun c40 => ?_)
                · refine lv_iload hx hb dX11_swap_92 (lv_at hl 3 rfl) ?_
                  refine lv_istore_n (lv' := [(2, .int i_k13), (7, .int r37), (6, .int z24), (5, .int z22), (4, .int i_k13), (3, .int w3_k13), (0, .ref (a 0)), (1, .int x1)]) hx hb dX11_swap_94 rfl hl (by decide) rfl (fun ls hl => ?_)
                  refine lv_iload hx hb dX11_swap_95 (lv_at hl 1 rfl) ?_
                  refine lv_istore_n (lv' := [(3, .int r37), (2, .int i_k13), (7, .int r37), (6, .int z24), (5, .int z22), (4, .int i_k13), (0, .ref (a 0)), (1, .int x1)]) hx hb dX11_swap_97 rfl hl (by decide) rfl (fun ls hl => ?_)
                  obtain ⟨z41, ez41⟩ : ∃ z : Int32, z = i_k13 + Int32.ofInt 1 := ⟨_, rfl⟩
                  have e42 : z41.toInt = (i_k13).toInt + 1 := by rw [ez41]; exact i_add rfl rfl (by omega)
                  refine lv_iinc (v := z41) (lv' := [(4, .int z41), (3, .int r37), (2, .int i_k13), (7, .int r37), (6, .int z24), (5, .int z22), (0, .ref (a 0)), (1, .int x1)]) hx hb dX11_swap_98 hl (k := 5) rfl ez41.symm (by decide) rfl (fun ls hl => ?_)
                  refine lv_goto (tgt := 24) hx hb dX11_swap_101 (by decide) ?_
                  exact ih_k13 _ _ _ _ (z41) (r37) (i_k13) hO (lv_sub hl [0, 1, 2, 6, 7] rfl) (by exact hJ) (by exact hT) (by first | decide | omega) (by first | decide | omega)
                · refine lv_goto (tgt := 98) hx hb dX11_swap_89 (by decide) ?_
                  obtain ⟨z43, ez43⟩ : ∃ z : Int32, z = i_k13 + Int32.ofInt 1 := ⟨_, rfl⟩
                  have e44 : z43.toInt = (i_k13).toInt + 1 := by rw [ez43]; exact i_add rfl rfl (by omega)
                  refine lv_iinc (v := z43) (lv' := [(4, .int z43), (7, .int r37), (6, .int z24), (5, .int z22), (3, .int w3_k13), (2, .int w2_k13), (0, .ref (a 0)), (1, .int x1)]) hx hb dX11_swap_98 hl (k := 3) rfl ez43.symm (by decide) rfl (fun ls hl => ?_)
                  refine lv_goto (tgt := 24) hx hb dX11_swap_101 (by decide) ?_
                  exact ih_k13 _ _ _ _ (z43) (w3_k13) (w2_k13) hO (lv_sub hl [0, 4, 5, 6, 7] rfl) (by exact hJ) (by exact hT) (by first | decide | omega) (by first | decide | omega)
              · subst hvr34
                refine bn_ne (X := 0) hx hb dX11_swap_67 rfl (by omega) ?_ (tgt := 73) (by decide)
                refine lv_goto (tgt := 98) hx hb dX11_swap_70 (by decide) ?_
                obtain ⟨z45, ez45⟩ : ∃ z : Int32, z = i_k13 + Int32.ofInt 1 := ⟨_, rfl⟩
                have e46 : z45.toInt = (i_k13).toInt + 1 := by rw [ez45]; exact i_add rfl rfl (by omega)
                refine lv_iinc (v := z45) (lv' := [(4, .int z45), (6, .int z24), (5, .int z22), (3, .int w3_k13), (2, .int w2_k13), (0, .ref (a 0)), (1, .int x1)]) hx hb dX11_swap_98 hl (k := 2) rfl ez45.symm (by decide) rfl (fun ls hl => ?_)
                refine lv_goto (tgt := 24) hx hb dX11_swap_101 (by decide) ?_
                exact ih_k13 _ _ _ _ (z45) (w3_k13) (w2_k13) hO (lv_sub hl [0, 3, 4, 5, 6] rfl) (by exact hJ) (by exact hT) (by first | decide | omega) (by first | decide | omega)
            · subst hvr31
              refine bt_eq (tgt := 98) (X := 0) hx hb dX11_swap_58 (by decide) rfl (by omega) ?_
              obtain ⟨z47, ez47⟩ : ∃ z : Int32, z = i_k13 + Int32.ofInt 1 := ⟨_, rfl⟩
              have e48 : z47.toInt = (i_k13).toInt + 1 := by rw [ez47]; exact i_add rfl rfl (by omega)
              refine lv_iinc (v := z47) (lv' := [(4, .int z47), (6, .int z24), (5, .int z22), (3, .int w3_k13), (2, .int w2_k13), (0, .ref (a 0)), (1, .int x1)]) hx hb dX11_swap_98 hl (k := 2) rfl ez47.symm (by decide) rfl (fun ls hl => ?_)
              refine lv_goto (tgt := 24) hx hb dX11_swap_101 (by decide) ?_
              exact ih_k13 _ _ _ _ (z47) (w3_k13) (w2_k13) hO (lv_sub hl [0, 3, 4, 5, 6] rfl) (by exact hJ) (by exact hT) (by first | decide | omega) (by first | decide | omega)
    have zc49 : ((-1) : Int32).toInt = (-1) := rfl
    have zc50 : (0 : Int32).toInt = 0 := rfl
    exact LP_24_k13 4000 _ _ _ _ (0) (r9) ((-1)) hO (lv_sub hl [0, 1, 2, 3, 4] rfl) (by exact hJ) (by exact hT) (by first | decide | omega) (by first | decide | omega)
  · subst hvr1
    refine bn_ne (X := 0) hx hb dX11_swap_6 rfl (by omega) ?_ (tgt := 11) (by decide)
    refine lv_iconst (v := (-1)) hx hb dX11_swap_9 (by decide) ?_
    refine hret _ _ _ _ _ _ dX11_swap_10 rfl ?_ hO
    exact ⟨hJ, hT⟩
theorem dX11_contrary_0 : decode cX11_contrary 0 = .ok (.iload_n 1, 1) := by decide +kernel
theorem dX11_contrary_1 : decode cX11_contrary 1 = .ok (.iconst 0, 1) := by decide +kernel
theorem dX11_contrary_2 : decode cX11_contrary 2 = .ok (.iconst 1, 1) := by decide +kernel
theorem dX11_contrary_3 : decode cX11_contrary 3 = .ok (.invokestatic 374, 3) := by decide +kernel
theorem dX11_contrary_6 : decode cX11_contrary 6 = .ok (.ifCond .ne 5, 3) := by decide +kernel
theorem dX11_contrary_9 : decode cX11_contrary 9 = .ok (.iconst (-1), 1) := by decide +kernel
theorem dX11_contrary_10 : decode cX11_contrary 10 = .ok (.ireturn, 1) := by decide +kernel
theorem dX11_contrary_11 : decode cX11_contrary 11 = .ok (.iconst 0, 1) := by decide +kernel
theorem dX11_contrary_12 : decode cX11_contrary 12 = .ok (.istore_n 2, 1) := by decide +kernel
theorem dX11_contrary_13 : decode cX11_contrary 13 = .ok (.iload_n 2, 1) := by decide +kernel
theorem dX11_contrary_14 : decode cX11_contrary 14 = .ok (.bipush 36, 2) := by decide +kernel
theorem dX11_contrary_16 : decode cX11_contrary 16 = .ok (.if_icmp .ge 99, 3) := by decide +kernel
theorem dX11_contrary_19 : decode cX11_contrary 19 = .ok (.iload_n 2, 1) := by decide +kernel
theorem dX11_contrary_20 : decode cX11_contrary 20 = .ok (.bipush 6, 2) := by decide +kernel
theorem dX11_contrary_22 : decode cX11_contrary 22 = .ok (.idiv, 1) := by decide +kernel
theorem dX11_contrary_23 : decode cX11_contrary 23 = .ok (.istore_n 3, 1) := by decide +kernel
theorem dX11_contrary_24 : decode cX11_contrary 24 = .ok (.iload_n 2, 1) := by decide +kernel
theorem dX11_contrary_25 : decode cX11_contrary 25 = .ok (.bipush 6, 2) := by decide +kernel
theorem dX11_contrary_27 : decode cX11_contrary 27 = .ok (.irem, 1) := by decide +kernel
theorem dX11_contrary_28 : decode cX11_contrary 28 = .ok (.istore 4, 2) := by decide +kernel
theorem dX11_contrary_30 : decode cX11_contrary 30 = .ok (.iload_n 3, 1) := by decide +kernel
theorem dX11_contrary_31 : decode cX11_contrary 31 = .ok (.iload 4, 2) := by decide +kernel
theorem dX11_contrary_33 : decode cX11_contrary 33 = .ok (.if_icmp .ge 76, 3) := by decide +kernel
theorem dX11_contrary_36 : decode cX11_contrary 36 = .ok (.aload_n 0, 1) := by decide +kernel
theorem dX11_contrary_37 : decode cX11_contrary 37 = .ok (.iload_n 3, 1) := by decide +kernel
theorem dX11_contrary_38 : decode cX11_contrary 38 = .ok (.invokevirtual 413, 3) := by decide +kernel
theorem dX11_contrary_41 : decode cX11_contrary 41 = .ok (.ifCond .eq 68, 3) := by decide +kernel
theorem dX11_contrary_44 : decode cX11_contrary 44 = .ok (.aload_n 0, 1) := by decide +kernel
theorem dX11_contrary_45 : decode cX11_contrary 45 = .ok (.iload 4, 2) := by decide +kernel
theorem dX11_contrary_47 : decode cX11_contrary 47 = .ok (.invokevirtual 413, 3) := by decide +kernel
theorem dX11_contrary_50 : decode cX11_contrary 50 = .ok (.ifCond .eq 59, 3) := by decide +kernel
theorem dX11_contrary_53 : decode cX11_contrary 53 = .ok (.aload_n 0, 1) := by decide +kernel
theorem dX11_contrary_54 : decode cX11_contrary 54 = .ok (.getfield 97, 3) := by decide +kernel
theorem dX11_contrary_57 : decode cX11_contrary 57 = .ok (.bipush 6, 2) := by decide +kernel
theorem dX11_contrary_59 : decode cX11_contrary 59 = .ok (.iload_n 3, 1) := by decide +kernel
theorem dX11_contrary_60 : decode cX11_contrary 60 = .ok (.iadd, 1) := by decide +kernel
theorem dX11_contrary_61 : decode cX11_contrary 61 = .ok (.iaload, 1) := by decide +kernel
theorem dX11_contrary_62 : decode cX11_contrary 62 = .ok (.aload_n 0, 1) := by decide +kernel
theorem dX11_contrary_63 : decode cX11_contrary 63 = .ok (.getfield 97, 3) := by decide +kernel
theorem dX11_contrary_66 : decode cX11_contrary 66 = .ok (.bipush 6, 2) := by decide +kernel
theorem dX11_contrary_68 : decode cX11_contrary 68 = .ok (.iload 4, 2) := by decide +kernel
theorem dX11_contrary_70 : decode cX11_contrary 70 = .ok (.iadd, 1) := by decide +kernel
theorem dX11_contrary_71 : decode cX11_contrary 71 = .ok (.iaload, 1) := by decide +kernel
theorem dX11_contrary_72 : decode cX11_contrary 72 = .ok (.if_icmp .eq 6, 3) := by decide +kernel
theorem dX11_contrary_75 : decode cX11_contrary 75 = .ok (.goto 34, 3) := by decide +kernel
theorem dX11_contrary_78 : decode cX11_contrary 78 = .ok (.aload_n 0, 1) := by decide +kernel
theorem dX11_contrary_79 : decode cX11_contrary 79 = .ok (.iload_n 3, 1) := by decide +kernel
theorem dX11_contrary_80 : decode cX11_contrary 80 = .ok (.invokevirtual 416, 3) := by decide +kernel
theorem dX11_contrary_83 : decode cX11_contrary 83 = .ok (.invokestatic 439, 3) := by decide +kernel
theorem dX11_contrary_86 : decode cX11_contrary 86 = .ok (.aload_n 0, 1) := by decide +kernel
theorem dX11_contrary_87 : decode cX11_contrary 87 = .ok (.iload 4, 2) := by decide +kernel
theorem dX11_contrary_89 : decode cX11_contrary 89 = .ok (.invokevirtual 416, 3) := by decide +kernel
theorem dX11_contrary_92 : decode cX11_contrary 92 = .ok (.invokestatic 439, 3) := by decide +kernel
theorem dX11_contrary_95 : decode cX11_contrary 95 = .ok (.if_icmp .eq 14, 3) := by decide +kernel
theorem dX11_contrary_98 : decode cX11_contrary 98 = .ok (.iload_n 1, 1) := by decide +kernel
theorem dX11_contrary_99 : decode cX11_contrary 99 = .ok (.ifCond .ne 7, 3) := by decide +kernel
theorem dX11_contrary_102 : decode cX11_contrary 102 = .ok (.iload_n 3, 1) := by decide +kernel
theorem dX11_contrary_103 : decode cX11_contrary 103 = .ok (.goto 5, 3) := by decide +kernel
theorem dX11_contrary_106 : decode cX11_contrary 106 = .ok (.iload 4, 2) := by decide +kernel
theorem dX11_contrary_108 : decode cX11_contrary 108 = .ok (.ireturn, 1) := by decide +kernel
theorem dX11_contrary_109 : decode cX11_contrary 109 = .ok (.iinc 2 1, 3) := by decide +kernel
theorem dX11_contrary_112 : decode cX11_contrary 112 = .ok (.goto (-99), 3) := by decide +kernel
theorem dX11_contrary_115 : decode cX11_contrary 115 = .ok (.iconst (-1), 1) := by decide +kernel
theorem dX11_contrary_116 : decode cX11_contrary 116 = .ok (.ireturn, 1) := by decide +kernel
theorem wd_1907 : (Cond.code ⟨"WebCourtModel", "contrary", "(I)I"⟩ prog_13_method_94_code (5 : Nat) (Option.some FieldType.int)) ∈ gtb := gtb_c8 118 (by decide +kernel) rfl
theorem wd_1825 : (Cond.methodLink "WebCourtModel" (439 : Nat) ⟨"WebCourtModel", "outcome", "(I)I"⟩) ∈ gtb := gtb_c8 36 (by decide +kernel) rfl
theorem wd_1826 : (Cond.static ⟨"WebCourtModel", "outcome", "(I)I"⟩) ∈ gtb := gtb_c8 37 (by decide +kernel) rfl
theorem hd_yX11_outcome : yX11_outcome.cls ≠ "java/lang/invoke/MethodHandle" ∧ yX11_outcome.cls ≠ "java/lang/invoke/VarHandle" ∧ (parseMethodDescriptor yX11_outcome.desc).map (fun d => d.parameters.length) = some 1 := by decide +kernel
set_option maxHeartbeats 4000000 in
set_option maxRecDepth 100000 in
theorem T_X11_contrary (l : Launch) (D : va_G) (cy : Nat → ClassId) (a : Nat → Nat) (u : St) (hJ : MI a u) (x1 : Int32)  : Mi l D cy (mW cy a) yX11_contrary (.code yX11_contrary cX11_contrary 5 (some .int)) (rmo 7 153) [.ref (a 0), .int x1] u (fun (r : Int32) (u' : St) => (MI a u') ∧ (Km2 u u')) := by
  refine Mi.of (own := RX11) rfl (by decide) (Nat.le_of_ble_eq_true rfl) ?_
  have hT : Km2 u u := Km2.rf
  have hJ0 := hJ
  intro p e s m below meth c A Q ls C hret hO hl
  obtain ⟨hx, hb, hml, hown, ht, hK, hA⟩ := id C
  have hl : lv_has ls 5 [(0, .ref (a 0)), (1, .int x1)] := hl
  refine lv_iload_n hx hb dX11_contrary_0 rfl (lv_at hl 1 rfl) ?_
  refine lv_iconst (v := 0) hx hb dX11_contrary_1 (by decide) ?_
  refine lv_iconst (v := 1) hx hb dX11_contrary_2 (by decide) ?_
  refine cSi (w := mW cy a) (As := [.int x1, .int 0, .int 1]) (rest := []) C hO (T_X11_isIn l D cy a _ (by exact hJ) (x1) (0) (1)) (va_cwS 3 ht (gSS wd_1722 wd_1723 wd_121 wd_1724) rfl rfl rfl hd_yX11_isIn ⟨Nat.le_of_ble_eq_true rfl, Nat.le_of_ble_eq_true rfl⟩)  rfl hl.1 (Nat.le_of_ble_eq_true rfl) dX11_contrary_3 rfl ⟨Nat.zero_le _, Nat.zero_le _⟩ (fun r1 u2 H locs hp3 hO => ?_)
  obtain ⟨hr1, hu2⟩ := hp3
  rw [hu2] at hO
  have zz4 : (0 : Int32).toInt = 0 := rfl
  have zz5 : (1 : Int32).toInt = 1 := rfl
  rcases hr1 with ⟨hcr1, hvr1⟩ | ⟨hcr1, hvr1⟩
  · subst hvr1
    refine bt_ne (tgt := 11) (X := 1) hx hb dX11_contrary_6 (by decide) rfl (by omega) ?_
    refine lv_iconst (v := 0) hx hb dX11_contrary_11 (by decide) ?_
    refine lv_istore_n (lv' := [(2, .int 0), (0, .ref (a 0)), (1, .int x1)]) hx hb dX11_contrary_12 rfl hl (by decide) rfl (fun ls hl => ?_)
    have LP_13_k7 : ∀ (n : Nat) (u6 : St) (H : Heap) (locs : List Loc) (ls : Array Slot) (i_k7 : Int32), Wo D A (mW cy a u6) s.heap H locs → lv_has ls 5 [(2, .int i_k7), (0, .ref (a 0)), (1, .int x1)] → MI a u6 → Km2 u u6 → 0 ≤ i_k7.toInt ∧ i_k7.toInt ≤ 36 → 36 - i_k7.toInt < (n : Int) → W p l e (rmo 7 153) s m [.ref (a 0), .int x1].toArray below meth c H locs 0 0 Q (F0 m 13 ls []) := by
      intro n
      induction n with
      | zero =>
        intro u6 H locs ls i_k7 hO hl hJ hT iv0_k7 hm_k7
        exact absurd hm_k7 (by omega)
      | succ n ih_k7 =>
        intro u6 H locs ls i_k7 hO hl hJ hT iv0_k7 hm_k7
        refine lv_iload_n hx hb dX11_contrary_13 rfl (lv_at hl 0 rfl) ?_
        refine lv_bipush (v := 36) hx hb dX11_contrary_14 (by decide) ?_
        refine cs_ge (tgt := 115) (X := (i_k7).toInt) (Y := 36) hx hb dX11_contrary_16 (by decide) rfl rfl (fun c8 => ?_) (fun c8 => ?_)
        · refine lv_iconst (v := (-1)) hx hb dX11_contrary_115 (by decide) ?_
          refine hret _ _ _ _ _ _ dX11_contrary_116 rfl ?_ hO
          exact ⟨hJ, hT⟩
        · refine lv_iload_n hx hb dX11_contrary_19 rfl (lv_at hl 0 rfl) ?_
          refine lv_bipush (v := 6) hx hb dX11_contrary_20 (by decide) ?_
          refine lv_idiv hx hb dX11_contrary_22 (i_ne0 (X := 6) rfl (by omega)) ?_
          refine lv_topi (fun z9 ez9 => ?_)
          have d10 := i_div (x := i_k7) (y := 6) rfl (d := 6) rfl (by omega) (by decide)
          rw [← ez9] at d10
          refine lv_istore_n (lv' := [(3, .int z9), (2, .int i_k7), (0, .ref (a 0)), (1, .int x1)]) hx hb dX11_contrary_23 rfl hl (by decide) rfl (fun ls hl => ?_)
          refine lv_iload_n hx hb dX11_contrary_24 rfl (lv_at hl 1 rfl) ?_
          refine lv_bipush (v := 6) hx hb dX11_contrary_25 (by decide) ?_
          refine lv_irem hx hb dX11_contrary_27 (i_ne0 (X := 6) rfl (by omega)) ?_
          refine lv_topi (fun z11 ez11 => ?_)
          have d12 := i_remj (x := i_k7) (y := 6) rfl (d := 6) rfl (by omega) (by decide)
          rw [← ez11] at d12
          refine lv_istore (lv' := [(4, .int z11), (3, .int z9), (2, .int i_k7), (0, .ref (a 0)), (1, .int x1)]) hx hb dX11_contrary_28 hl (by decide) rfl (fun ls hl => ?_)
          refine lv_iload_n hx hb dX11_contrary_30 rfl (lv_at hl 1 rfl) ?_
          refine lv_iload hx hb dX11_contrary_31 (lv_at hl 0 rfl) ?_
          refine cs_ge (tgt := 109) (X := (z9).toInt) (Y := (z11).toInt) hx hb dX11_contrary_33 (by decide) rfl rfl (fun c13 => ?_) (fun c13 => ?_)
          · obtain ⟨z14, ez14⟩ : ∃ z : Int32, z = i_k7 + Int32.ofInt 1 := ⟨_, rfl⟩
            have e15 : z14.toInt = (i_k7).toInt + 1 := by rw [ez14]; exact i_add rfl rfl (by omega)
            refine lv_iinc (v := z14) (lv' := [(2, .int z14), (4, .int z11), (3, .int z9), (0, .ref (a 0)), (1, .int x1)]) hx hb dX11_contrary_109 hl (k := 2) rfl ez14.symm (by decide) rfl (fun ls hl => ?_)
            refine lv_goto (tgt := 13) hx hb dX11_contrary_112 (by decide) ?_
            exact ih_k7 _ _ _ _ (z14) hO (lv_sub hl [0, 3, 4] rfl) (by exact hJ) (by exact hT) (by first | decide | omega) (by first | decide | omega)
          · refine lv_aload_n hx hb dX11_contrary_36 rfl (lv_at hl 3 rfl) ?_
            refine lv_iload_n hx hb dX11_contrary_37 rfl (lv_at hl 1 rfl) ?_
            have g16 : 0 ≤ (fI u 0 36).toInt ∧ (fI u 0 36).toInt ≤ 1 := by have h := MI_36 hJ0; exact h
            have g17 : 0 ≤ (fA u 6 ((fI u 0 36)).toNatClampNeg).toInt ∧ (fA u 6 ((fI u 0 36)).toNatClampNeg).toInt ≤ 6 := by have h := MI_A6 hJ0 ((fI u 0 36)).toNatClampNeg; exact h
            refine cVi (w := mW cy a) (As := [.int z9]) (rest := []) C hO (T_X11_isHeld l D cy a _ (by exact hJ) ((fA u 6 ((fI u 0 36)).toNatClampNeg)) (by exact (Eq.trans (congrArg (fun z : Int32 => fA _ 6 z.toNatClampNeg) (Km2_I36 hT)) (congrFun (Km2_A6 hT) _))) (z9)) (cwV 1 ht (gV wd_1797 wd_1799 wd_91 wd_121 wd_1800) rfl rfl rfl hd_yX11_isHeld ⟨Nat.le_of_ble_eq_true rfl, Nat.le_of_ble_eq_true rfl⟩) 0 rfl mW_0 rfl rfl hl.1 (Nat.le_of_ble_eq_true rfl) dX11_contrary_38 rfl ⟨Nat.zero_le _, Nat.zero_le _⟩ (fun r18 u19 H locs hp20 hO => ?_)
            obtain ⟨hr18, hu19⟩ := hp20
            rw [hu19] at hO
            rcases hr18 with ⟨hcr18, hvr18⟩ | ⟨hcr18, hvr18⟩
            · subst hvr18
              refine bn_eq (X := 1) hx hb dX11_contrary_41 rfl (by omega) ?_ (tgt := 109) (by decide)
              refine lv_aload_n hx hb dX11_contrary_44 rfl (lv_at hl 3 rfl) ?_
              refine lv_iload hx hb dX11_contrary_45 (lv_at hl 0 rfl) ?_
              refine cVi (w := mW cy a) (As := [.int z11]) (rest := []) C hO (T_X11_isHeld l D cy a _ (by exact hJ) ((fA u 6 ((fI u 0 36)).toNatClampNeg)) (by exact (Eq.trans (congrArg (fun z : Int32 => fA _ 6 z.toNatClampNeg) (Km2_I36 hT)) (congrFun (Km2_A6 hT) _))) (z11)) (cwV 1 ht (gV wd_1797 wd_1799 wd_91 wd_121 wd_1800) rfl rfl rfl hd_yX11_isHeld ⟨Nat.le_of_ble_eq_true rfl, Nat.le_of_ble_eq_true rfl⟩) 0 rfl mW_0 rfl rfl hl.1 (Nat.le_of_ble_eq_true rfl) dX11_contrary_47 rfl ⟨Nat.zero_le _, Nat.zero_le _⟩ (fun r21 u22 H locs hp23 hO => ?_)
              obtain ⟨hr21, hu22⟩ := hp23
              rw [hu22] at hO
              rcases hr21 with ⟨hcr21, hvr21⟩ | ⟨hcr21, hvr21⟩
              · subst hvr21
                refine bn_eq (X := 1) hx hb dX11_contrary_50 rfl (by omega) ?_ (tgt := 109) (by decide)
                refine lv_aload_n hx hb dX11_contrary_53 rfl (lv_at hl 3 rfl) ?_
                refine gf_RX11_97 (v := .ref (a 28)) C hO 0 mW_0 rfl dX11_contrary_54 ?_
                refine lv_bipush (v := 6) hx hb dX11_contrary_57 (by decide) ?_
                refine lv_iload_n hx hb dX11_contrary_59 rfl (lv_at hl 1 rfl) ?_
                refine lv_iadd hx hb dX11_contrary_60 ?_
                refine lv_topi (fun z24 ez24 => ?_)
                have e25 : z24.toInt = 6 + (z9).toInt := by rw [ez24]; exact i_add rfl rfl (by omega)
                refine aI C hO 28 mW_28 (i_in (X := (6 + (z9).toInt)) e25 (by omega) (by omega)) dX11_contrary_61 ?_
                refine tE (y := (fA u 28 (z24).toNatClampNeg)) (by exact (congrFun (Km2_A28 hT) _)) ?_
                refine lv_aload_n hx hb dX11_contrary_62 rfl (lv_at hl 3 rfl) ?_
                refine gf_RX11_97 (v := .ref (a 28)) C hO 0 mW_0 rfl dX11_contrary_63 ?_
                refine lv_bipush (v := 6) hx hb dX11_contrary_66 (by decide) ?_
                refine lv_iload hx hb dX11_contrary_68 (lv_at hl 0 rfl) ?_
                refine lv_iadd hx hb dX11_contrary_70 ?_
                refine lv_topi (fun z26 ez26 => ?_)
                have e27 : z26.toInt = 6 + (z11).toInt := by rw [ez26]; exact i_add rfl rfl (by omega)
                refine aI C hO 28 mW_28 (i_in (X := (6 + (z11).toInt)) e27 (by omega) (by omega)) dX11_contrary_71 ?_
                refine tE (y := (fA u 28 (z26).toNatClampNeg)) (by exact (congrFun (Km2_A28 hT) _)) ?_
                refine cs_eq (tgt := 78) (X := ((fA u 28 (z24).toNatClampNeg)).toInt) (Y := ((fA u 28 (z26).toNatClampNeg)).toInt) hx hb dX11_contrary_72 (by decide) rfl rfl (fun c28 => ?_) (fun c28 => ?_)
                · refine lv_aload_n hx hb dX11_contrary_78 rfl (lv_at hl 3 rfl) ?_
                  refine lv_iload_n hx hb dX11_contrary_79 rfl (lv_at hl 1 rfl) ?_
                  refine cVi (w := mW cy a) (As := [.int z9]) (rest := []) C hO (T_X11_verdictOf l D cy a _ (by exact hJ) (z9) (by first | omega | decide)) (cwV 1 ht (gV wd_1761 wd_1763 wd_84 wd_121 wd_1764) rfl rfl rfl hd_yX11_verdictOf ⟨Nat.le_of_ble_eq_true rfl, Nat.le_of_ble_eq_true rfl⟩) 0 rfl mW_0 rfl rfl hl.1 (Nat.le_of_ble_eq_true rfl) dX11_contrary_80 rfl ⟨Nat.zero_le _, Nat.zero_le _⟩ (fun r29 u30 H locs hp31 hO => ?_)
                  obtain ⟨hJ, hTu30⟩ := hp31
                  have hT : Km2 u u30 := Km2.tr (by exact hT) hTu30
                  refine cSi (w := mW cy a) (As := [.int r29]) (rest := []) C hO (T_X11_outcome l D cy a _ (by exact hJ) (r29)) (va_cwS 1 ht (gSS wd_1825 wd_1826 wd_121 wd_1827) rfl rfl rfl hd_yX11_outcome ⟨Nat.le_of_ble_eq_true rfl, Nat.le_of_ble_eq_true rfl⟩)  rfl hl.1 (Nat.le_of_ble_eq_true rfl) dX11_contrary_83 rfl ⟨Nat.zero_le _, Nat.zero_le _⟩ (fun r32 u33 H locs hp34 hO => ?_)
                  obtain ⟨hr32, hu33⟩ := hp34
                  rw [hu33] at hO
                  refine lv_aload_n hx hb dX11_contrary_86 rfl (lv_at hl 3 rfl) ?_
                  refine lv_iload hx hb dX11_contrary_87 (lv_at hl 0 rfl) ?_
                  refine cVi (w := mW cy a) (As := [.int z11]) (rest := [.int r32]) C hO (T_X11_verdictOf l D cy a _ (by exact hJ) (z11) (by first | omega | decide)) (cwV 1 ht (gV wd_1761 wd_1763 wd_84 wd_121 wd_1764) rfl rfl rfl hd_yX11_verdictOf ⟨Nat.le_of_ble_eq_true rfl, Nat.le_of_ble_eq_true rfl⟩) 0 rfl mW_0 rfl rfl hl.1 (Nat.le_of_ble_eq_true rfl) dX11_contrary_89 rfl ⟨Nat.zero_le _, Nat.zero_le _⟩ (fun r35 u36 H locs hp37 hO => ?_)
                  obtain ⟨hJ, hTu36⟩ := hp37
                  have hT : Km2 u u36 := Km2.tr (by exact hT) hTu36
                  refine cSi (w := mW cy a) (As := [.int r35]) (rest := [.int r32]) C hO (T_X11_outcome l D cy a _ (by exact hJ) (r35)) (va_cwS 1 ht (gSS wd_1825 wd_1826 wd_121 wd_1827) rfl rfl rfl hd_yX11_outcome ⟨Nat.le_of_ble_eq_true rfl, Nat.le_of_ble_eq_true rfl⟩)  rfl hl.1 (Nat.le_of_ble_eq_true rfl) dX11_contrary_92 rfl ⟨Nat.zero_le _, Nat.zero_le _⟩ (fun r38 u39 H locs hp40 hO => ?_)
                  obtain ⟨hr38, hu39⟩ := hp40
                  rw [hu39] at hO
                  refine cs_eq (tgt := 109) (X := (r32).toInt) (Y := (r38).toInt) hx hb dX11_contrary_95 (by decide) rfl rfl (fun c41 => ?_) (fun c41 => ?_)
                  · obtain ⟨z42, ez42⟩ : ∃ z : Int32, z = i_k7 + Int32.ofInt 1 := ⟨_, rfl⟩
                    have e43 : z42.toInt = (i_k7).toInt + 1 := by rw [ez42]; exact i_add rfl rfl (by omega)
                    refine lv_iinc (v := z42) (lv' := [(2, .int z42), (4, .int z11), (3, .int z9), (0, .ref (a 0)), (1, .int x1)]) hx hb dX11_contrary_109 hl (k := 2) rfl ez42.symm (by decide) rfl (fun ls hl => ?_)
                    refine lv_goto (tgt := 13) hx hb dX11_contrary_112 (by decide) ?_
                    exact ih_k7 _ _ _ _ (z42) hO (lv_sub hl [0, 3, 4] rfl) (by exact hJ) (by exact hT) (by first | decide | omega) (by first | decide | omega)
                  · refine lv_iload_n hx hb dX11_contrary_98 rfl (lv_at hl 4 rfl) ?_
                    refine bs_ne (tgt := 106) (X := (x1).toInt) hx hb dX11_contrary_99 (by decide) rfl (fun c44 => ?_) (fun c44 => ?_)
                    · refine lv_iload hx hb dX11_contrary_106 (lv_at hl 0 rfl) ?_
                      refine hret _ _ _ _ _ _ dX11_contrary_108 rfl ?_ hO
                      exact ⟨hJ, hT⟩
                    · refine lv_iload_n hx hb dX11_contrary_102 rfl (lv_at hl 1 rfl) ?_
                      refine lv_goto (tgt := 108) hx hb dX11_contrary_103 (by decide) ?_
                      refine hret _ _ _ _ _ _ dX11_contrary_108 rfl ?_ hO
                      exact ⟨hJ, hT⟩
                · refine lv_goto (tgt := 109) hx hb dX11_contrary_75 (by decide) ?_
                  obtain ⟨z45, ez45⟩ : ∃ z : Int32, z = i_k7 + Int32.ofInt 1 := ⟨_, rfl⟩
                  have e46 : z45.toInt = (i_k7).toInt + 1 := by rw [ez45]; exact i_add rfl rfl (by omega)
                  refine lv_iinc (v := z45) (lv' := [(2, .int z45), (4, .int z11), (3, .int z9), (0, .ref (a 0)), (1, .int x1)]) hx hb dX11_contrary_109 hl (k := 2) rfl ez45.symm (by decide) rfl (fun ls hl => ?_)
                  refine lv_goto (tgt := 13) hx hb dX11_contrary_112 (by decide) ?_
                  exact ih_k7 _ _ _ _ (z45) hO (lv_sub hl [0, 3, 4] rfl) (by exact hJ) (by exact hT) (by first | decide | omega) (by first | decide | omega)
              · subst hvr21
                refine bt_eq (tgt := 109) (X := 0) hx hb dX11_contrary_50 (by decide) rfl (by omega) ?_
                obtain ⟨z47, ez47⟩ : ∃ z : Int32, z = i_k7 + Int32.ofInt 1 := ⟨_, rfl⟩
                have e48 : z47.toInt = (i_k7).toInt + 1 := by rw [ez47]; exact i_add rfl rfl (by omega)
                refine lv_iinc (v := z47) (lv' := [(2, .int z47), (4, .int z11), (3, .int z9), (0, .ref (a 0)), (1, .int x1)]) hx hb dX11_contrary_109 hl (k := 2) rfl ez47.symm (by decide) rfl (fun ls hl => ?_)
                refine lv_goto (tgt := 13) hx hb dX11_contrary_112 (by decide) ?_
                exact ih_k7 _ _ _ _ (z47) hO (lv_sub hl [0, 3, 4] rfl) (by exact hJ) (by exact hT) (by first | decide | omega) (by first | decide | omega)
            · subst hvr18
              refine bt_eq (tgt := 109) (X := 0) hx hb dX11_contrary_41 (by decide) rfl (by omega) ?_
              obtain ⟨z49, ez49⟩ : ∃ z : Int32, z = i_k7 + Int32.ofInt 1 := ⟨_, rfl⟩
              have e50 : z49.toInt = (i_k7).toInt + 1 := by rw [ez49]; exact i_add rfl rfl (by omega)
              refine lv_iinc (v := z49) (lv' := [(2, .int z49), (4, .int z11), (3, .int z9), (0, .ref (a 0)), (1, .int x1)]) hx hb dX11_contrary_109 hl (k := 2) rfl ez49.symm (by decide) rfl (fun ls hl => ?_)
              refine lv_goto (tgt := 13) hx hb dX11_contrary_112 (by decide) ?_
              exact ih_k7 _ _ _ _ (z49) hO (lv_sub hl [0, 3, 4] rfl) (by exact hJ) (by exact hT) (by first | decide | omega) (by first | decide | omega)
    have zc51 : (0 : Int32).toInt = 0 := rfl
    exact LP_13_k7 4000 _ _ _ _ (0) hO (lv_sub hl [0, 1, 2] rfl) (by exact hJ) (by exact hT) (by first | decide | omega) (by first | decide | omega)
  · subst hvr1
    refine bn_ne (X := 0) hx hb dX11_contrary_6 rfl (by omega) ?_ (tgt := 11) (by decide)
    refine lv_iconst (v := (-1)) hx hb dX11_contrary_9 (by decide) ?_
    refine hret _ _ _ _ _ _ dX11_contrary_10 rfl ?_ hO
    exact ⟨hJ, hT⟩
def Km3 (u v : St) : Prop := fI v 0 2 = fI u 0 2 ∧ fI v 0 3 = fI u 0 3 ∧ fI v 0 4 = fI u 0 4 ∧ fI v 0 5 = fI u 0 5 ∧ fI v 0 6 = fI u 0 6 ∧ fI v 0 7 = fI u 0 7 ∧ fI v 0 8 = fI u 0 8 ∧ fI v 0 9 = fI u 0 9 ∧ fL v 0 10 = fL u 0 10 ∧ fI v 0 36 = fI u 0 36 ∧ fI v 0 37 = fI u 0 37 ∧ fI v 0 38 = fI u 0 38 ∧ fI v 0 39 = fI u 0 39 ∧ fI v 0 40 = fI u 0 40 ∧ fI v 0 41 = fI u 0 41 ∧ fI v 0 45 = fI u 0 45 ∧ fI v 0 47 = fI u 0 47 ∧ fI v 0 48 = fI u 0 48 ∧ fI v 0 50 = fI u 0 50 ∧ fI v 0 61 = fI u 0 61 ∧ fI v 0 62 = fI u 0 62 ∧ fA v 1 = fA u 1 ∧ fA v 2 = fA u 2 ∧ fA v 3 = fA u 3 ∧ fA v 4 = fA u 4 ∧ fA v 5 = fA u 5 ∧ fA v 6 = fA u 6 ∧ fA v 7 = fA u 7 ∧ fA v 8 = fA u 8 ∧ fA v 9 = fA u 9 ∧ fA v 10 = fA u 10 ∧ fA v 11 = fA u 11 ∧ fA v 12 = fA u 12 ∧ fA v 13 = fA u 13 ∧ fA v 14 = fA u 14 ∧ fA v 15 = fA u 15 ∧ fA v 16 = fA u 16 ∧ fA v 17 = fA u 17 ∧ fA v 18 = fA u 18 ∧ fA v 19 = fA u 19 ∧ fJ v 20 = fJ u 20 ∧ fJ v 21 = fJ u 21 ∧ fJ v 22 = fJ u 22 ∧ fA v 23 = fA u 23 ∧ fA v 24 = fA u 24 ∧ fA v 25 = fA u 25 ∧ fA v 26 = fA u 26 ∧ fA v 29 = fA u 29 ∧ fA v 30 = fA u 30 ∧ fA v 31 = fA u 31 ∧ fA v 32 = fA u 32 ∧ fA v 33 = fA u 33 ∧ fA v 34 = fA u 34 ∧ fA v 35 = fA u 35 ∧ fA v 36 = fA u 36 ∧ fA v 37 = fA u 37 ∧ fA v 38 = fA u 38 ∧ fA v 39 = fA u 39 ∧ fA v 40 = fA u 40 ∧ fA v 41 = fA u 41 ∧ fA v 42 = fA u 42
theorem Km3.rf {u : St} : Km3 u u := ⟨rfl, rfl, rfl, rfl, rfl, rfl, rfl, rfl, rfl, rfl, rfl, rfl, rfl, rfl, rfl, rfl, rfl, rfl, rfl, rfl, rfl, rfl, rfl, rfl, rfl, rfl, rfl, rfl, rfl, rfl, rfl, rfl, rfl, rfl, rfl, rfl, rfl, rfl, rfl, rfl, rfl, rfl, rfl, rfl, rfl, rfl, rfl, rfl, rfl, rfl, rfl, rfl, rfl, rfl, rfl, rfl, rfl, rfl, rfl, rfl, rfl⟩
theorem Km3.tr {u v w : St} (h1 : Km3 u v) (h2 : Km3 v w) : Km3 u w := ⟨(h2.1).trans h1.1, (h2.2.1).trans h1.2.1, (h2.2.2.1).trans h1.2.2.1, (h2.2.2.2.1).trans h1.2.2.2.1, (h2.2.2.2.2.1).trans h1.2.2.2.2.1, (h2.2.2.2.2.2.1).trans h1.2.2.2.2.2.1, (h2.2.2.2.2.2.2.1).trans h1.2.2.2.2.2.2.1, (h2.2.2.2.2.2.2.2.1).trans h1.2.2.2.2.2.2.2.1, (h2.2.2.2.2.2.2.2.2.1).trans h1.2.2.2.2.2.2.2.2.1, (h2.2.2.2.2.2.2.2.2.2.1).trans h1.2.2.2.2.2.2.2.2.2.1, (h2.2.2.2.2.2.2.2.2.2.2.1).trans h1.2.2.2.2.2.2.2.2.2.2.1, (h2.2.2.2.2.2.2.2.2.2.2.2.1).trans h1.2.2.2.2.2.2.2.2.2.2.2.1, (h2.2.2.2.2.2.2.2.2.2.2.2.2.1).trans h1.2.2.2.2.2.2.2.2.2.2.2.2.1, (h2.2.2.2.2.2.2.2.2.2.2.2.2.2.1).trans h1.2.2.2.2.2.2.2.2.2.2.2.2.2.1, (h2.2.2.2.2.2.2.2.2.2.2.2.2.2.2.1).trans h1.2.2.2.2.2.2.2.2.2.2.2.2.2.2.1, (h2.2.2.2.2.2.2.2.2.2.2.2.2.2.2.2.1).trans h1.2.2.2.2.2.2.2.2.2.2.2.2.2.2.2.1, (h2.2.2.2.2.2.2.2.2.2.2.2.2.2.2.2.2.1).trans h1.2.2.2.2.2.2.2.2.2.2.2.2.2.2.2.2.1, (h2.2.2.2.2.2.2.2.2.2.2.2.2.2.2.2.2.2.1).trans h1.2.2.2.2.2.2.2.2.2.2.2.2.2.2.2.2.2.1, (h2.2.2.2.2.2.2.2.2.2.2.2.2.2.2.2.2.2.2.1).trans h1.2.2.2.2.2.2.2.2.2.2.2.2.2.2.2.2.2.2.1, (h2.2.2.2.2.2.2.2.2.2.2.2.2.2.2.2.2.2.2.2.1).trans h1.2.2.2.2.2.2.2.2.2.2.2.2.2.2.2.2.2.2.2.1, (h2.2.2.2.2.2.2.2.2.2.2.2.2.2.2.2.2.2.2.2.2.1).trans h1.2.2.2.2.2.2.2.2.2.2.2.2.2.2.2.2.2.2.2.2.1, (h2.2.2.2.2.2.2.2.2.2.2.2.2.2.2.2.2.2.2.2.2.2.1).trans h1.2.2.2.2.2.2.2.2.2.2.2.2.2.2.2.2.2.2.2.2.2.1, (h2.2.2.2.2.2.2.2.2.2.2.2.2.2.2.2.2.2.2.2.2.2.2.1).trans h1.2.2.2.2.2.2.2.2.2.2.2.2.2.2.2.2.2.2.2.2.2.2.1, (h2.2.2.2.2.2.2.2.2.2.2.2.2.2.2.2.2.2.2.2.2.2.2.2.1).trans h1.2.2.2.2.2.2.2.2.2.2.2.2.2.2.2.2.2.2.2.2.2.2.2.1, (h2.2.2.2.2.2.2.2.2.2.2.2.2.2.2.2.2.2.2.2.2.2.2.2.2.1).trans h1.2.2.2.2.2.2.2.2.2.2.2.2.2.2.2.2.2.2.2.2.2.2.2.2.1, (h2.2.2.2.2.2.2.2.2.2.2.2.2.2.2.2.2.2.2.2.2.2.2.2.2.2.1).trans h1.2.2.2.2.2.2.2.2.2.2.2.2.2.2.2.2.2.2.2.2.2.2.2.2.2.1, (h2.2.2.2.2.2.2.2.2.2.2.2.2.2.2.2.2.2.2.2.2.2.2.2.2.2.2.1).trans h1.2.2.2.2.2.2.2.2.2.2.2.2.2.2.2.2.2.2.2.2.2.2.2.2.2.2.1, (h2.2.2.2.2.2.2.2.2.2.2.2.2.2.2.2.2.2.2.2.2.2.2.2.2.2.2.2.1).trans h1.2.2.2.2.2.2.2.2.2.2.2.2.2.2.2.2.2.2.2.2.2.2.2.2.2.2.2.1, (h2.2.2.2.2.2.2.2.2.2.2.2.2.2.2.2.2.2.2.2.2.2.2.2.2.2.2.2.2.1).trans h1.2.2.2.2.2.2.2.2.2.2.2.2.2.2.2.2.2.2.2.2.2.2.2.2.2.2.2.2.1, (h2.2.2.2.2.2.2.2.2.2.2.2.2.2.2.2.2.2.2.2.2.2.2.2.2.2.2.2.2.2.1).trans h1.2.2.2.2.2.2.2.2.2.2.2.2.2.2.2.2.2.2.2.2.2.2.2.2.2.2.2.2.2.1, (h2.2.2.2.2.2.2.2.2.2.2.2.2.2.2.2.2.2.2.2.2.2.2.2.2.2.2.2.2.2.2.1).trans h1.2.2.2.2.2.2.2.2.2.2.2.2.2.2.2.2.2.2.2.2.2.2.2.2.2.2.2.2.2.2.1, (h2.2.2.2.2.2.2.2.2.2.2.2.2.2.2.2.2.2.2.2.2.2.2.2.2.2.2.2.2.2.2.2.1).trans h1.2.2.2.2.2.2.2.2.2.2.2.2.2.2.2.2.2.2.2.2.2.2.2.2.2.2.2.2.2.2.2.1, (h2.2.2.2.2.2.2.2.2.2.2.2.2.2.2.2.2.2.2.2.2.2.2.2.2.2.2.2.2.2.2.2.2.1).trans h1.2.2.2.2.2.2.2.2.2.2.2.2.2.2.2.2.2.2.2.2.2.2.2.2.2.2.2.2.2.2.2.2.1, (h2.2.2.2.2.2.2.2.2.2.2.2.2.2.2.2.2.2.2.2.2.2.2.2.2.2.2.2.2.2.2.2.2.2.1).trans h1.2.2.2.2.2.2.2.2.2.2.2.2.2.2.2.2.2.2.2.2.2.2.2.2.2.2.2.2.2.2.2.2.2.1, (h2.2.2.2.2.2.2.2.2.2.2.2.2.2.2.2.2.2.2.2.2.2.2.2.2.2.2.2.2.2.2.2.2.2.2.1).trans h1.2.2.2.2.2.2.2.2.2.2.2.2.2.2.2.2.2.2.2.2.2.2.2.2.2.2.2.2.2.2.2.2.2.2.1, (h2.2.2.2.2.2.2.2.2.2.2.2.2.2.2.2.2.2.2.2.2.2.2.2.2.2.2.2.2.2.2.2.2.2.2.2.1).trans h1.2.2.2.2.2.2.2.2.2.2.2.2.2.2.2.2.2.2.2.2.2.2.2.2.2.2.2.2.2.2.2.2.2.2.2.1, (h2.2.2.2.2.2.2.2.2.2.2.2.2.2.2.2.2.2.2.2.2.2.2.2.2.2.2.2.2.2.2.2.2.2.2.2.2.1).trans h1.2.2.2.2.2.2.2.2.2.2.2.2.2.2.2.2.2.2.2.2.2.2.2.2.2.2.2.2.2.2.2.2.2.2.2.2.1, (h2.2.2.2.2.2.2.2.2.2.2.2.2.2.2.2.2.2.2.2.2.2.2.2.2.2.2.2.2.2.2.2.2.2.2.2.2.2.1).trans h1.2.2.2.2.2.2.2.2.2.2.2.2.2.2.2.2.2.2.2.2.2.2.2.2.2.2.2.2.2.2.2.2.2.2.2.2.2.1, (h2.2.2.2.2.2.2.2.2.2.2.2.2.2.2.2.2.2.2.2.2.2.2.2.2.2.2.2.2.2.2.2.2.2.2.2.2.2.2.1).trans h1.2.2.2.2.2.2.2.2.2.2.2.2.2.2.2.2.2.2.2.2.2.2.2.2.2.2.2.2.2.2.2.2.2.2.2.2.2.2.1, (h2.2.2.2.2.2.2.2.2.2.2.2.2.2.2.2.2.2.2.2.2.2.2.2.2.2.2.2.2.2.2.2.2.2.2.2.2.2.2.2.1).trans h1.2.2.2.2.2.2.2.2.2.2.2.2.2.2.2.2.2.2.2.2.2.2.2.2.2.2.2.2.2.2.2.2.2.2.2.2.2.2.2.1, (h2.2.2.2.2.2.2.2.2.2.2.2.2.2.2.2.2.2.2.2.2.2.2.2.2.2.2.2.2.2.2.2.2.2.2.2.2.2.2.2.2.1).trans h1.2.2.2.2.2.2.2.2.2.2.2.2.2.2.2.2.2.2.2.2.2.2.2.2.2.2.2.2.2.2.2.2.2.2.2.2.2.2.2.2.1, (h2.2.2.2.2.2.2.2.2.2.2.2.2.2.2.2.2.2.2.2.2.2.2.2.2.2.2.2.2.2.2.2.2.2.2.2.2.2.2.2.2.2.1).trans h1.2.2.2.2.2.2.2.2.2.2.2.2.2.2.2.2.2.2.2.2.2.2.2.2.2.2.2.2.2.2.2.2.2.2.2.2.2.2.2.2.2.1, (h2.2.2.2.2.2.2.2.2.2.2.2.2.2.2.2.2.2.2.2.2.2.2.2.2.2.2.2.2.2.2.2.2.2.2.2.2.2.2.2.2.2.2.1).trans h1.2.2.2.2.2.2.2.2.2.2.2.2.2.2.2.2.2.2.2.2.2.2.2.2.2.2.2.2.2.2.2.2.2.2.2.2.2.2.2.2.2.2.1, (h2.2.2.2.2.2.2.2.2.2.2.2.2.2.2.2.2.2.2.2.2.2.2.2.2.2.2.2.2.2.2.2.2.2.2.2.2.2.2.2.2.2.2.2.1).trans h1.2.2.2.2.2.2.2.2.2.2.2.2.2.2.2.2.2.2.2.2.2.2.2.2.2.2.2.2.2.2.2.2.2.2.2.2.2.2.2.2.2.2.2.1, (h2.2.2.2.2.2.2.2.2.2.2.2.2.2.2.2.2.2.2.2.2.2.2.2.2.2.2.2.2.2.2.2.2.2.2.2.2.2.2.2.2.2.2.2.2.1).trans h1.2.2.2.2.2.2.2.2.2.2.2.2.2.2.2.2.2.2.2.2.2.2.2.2.2.2.2.2.2.2.2.2.2.2.2.2.2.2.2.2.2.2.2.2.1, (h2.2.2.2.2.2.2.2.2.2.2.2.2.2.2.2.2.2.2.2.2.2.2.2.2.2.2.2.2.2.2.2.2.2.2.2.2.2.2.2.2.2.2.2.2.2.1).trans h1.2.2.2.2.2.2.2.2.2.2.2.2.2.2.2.2.2.2.2.2.2.2.2.2.2.2.2.2.2.2.2.2.2.2.2.2.2.2.2.2.2.2.2.2.2.1, (h2.2.2.2.2.2.2.2.2.2.2.2.2.2.2.2.2.2.2.2.2.2.2.2.2.2.2.2.2.2.2.2.2.2.2.2.2.2.2.2.2.2.2.2.2.2.2.1).trans h1.2.2.2.2.2.2.2.2.2.2.2.2.2.2.2.2.2.2.2.2.2.2.2.2.2.2.2.2.2.2.2.2.2.2.2.2.2.2.2.2.2.2.2.2.2.2.1, (h2.2.2.2.2.2.2.2.2.2.2.2.2.2.2.2.2.2.2.2.2.2.2.2.2.2.2.2.2.2.2.2.2.2.2.2.2.2.2.2.2.2.2.2.2.2.2.2.1).trans h1.2.2.2.2.2.2.2.2.2.2.2.2.2.2.2.2.2.2.2.2.2.2.2.2.2.2.2.2.2.2.2.2.2.2.2.2.2.2.2.2.2.2.2.2.2.2.2.1, (h2.2.2.2.2.2.2.2.2.2.2.2.2.2.2.2.2.2.2.2.2.2.2.2.2.2.2.2.2.2.2.2.2.2.2.2.2.2.2.2.2.2.2.2.2.2.2.2.2.1).trans h1.2.2.2.2.2.2.2.2.2.2.2.2.2.2.2.2.2.2.2.2.2.2.2.2.2.2.2.2.2.2.2.2.2.2.2.2.2.2.2.2.2.2.2.2.2.2.2.2.1, (h2.2.2.2.2.2.2.2.2.2.2.2.2.2.2.2.2.2.2.2.2.2.2.2.2.2.2.2.2.2.2.2.2.2.2.2.2.2.2.2.2.2.2.2.2.2.2.2.2.2.1).trans h1.2.2.2.2.2.2.2.2.2.2.2.2.2.2.2.2.2.2.2.2.2.2.2.2.2.2.2.2.2.2.2.2.2.2.2.2.2.2.2.2.2.2.2.2.2.2.2.2.2.1, (h2.2.2.2.2.2.2.2.2.2.2.2.2.2.2.2.2.2.2.2.2.2.2.2.2.2.2.2.2.2.2.2.2.2.2.2.2.2.2.2.2.2.2.2.2.2.2.2.2.2.2.1).trans h1.2.2.2.2.2.2.2.2.2.2.2.2.2.2.2.2.2.2.2.2.2.2.2.2.2.2.2.2.2.2.2.2.2.2.2.2.2.2.2.2.2.2.2.2.2.2.2.2.2.2.1, (h2.2.2.2.2.2.2.2.2.2.2.2.2.2.2.2.2.2.2.2.2.2.2.2.2.2.2.2.2.2.2.2.2.2.2.2.2.2.2.2.2.2.2.2.2.2.2.2.2.2.2.2.1).trans h1.2.2.2.2.2.2.2.2.2.2.2.2.2.2.2.2.2.2.2.2.2.2.2.2.2.2.2.2.2.2.2.2.2.2.2.2.2.2.2.2.2.2.2.2.2.2.2.2.2.2.2.1, (h2.2.2.2.2.2.2.2.2.2.2.2.2.2.2.2.2.2.2.2.2.2.2.2.2.2.2.2.2.2.2.2.2.2.2.2.2.2.2.2.2.2.2.2.2.2.2.2.2.2.2.2.2.1).trans h1.2.2.2.2.2.2.2.2.2.2.2.2.2.2.2.2.2.2.2.2.2.2.2.2.2.2.2.2.2.2.2.2.2.2.2.2.2.2.2.2.2.2.2.2.2.2.2.2.2.2.2.2.1, (h2.2.2.2.2.2.2.2.2.2.2.2.2.2.2.2.2.2.2.2.2.2.2.2.2.2.2.2.2.2.2.2.2.2.2.2.2.2.2.2.2.2.2.2.2.2.2.2.2.2.2.2.2.2.1).trans h1.2.2.2.2.2.2.2.2.2.2.2.2.2.2.2.2.2.2.2.2.2.2.2.2.2.2.2.2.2.2.2.2.2.2.2.2.2.2.2.2.2.2.2.2.2.2.2.2.2.2.2.2.2.1, (h2.2.2.2.2.2.2.2.2.2.2.2.2.2.2.2.2.2.2.2.2.2.2.2.2.2.2.2.2.2.2.2.2.2.2.2.2.2.2.2.2.2.2.2.2.2.2.2.2.2.2.2.2.2.2.1).trans h1.2.2.2.2.2.2.2.2.2.2.2.2.2.2.2.2.2.2.2.2.2.2.2.2.2.2.2.2.2.2.2.2.2.2.2.2.2.2.2.2.2.2.2.2.2.2.2.2.2.2.2.2.2.2.1, (h2.2.2.2.2.2.2.2.2.2.2.2.2.2.2.2.2.2.2.2.2.2.2.2.2.2.2.2.2.2.2.2.2.2.2.2.2.2.2.2.2.2.2.2.2.2.2.2.2.2.2.2.2.2.2.2.1).trans h1.2.2.2.2.2.2.2.2.2.2.2.2.2.2.2.2.2.2.2.2.2.2.2.2.2.2.2.2.2.2.2.2.2.2.2.2.2.2.2.2.2.2.2.2.2.2.2.2.2.2.2.2.2.2.2.1, (h2.2.2.2.2.2.2.2.2.2.2.2.2.2.2.2.2.2.2.2.2.2.2.2.2.2.2.2.2.2.2.2.2.2.2.2.2.2.2.2.2.2.2.2.2.2.2.2.2.2.2.2.2.2.2.2.2.1).trans h1.2.2.2.2.2.2.2.2.2.2.2.2.2.2.2.2.2.2.2.2.2.2.2.2.2.2.2.2.2.2.2.2.2.2.2.2.2.2.2.2.2.2.2.2.2.2.2.2.2.2.2.2.2.2.2.2.1, (h2.2.2.2.2.2.2.2.2.2.2.2.2.2.2.2.2.2.2.2.2.2.2.2.2.2.2.2.2.2.2.2.2.2.2.2.2.2.2.2.2.2.2.2.2.2.2.2.2.2.2.2.2.2.2.2.2.2.1).trans h1.2.2.2.2.2.2.2.2.2.2.2.2.2.2.2.2.2.2.2.2.2.2.2.2.2.2.2.2.2.2.2.2.2.2.2.2.2.2.2.2.2.2.2.2.2.2.2.2.2.2.2.2.2.2.2.2.2.1, (h2.2.2.2.2.2.2.2.2.2.2.2.2.2.2.2.2.2.2.2.2.2.2.2.2.2.2.2.2.2.2.2.2.2.2.2.2.2.2.2.2.2.2.2.2.2.2.2.2.2.2.2.2.2.2.2.2.2.2.1).trans h1.2.2.2.2.2.2.2.2.2.2.2.2.2.2.2.2.2.2.2.2.2.2.2.2.2.2.2.2.2.2.2.2.2.2.2.2.2.2.2.2.2.2.2.2.2.2.2.2.2.2.2.2.2.2.2.2.2.2.1, (h2.2.2.2.2.2.2.2.2.2.2.2.2.2.2.2.2.2.2.2.2.2.2.2.2.2.2.2.2.2.2.2.2.2.2.2.2.2.2.2.2.2.2.2.2.2.2.2.2.2.2.2.2.2.2.2.2.2.2.2.1).trans h1.2.2.2.2.2.2.2.2.2.2.2.2.2.2.2.2.2.2.2.2.2.2.2.2.2.2.2.2.2.2.2.2.2.2.2.2.2.2.2.2.2.2.2.2.2.2.2.2.2.2.2.2.2.2.2.2.2.2.2.1, (h2.2.2.2.2.2.2.2.2.2.2.2.2.2.2.2.2.2.2.2.2.2.2.2.2.2.2.2.2.2.2.2.2.2.2.2.2.2.2.2.2.2.2.2.2.2.2.2.2.2.2.2.2.2.2.2.2.2.2.2.2).trans h1.2.2.2.2.2.2.2.2.2.2.2.2.2.2.2.2.2.2.2.2.2.2.2.2.2.2.2.2.2.2.2.2.2.2.2.2.2.2.2.2.2.2.2.2.2.2.2.2.2.2.2.2.2.2.2.2.2.2.2.2⟩
theorem dX11_leave_0 : decode cX11_leave 0 = .ok (.aload_n 0, 1) := by decide +kernel
theorem dX11_leave_1 : decode cX11_leave 1 = .ok (.iload_n 1, 1) := by decide +kernel
theorem dX11_leave_2 : decode cX11_leave 2 = .ok (.invokevirtual 413, 3) := by decide +kernel
theorem dX11_leave_5 : decode cX11_leave 5 = .ok (.ifCond .ne 5, 3) := by decide +kernel
theorem dX11_leave_8 : decode cX11_leave 8 = .ok (.iconst (-1), 1) := by decide +kernel
theorem dX11_leave_9 : decode cX11_leave 9 = .ok (.ireturn, 1) := by decide +kernel
theorem dX11_leave_10 : decode cX11_leave 10 = .ok (.aload_n 0, 1) := by decide +kernel
theorem dX11_leave_11 : decode cX11_leave 11 = .ok (.getfield 97, 3) := by decide +kernel
theorem dX11_leave_14 : decode cX11_leave 14 = .ok (.bipush 25, 2) := by decide +kernel
theorem dX11_leave_16 : decode cX11_leave 16 = .ok (.iaload, 1) := by decide +kernel
theorem dX11_leave_17 : decode cX11_leave 17 = .ok (.istore_n 2, 1) := by decide +kernel
theorem dX11_leave_18 : decode cX11_leave 18 = .ok (.aload_n 0, 1) := by decide +kernel
theorem dX11_leave_19 : decode cX11_leave 19 = .ok (.getfield 97, 3) := by decide +kernel
theorem dX11_leave_22 : decode cX11_leave 22 = .ok (.bipush 18, 2) := by decide +kernel
theorem dX11_leave_24 : decode cX11_leave 24 = .ok (.iload_n 1, 1) := by decide +kernel
theorem dX11_leave_25 : decode cX11_leave 25 = .ok (.iadd, 1) := by decide +kernel
theorem dX11_leave_26 : decode cX11_leave 26 = .ok (.iaload, 1) := by decide +kernel
theorem dX11_leave_27 : decode cX11_leave 27 = .ok (.istore_n 3, 1) := by decide +kernel
theorem dX11_leave_28 : decode cX11_leave 28 = .ok (.iconst 0, 1) := by decide +kernel
theorem dX11_leave_29 : decode cX11_leave 29 = .ok (.istore 4, 2) := by decide +kernel
theorem dX11_leave_31 : decode cX11_leave 31 = .ok (.iconst 0, 1) := by decide +kernel
theorem dX11_leave_32 : decode cX11_leave 32 = .ok (.istore 5, 2) := by decide +kernel
theorem dX11_leave_34 : decode cX11_leave 34 = .ok (.iload 4, 2) := by decide +kernel
theorem dX11_leave_36 : decode cX11_leave 36 = .ok (.bipush 30, 2) := by decide +kernel
theorem dX11_leave_38 : decode cX11_leave 38 = .ok (.if_icmp .ge 62, 3) := by decide +kernel
theorem dX11_leave_41 : decode cX11_leave 41 = .ok (.iload 5, 2) := by decide +kernel
theorem dX11_leave_43 : decode cX11_leave 43 = .ok (.ifCond .ne 57, 3) := by decide +kernel
theorem dX11_leave_46 : decode cX11_leave 46 = .ok (.aload_n 0, 1) := by decide +kernel
theorem dX11_leave_47 : decode cX11_leave 47 = .ok (.iload_n 1, 1) := by decide +kernel
theorem dX11_leave_48 : decode cX11_leave 48 = .ok (.invokevirtual 416, 3) := by decide +kernel
theorem dX11_leave_51 : decode cX11_leave 51 = .ok (.invokestatic 439, 3) := by decide +kernel
theorem dX11_leave_54 : decode cX11_leave 54 = .ok (.istore 5, 2) := by decide +kernel
theorem dX11_leave_56 : decode cX11_leave 56 = .ok (.iinc 4 1, 3) := by decide +kernel
theorem dX11_leave_59 : decode cX11_leave 59 = .ok (.aload_n 0, 1) := by decide +kernel
theorem dX11_leave_60 : decode cX11_leave 60 = .ok (.getfield 97, 3) := by decide +kernel
theorem dX11_leave_63 : decode cX11_leave 63 = .ok (.bipush 25, 2) := by decide +kernel
theorem dX11_leave_65 : decode cX11_leave 65 = .ok (.dup2, 1) := by decide +kernel
theorem dX11_leave_66 : decode cX11_leave 66 = .ok (.iaload, 1) := by decide +kernel
theorem dX11_leave_67 : decode cX11_leave 67 = .ok (.iconst 1, 1) := by decide +kernel
theorem dX11_leave_68 : decode cX11_leave 68 = .ok (.iadd, 1) := by decide +kernel
theorem dX11_leave_69 : decode cX11_leave 69 = .ok (.iastore, 1) := by decide +kernel
theorem dX11_leave_70 : decode cX11_leave 70 = .ok (.aload_n 0, 1) := by decide +kernel
theorem dX11_leave_71 : decode cX11_leave 71 = .ok (.getfield 97, 3) := by decide +kernel
theorem dX11_leave_74 : decode cX11_leave 74 = .ok (.bipush 18, 2) := by decide +kernel
theorem dX11_leave_76 : decode cX11_leave 76 = .ok (.iload_n 1, 1) := by decide +kernel
theorem dX11_leave_77 : decode cX11_leave 77 = .ok (.iadd, 1) := by decide +kernel
theorem dX11_leave_78 : decode cX11_leave 78 = .ok (.iaload, 1) := by decide +kernel
theorem dX11_leave_79 : decode cX11_leave 79 = .ok (.bipush 99, 2) := by decide +kernel
theorem dX11_leave_81 : decode cX11_leave 81 = .ok (.if_icmp .ge (-47), 3) := by decide +kernel
theorem dX11_leave_84 : decode cX11_leave 84 = .ok (.aload_n 0, 1) := by decide +kernel
theorem dX11_leave_85 : decode cX11_leave 85 = .ok (.getfield 97, 3) := by decide +kernel
theorem dX11_leave_88 : decode cX11_leave 88 = .ok (.bipush 18, 2) := by decide +kernel
theorem dX11_leave_90 : decode cX11_leave 90 = .ok (.iload_n 1, 1) := by decide +kernel
theorem dX11_leave_91 : decode cX11_leave 91 = .ok (.iadd, 1) := by decide +kernel
theorem dX11_leave_92 : decode cX11_leave 92 = .ok (.dup2, 1) := by decide +kernel
theorem dX11_leave_93 : decode cX11_leave 93 = .ok (.iaload, 1) := by decide +kernel
theorem dX11_leave_94 : decode cX11_leave 94 = .ok (.iconst 1, 1) := by decide +kernel
theorem dX11_leave_95 : decode cX11_leave 95 = .ok (.iadd, 1) := by decide +kernel
theorem dX11_leave_96 : decode cX11_leave 96 = .ok (.iastore, 1) := by decide +kernel
theorem dX11_leave_97 : decode cX11_leave 97 = .ok (.goto (-63), 3) := by decide +kernel
theorem dX11_leave_100 : decode cX11_leave 100 = .ok (.aload_n 0, 1) := by decide +kernel
theorem dX11_leave_101 : decode cX11_leave 101 = .ok (.getfield 97, 3) := by decide +kernel
theorem dX11_leave_104 : decode cX11_leave 104 = .ok (.bipush 25, 2) := by decide +kernel
theorem dX11_leave_106 : decode cX11_leave 106 = .ok (.iload_n 2, 1) := by decide +kernel
theorem dX11_leave_107 : decode cX11_leave 107 = .ok (.iastore, 1) := by decide +kernel
theorem dX11_leave_108 : decode cX11_leave 108 = .ok (.aload_n 0, 1) := by decide +kernel
theorem dX11_leave_109 : decode cX11_leave 109 = .ok (.getfield 97, 3) := by decide +kernel
theorem dX11_leave_112 : decode cX11_leave 112 = .ok (.bipush 18, 2) := by decide +kernel
theorem dX11_leave_114 : decode cX11_leave 114 = .ok (.iload_n 1, 1) := by decide +kernel
theorem dX11_leave_115 : decode cX11_leave 115 = .ok (.iadd, 1) := by decide +kernel
theorem dX11_leave_116 : decode cX11_leave 116 = .ok (.iload_n 3, 1) := by decide +kernel
theorem dX11_leave_117 : decode cX11_leave 117 = .ok (.iastore, 1) := by decide +kernel
theorem dX11_leave_118 : decode cX11_leave 118 = .ok (.iload 5, 2) := by decide +kernel
theorem dX11_leave_120 : decode cX11_leave 120 = .ok (.iconst 1, 1) := by decide +kernel
theorem dX11_leave_121 : decode cX11_leave 121 = .ok (.if_icmp .ne 8, 3) := by decide +kernel
theorem dX11_leave_124 : decode cX11_leave 124 = .ok (.iload 4, 2) := by decide +kernel
theorem dX11_leave_126 : decode cX11_leave 126 = .ok (.goto 4, 3) := by decide +kernel
theorem dX11_leave_129 : decode cX11_leave 129 = .ok (.iconst (-1), 1) := by decide +kernel
theorem dX11_leave_130 : decode cX11_leave 130 = .ok (.ireturn, 1) := by decide +kernel
theorem wd_1911 : (Cond.code ⟨"WebCourtModel", "leave", "(I)I"⟩ prog_13_method_95_code (6 : Nat) (Option.some FieldType.int)) ∈ gtb := gtb_c8 122 (by decide +kernel) rfl
theorem Km3_wA28 {u v : St} {D : va_G} {A : Nat → Prop} {cy : Nat → ClassId} {a : Nat → Nat} {hp H : Heap} {locs : List Loc} {f : Nat → Int32} (_ : Wo D A (mW cy a (sA v 28 f)) hp H locs) (h : Km3 u v) : Km3 u (sA v 28 f) := ⟨h.1, h.2.1, h.2.2.1, h.2.2.2.1, h.2.2.2.2.1, h.2.2.2.2.2.1, h.2.2.2.2.2.2.1, h.2.2.2.2.2.2.2.1, h.2.2.2.2.2.2.2.2.1, h.2.2.2.2.2.2.2.2.2.1, h.2.2.2.2.2.2.2.2.2.2.1, h.2.2.2.2.2.2.2.2.2.2.2.1, h.2.2.2.2.2.2.2.2.2.2.2.2.1, h.2.2.2.2.2.2.2.2.2.2.2.2.2.1, h.2.2.2.2.2.2.2.2.2.2.2.2.2.2.1, h.2.2.2.2.2.2.2.2.2.2.2.2.2.2.2.1, h.2.2.2.2.2.2.2.2.2.2.2.2.2.2.2.2.1, h.2.2.2.2.2.2.2.2.2.2.2.2.2.2.2.2.2.1, h.2.2.2.2.2.2.2.2.2.2.2.2.2.2.2.2.2.2.1, h.2.2.2.2.2.2.2.2.2.2.2.2.2.2.2.2.2.2.2.1, h.2.2.2.2.2.2.2.2.2.2.2.2.2.2.2.2.2.2.2.2.1, h.2.2.2.2.2.2.2.2.2.2.2.2.2.2.2.2.2.2.2.2.2.1, h.2.2.2.2.2.2.2.2.2.2.2.2.2.2.2.2.2.2.2.2.2.2.1, h.2.2.2.2.2.2.2.2.2.2.2.2.2.2.2.2.2.2.2.2.2.2.2.1, h.2.2.2.2.2.2.2.2.2.2.2.2.2.2.2.2.2.2.2.2.2.2.2.2.1, h.2.2.2.2.2.2.2.2.2.2.2.2.2.2.2.2.2.2.2.2.2.2.2.2.2.1, h.2.2.2.2.2.2.2.2.2.2.2.2.2.2.2.2.2.2.2.2.2.2.2.2.2.2.1, h.2.2.2.2.2.2.2.2.2.2.2.2.2.2.2.2.2.2.2.2.2.2.2.2.2.2.2.1, h.2.2.2.2.2.2.2.2.2.2.2.2.2.2.2.2.2.2.2.2.2.2.2.2.2.2.2.2.1, h.2.2.2.2.2.2.2.2.2.2.2.2.2.2.2.2.2.2.2.2.2.2.2.2.2.2.2.2.2.1, h.2.2.2.2.2.2.2.2.2.2.2.2.2.2.2.2.2.2.2.2.2.2.2.2.2.2.2.2.2.2.1, h.2.2.2.2.2.2.2.2.2.2.2.2.2.2.2.2.2.2.2.2.2.2.2.2.2.2.2.2.2.2.2.1, h.2.2.2.2.2.2.2.2.2.2.2.2.2.2.2.2.2.2.2.2.2.2.2.2.2.2.2.2.2.2.2.2.1, h.2.2.2.2.2.2.2.2.2.2.2.2.2.2.2.2.2.2.2.2.2.2.2.2.2.2.2.2.2.2.2.2.2.1, h.2.2.2.2.2.2.2.2.2.2.2.2.2.2.2.2.2.2.2.2.2.2.2.2.2.2.2.2.2.2.2.2.2.2.1, h.2.2.2.2.2.2.2.2.2.2.2.2.2.2.2.2.2.2.2.2.2.2.2.2.2.2.2.2.2.2.2.2.2.2.2.1, h.2.2.2.2.2.2.2.2.2.2.2.2.2.2.2.2.2.2.2.2.2.2.2.2.2.2.2.2.2.2.2.2.2.2.2.2.1, h.2.2.2.2.2.2.2.2.2.2.2.2.2.2.2.2.2.2.2.2.2.2.2.2.2.2.2.2.2.2.2.2.2.2.2.2.2.1, h.2.2.2.2.2.2.2.2.2.2.2.2.2.2.2.2.2.2.2.2.2.2.2.2.2.2.2.2.2.2.2.2.2.2.2.2.2.2.1, h.2.2.2.2.2.2.2.2.2.2.2.2.2.2.2.2.2.2.2.2.2.2.2.2.2.2.2.2.2.2.2.2.2.2.2.2.2.2.2.1, h.2.2.2.2.2.2.2.2.2.2.2.2.2.2.2.2.2.2.2.2.2.2.2.2.2.2.2.2.2.2.2.2.2.2.2.2.2.2.2.2.1, h.2.2.2.2.2.2.2.2.2.2.2.2.2.2.2.2.2.2.2.2.2.2.2.2.2.2.2.2.2.2.2.2.2.2.2.2.2.2.2.2.2.1, h.2.2.2.2.2.2.2.2.2.2.2.2.2.2.2.2.2.2.2.2.2.2.2.2.2.2.2.2.2.2.2.2.2.2.2.2.2.2.2.2.2.2.1, h.2.2.2.2.2.2.2.2.2.2.2.2.2.2.2.2.2.2.2.2.2.2.2.2.2.2.2.2.2.2.2.2.2.2.2.2.2.2.2.2.2.2.2.1, h.2.2.2.2.2.2.2.2.2.2.2.2.2.2.2.2.2.2.2.2.2.2.2.2.2.2.2.2.2.2.2.2.2.2.2.2.2.2.2.2.2.2.2.2.1, h.2.2.2.2.2.2.2.2.2.2.2.2.2.2.2.2.2.2.2.2.2.2.2.2.2.2.2.2.2.2.2.2.2.2.2.2.2.2.2.2.2.2.2.2.2.1, h.2.2.2.2.2.2.2.2.2.2.2.2.2.2.2.2.2.2.2.2.2.2.2.2.2.2.2.2.2.2.2.2.2.2.2.2.2.2.2.2.2.2.2.2.2.2.1, h.2.2.2.2.2.2.2.2.2.2.2.2.2.2.2.2.2.2.2.2.2.2.2.2.2.2.2.2.2.2.2.2.2.2.2.2.2.2.2.2.2.2.2.2.2.2.2.1, h.2.2.2.2.2.2.2.2.2.2.2.2.2.2.2.2.2.2.2.2.2.2.2.2.2.2.2.2.2.2.2.2.2.2.2.2.2.2.2.2.2.2.2.2.2.2.2.2.1, h.2.2.2.2.2.2.2.2.2.2.2.2.2.2.2.2.2.2.2.2.2.2.2.2.2.2.2.2.2.2.2.2.2.2.2.2.2.2.2.2.2.2.2.2.2.2.2.2.2.1, h.2.2.2.2.2.2.2.2.2.2.2.2.2.2.2.2.2.2.2.2.2.2.2.2.2.2.2.2.2.2.2.2.2.2.2.2.2.2.2.2.2.2.2.2.2.2.2.2.2.2.1, h.2.2.2.2.2.2.2.2.2.2.2.2.2.2.2.2.2.2.2.2.2.2.2.2.2.2.2.2.2.2.2.2.2.2.2.2.2.2.2.2.2.2.2.2.2.2.2.2.2.2.2.1, h.2.2.2.2.2.2.2.2.2.2.2.2.2.2.2.2.2.2.2.2.2.2.2.2.2.2.2.2.2.2.2.2.2.2.2.2.2.2.2.2.2.2.2.2.2.2.2.2.2.2.2.2.1, h.2.2.2.2.2.2.2.2.2.2.2.2.2.2.2.2.2.2.2.2.2.2.2.2.2.2.2.2.2.2.2.2.2.2.2.2.2.2.2.2.2.2.2.2.2.2.2.2.2.2.2.2.2.1, h.2.2.2.2.2.2.2.2.2.2.2.2.2.2.2.2.2.2.2.2.2.2.2.2.2.2.2.2.2.2.2.2.2.2.2.2.2.2.2.2.2.2.2.2.2.2.2.2.2.2.2.2.2.2.1, h.2.2.2.2.2.2.2.2.2.2.2.2.2.2.2.2.2.2.2.2.2.2.2.2.2.2.2.2.2.2.2.2.2.2.2.2.2.2.2.2.2.2.2.2.2.2.2.2.2.2.2.2.2.2.2.1, h.2.2.2.2.2.2.2.2.2.2.2.2.2.2.2.2.2.2.2.2.2.2.2.2.2.2.2.2.2.2.2.2.2.2.2.2.2.2.2.2.2.2.2.2.2.2.2.2.2.2.2.2.2.2.2.2.1, h.2.2.2.2.2.2.2.2.2.2.2.2.2.2.2.2.2.2.2.2.2.2.2.2.2.2.2.2.2.2.2.2.2.2.2.2.2.2.2.2.2.2.2.2.2.2.2.2.2.2.2.2.2.2.2.2.2.1, h.2.2.2.2.2.2.2.2.2.2.2.2.2.2.2.2.2.2.2.2.2.2.2.2.2.2.2.2.2.2.2.2.2.2.2.2.2.2.2.2.2.2.2.2.2.2.2.2.2.2.2.2.2.2.2.2.2.2.1, h.2.2.2.2.2.2.2.2.2.2.2.2.2.2.2.2.2.2.2.2.2.2.2.2.2.2.2.2.2.2.2.2.2.2.2.2.2.2.2.2.2.2.2.2.2.2.2.2.2.2.2.2.2.2.2.2.2.2.2.1, h.2.2.2.2.2.2.2.2.2.2.2.2.2.2.2.2.2.2.2.2.2.2.2.2.2.2.2.2.2.2.2.2.2.2.2.2.2.2.2.2.2.2.2.2.2.2.2.2.2.2.2.2.2.2.2.2.2.2.2.2⟩
theorem Km2_to_Km3 {u v : St} (h : Km2 u v) : Km3 u v := ⟨h.1, h.2.1, h.2.2.1, h.2.2.2.1, h.2.2.2.2.1, h.2.2.2.2.2.1, h.2.2.2.2.2.2.1, h.2.2.2.2.2.2.2.1, h.2.2.2.2.2.2.2.2.1, h.2.2.2.2.2.2.2.2.2.1, h.2.2.2.2.2.2.2.2.2.2.1, h.2.2.2.2.2.2.2.2.2.2.2.1, h.2.2.2.2.2.2.2.2.2.2.2.2.1, h.2.2.2.2.2.2.2.2.2.2.2.2.2.1, h.2.2.2.2.2.2.2.2.2.2.2.2.2.2.1, h.2.2.2.2.2.2.2.2.2.2.2.2.2.2.2.1, h.2.2.2.2.2.2.2.2.2.2.2.2.2.2.2.2.1, h.2.2.2.2.2.2.2.2.2.2.2.2.2.2.2.2.2.1, h.2.2.2.2.2.2.2.2.2.2.2.2.2.2.2.2.2.2.1, h.2.2.2.2.2.2.2.2.2.2.2.2.2.2.2.2.2.2.2.1, h.2.2.2.2.2.2.2.2.2.2.2.2.2.2.2.2.2.2.2.2.1, h.2.2.2.2.2.2.2.2.2.2.2.2.2.2.2.2.2.2.2.2.2.1, h.2.2.2.2.2.2.2.2.2.2.2.2.2.2.2.2.2.2.2.2.2.2.1, h.2.2.2.2.2.2.2.2.2.2.2.2.2.2.2.2.2.2.2.2.2.2.2.1, h.2.2.2.2.2.2.2.2.2.2.2.2.2.2.2.2.2.2.2.2.2.2.2.2.1, h.2.2.2.2.2.2.2.2.2.2.2.2.2.2.2.2.2.2.2.2.2.2.2.2.2.1, h.2.2.2.2.2.2.2.2.2.2.2.2.2.2.2.2.2.2.2.2.2.2.2.2.2.2.1, h.2.2.2.2.2.2.2.2.2.2.2.2.2.2.2.2.2.2.2.2.2.2.2.2.2.2.2.1, h.2.2.2.2.2.2.2.2.2.2.2.2.2.2.2.2.2.2.2.2.2.2.2.2.2.2.2.2.1, h.2.2.2.2.2.2.2.2.2.2.2.2.2.2.2.2.2.2.2.2.2.2.2.2.2.2.2.2.2.1, h.2.2.2.2.2.2.2.2.2.2.2.2.2.2.2.2.2.2.2.2.2.2.2.2.2.2.2.2.2.2.1, h.2.2.2.2.2.2.2.2.2.2.2.2.2.2.2.2.2.2.2.2.2.2.2.2.2.2.2.2.2.2.2.1, h.2.2.2.2.2.2.2.2.2.2.2.2.2.2.2.2.2.2.2.2.2.2.2.2.2.2.2.2.2.2.2.2.1, h.2.2.2.2.2.2.2.2.2.2.2.2.2.2.2.2.2.2.2.2.2.2.2.2.2.2.2.2.2.2.2.2.2.1, h.2.2.2.2.2.2.2.2.2.2.2.2.2.2.2.2.2.2.2.2.2.2.2.2.2.2.2.2.2.2.2.2.2.2.1, h.2.2.2.2.2.2.2.2.2.2.2.2.2.2.2.2.2.2.2.2.2.2.2.2.2.2.2.2.2.2.2.2.2.2.2.1, h.2.2.2.2.2.2.2.2.2.2.2.2.2.2.2.2.2.2.2.2.2.2.2.2.2.2.2.2.2.2.2.2.2.2.2.2.1, h.2.2.2.2.2.2.2.2.2.2.2.2.2.2.2.2.2.2.2.2.2.2.2.2.2.2.2.2.2.2.2.2.2.2.2.2.2.1, h.2.2.2.2.2.2.2.2.2.2.2.2.2.2.2.2.2.2.2.2.2.2.2.2.2.2.2.2.2.2.2.2.2.2.2.2.2.2.1, h.2.2.2.2.2.2.2.2.2.2.2.2.2.2.2.2.2.2.2.2.2.2.2.2.2.2.2.2.2.2.2.2.2.2.2.2.2.2.2.1, h.2.2.2.2.2.2.2.2.2.2.2.2.2.2.2.2.2.2.2.2.2.2.2.2.2.2.2.2.2.2.2.2.2.2.2.2.2.2.2.2.1, h.2.2.2.2.2.2.2.2.2.2.2.2.2.2.2.2.2.2.2.2.2.2.2.2.2.2.2.2.2.2.2.2.2.2.2.2.2.2.2.2.2.1, h.2.2.2.2.2.2.2.2.2.2.2.2.2.2.2.2.2.2.2.2.2.2.2.2.2.2.2.2.2.2.2.2.2.2.2.2.2.2.2.2.2.2.1, h.2.2.2.2.2.2.2.2.2.2.2.2.2.2.2.2.2.2.2.2.2.2.2.2.2.2.2.2.2.2.2.2.2.2.2.2.2.2.2.2.2.2.2.1, h.2.2.2.2.2.2.2.2.2.2.2.2.2.2.2.2.2.2.2.2.2.2.2.2.2.2.2.2.2.2.2.2.2.2.2.2.2.2.2.2.2.2.2.2.1, h.2.2.2.2.2.2.2.2.2.2.2.2.2.2.2.2.2.2.2.2.2.2.2.2.2.2.2.2.2.2.2.2.2.2.2.2.2.2.2.2.2.2.2.2.2.1, h.2.2.2.2.2.2.2.2.2.2.2.2.2.2.2.2.2.2.2.2.2.2.2.2.2.2.2.2.2.2.2.2.2.2.2.2.2.2.2.2.2.2.2.2.2.2.1, h.2.2.2.2.2.2.2.2.2.2.2.2.2.2.2.2.2.2.2.2.2.2.2.2.2.2.2.2.2.2.2.2.2.2.2.2.2.2.2.2.2.2.2.2.2.2.2.2.1, h.2.2.2.2.2.2.2.2.2.2.2.2.2.2.2.2.2.2.2.2.2.2.2.2.2.2.2.2.2.2.2.2.2.2.2.2.2.2.2.2.2.2.2.2.2.2.2.2.2.1, h.2.2.2.2.2.2.2.2.2.2.2.2.2.2.2.2.2.2.2.2.2.2.2.2.2.2.2.2.2.2.2.2.2.2.2.2.2.2.2.2.2.2.2.2.2.2.2.2.2.2.1, h.2.2.2.2.2.2.2.2.2.2.2.2.2.2.2.2.2.2.2.2.2.2.2.2.2.2.2.2.2.2.2.2.2.2.2.2.2.2.2.2.2.2.2.2.2.2.2.2.2.2.2.1, h.2.2.2.2.2.2.2.2.2.2.2.2.2.2.2.2.2.2.2.2.2.2.2.2.2.2.2.2.2.2.2.2.2.2.2.2.2.2.2.2.2.2.2.2.2.2.2.2.2.2.2.2.1, h.2.2.2.2.2.2.2.2.2.2.2.2.2.2.2.2.2.2.2.2.2.2.2.2.2.2.2.2.2.2.2.2.2.2.2.2.2.2.2.2.2.2.2.2.2.2.2.2.2.2.2.2.2.1, h.2.2.2.2.2.2.2.2.2.2.2.2.2.2.2.2.2.2.2.2.2.2.2.2.2.2.2.2.2.2.2.2.2.2.2.2.2.2.2.2.2.2.2.2.2.2.2.2.2.2.2.2.2.2.1, h.2.2.2.2.2.2.2.2.2.2.2.2.2.2.2.2.2.2.2.2.2.2.2.2.2.2.2.2.2.2.2.2.2.2.2.2.2.2.2.2.2.2.2.2.2.2.2.2.2.2.2.2.2.2.2.1, h.2.2.2.2.2.2.2.2.2.2.2.2.2.2.2.2.2.2.2.2.2.2.2.2.2.2.2.2.2.2.2.2.2.2.2.2.2.2.2.2.2.2.2.2.2.2.2.2.2.2.2.2.2.2.2.2.1, h.2.2.2.2.2.2.2.2.2.2.2.2.2.2.2.2.2.2.2.2.2.2.2.2.2.2.2.2.2.2.2.2.2.2.2.2.2.2.2.2.2.2.2.2.2.2.2.2.2.2.2.2.2.2.2.2.2.1, h.2.2.2.2.2.2.2.2.2.2.2.2.2.2.2.2.2.2.2.2.2.2.2.2.2.2.2.2.2.2.2.2.2.2.2.2.2.2.2.2.2.2.2.2.2.2.2.2.2.2.2.2.2.2.2.2.2.2.1, h.2.2.2.2.2.2.2.2.2.2.2.2.2.2.2.2.2.2.2.2.2.2.2.2.2.2.2.2.2.2.2.2.2.2.2.2.2.2.2.2.2.2.2.2.2.2.2.2.2.2.2.2.2.2.2.2.2.2.2.1, h.2.2.2.2.2.2.2.2.2.2.2.2.2.2.2.2.2.2.2.2.2.2.2.2.2.2.2.2.2.2.2.2.2.2.2.2.2.2.2.2.2.2.2.2.2.2.2.2.2.2.2.2.2.2.2.2.2.2.2.2.1, h.2.2.2.2.2.2.2.2.2.2.2.2.2.2.2.2.2.2.2.2.2.2.2.2.2.2.2.2.2.2.2.2.2.2.2.2.2.2.2.2.2.2.2.2.2.2.2.2.2.2.2.2.2.2.2.2.2.2.2.2.2⟩
set_option maxHeartbeats 4000000 in
set_option maxRecDepth 100000 in
theorem T_X11_leave (l : Launch) (D : va_G) (cy : Nat → ClassId) (a : Nat → Nat) (u : St) (hJ : MI a u) (x1 : Int32)  : Mi l D cy (mW cy a) yX11_leave (.code yX11_leave cX11_leave 6 (some .int)) (rmo 7 153) [.ref (a 0), .int x1] u (fun (r : Int32) (u' : St) => (MI a u') ∧ (Km3 u u')) := by
  refine Mi.of (own := RX11) rfl (by decide) (Nat.le_of_ble_eq_true rfl) ?_
  have hT : Km3 u u := Km3.rf
  have hJ0 := hJ
  intro p e s m below meth c A Q ls C hret hO hl
  obtain ⟨hx, hb, hml, hown, ht, hK, hA⟩ := id C
  have hl : lv_has ls 6 [(0, .ref (a 0)), (1, .int x1)] := hl
  refine lv_aload_n hx hb dX11_leave_0 rfl (lv_at hl 0 rfl) ?_
  refine lv_iload_n hx hb dX11_leave_1 rfl (lv_at hl 1 rfl) ?_
  have g1 : 0 ≤ (fI u 0 36).toInt ∧ (fI u 0 36).toInt ≤ 1 := by have h := MI_36 hJ0; exact h
  have g2 : 0 ≤ (fA u 6 ((fI u 0 36)).toNatClampNeg).toInt ∧ (fA u 6 ((fI u 0 36)).toNatClampNeg).toInt ≤ 6 := by have h := MI_A6 hJ0 ((fI u 0 36)).toNatClampNeg; exact h
  refine cVi (w := mW cy a) (As := [.int x1]) (rest := []) C hO (T_X11_isHeld l D cy a _ (by exact hJ) ((fA u 6 ((fI u 0 36)).toNatClampNeg)) (by exact rfl) (x1)) (cwV 1 ht (gV wd_1797 wd_1799 wd_91 wd_121 wd_1800) rfl rfl rfl hd_yX11_isHeld ⟨Nat.le_of_ble_eq_true rfl, Nat.le_of_ble_eq_true rfl⟩) 0 rfl mW_0 rfl rfl hl.1 (Nat.le_of_ble_eq_true rfl) dX11_leave_2 rfl ⟨Nat.zero_le _, Nat.zero_le _⟩ (fun r3 u4 H locs hp5 hO => ?_)
  obtain ⟨hr3, hu4⟩ := hp5
  rw [hu4] at hO
  rcases hr3 with ⟨hcr3, hvr3⟩ | ⟨hcr3, hvr3⟩
  · subst hvr3
    refine bt_ne (tgt := 10) (X := 1) hx hb dX11_leave_5 (by decide) rfl (by omega) ?_
    refine lv_aload_n hx hb dX11_leave_10 rfl (lv_at hl 0 rfl) ?_
    refine gf_RX11_97 (v := .ref (a 28)) C hO 0 mW_0 rfl dX11_leave_11 ?_
    refine lv_bipush (v := 25) hx hb dX11_leave_14 (by decide) ?_
    refine aI C hO 28 mW_28 (i_in (X := 25) rfl (by omega) (by omega)) dX11_leave_16 ?_
    refine tE (y := (fA u 28 25)) (by exact rfl) ?_
    refine lv_istore_n (lv' := [(2, .int (fA u 28 25)), (0, .ref (a 0)), (1, .int x1)]) hx hb dX11_leave_17 rfl hl (by decide) rfl (fun ls hl => ?_)
    refine lv_aload_n hx hb dX11_leave_18 rfl (lv_at hl 1 rfl) ?_
    refine gf_RX11_97 (v := .ref (a 28)) C hO 0 mW_0 rfl dX11_leave_19 ?_
    refine lv_bipush (v := 18) hx hb dX11_leave_22 (by decide) ?_
    refine lv_iload_n hx hb dX11_leave_24 rfl (lv_at hl 2 rfl) ?_
    refine lv_iadd hx hb dX11_leave_25 ?_
    refine lv_topi (fun z6 ez6 => ?_)
    have e7 : z6.toInt = 18 + (x1).toInt := by rw [ez6]; exact i_add rfl rfl (by omega)
    refine aI C hO 28 mW_28 (i_in (X := (18 + (x1).toInt)) e7 (by omega) (by omega)) dX11_leave_26 ?_
    refine tE (y := (fA u 28 (z6).toNatClampNeg)) (by exact rfl) ?_
    refine lv_istore_n (lv' := [(3, .int (fA u 28 (z6).toNatClampNeg)), (2, .int (fA u 28 25)), (0, .ref (a 0)), (1, .int x1)]) hx hb dX11_leave_27 rfl hl (by decide) rfl (fun ls hl => ?_)
    refine lv_iconst (v := 0) hx hb dX11_leave_28 (by decide) ?_
    refine lv_istore (lv' := [(4, .int 0), (3, .int (fA u 28 (z6).toNatClampNeg)), (2, .int (fA u 28 25)), (0, .ref (a 0)), (1, .int x1)]) hx hb dX11_leave_29 hl (by decide) rfl (fun ls hl => ?_)
    refine lv_iconst (v := 0) hx hb dX11_leave_31 (by decide) ?_
    refine lv_istore (lv' := [(5, .int 0), (4, .int 0), (3, .int (fA u 28 (z6).toNatClampNeg)), (2, .int (fA u 28 25)), (0, .ref (a 0)), (1, .int x1)]) hx hb dX11_leave_32 hl (by decide) rfl (fun ls hl => ?_)
    have LP_34_k9 : ∀ (n : Nat) (u8 : St) (H : Heap) (locs : List Loc) (ls : Array Slot) (w5_k9 : Int32) (i_k9 : Int32), Wo D A (mW cy a u8) s.heap H locs → lv_has ls 6 [(5, .int w5_k9), (4, .int i_k9), (3, .int (fA u 28 (z6).toNatClampNeg)), (2, .int (fA u 28 25)), (0, .ref (a 0)), (1, .int x1)] → MI a u8 → Km3 u u8 → 0 ≤ i_k9.toInt ∧ i_k9.toInt ≤ 30 → 30 - i_k9.toInt < (n : Int) → W p l e (rmo 7 153) s m [.ref (a 0), .int x1].toArray below meth c H locs 0 0 Q (F0 m 34 ls []) := by
      intro n
      induction n with
      | zero =>
        intro u8 H locs ls w5_k9 i_k9 hO hl hJ hT iv0_k9 hm_k9
        exact absurd hm_k9 (by omega)
      | succ n ih_k9 =>
        intro u8 H locs ls w5_k9 i_k9 hO hl hJ hT iv0_k9 hm_k9
        refine lv_iload hx hb dX11_leave_34 (lv_at hl 1 rfl) ?_
        refine lv_bipush (v := 30) hx hb dX11_leave_36 (by decide) ?_
        refine cs_ge (tgt := 100) (X := (i_k9).toInt) (Y := 30) hx hb dX11_leave_38 (by decide) rfl rfl (fun c10 => ?_) (fun c10 => ?_)
        · refine lv_aload_n hx hb dX11_leave_100 rfl (lv_at hl 4 rfl) ?_
          refine gf_RX11_97 (v := .ref (a 28)) C hO 0 mW_0 rfl dX11_leave_101 ?_
          refine lv_bipush (v := 25) hx hb dX11_leave_104 (by decide) ?_
          refine lv_iload_n hx hb dX11_leave_106 rfl (lv_at hl 3 rfl) ?_
          refine aIs C hO 28 mW_28 (i_in (X := 25) rfl (by omega) (by omega)) mW_s28 dX11_leave_107 (fun H locs hO => ?_)
          have hT := Km3_wA28 hO hT
          have hJ := MIsA_28 hO hJ (Or.inl (i_ck (X := 25) rfl (by omega) (by omega)))
          refine lv_aload_n hx hb dX11_leave_108 rfl (lv_at hl 4 rfl) ?_
          refine gf_RX11_97 (v := .ref (a 28)) C hO 0 mW_0 rfl dX11_leave_109 ?_
          refine lv_bipush (v := 18) hx hb dX11_leave_112 (by decide) ?_
          refine lv_iload_n hx hb dX11_leave_114 rfl (lv_at hl 5 rfl) ?_
          refine lv_iadd hx hb dX11_leave_115 ?_
          refine lv_topi (fun z11 ez11 => ?_)
          have e12 : z11.toInt = 18 + (x1).toInt := by rw [ez11]; exact i_add rfl rfl (by omega)
          refine lv_iload_n hx hb dX11_leave_116 rfl (lv_at hl 2 rfl) ?_
          refine aIs C hO 28 mW_28 (i_in (X := (18 + (x1).toInt)) e12 (by omega) (by omega)) mW_s28 dX11_leave_117 (fun H locs hO => ?_)
          have hT := Km3_wA28 hO hT
          have hJ := MIsA_28 hO hJ (Or.inl (i_ck (X := (18 + (x1).toInt)) e12 (by omega) (by omega)))
          refine lv_iload hx hb dX11_leave_118 (lv_at hl 0 rfl) ?_
          refine lv_iconst (v := 1) hx hb dX11_leave_120 (by decide) ?_
          refine cs_ne (tgt := 129) (X := (w5_k9).toInt) (Y := 1) hx hb dX11_leave_121 (by decide) rfl rfl (fun c13 => ?_) (fun c13 => ?_)
          · refine lv_iconst (v := (-1)) hx hb dX11_leave_129 (by decide) ?_
            refine hret _ _ _ _ _ _ dX11_leave_130 rfl ?_ hO
            exact ⟨hJ, hT⟩
          · refine lv_iload hx hb dX11_leave_124 (lv_at hl 1 rfl) ?_
            refine lv_goto (tgt := 130) hx hb dX11_leave_126 (by decide) ?_
            refine hret _ _ _ _ _ _ dX11_leave_130 rfl ?_ hO
            exact ⟨hJ, hT⟩
        · refine lv_iload hx hb dX11_leave_41 (lv_at hl 0 rfl) ?_
          refine bs_ne (tgt := 100) (X := (w5_k9).toInt) hx hb dX11_leave_43 (by decide) rfl (fun c14 => ?_) (fun c14 => ?_)
          · refine lv_aload_n hx hb dX11_leave_100 rfl (lv_at hl 4 rfl) ?_
            refine gf_RX11_97 (v := .ref (a 28)) C hO 0 mW_0 rfl dX11_leave_101 ?_
            refine lv_bipush (v := 25) hx hb dX11_leave_104 (by decide) ?_
            refine lv_iload_n hx hb dX11_leave_106 rfl (lv_at hl 3 rfl) ?_
            refine aIs C hO 28 mW_28 (i_in (X := 25) rfl (by omega) (by omega)) mW_s28 dX11_leave_107 (fun H locs hO => ?_)
            have hT := Km3_wA28 hO hT
            have hJ := MIsA_28 hO hJ (Or.inl (i_ck (X := 25) rfl (by omega) (by omega)))
            refine lv_aload_n hx hb dX11_leave_108 rfl (lv_at hl 4 rfl) ?_
            refine gf_RX11_97 (v := .ref (a 28)) C hO 0 mW_0 rfl dX11_leave_109 ?_
            refine lv_bipush (v := 18) hx hb dX11_leave_112 (by decide) ?_
            refine lv_iload_n hx hb dX11_leave_114 rfl (lv_at hl 5 rfl) ?_
            refine lv_iadd hx hb dX11_leave_115 ?_
            refine lv_topi (fun z15 ez15 => ?_)
            have e16 : z15.toInt = 18 + (x1).toInt := by rw [ez15]; exact i_add rfl rfl (by omega)
            refine lv_iload_n hx hb dX11_leave_116 rfl (lv_at hl 2 rfl) ?_
            refine aIs C hO 28 mW_28 (i_in (X := (18 + (x1).toInt)) e16 (by omega) (by omega)) mW_s28 dX11_leave_117 (fun H locs hO => ?_)
            have hT := Km3_wA28 hO hT
            have hJ := MIsA_28 hO hJ (Or.inl (i_ck (X := (18 + (x1).toInt)) e16 (by omega) (by omega)))
            refine lv_iload hx hb dX11_leave_118 (lv_at hl 0 rfl) ?_
            refine lv_iconst (v := 1) hx hb dX11_leave_120 (by decide) ?_
            refine cs_ne (tgt := 129) (X := (w5_k9).toInt) (Y := 1) hx hb dX11_leave_121 (by decide) rfl rfl (fun c17 => ?_) (fun c17 => ?_)
            · refine lv_iconst (v := (-1)) hx hb dX11_leave_129 (by decide) ?_
              refine hret _ _ _ _ _ _ dX11_leave_130 rfl ?_ hO
              exact ⟨hJ, hT⟩
            · refine lv_iload hx hb dX11_leave_124 (lv_at hl 1 rfl) ?_
              refine lv_goto (tgt := 130) hx hb dX11_leave_126 (by decide) ?_
              refine hret _ _ _ _ _ _ dX11_leave_130 rfl ?_ hO
              exact ⟨hJ, hT⟩
          · refine lv_aload_n hx hb dX11_leave_46 rfl (lv_at hl 4 rfl) ?_
            refine lv_iload_n hx hb dX11_leave_47 rfl (lv_at hl 5 rfl) ?_
            refine cVi (w := mW cy a) (As := [.int x1]) (rest := []) C hO (T_X11_verdictOf l D cy a _ (by exact hJ) (x1) (by first | omega | decide)) (cwV 1 ht (gV wd_1761 wd_1763 wd_84 wd_121 wd_1764) rfl rfl rfl hd_yX11_verdictOf ⟨Nat.le_of_ble_eq_true rfl, Nat.le_of_ble_eq_true rfl⟩) 0 rfl mW_0 rfl rfl hl.1 (Nat.le_of_ble_eq_true rfl) dX11_leave_48 rfl ⟨Nat.zero_le _, Nat.zero_le _⟩ (fun r18 u19 H locs hp20 hO => ?_)
            obtain ⟨hJ, hTu19⟩ := hp20
            have hT : Km3 u u19 := Km3.tr (by exact hT) (Km2_to_Km3 hTu19)
            refine cSi (w := mW cy a) (As := [.int r18]) (rest := []) C hO (T_X11_outcome l D cy a _ (by exact hJ) (r18)) (va_cwS 1 ht (gSS wd_1825 wd_1826 wd_121 wd_1827) rfl rfl rfl hd_yX11_outcome ⟨Nat.le_of_ble_eq_true rfl, Nat.le_of_ble_eq_true rfl⟩)  rfl hl.1 (Nat.le_of_ble_eq_true rfl) dX11_leave_51 rfl ⟨Nat.zero_le _, Nat.zero_le _⟩ (fun r21 u22 H locs hp23 hO => ?_)
            obtain ⟨hr21, hu22⟩ := hp23
            rw [hu22] at hO
            refine lv_istore (lv' := [(5, .int r21), (4, .int i_k9), (3, .int (fA u 28 (z6).toNatClampNeg)), (2, .int (fA u 28 25)), (0, .ref (a 0)), (1, .int x1)]) hx hb dX11_leave_54 hl (by decide) rfl (fun ls hl => ?_)
            obtain ⟨z24, ez24⟩ : ∃ z : Int32, z = i_k9 + Int32.ofInt 1 := ⟨_, rfl⟩
            have e25 : z24.toInt = (i_k9).toInt + 1 := by rw [ez24]; exact i_add rfl rfl (by omega)
            refine lv_iinc (v := z24) (lv' := [(4, .int z24), (5, .int r21), (3, .int (fA u 28 (z6).toNatClampNeg)), (2, .int (fA u 28 25)), (0, .ref (a 0)), (1, .int x1)]) hx hb dX11_leave_56 hl (k := 1) rfl ez24.symm (by decide) rfl (fun ls hl => ?_)
            refine lv_aload_n hx hb dX11_leave_59 rfl (lv_at hl 4 rfl) ?_
            refine gf_RX11_97 (v := .ref (a 28)) C hO 0 mW_0 rfl dX11_leave_60 ?_
            refine lv_bipush (v := 25) hx hb dX11_leave_63 (by decide) ?_
            refine lv_dup2_11 hx hb dX11_leave_65 rfl rfl ?_
            refine aI C hO 28 mW_28 (i_in (X := 25) rfl (by omega) (by omega)) dX11_leave_66 ?_
            refine tE (y := (fA u8 28 25)) (by exact (congrFun (Km2_A28 hTu19) _)) ?_
            refine lv_iconst (v := 1) hx hb dX11_leave_67 (by decide) ?_
            refine lv_iadd hx hb dX11_leave_68 ?_
            refine lv_topi (fun z26 ez26 => ?_)
            refine aIs C hO 28 mW_28 (i_in (X := 25) rfl (by omega) (by omega)) mW_s28 dX11_leave_69 (fun H locs hO => ?_)
            have hT := Km3_wA28 hO hT
            have hJ := MIsA_28 hO hJ (Or.inl (i_ck (X := 25) rfl (by omega) (by omega)))
            refine lv_aload_n hx hb dX11_leave_70 rfl (lv_at hl 4 rfl) ?_
            refine gf_RX11_97 (v := .ref (a 28)) C hO 0 mW_0 rfl dX11_leave_71 ?_
            refine lv_bipush (v := 18) hx hb dX11_leave_74 (by decide) ?_
            refine lv_iload_n hx hb dX11_leave_76 rfl (lv_at hl 5 rfl) ?_
            refine lv_iadd hx hb dX11_leave_77 ?_
            refine lv_topi (fun z27 ez27 => ?_)
            have e28 : z27.toInt = 18 + (x1).toInt := by rw [ez27]; exact i_add rfl rfl (by omega)
            refine aI C hO 28 mW_28 (i_in (X := (18 + (x1).toInt)) e28 (by omega) (by omega)) dX11_leave_78 ?_
            refine lv_topi (fun w29 ew29 => ?_)
            refine lv_bipush (v := 99) hx hb dX11_leave_79 (by decide) ?_
            refine cs_ge (tgt := 34) (X := (w29).toInt) (Y := 99) hx hb dX11_leave_81 (by decide) rfl rfl (fun c30 => ?_) (fun c30 => ?_)
            · exact ih_k9 _ _ _ _ (r21) (z24) hO (lv_sub hl [1, 0, 2, 3, 4, 5] rfl) (by exact hJ) (by exact hT) (by first | decide | omega) (by first | decide | omega)
            · refine lv_aload_n hx hb dX11_leave_84 rfl (lv_at hl 4 rfl) ?_
              refine gf_RX11_97 (v := .ref (a 28)) C hO 0 mW_0 rfl dX11_leave_85 ?_
              refine lv_bipush (v := 18) hx hb dX11_leave_88 (by decide) ?_
              refine lv_iload_n hx hb dX11_leave_90 rfl (lv_at hl 5 rfl) ?_
              refine lv_iadd hx hb dX11_leave_91 ?_
              refine lv_topi (fun z31 ez31 => ?_)
              have e32 : z31.toInt = 18 + (x1).toInt := by rw [ez31]; exact i_add rfl rfl (by omega)
              refine lv_dup2_11 hx hb dX11_leave_92 rfl rfl ?_
              refine aI C hO 28 mW_28 (i_in (X := (18 + (x1).toInt)) e32 (by omega) (by omega)) dX11_leave_93 ?_
              refine lv_topi (fun w33 ew33 => ?_)
              refine lv_iconst (v := 1) hx hb dX11_leave_94 (by decide) ?_
              refine lv_iadd hx hb dX11_leave_95 ?_
              refine lv_topi (fun z34 ez34 => ?_)
              refine aIs C hO 28 mW_28 (i_in (X := (18 + (x1).toInt)) e32 (by omega) (by omega)) mW_s28 dX11_leave_96 (fun H locs hO => ?_)
              have hT := Km3_wA28 hO hT
              have hJ := MIsA_28 hO hJ (Or.inl (i_ck (X := (18 + (x1).toInt)) e32 (by omega) (by omega)))
              refine lv_goto (tgt := 34) hx hb dX11_leave_97 (by decide) ?_
              exact ih_k9 _ _ _ _ (r21) (z24) hO (lv_sub hl [1, 0, 2, 3, 4, 5] rfl) (by exact hJ) (by exact hT) (by first | decide | omega) (by first | decide | omega)
    have zc35 : (0 : Int32).toInt = 0 := rfl
    exact LP_34_k9 4000 _ _ _ _ (0) (0) hO (lv_sub hl [0, 1, 2, 3, 4, 5] rfl) (by exact hJ) (by exact hT) (by first | decide | omega) (by first | decide | omega)
  · subst hvr3
    refine bn_ne (X := 0) hx hb dX11_leave_5 rfl (by omega) ?_ (tgt := 10) (by decide)
    refine lv_iconst (v := (-1)) hx hb dX11_leave_8 (by decide) ?_
    refine hret _ _ _ _ _ _ dX11_leave_9 rfl ?_ hO
    exact ⟨hJ, hT⟩
theorem dX11_loophole_0 : decode cX11_loophole 0 = .ok (.aload_n 0, 1) := by decide +kernel
theorem dX11_loophole_1 : decode cX11_loophole 1 = .ok (.iload_n 1, 1) := by decide +kernel
theorem dX11_loophole_2 : decode cX11_loophole 2 = .ok (.invokevirtual 413, 3) := by decide +kernel
theorem dX11_loophole_5 : decode cX11_loophole 5 = .ok (.ifCond .ne 5, 3) := by decide +kernel
theorem dX11_loophole_8 : decode cX11_loophole 8 = .ok (.iconst (-1), 1) := by decide +kernel
theorem dX11_loophole_9 : decode cX11_loophole 9 = .ok (.ireturn, 1) := by decide +kernel
theorem dX11_loophole_10 : decode cX11_loophole 10 = .ok (.aload_n 0, 1) := by decide +kernel
theorem dX11_loophole_11 : decode cX11_loophole 11 = .ok (.getfield 97, 3) := by decide +kernel
theorem dX11_loophole_14 : decode cX11_loophole 14 = .ok (.bipush 25, 2) := by decide +kernel
theorem dX11_loophole_16 : decode cX11_loophole 16 = .ok (.iaload, 1) := by decide +kernel
theorem dX11_loophole_17 : decode cX11_loophole 17 = .ok (.istore_n 2, 1) := by decide +kernel
theorem dX11_loophole_18 : decode cX11_loophole 18 = .ok (.iconst (-1), 1) := by decide +kernel
theorem dX11_loophole_19 : decode cX11_loophole 19 = .ok (.istore_n 3, 1) := by decide +kernel
theorem dX11_loophole_20 : decode cX11_loophole 20 = .ok (.bipush 99, 2) := by decide +kernel
theorem dX11_loophole_22 : decode cX11_loophole 22 = .ok (.istore 4, 2) := by decide +kernel
theorem dX11_loophole_24 : decode cX11_loophole 24 = .ok (.iload 4, 2) := by decide +kernel
theorem dX11_loophole_26 : decode cX11_loophole 26 = .ok (.ifCond .lt 29, 3) := by decide +kernel
theorem dX11_loophole_29 : decode cX11_loophole 29 = .ok (.aload_n 0, 1) := by decide +kernel
theorem dX11_loophole_30 : decode cX11_loophole 30 = .ok (.getfield 97, 3) := by decide +kernel
theorem dX11_loophole_33 : decode cX11_loophole 33 = .ok (.bipush 25, 2) := by decide +kernel
theorem dX11_loophole_35 : decode cX11_loophole 35 = .ok (.iload 4, 2) := by decide +kernel
theorem dX11_loophole_37 : decode cX11_loophole 37 = .ok (.iastore, 1) := by decide +kernel
theorem dX11_loophole_38 : decode cX11_loophole 38 = .ok (.aload_n 0, 1) := by decide +kernel
theorem dX11_loophole_39 : decode cX11_loophole 39 = .ok (.iload_n 1, 1) := by decide +kernel
theorem dX11_loophole_40 : decode cX11_loophole 40 = .ok (.invokevirtual 416, 3) := by decide +kernel
theorem dX11_loophole_43 : decode cX11_loophole 43 = .ok (.ifCond .le 6, 3) := by decide +kernel
theorem dX11_loophole_46 : decode cX11_loophole 46 = .ok (.iload 4, 2) := by decide +kernel
theorem dX11_loophole_48 : decode cX11_loophole 48 = .ok (.istore_n 3, 1) := by decide +kernel
theorem dX11_loophole_49 : decode cX11_loophole 49 = .ok (.iinc 4 (-1), 3) := by decide +kernel
theorem dX11_loophole_52 : decode cX11_loophole 52 = .ok (.goto (-28), 3) := by decide +kernel
theorem dX11_loophole_55 : decode cX11_loophole 55 = .ok (.aload_n 0, 1) := by decide +kernel
theorem dX11_loophole_56 : decode cX11_loophole 56 = .ok (.getfield 97, 3) := by decide +kernel
theorem dX11_loophole_59 : decode cX11_loophole 59 = .ok (.bipush 25, 2) := by decide +kernel
theorem dX11_loophole_61 : decode cX11_loophole 61 = .ok (.iload_n 2, 1) := by decide +kernel
theorem dX11_loophole_62 : decode cX11_loophole 62 = .ok (.iastore, 1) := by decide +kernel
theorem dX11_loophole_63 : decode cX11_loophole 63 = .ok (.iload_n 3, 1) := by decide +kernel
theorem dX11_loophole_64 : decode cX11_loophole 64 = .ok (.ireturn, 1) := by decide +kernel
theorem wd_1915 : (Cond.code ⟨"WebCourtModel", "loophole", "(I)I"⟩ prog_13_method_96_code (5 : Nat) (Option.some FieldType.int)) ∈ gtb := gtb_c8 126 (by decide +kernel) rfl
set_option maxHeartbeats 4000000 in
set_option maxRecDepth 100000 in
theorem T_X11_loophole (l : Launch) (D : va_G) (cy : Nat → ClassId) (a : Nat → Nat) (u : St) (hJ : MI a u) (x1 : Int32)  : Mi l D cy (mW cy a) yX11_loophole (.code yX11_loophole cX11_loophole 5 (some .int)) (rmo 7 153) [.ref (a 0), .int x1] u (fun (r : Int32) (u' : St) => (MI a u') ∧ (Km3 u u')) := by
  refine Mi.of (own := RX11) rfl (by decide) (Nat.le_of_ble_eq_true rfl) ?_
  have hT : Km3 u u := Km3.rf
  have hJ0 := hJ
  intro p e s m below meth c A Q ls C hret hO hl
  obtain ⟨hx, hb, hml, hown, ht, hK, hA⟩ := id C
  have hl : lv_has ls 5 [(0, .ref (a 0)), (1, .int x1)] := hl
  refine lv_aload_n hx hb dX11_loophole_0 rfl (lv_at hl 0 rfl) ?_
  refine lv_iload_n hx hb dX11_loophole_1 rfl (lv_at hl 1 rfl) ?_
  have g1 : 0 ≤ (fI u 0 36).toInt ∧ (fI u 0 36).toInt ≤ 1 := by have h := MI_36 hJ0; exact h
  have g2 : 0 ≤ (fA u 6 ((fI u 0 36)).toNatClampNeg).toInt ∧ (fA u 6 ((fI u 0 36)).toNatClampNeg).toInt ≤ 6 := by have h := MI_A6 hJ0 ((fI u 0 36)).toNatClampNeg; exact h
  refine cVi (w := mW cy a) (As := [.int x1]) (rest := []) C hO (T_X11_isHeld l D cy a _ (by exact hJ) ((fA u 6 ((fI u 0 36)).toNatClampNeg)) (by exact rfl) (x1)) (cwV 1 ht (gV wd_1797 wd_1799 wd_91 wd_121 wd_1800) rfl rfl rfl hd_yX11_isHeld ⟨Nat.le_of_ble_eq_true rfl, Nat.le_of_ble_eq_true rfl⟩) 0 rfl mW_0 rfl rfl hl.1 (Nat.le_of_ble_eq_true rfl) dX11_loophole_2 rfl ⟨Nat.zero_le _, Nat.zero_le _⟩ (fun r3 u4 H locs hp5 hO => ?_)
  obtain ⟨hr3, hu4⟩ := hp5
  rw [hu4] at hO
  rcases hr3 with ⟨hcr3, hvr3⟩ | ⟨hcr3, hvr3⟩
  · subst hvr3
    refine bt_ne (tgt := 10) (X := 1) hx hb dX11_loophole_5 (by decide) rfl (by omega) ?_
    refine lv_aload_n hx hb dX11_loophole_10 rfl (lv_at hl 0 rfl) ?_
    refine gf_RX11_97 (v := .ref (a 28)) C hO 0 mW_0 rfl dX11_loophole_11 ?_
    refine lv_bipush (v := 25) hx hb dX11_loophole_14 (by decide) ?_
    refine aI C hO 28 mW_28 (i_in (X := 25) rfl (by omega) (by omega)) dX11_loophole_16 ?_
    refine tE (y := (fA u 28 25)) (by exact rfl) ?_
    refine lv_istore_n (lv' := [(2, .int (fA u 28 25)), (0, .ref (a 0)), (1, .int x1)]) hx hb dX11_loophole_17 rfl hl (by decide) rfl (fun ls hl => ?_)
    refine lv_iconst (v := (-1)) hx hb dX11_loophole_18 (by decide) ?_
    refine lv_istore_n (lv' := [(3, .int (-1)), (2, .int (fA u 28 25)), (0, .ref (a 0)), (1, .int x1)]) hx hb dX11_loophole_19 rfl hl (by decide) rfl (fun ls hl => ?_)
    refine lv_bipush (v := 99) hx hb dX11_loophole_20 (by decide) ?_
    refine lv_istore (lv' := [(4, .int 99), (3, .int (-1)), (2, .int (fA u 28 25)), (0, .ref (a 0)), (1, .int x1)]) hx hb dX11_loophole_22 hl (by decide) rfl (fun ls hl => ?_)
    have LP_24_k7 : ∀ (n : Nat) (u6 : St) (H : Heap) (locs : List Loc) (ls : Array Slot) (i_k7 : Int32) (w3_k7 : Int32), Wo D A (mW cy a u6) s.heap H locs → lv_has ls 5 [(4, .int i_k7), (3, .int w3_k7), (2, .int (fA u 28 25)), (0, .ref (a 0)), (1, .int x1)] → MI a u6 → Km3 u u6 → (-1) ≤ i_k7.toInt ∧ i_k7.toInt ≤ 99 → i_k7.toInt + 1 < (n : Int) → W p l e (rmo 7 153) s m [.ref (a 0), .int x1].toArray below meth c H locs 0 0 Q (F0 m 24 ls []) := by
      intro n
      induction n with
      | zero =>
        intro u6 H locs ls i_k7 w3_k7 hO hl hJ hT iv0_k7 hm_k7
        exact absurd hm_k7 (by omega)
      | succ n ih_k7 =>
        intro u6 H locs ls i_k7 w3_k7 hO hl hJ hT iv0_k7 hm_k7
        refine lv_iload hx hb dX11_loophole_24 (lv_at hl 0 rfl) ?_
        refine bs_lt (tgt := 55) (X := (i_k7).toInt) hx hb dX11_loophole_26 (by decide) rfl (fun c8 => ?_) (fun c8 => ?_)
        · refine lv_aload_n hx hb dX11_loophole_55 rfl (lv_at hl 3 rfl) ?_
          refine gf_RX11_97 (v := .ref (a 28)) C hO 0 mW_0 rfl dX11_loophole_56 ?_
          refine lv_bipush (v := 25) hx hb dX11_loophole_59 (by decide) ?_
          refine lv_iload_n hx hb dX11_loophole_61 rfl (lv_at hl 2 rfl) ?_
          refine aIs C hO 28 mW_28 (i_in (X := 25) rfl (by omega) (by omega)) mW_s28 dX11_loophole_62 (fun H locs hO => ?_)
          have hT := Km3_wA28 hO hT
          have hJ := MIsA_28 hO hJ (Or.inl (i_ck (X := 25) rfl (by omega) (by omega)))
          refine lv_iload_n hx hb dX11_loophole_63 rfl (lv_at hl 1 rfl) ?_
          refine hret _ _ _ _ _ _ dX11_loophole_64 rfl ?_ hO
          exact ⟨hJ, hT⟩
        · refine lv_aload_n hx hb dX11_loophole_29 rfl (lv_at hl 3 rfl) ?_
          refine gf_RX11_97 (v := .ref (a 28)) C hO 0 mW_0 rfl dX11_loophole_30 ?_
          refine lv_bipush (v := 25) hx hb dX11_loophole_33 (by decide) ?_
          refine lv_iload hx hb dX11_loophole_35 (lv_at hl 0 rfl) ?_
          refine aIs C hO 28 mW_28 (i_in (X := 25) rfl (by omega) (by omega)) mW_s28 dX11_loophole_37 (fun H locs hO => ?_)
          have hT := Km3_wA28 hO hT
          have hJ := MIsA_28 hO hJ (Or.inl (i_ck (X := 25) rfl (by omega) (by omega)))
          refine lv_aload_n hx hb dX11_loophole_38 rfl (lv_at hl 3 rfl) ?_
          refine lv_iload_n hx hb dX11_loophole_39 rfl (lv_at hl 4 rfl) ?_
          refine cVi (w := mW cy a) (As := [.int x1]) (rest := []) C hO (T_X11_verdictOf l D cy a _ (by exact hJ) (x1) (by first | omega | decide)) (cwV 1 ht (gV wd_1761 wd_1763 wd_84 wd_121 wd_1764) rfl rfl rfl hd_yX11_verdictOf ⟨Nat.le_of_ble_eq_true rfl, Nat.le_of_ble_eq_true rfl⟩) 0 rfl mW_0 rfl rfl hl.1 (Nat.le_of_ble_eq_true rfl) dX11_loophole_40 rfl ⟨Nat.zero_le _, Nat.zero_le _⟩ (fun r9 u10 H locs hp11 hO => ?_)
          obtain ⟨hJ, hTu10⟩ := hp11
          have hT : Km3 u u10 := Km3.tr (by exact hT) (Km2_to_Km3 hTu10)
          refine bs_le (tgt := 49) (X := (r9).toInt) hx hb dX11_loophole_43 (by decide) rfl (fun c12 => ?_) (fun c12 => ?_)
          · obtain ⟨z13, ez13⟩ : ∃ z : Int32, z = i_k7 + Int32.ofInt (-1) := ⟨_, rfl⟩
            have e14 : z13.toInt = (i_k7).toInt + (-1) := by rw [ez13]; exact i_add rfl rfl (by omega)
            refine lv_iinc (v := z13) (lv' := [(4, .int z13), (3, .int w3_k7), (2, .int (fA u 28 25)), (0, .ref (a 0)), (1, .int x1)]) hx hb dX11_loophole_49 hl (k := 0) rfl ez13.symm (by decide) rfl (fun ls hl => ?_)
            refine lv_goto (tgt := 24) hx hb dX11_loophole_52 (by decide) ?_
            exact ih_k7 _ _ _ _ (z13) (w3_k7) hO (lv_sub hl [0, 1, 2, 3, 4] rfl) (by exact hJ) (by exact hT) (by first | decide | omega) (by first | decide | omega)
          · refine lv_iload hx hb dX11_loophole_46 (lv_at hl 0 rfl) ?_
            refine lv_istore_n (lv' := [(3, .int i_k7), (4, .int i_k7), (2, .int (fA u 28 25)), (0, .ref (a 0)), (1, .int x1)]) hx hb dX11_loophole_48 rfl hl (by decide) rfl (fun ls hl => ?_)
            obtain ⟨z15, ez15⟩ : ∃ z : Int32, z = i_k7 + Int32.ofInt (-1) := ⟨_, rfl⟩
            have e16 : z15.toInt = (i_k7).toInt + (-1) := by rw [ez15]; exact i_add rfl rfl (by omega)
            refine lv_iinc (v := z15) (lv' := [(4, .int z15), (3, .int i_k7), (2, .int (fA u 28 25)), (0, .ref (a 0)), (1, .int x1)]) hx hb dX11_loophole_49 hl (k := 1) rfl ez15.symm (by decide) rfl (fun ls hl => ?_)
            refine lv_goto (tgt := 24) hx hb dX11_loophole_52 (by decide) ?_
            exact ih_k7 _ _ _ _ (z15) (i_k7) hO (lv_sub hl [0, 1, 2, 3, 4] rfl) (by exact hJ) (by exact hT) (by first | decide | omega) (by first | decide | omega)
    have zc17 : ((-1) : Int32).toInt = (-1) := rfl
    have zc18 : (99 : Int32).toInt = 99 := rfl
    exact LP_24_k7 4000 _ _ _ _ (99) ((-1)) hO (lv_sub hl [0, 1, 2, 3, 4] rfl) (by exact hJ) (by exact hT) (by first | decide | omega) (by first | decide | omega)
  · subst hvr3
    refine bn_ne (X := 0) hx hb dX11_loophole_5 rfl (by omega) ?_ (tgt := 10) (by decide)
    refine lv_iconst (v := (-1)) hx hb dX11_loophole_8 (by decide) ?_
    refine hret _ _ _ _ _ _ dX11_loophole_9 rfl ?_ hO
    exact ⟨hJ, hT⟩
theorem dX11_precedent_0 : decode cX11_precedent 0 = .ok (.iload_n 1, 1) := by decide +kernel
theorem dX11_precedent_1 : decode cX11_precedent 1 = .ok (.iconst 0, 1) := by decide +kernel
theorem dX11_precedent_2 : decode cX11_precedent 2 = .ok (.bipush 99, 2) := by decide +kernel
theorem dX11_precedent_4 : decode cX11_precedent 4 = .ok (.invokestatic 374, 3) := by decide +kernel
theorem dX11_precedent_7 : decode cX11_precedent 7 = .ok (.ifCond .ne 5, 3) := by decide +kernel
theorem dX11_precedent_10 : decode cX11_precedent 10 = .ok (.iconst (-1), 1) := by decide +kernel
theorem dX11_precedent_11 : decode cX11_precedent 11 = .ok (.ireturn, 1) := by decide +kernel
theorem dX11_precedent_12 : decode cX11_precedent 12 = .ok (.iconst 0, 1) := by decide +kernel
theorem dX11_precedent_13 : decode cX11_precedent 13 = .ok (.istore_n 2, 1) := by decide +kernel
theorem dX11_precedent_14 : decode cX11_precedent 14 = .ok (.iconst 0, 1) := by decide +kernel
theorem dX11_precedent_15 : decode cX11_precedent 15 = .ok (.istore_n 3, 1) := by decide +kernel
theorem dX11_precedent_16 : decode cX11_precedent 16 = .ok (.iload_n 3, 1) := by decide +kernel
theorem dX11_precedent_17 : decode cX11_precedent 17 = .ok (.aload_n 0, 1) := by decide +kernel
theorem dX11_precedent_18 : decode cX11_precedent 18 = .ok (.invokevirtual 371, 3) := by decide +kernel
theorem dX11_precedent_21 : decode cX11_precedent 21 = .ok (.if_icmp .ge 65, 3) := by decide +kernel
theorem dX11_precedent_24 : decode cX11_precedent 24 = .ok (.aload_n 0, 1) := by decide +kernel
theorem dX11_precedent_25 : decode cX11_precedent 25 = .ok (.getfield 97, 3) := by decide +kernel
theorem dX11_precedent_28 : decode cX11_precedent 28 = .ok (.bipush 12, 2) := by decide +kernel
theorem dX11_precedent_30 : decode cX11_precedent 30 = .ok (.iload_n 3, 1) := by decide +kernel
theorem dX11_precedent_31 : decode cX11_precedent 31 = .ok (.iadd, 1) := by decide +kernel
theorem dX11_precedent_32 : decode cX11_precedent 32 = .ok (.iaload, 1) := by decide +kernel
theorem dX11_precedent_33 : decode cX11_precedent 33 = .ok (.istore 4, 2) := by decide +kernel
theorem dX11_precedent_35 : decode cX11_precedent 35 = .ok (.aload_n 0, 1) := by decide +kernel
theorem dX11_precedent_36 : decode cX11_precedent 36 = .ok (.getfield 97, 3) := by decide +kernel
theorem dX11_precedent_39 : decode cX11_precedent 39 = .ok (.bipush 12, 2) := by decide +kernel
theorem dX11_precedent_41 : decode cX11_precedent 41 = .ok (.iload_n 3, 1) := by decide +kernel
theorem dX11_precedent_42 : decode cX11_precedent 42 = .ok (.iadd, 1) := by decide +kernel
theorem dX11_precedent_43 : decode cX11_precedent 43 = .ok (.iload_n 1, 1) := by decide +kernel
theorem dX11_precedent_44 : decode cX11_precedent 44 = .ok (.iastore, 1) := by decide +kernel
theorem dX11_precedent_45 : decode cX11_precedent 45 = .ok (.iload_n 2, 1) := by decide +kernel
theorem dX11_precedent_46 : decode cX11_precedent 46 = .ok (.aload_n 0, 1) := by decide +kernel
theorem dX11_precedent_47 : decode cX11_precedent 47 = .ok (.iload_n 3, 1) := by decide +kernel
theorem dX11_precedent_48 : decode cX11_precedent 48 = .ok (.invokevirtual 413, 3) := by decide +kernel
theorem dX11_precedent_51 : decode cX11_precedent 51 = .ok (.ifCond .eq 15, 3) := by decide +kernel
theorem dX11_precedent_54 : decode cX11_precedent 54 = .ok (.aload_n 0, 1) := by decide +kernel
theorem dX11_precedent_55 : decode cX11_precedent 55 = .ok (.iload_n 3, 1) := by decide +kernel
theorem dX11_precedent_56 : decode cX11_precedent 56 = .ok (.invokevirtual 416, 3) := by decide +kernel
theorem dX11_precedent_59 : decode cX11_precedent 59 = .ok (.ifCond .le 7, 3) := by decide +kernel
theorem dX11_precedent_62 : decode cX11_precedent 62 = .ok (.iconst 1, 1) := by decide +kernel
theorem dX11_precedent_63 : decode cX11_precedent 63 = .ok (.goto 4, 3) := by decide +kernel
theorem dX11_precedent_66 : decode cX11_precedent 66 = .ok (.iconst 0, 1) := by decide +kernel
theorem dX11_precedent_67 : decode cX11_precedent 67 = .ok (.iadd, 1) := by decide +kernel
theorem dX11_precedent_68 : decode cX11_precedent 68 = .ok (.istore_n 2, 1) := by decide +kernel
theorem dX11_precedent_69 : decode cX11_precedent 69 = .ok (.aload_n 0, 1) := by decide +kernel
theorem dX11_precedent_70 : decode cX11_precedent 70 = .ok (.getfield 97, 3) := by decide +kernel
theorem dX11_precedent_73 : decode cX11_precedent 73 = .ok (.bipush 12, 2) := by decide +kernel
theorem dX11_precedent_75 : decode cX11_precedent 75 = .ok (.iload_n 3, 1) := by decide +kernel
theorem dX11_precedent_76 : decode cX11_precedent 76 = .ok (.iadd, 1) := by decide +kernel
theorem dX11_precedent_77 : decode cX11_precedent 77 = .ok (.iload 4, 2) := by decide +kernel
theorem dX11_precedent_79 : decode cX11_precedent 79 = .ok (.iastore, 1) := by decide +kernel
theorem dX11_precedent_80 : decode cX11_precedent 80 = .ok (.iinc 3 1, 3) := by decide +kernel
theorem dX11_precedent_83 : decode cX11_precedent 83 = .ok (.goto (-67), 3) := by decide +kernel
theorem dX11_precedent_86 : decode cX11_precedent 86 = .ok (.iload_n 2, 1) := by decide +kernel
theorem dX11_precedent_87 : decode cX11_precedent 87 = .ok (.ireturn, 1) := by decide +kernel
theorem wd_1919 : (Cond.code ⟨"WebCourtModel", "precedent", "(I)I"⟩ prog_13_method_97_code (5 : Nat) (Option.some FieldType.int)) ∈ gtb := gtb_c8 130 (by decide +kernel) rfl
theorem Km3_I36 {u v : St} (h : Km3 u v) : fI v 0 36 = fI u 0 36 := h.2.2.2.2.2.2.2.2.2.1
theorem Km3_A6 {u v : St} (h : Km3 u v) : fA v 6 = fA u 6 := h.2.2.2.2.2.2.2.2.2.2.2.2.2.2.2.2.2.2.2.2.2.2.2.2.2.2.1
set_option maxHeartbeats 4000000 in
set_option maxRecDepth 100000 in
theorem T_X11_precedent (l : Launch) (D : va_G) (cy : Nat → ClassId) (a : Nat → Nat) (u : St) (hJ : MI a u) (x1 : Int32)  : Mi l D cy (mW cy a) yX11_precedent (.code yX11_precedent cX11_precedent 5 (some .int)) (rmo 7 153) [.ref (a 0), .int x1] u (fun (r : Int32) (u' : St) => (MI a u') ∧ (Km3 u u')) := by
  refine Mi.of (own := RX11) rfl (by decide) (Nat.le_of_ble_eq_true rfl) ?_
  have hT : Km3 u u := Km3.rf
  have hJ0 := hJ
  intro p e s m below meth c A Q ls C hret hO hl
  obtain ⟨hx, hb, hml, hown, ht, hK, hA⟩ := id C
  have hl : lv_has ls 5 [(0, .ref (a 0)), (1, .int x1)] := hl
  refine lv_iload_n hx hb dX11_precedent_0 rfl (lv_at hl 1 rfl) ?_
  refine lv_iconst (v := 0) hx hb dX11_precedent_1 (by decide) ?_
  refine lv_bipush (v := 99) hx hb dX11_precedent_2 (by decide) ?_
  refine cSi (w := mW cy a) (As := [.int x1, .int 0, .int 99]) (rest := []) C hO (T_X11_isIn l D cy a _ (by exact hJ) (x1) (0) (99)) (va_cwS 3 ht (gSS wd_1722 wd_1723 wd_121 wd_1724) rfl rfl rfl hd_yX11_isIn ⟨Nat.le_of_ble_eq_true rfl, Nat.le_of_ble_eq_true rfl⟩)  rfl hl.1 (Nat.le_of_ble_eq_true rfl) dX11_precedent_4 rfl ⟨Nat.zero_le _, Nat.zero_le _⟩ (fun r1 u2 H locs hp3 hO => ?_)
  obtain ⟨hr1, hu2⟩ := hp3
  rw [hu2] at hO
  have zz4 : (0 : Int32).toInt = 0 := rfl
  have zz5 : (99 : Int32).toInt = 99 := rfl
  rcases hr1 with ⟨hcr1, hvr1⟩ | ⟨hcr1, hvr1⟩
  · subst hvr1
    refine bt_ne (tgt := 12) (X := 1) hx hb dX11_precedent_7 (by decide) rfl (by omega) ?_
    refine lv_iconst (v := 0) hx hb dX11_precedent_12 (by decide) ?_
    refine lv_istore_n (lv' := [(2, .int 0), (0, .ref (a 0)), (1, .int x1)]) hx hb dX11_precedent_13 rfl hl (by decide) rfl (fun ls hl => ?_)
    refine lv_iconst (v := 0) hx hb dX11_precedent_14 (by decide) ?_
    refine lv_istore_n (lv' := [(3, .int 0), (2, .int 0), (0, .ref (a 0)), (1, .int x1)]) hx hb dX11_precedent_15 rfl hl (by decide) rfl (fun ls hl => ?_)
    have LP_16_k7 : ∀ (n : Nat) (u6 : St) (H : Heap) (locs : List Loc) (ls : Array Slot) (i_k7 : Int32) (w2_k7 : Int32), Wo D A (mW cy a u6) s.heap H locs → lv_has ls 5 [(3, .int i_k7), (2, .int w2_k7), (0, .ref (a 0)), (1, .int x1)] → MI a u6 → Km3 u u6 → 0 ≤ i_k7.toInt ∧ i_k7.toInt ≤ 6 → 6 - i_k7.toInt < (n : Int) → W p l e (rmo 7 153) s m [.ref (a 0), .int x1].toArray below meth c H locs 0 0 Q (F0 m 16 ls []) := by
      intro n
      induction n with
      | zero =>
        intro u6 H locs ls i_k7 w2_k7 hO hl hJ hT iv0_k7 hm_k7
        exact absurd hm_k7 (by omega)
      | succ n ih_k7 =>
        intro u6 H locs ls i_k7 w2_k7 hO hl hJ hT iv0_k7 hm_k7
        refine lv_iload_n hx hb dX11_precedent_16 rfl (lv_at hl 0 rfl) ?_
        refine lv_aload_n hx hb dX11_precedent_17 rfl (lv_at hl 2 rfl) ?_
        have g8 : 0 ≤ (fI u 0 36).toInt ∧ (fI u 0 36).toInt ≤ 1 := by have h := MI_36 hJ0; exact h
        have g9 : 0 ≤ (fA u 6 ((fI u 0 36)).toNatClampNeg).toInt ∧ (fA u 6 ((fI u 0 36)).toNatClampNeg).toInt ≤ 6 := by have h := MI_A6 hJ0 ((fI u 0 36)).toNatClampNeg; exact h
        refine cVi (w := mW cy a) (As := []) (rest := [.int i_k7]) C hO (T_X11_many l D cy a _ (by exact hJ) ((fA u 6 ((fI u 0 36)).toNatClampNeg)) (by exact (Eq.trans (congrArg (fun z : Int32 => fA _ 6 z.toNatClampNeg) (Km3_I36 hT)) (congrFun (Km3_A6 hT) _)))) (cwV 0 ht (gV wd_1348 wd_1350 wd_46 wd_121 wd_1351) rfl rfl rfl hd_yX11_many ⟨Nat.le_of_ble_eq_true rfl, Nat.le_of_ble_eq_true rfl⟩) 0 rfl mW_0 rfl rfl hl.1 (Nat.le_of_ble_eq_true rfl) dX11_precedent_18 rfl ⟨Nat.zero_le _, Nat.zero_le _⟩ (fun r10 u11 H locs hp12 hO => ?_)
        obtain ⟨hr10, hu11⟩ := hp12
        refine tE hr10 ?_
        rw [hu11] at hO
        refine cs_ge (tgt := 86) (X := (i_k7).toInt) (Y := ((fA u 6 ((fI u 0 36)).toNatClampNeg)).toInt) hx hb dX11_precedent_21 (by decide) rfl rfl (fun c13 => ?_) (fun c13 => ?_)
        · refine lv_iload_n hx hb dX11_precedent_86 rfl (lv_at hl 1 rfl) ?_
          refine hret _ _ _ _ _ _ dX11_precedent_87 rfl ?_ hO
          exact ⟨hJ, hT⟩
        · refine lv_aload_n hx hb dX11_precedent_24 rfl (lv_at hl 2 rfl) ?_
          refine gf_RX11_97 (v := .ref (a 28)) C hO 0 mW_0 rfl dX11_precedent_25 ?_
          refine lv_bipush (v := 12) hx hb dX11_precedent_28 (by decide) ?_
          refine lv_iload_n hx hb dX11_precedent_30 rfl (lv_at hl 0 rfl) ?_
          refine lv_iadd hx hb dX11_precedent_31 ?_
          refine lv_topi (fun z14 ez14 => ?_)
          have e15 : z14.toInt = 12 + (i_k7).toInt := by rw [ez14]; exact i_add rfl rfl (by omega)
          refine aI C hO 28 mW_28 (i_in (X := (12 + (i_k7).toInt)) e15 (by omega) (by omega)) dX11_precedent_32 ?_
          refine tE (y := (fA u6 28 (z14).toNatClampNeg)) (by exact rfl) ?_
          refine lv_istore (lv' := [(4, .int (fA u6 28 (z14).toNatClampNeg)), (3, .int i_k7), (2, .int w2_k7), (0, .ref (a 0)), (1, .int x1)]) hx hb dX11_precedent_33 hl (by decide) rfl (fun ls hl => ?_)
          refine lv_aload_n hx hb dX11_precedent_35 rfl (lv_at hl 3 rfl) ?_
          refine gf_RX11_97 (v := .ref (a 28)) C hO 0 mW_0 rfl dX11_precedent_36 ?_
          refine lv_bipush (v := 12) hx hb dX11_precedent_39 (by decide) ?_
          refine lv_iload_n hx hb dX11_precedent_41 rfl (lv_at hl 1 rfl) ?_
          refine lv_iadd hx hb dX11_precedent_42 ?_
          refine lv_topi (fun z16 ez16 => ?_)
          have e17 : z16.toInt = 12 + (i_k7).toInt := by rw [ez16]; exact i_add rfl rfl (by omega)
          refine lv_iload_n hx hb dX11_precedent_43 rfl (lv_at hl 4 rfl) ?_
          refine aIs C hO 28 mW_28 (i_in (X := (12 + (i_k7).toInt)) e17 (by omega) (by omega)) mW_s28 dX11_precedent_44 (fun H locs hO => ?_)
          have hT := Km3_wA28 hO hT
          have hJ := MIsA_28 hO hJ (Or.inl (i_ck (X := (12 + (i_k7).toInt)) e17 (by omega) (by omega)))
          refine lv_iload_n hx hb dX11_precedent_45 rfl (lv_at hl 2 rfl) ?_
          refine lv_aload_n hx hb dX11_precedent_46 rfl (lv_at hl 3 rfl) ?_
          refine lv_iload_n hx hb dX11_precedent_47 rfl (lv_at hl 1 rfl) ?_
          refine cVi (w := mW cy a) (As := [.int i_k7]) (rest := [.int w2_k7]) C hO (T_X11_isHeld l D cy a _ (by exact hJ) ((fA u 6 ((fI u 0 36)).toNatClampNeg)) (by exact (Eq.trans (congrArg (fun z : Int32 => fA _ 6 z.toNatClampNeg) (Km3_I36 hT)) (congrFun (Km3_A6 hT) _))) (i_k7)) (cwV 1 ht (gV wd_1797 wd_1799 wd_91 wd_121 wd_1800) rfl rfl rfl hd_yX11_isHeld ⟨Nat.le_of_ble_eq_true rfl, Nat.le_of_ble_eq_true rfl⟩) 0 rfl mW_0 rfl rfl hl.1 (Nat.le_of_ble_eq_true rfl) dX11_precedent_48 rfl ⟨Nat.zero_le _, Nat.zero_le _⟩ (fun r18 u19 H locs hp20 hO => ?_)
          obtain ⟨hr18, hu19⟩ := hp20
          rw [hu19] at hO
          rcases hr18 with ⟨hcr18, hvr18⟩ | ⟨hcr18, hvr18⟩
          · subst hvr18
            refine bn_eq (X := 1) hx hb dX11_precedent_51 rfl (by omega) ?_ (tgt := 66) (by decide)
            refine lv_aload_n hx hb dX11_precedent_54 rfl (lv_at hl 3 rfl) ?_
            refine lv_iload_n hx hb dX11_precedent_55 rfl (lv_at hl 1 rfl) ?_
            refine cVi (w := mW cy a) (As := [.int i_k7]) (rest := [.int w2_k7]) C hO (T_X11_verdictOf l D cy a _ (by exact hJ) (i_k7) (by first | omega | decide)) (cwV 1 ht (gV wd_1761 wd_1763 wd_84 wd_121 wd_1764) rfl rfl rfl hd_yX11_verdictOf ⟨Nat.le_of_ble_eq_true rfl, Nat.le_of_ble_eq_true rfl⟩) 0 rfl mW_0 rfl rfl hl.1 (Nat.le_of_ble_eq_true rfl) dX11_precedent_56 rfl ⟨Nat.zero_le _, Nat.zero_le _⟩ (fun r21 u22 H locs hp23 hO => ?_)
            obtain ⟨hJ, hTu22⟩ := hp23
            have hT : Km3 u u22 := Km3.tr (by exact hT) (Km2_to_Km3 hTu22)
            refine bs_le (tgt := 66) (X := (r21).toInt) hx hb dX11_precedent_59 (by decide) rfl (fun c24 => ?_) (fun c24 => ?_)
            · refine lv_iconst (v := 0) hx hb dX11_precedent_66 (by decide) ?_
              refine lv_iadd hx hb dX11_precedent_67 ?_
              refine lv_topi (fun z25 ez25 => ?_)
              refine lv_istore_n (lv' := [(2, .int z25), (4, .int (fA u6 28 (z14).toNatClampNeg)), (3, .int i_k7), (0, .ref (a 0)), (1, .int x1)]) hx hb dX11_precedent_68 rfl hl (by decide) rfl (fun ls hl => ?_)
              refine lv_aload_n hx hb dX11_precedent_69 rfl (lv_at hl 3 rfl) ?_
              refine gf_RX11_97 (v := .ref (a 28)) C hO 0 mW_0 rfl dX11_precedent_70 ?_
              refine lv_bipush (v := 12) hx hb dX11_precedent_73 (by decide) ?_
              refine lv_iload_n hx hb dX11_precedent_75 rfl (lv_at hl 2 rfl) ?_
              refine lv_iadd hx hb dX11_precedent_76 ?_
              refine lv_topi (fun z26 ez26 => ?_)
              have e27 : z26.toInt = 12 + (i_k7).toInt := by rw [ez26]; exact i_add rfl rfl (by omega)
              refine lv_iload hx hb dX11_precedent_77 (lv_at hl 1 rfl) ?_
              refine aIs C hO 28 mW_28 (i_in (X := (12 + (i_k7).toInt)) e27 (by omega) (by omega)) mW_s28 dX11_precedent_79 (fun H locs hO => ?_)
              have hT := Km3_wA28 hO hT
              have hJ := MIsA_28 hO hJ (Or.inl (i_ck (X := (12 + (i_k7).toInt)) e27 (by omega) (by omega)))
              obtain ⟨z28, ez28⟩ : ∃ z : Int32, z = i_k7 + Int32.ofInt 1 := ⟨_, rfl⟩
              have e29 : z28.toInt = (i_k7).toInt + 1 := by rw [ez28]; exact i_add rfl rfl (by omega)
              refine lv_iinc (v := z28) (lv' := [(3, .int z28), (2, .int z25), (4, .int (fA u6 28 (z14).toNatClampNeg)), (0, .ref (a 0)), (1, .int x1)]) hx hb dX11_precedent_80 hl (k := 2) rfl ez28.symm (by decide) rfl (fun ls hl => ?_)
              refine lv_goto (tgt := 16) hx hb dX11_precedent_83 (by decide) ?_
              exact ih_k7 _ _ _ _ (z28) (z25) hO (lv_sub hl [0, 1, 3, 4] rfl) (by exact hJ) (by exact hT) (by first | decide | omega) (by first | decide | omega)
            · refine lv_iconst (v := 1) hx hb dX11_precedent_62 (by decide) ?_
              refine lv_goto (tgt := 67) hx hb dX11_precedent_63 (by decide) ?_
              refine lv_iadd hx hb dX11_precedent_67 ?_
              refine lv_topi (fun z30 ez30 => ?_)
              refine lv_istore_n (lv' := [(2, .int z30), (4, .int (fA u6 28 (z14).toNatClampNeg)), (3, .int i_k7), (0, .ref (a 0)), (1, .int x1)]) hx hb dX11_precedent_68 rfl hl (by decide) rfl (fun ls hl => ?_)
              refine lv_aload_n hx hb dX11_precedent_69 rfl (lv_at hl 3 rfl) ?_
              refine gf_RX11_97 (v := .ref (a 28)) C hO 0 mW_0 rfl dX11_precedent_70 ?_
              refine lv_bipush (v := 12) hx hb dX11_precedent_73 (by decide) ?_
              refine lv_iload_n hx hb dX11_precedent_75 rfl (lv_at hl 2 rfl) ?_
              refine lv_iadd hx hb dX11_precedent_76 ?_
              refine lv_topi (fun z31 ez31 => ?_)
              have e32 : z31.toInt = 12 + (i_k7).toInt := by rw [ez31]; exact i_add rfl rfl (by omega)
              refine lv_iload hx hb dX11_precedent_77 (lv_at hl 1 rfl) ?_
              refine aIs C hO 28 mW_28 (i_in (X := (12 + (i_k7).toInt)) e32 (by omega) (by omega)) mW_s28 dX11_precedent_79 (fun H locs hO => ?_)
              have hT := Km3_wA28 hO hT
              have hJ := MIsA_28 hO hJ (Or.inl (i_ck (X := (12 + (i_k7).toInt)) e32 (by omega) (by omega)))
              obtain ⟨z33, ez33⟩ : ∃ z : Int32, z = i_k7 + Int32.ofInt 1 := ⟨_, rfl⟩
              have e34 : z33.toInt = (i_k7).toInt + 1 := by rw [ez33]; exact i_add rfl rfl (by omega)
              refine lv_iinc (v := z33) (lv' := [(3, .int z33), (2, .int z30), (4, .int (fA u6 28 (z14).toNatClampNeg)), (0, .ref (a 0)), (1, .int x1)]) hx hb dX11_precedent_80 hl (k := 2) rfl ez33.symm (by decide) rfl (fun ls hl => ?_)
              refine lv_goto (tgt := 16) hx hb dX11_precedent_83 (by decide) ?_
              exact ih_k7 _ _ _ _ (z33) (z30) hO (lv_sub hl [0, 1, 3, 4] rfl) (by exact hJ) (by exact hT) (by first | decide | omega) (by first | decide | omega)
          · subst hvr18
            refine bt_eq (tgt := 66) (X := 0) hx hb dX11_precedent_51 (by decide) rfl (by omega) ?_
            refine lv_iconst (v := 0) hx hb dX11_precedent_66 (by decide) ?_
            refine lv_iadd hx hb dX11_precedent_67 ?_
            refine lv_topi (fun z35 ez35 => ?_)
            refine lv_istore_n (lv' := [(2, .int z35), (4, .int (fA u6 28 (z14).toNatClampNeg)), (3, .int i_k7), (0, .ref (a 0)), (1, .int x1)]) hx hb dX11_precedent_68 rfl hl (by decide) rfl (fun ls hl => ?_)
            refine lv_aload_n hx hb dX11_precedent_69 rfl (lv_at hl 3 rfl) ?_
            refine gf_RX11_97 (v := .ref (a 28)) C hO 0 mW_0 rfl dX11_precedent_70 ?_
            refine lv_bipush (v := 12) hx hb dX11_precedent_73 (by decide) ?_
            refine lv_iload_n hx hb dX11_precedent_75 rfl (lv_at hl 2 rfl) ?_
            refine lv_iadd hx hb dX11_precedent_76 ?_
            refine lv_topi (fun z36 ez36 => ?_)
            have e37 : z36.toInt = 12 + (i_k7).toInt := by rw [ez36]; exact i_add rfl rfl (by omega)
            refine lv_iload hx hb dX11_precedent_77 (lv_at hl 1 rfl) ?_
            refine aIs C hO 28 mW_28 (i_in (X := (12 + (i_k7).toInt)) e37 (by omega) (by omega)) mW_s28 dX11_precedent_79 (fun H locs hO => ?_)
            have hT := Km3_wA28 hO hT
            have hJ := MIsA_28 hO hJ (Or.inl (i_ck (X := (12 + (i_k7).toInt)) e37 (by omega) (by omega)))
            obtain ⟨z38, ez38⟩ : ∃ z : Int32, z = i_k7 + Int32.ofInt 1 := ⟨_, rfl⟩
            have e39 : z38.toInt = (i_k7).toInt + 1 := by rw [ez38]; exact i_add rfl rfl (by omega)
            refine lv_iinc (v := z38) (lv' := [(3, .int z38), (2, .int z35), (4, .int (fA u6 28 (z14).toNatClampNeg)), (0, .ref (a 0)), (1, .int x1)]) hx hb dX11_precedent_80 hl (k := 2) rfl ez38.symm (by decide) rfl (fun ls hl => ?_)
            refine lv_goto (tgt := 16) hx hb dX11_precedent_83 (by decide) ?_
            exact ih_k7 _ _ _ _ (z38) (z35) hO (lv_sub hl [0, 1, 3, 4] rfl) (by exact hJ) (by exact hT) (by first | decide | omega) (by first | decide | omega)
    have zc40 : (0 : Int32).toInt = 0 := rfl
    exact LP_16_k7 4000 _ _ _ _ (0) (0) hO (lv_sub hl [0, 1, 2, 3] rfl) (by exact hJ) (by exact hT) (by first | decide | omega) (by first | decide | omega)
  · subst hvr1
    refine bn_ne (X := 0) hx hb dX11_precedent_7 rfl (by omega) ?_ (tgt := 12) (by decide)
    refine lv_iconst (v := (-1)) hx hb dX11_precedent_10 (by decide) ?_
    refine hret _ _ _ _ _ _ dX11_precedent_11 rfl ?_ hO
    exact ⟨hJ, hT⟩
def Km4 (u v : St) : Prop := fI v 0 2 = fI u 0 2 ∧ fI v 0 3 = fI u 0 3 ∧ fI v 0 4 = fI u 0 4 ∧ fI v 0 5 = fI u 0 5 ∧ fI v 0 6 = fI u 0 6 ∧ fI v 0 7 = fI u 0 7 ∧ fI v 0 8 = fI u 0 8 ∧ fI v 0 9 = fI u 0 9 ∧ fL v 0 10 = fL u 0 10 ∧ fI v 0 36 = fI u 0 36 ∧ fI v 0 37 = fI u 0 37 ∧ fI v 0 38 = fI u 0 38 ∧ fI v 0 39 = fI u 0 39 ∧ fI v 0 40 = fI u 0 40 ∧ fI v 0 41 = fI u 0 41 ∧ fI v 0 45 = fI u 0 45 ∧ fI v 0 47 = fI u 0 47 ∧ fI v 0 48 = fI u 0 48 ∧ fI v 0 50 = fI u 0 50 ∧ fI v 0 61 = fI u 0 61 ∧ fI v 0 62 = fI u 0 62 ∧ fA v 1 = fA u 1 ∧ fA v 2 = fA u 2 ∧ fA v 3 = fA u 3 ∧ fA v 4 = fA u 4 ∧ fA v 5 = fA u 5 ∧ fA v 6 = fA u 6 ∧ fA v 7 = fA u 7 ∧ fA v 8 = fA u 8 ∧ fA v 9 = fA u 9 ∧ fA v 10 = fA u 10 ∧ fA v 11 = fA u 11 ∧ fA v 12 = fA u 12 ∧ fA v 13 = fA u 13 ∧ fA v 14 = fA u 14 ∧ fA v 15 = fA u 15 ∧ fA v 16 = fA u 16 ∧ fA v 17 = fA u 17 ∧ fA v 18 = fA u 18 ∧ fA v 19 = fA u 19 ∧ fJ v 20 = fJ u 20 ∧ fJ v 21 = fJ u 21 ∧ fJ v 22 = fJ u 22 ∧ fA v 23 = fA u 23 ∧ fA v 24 = fA u 24 ∧ fA v 25 = fA u 25 ∧ fA v 26 = fA u 26 ∧ fA v 28 = fA u 28 ∧ fA v 29 = fA u 29 ∧ fA v 30 = fA u 30 ∧ fA v 32 = fA u 32 ∧ fA v 33 = fA u 33 ∧ fA v 34 = fA u 34 ∧ fA v 35 = fA u 35 ∧ fA v 36 = fA u 36 ∧ fA v 37 = fA u 37 ∧ fA v 38 = fA u 38 ∧ fA v 39 = fA u 39 ∧ fA v 40 = fA u 40 ∧ fA v 41 = fA u 41 ∧ fA v 42 = fA u 42
theorem Km4.rf {u : St} : Km4 u u := ⟨rfl, rfl, rfl, rfl, rfl, rfl, rfl, rfl, rfl, rfl, rfl, rfl, rfl, rfl, rfl, rfl, rfl, rfl, rfl, rfl, rfl, rfl, rfl, rfl, rfl, rfl, rfl, rfl, rfl, rfl, rfl, rfl, rfl, rfl, rfl, rfl, rfl, rfl, rfl, rfl, rfl, rfl, rfl, rfl, rfl, rfl, rfl, rfl, rfl, rfl, rfl, rfl, rfl, rfl, rfl, rfl, rfl, rfl, rfl, rfl, rfl⟩
theorem Km4.tr {u v w : St} (h1 : Km4 u v) (h2 : Km4 v w) : Km4 u w := ⟨(h2.1).trans h1.1, (h2.2.1).trans h1.2.1, (h2.2.2.1).trans h1.2.2.1, (h2.2.2.2.1).trans h1.2.2.2.1, (h2.2.2.2.2.1).trans h1.2.2.2.2.1, (h2.2.2.2.2.2.1).trans h1.2.2.2.2.2.1, (h2.2.2.2.2.2.2.1).trans h1.2.2.2.2.2.2.1, (h2.2.2.2.2.2.2.2.1).trans h1.2.2.2.2.2.2.2.1, (h2.2.2.2.2.2.2.2.2.1).trans h1.2.2.2.2.2.2.2.2.1, (h2.2.2.2.2.2.2.2.2.2.1).trans h1.2.2.2.2.2.2.2.2.2.1, (h2.2.2.2.2.2.2.2.2.2.2.1).trans h1.2.2.2.2.2.2.2.2.2.2.1, (h2.2.2.2.2.2.2.2.2.2.2.2.1).trans h1.2.2.2.2.2.2.2.2.2.2.2.1, (h2.2.2.2.2.2.2.2.2.2.2.2.2.1).trans h1.2.2.2.2.2.2.2.2.2.2.2.2.1, (h2.2.2.2.2.2.2.2.2.2.2.2.2.2.1).trans h1.2.2.2.2.2.2.2.2.2.2.2.2.2.1, (h2.2.2.2.2.2.2.2.2.2.2.2.2.2.2.1).trans h1.2.2.2.2.2.2.2.2.2.2.2.2.2.2.1, (h2.2.2.2.2.2.2.2.2.2.2.2.2.2.2.2.1).trans h1.2.2.2.2.2.2.2.2.2.2.2.2.2.2.2.1, (h2.2.2.2.2.2.2.2.2.2.2.2.2.2.2.2.2.1).trans h1.2.2.2.2.2.2.2.2.2.2.2.2.2.2.2.2.1, (h2.2.2.2.2.2.2.2.2.2.2.2.2.2.2.2.2.2.1).trans h1.2.2.2.2.2.2.2.2.2.2.2.2.2.2.2.2.2.1, (h2.2.2.2.2.2.2.2.2.2.2.2.2.2.2.2.2.2.2.1).trans h1.2.2.2.2.2.2.2.2.2.2.2.2.2.2.2.2.2.2.1, (h2.2.2.2.2.2.2.2.2.2.2.2.2.2.2.2.2.2.2.2.1).trans h1.2.2.2.2.2.2.2.2.2.2.2.2.2.2.2.2.2.2.2.1, (h2.2.2.2.2.2.2.2.2.2.2.2.2.2.2.2.2.2.2.2.2.1).trans h1.2.2.2.2.2.2.2.2.2.2.2.2.2.2.2.2.2.2.2.2.1, (h2.2.2.2.2.2.2.2.2.2.2.2.2.2.2.2.2.2.2.2.2.2.1).trans h1.2.2.2.2.2.2.2.2.2.2.2.2.2.2.2.2.2.2.2.2.2.1, (h2.2.2.2.2.2.2.2.2.2.2.2.2.2.2.2.2.2.2.2.2.2.2.1).trans h1.2.2.2.2.2.2.2.2.2.2.2.2.2.2.2.2.2.2.2.2.2.2.1, (h2.2.2.2.2.2.2.2.2.2.2.2.2.2.2.2.2.2.2.2.2.2.2.2.1).trans h1.2.2.2.2.2.2.2.2.2.2.2.2.2.2.2.2.2.2.2.2.2.2.2.1, (h2.2.2.2.2.2.2.2.2.2.2.2.2.2.2.2.2.2.2.2.2.2.2.2.2.1).trans h1.2.2.2.2.2.2.2.2.2.2.2.2.2.2.2.2.2.2.2.2.2.2.2.2.1, (h2.2.2.2.2.2.2.2.2.2.2.2.2.2.2.2.2.2.2.2.2.2.2.2.2.2.1).trans h1.2.2.2.2.2.2.2.2.2.2.2.2.2.2.2.2.2.2.2.2.2.2.2.2.2.1, (h2.2.2.2.2.2.2.2.2.2.2.2.2.2.2.2.2.2.2.2.2.2.2.2.2.2.2.1).trans h1.2.2.2.2.2.2.2.2.2.2.2.2.2.2.2.2.2.2.2.2.2.2.2.2.2.2.1, (h2.2.2.2.2.2.2.2.2.2.2.2.2.2.2.2.2.2.2.2.2.2.2.2.2.2.2.2.1).trans h1.2.2.2.2.2.2.2.2.2.2.2.2.2.2.2.2.2.2.2.2.2.2.2.2.2.2.2.1, (h2.2.2.2.2.2.2.2.2.2.2.2.2.2.2.2.2.2.2.2.2.2.2.2.2.2.2.2.2.1).trans h1.2.2.2.2.2.2.2.2.2.2.2.2.2.2.2.2.2.2.2.2.2.2.2.2.2.2.2.2.1, (h2.2.2.2.2.2.2.2.2.2.2.2.2.2.2.2.2.2.2.2.2.2.2.2.2.2.2.2.2.2.1).trans h1.2.2.2.2.2.2.2.2.2.2.2.2.2.2.2.2.2.2.2.2.2.2.2.2.2.2.2.2.2.1, (h2.2.2.2.2.2.2.2.2.2.2.2.2.2.2.2.2.2.2.2.2.2.2.2.2.2.2.2.2.2.2.1).trans h1.2.2.2.2.2.2.2.2.2.2.2.2.2.2.2.2.2.2.2.2.2.2.2.2.2.2.2.2.2.2.1, (h2.2.2.2.2.2.2.2.2.2.2.2.2.2.2.2.2.2.2.2.2.2.2.2.2.2.2.2.2.2.2.2.1).trans h1.2.2.2.2.2.2.2.2.2.2.2.2.2.2.2.2.2.2.2.2.2.2.2.2.2.2.2.2.2.2.2.1, (h2.2.2.2.2.2.2.2.2.2.2.2.2.2.2.2.2.2.2.2.2.2.2.2.2.2.2.2.2.2.2.2.2.1).trans h1.2.2.2.2.2.2.2.2.2.2.2.2.2.2.2.2.2.2.2.2.2.2.2.2.2.2.2.2.2.2.2.2.1, (h2.2.2.2.2.2.2.2.2.2.2.2.2.2.2.2.2.2.2.2.2.2.2.2.2.2.2.2.2.2.2.2.2.2.1).trans h1.2.2.2.2.2.2.2.2.2.2.2.2.2.2.2.2.2.2.2.2.2.2.2.2.2.2.2.2.2.2.2.2.2.1, (h2.2.2.2.2.2.2.2.2.2.2.2.2.2.2.2.2.2.2.2.2.2.2.2.2.2.2.2.2.2.2.2.2.2.2.1).trans h1.2.2.2.2.2.2.2.2.2.2.2.2.2.2.2.2.2.2.2.2.2.2.2.2.2.2.2.2.2.2.2.2.2.2.1, (h2.2.2.2.2.2.2.2.2.2.2.2.2.2.2.2.2.2.2.2.2.2.2.2.2.2.2.2.2.2.2.2.2.2.2.2.1).trans h1.2.2.2.2.2.2.2.2.2.2.2.2.2.2.2.2.2.2.2.2.2.2.2.2.2.2.2.2.2.2.2.2.2.2.2.1, (h2.2.2.2.2.2.2.2.2.2.2.2.2.2.2.2.2.2.2.2.2.2.2.2.2.2.2.2.2.2.2.2.2.2.2.2.2.1).trans h1.2.2.2.2.2.2.2.2.2.2.2.2.2.2.2.2.2.2.2.2.2.2.2.2.2.2.2.2.2.2.2.2.2.2.2.2.1, (h2.2.2.2.2.2.2.2.2.2.2.2.2.2.2.2.2.2.2.2.2.2.2.2.2.2.2.2.2.2.2.2.2.2.2.2.2.2.1).trans h1.2.2.2.2.2.2.2.2.2.2.2.2.2.2.2.2.2.2.2.2.2.2.2.2.2.2.2.2.2.2.2.2.2.2.2.2.2.1, (h2.2.2.2.2.2.2.2.2.2.2.2.2.2.2.2.2.2.2.2.2.2.2.2.2.2.2.2.2.2.2.2.2.2.2.2.2.2.2.1).trans h1.2.2.2.2.2.2.2.2.2.2.2.2.2.2.2.2.2.2.2.2.2.2.2.2.2.2.2.2.2.2.2.2.2.2.2.2.2.2.1, (h2.2.2.2.2.2.2.2.2.2.2.2.2.2.2.2.2.2.2.2.2.2.2.2.2.2.2.2.2.2.2.2.2.2.2.2.2.2.2.2.1).trans h1.2.2.2.2.2.2.2.2.2.2.2.2.2.2.2.2.2.2.2.2.2.2.2.2.2.2.2.2.2.2.2.2.2.2.2.2.2.2.2.1, (h2.2.2.2.2.2.2.2.2.2.2.2.2.2.2.2.2.2.2.2.2.2.2.2.2.2.2.2.2.2.2.2.2.2.2.2.2.2.2.2.2.1).trans h1.2.2.2.2.2.2.2.2.2.2.2.2.2.2.2.2.2.2.2.2.2.2.2.2.2.2.2.2.2.2.2.2.2.2.2.2.2.2.2.2.1, (h2.2.2.2.2.2.2.2.2.2.2.2.2.2.2.2.2.2.2.2.2.2.2.2.2.2.2.2.2.2.2.2.2.2.2.2.2.2.2.2.2.2.1).trans h1.2.2.2.2.2.2.2.2.2.2.2.2.2.2.2.2.2.2.2.2.2.2.2.2.2.2.2.2.2.2.2.2.2.2.2.2.2.2.2.2.2.1, (h2.2.2.2.2.2.2.2.2.2.2.2.2.2.2.2.2.2.2.2.2.2.2.2.2.2.2.2.2.2.2.2.2.2.2.2.2.2.2.2.2.2.2.1).trans h1.2.2.2.2.2.2.2.2.2.2.2.2.2.2.2.2.2.2.2.2.2.2.2.2.2.2.2.2.2.2.2.2.2.2.2.2.2.2.2.2.2.2.1, (h2.2.2.2.2.2.2.2.2.2.2.2.2.2.2.2.2.2.2.2.2.2.2.2.2.2.2.2.2.2.2.2.2.2.2.2.2.2.2.2.2.2.2.2.1).trans h1.2.2.2.2.2.2.2.2.2.2.2.2.2.2.2.2.2.2.2.2.2.2.2.2.2.2.2.2.2.2.2.2.2.2.2.2.2.2.2.2.2.2.2.1, (h2.2.2.2.2.2.2.2.2.2.2.2.2.2.2.2.2.2.2.2.2.2.2.2.2.2.2.2.2.2.2.2.2.2.2.2.2.2.2.2.2.2.2.2.2.1).trans h1.2.2.2.2.2.2.2.2.2.2.2.2.2.2.2.2.2.2.2.2.2.2.2.2.2.2.2.2.2.2.2.2.2.2.2.2.2.2.2.2.2.2.2.2.1, (h2.2.2.2.2.2.2.2.2.2.2.2.2.2.2.2.2.2.2.2.2.2.2.2.2.2.2.2.2.2.2.2.2.2.2.2.2.2.2.2.2.2.2.2.2.2.1).trans h1.2.2.2.2.2.2.2.2.2.2.2.2.2.2.2.2.2.2.2.2.2.2.2.2.2.2.2.2.2.2.2.2.2.2.2.2.2.2.2.2.2.2.2.2.2.1, (h2.2.2.2.2.2.2.2.2.2.2.2.2.2.2.2.2.2.2.2.2.2.2.2.2.2.2.2.2.2.2.2.2.2.2.2.2.2.2.2.2.2.2.2.2.2.2.1).trans h1.2.2.2.2.2.2.2.2.2.2.2.2.2.2.2.2.2.2.2.2.2.2.2.2.2.2.2.2.2.2.2.2.2.2.2.2.2.2.2.2.2.2.2.2.2.2.1, (h2.2.2.2.2.2.2.2.2.2.2.2.2.2.2.2.2.2.2.2.2.2.2.2.2.2.2.2.2.2.2.2.2.2.2.2.2.2.2.2.2.2.2.2.2.2.2.2.1).trans h1.2.2.2.2.2.2.2.2.2.2.2.2.2.2.2.2.2.2.2.2.2.2.2.2.2.2.2.2.2.2.2.2.2.2.2.2.2.2.2.2.2.2.2.2.2.2.2.1, (h2.2.2.2.2.2.2.2.2.2.2.2.2.2.2.2.2.2.2.2.2.2.2.2.2.2.2.2.2.2.2.2.2.2.2.2.2.2.2.2.2.2.2.2.2.2.2.2.2.1).trans h1.2.2.2.2.2.2.2.2.2.2.2.2.2.2.2.2.2.2.2.2.2.2.2.2.2.2.2.2.2.2.2.2.2.2.2.2.2.2.2.2.2.2.2.2.2.2.2.2.1, (h2.2.2.2.2.2.2.2.2.2.2.2.2.2.2.2.2.2.2.2.2.2.2.2.2.2.2.2.2.2.2.2.2.2.2.2.2.2.2.2.2.2.2.2.2.2.2.2.2.2.1).trans h1.2.2.2.2.2.2.2.2.2.2.2.2.2.2.2.2.2.2.2.2.2.2.2.2.2.2.2.2.2.2.2.2.2.2.2.2.2.2.2.2.2.2.2.2.2.2.2.2.2.1, (h2.2.2.2.2.2.2.2.2.2.2.2.2.2.2.2.2.2.2.2.2.2.2.2.2.2.2.2.2.2.2.2.2.2.2.2.2.2.2.2.2.2.2.2.2.2.2.2.2.2.2.1).trans h1.2.2.2.2.2.2.2.2.2.2.2.2.2.2.2.2.2.2.2.2.2.2.2.2.2.2.2.2.2.2.2.2.2.2.2.2.2.2.2.2.2.2.2.2.2.2.2.2.2.2.1, (h2.2.2.2.2.2.2.2.2.2.2.2.2.2.2.2.2.2.2.2.2.2.2.2.2.2.2.2.2.2.2.2.2.2.2.2.2.2.2.2.2.2.2.2.2.2.2.2.2.2.2.2.1).trans h1.2.2.2.2.2.2.2.2.2.2.2.2.2.2.2.2.2.2.2.2.2.2.2.2.2.2.2.2.2.2.2.2.2.2.2.2.2.2.2.2.2.2.2.2.2.2.2.2.2.2.2.1, (h2.2.2.2.2.2.2.2.2.2.2.2.2.2.2.2.2.2.2.2.2.2.2.2.2.2.2.2.2.2.2.2.2.2.2.2.2.2.2.2.2.2.2.2.2.2.2.2.2.2.2.2.2.1).trans h1.2.2.2.2.2.2.2.2.2.2.2.2.2.2.2.2.2.2.2.2.2.2.2.2.2.2.2.2.2.2.2.2.2.2.2.2.2.2.2.2.2.2.2.2.2.2.2.2.2.2.2.2.1, (h2.2.2.2.2.2.2.2.2.2.2.2.2.2.2.2.2.2.2.2.2.2.2.2.2.2.2.2.2.2.2.2.2.2.2.2.2.2.2.2.2.2.2.2.2.2.2.2.2.2.2.2.2.2.1).trans h1.2.2.2.2.2.2.2.2.2.2.2.2.2.2.2.2.2.2.2.2.2.2.2.2.2.2.2.2.2.2.2.2.2.2.2.2.2.2.2.2.2.2.2.2.2.2.2.2.2.2.2.2.2.1, (h2.2.2.2.2.2.2.2.2.2.2.2.2.2.2.2.2.2.2.2.2.2.2.2.2.2.2.2.2.2.2.2.2.2.2.2.2.2.2.2.2.2.2.2.2.2.2.2.2.2.2.2.2.2.2.1).trans h1.2.2.2.2.2.2.2.2.2.2.2.2.2.2.2.2.2.2.2.2.2.2.2.2.2.2.2.2.2.2.2.2.2.2.2.2.2.2.2.2.2.2.2.2.2.2.2.2.2.2.2.2.2.2.1, (h2.2.2.2.2.2.2.2.2.2.2.2.2.2.2.2.2.2.2.2.2.2.2.2.2.2.2.2.2.2.2.2.2.2.2.2.2.2.2.2.2.2.2.2.2.2.2.2.2.2.2.2.2.2.2.2.1).trans h1.2.2.2.2.2.2.2.2.2.2.2.2.2.2.2.2.2.2.2.2.2.2.2.2.2.2.2.2.2.2.2.2.2.2.2.2.2.2.2.2.2.2.2.2.2.2.2.2.2.2.2.2.2.2.2.1, (h2.2.2.2.2.2.2.2.2.2.2.2.2.2.2.2.2.2.2.2.2.2.2.2.2.2.2.2.2.2.2.2.2.2.2.2.2.2.2.2.2.2.2.2.2.2.2.2.2.2.2.2.2.2.2.2.2.1).trans h1.2.2.2.2.2.2.2.2.2.2.2.2.2.2.2.2.2.2.2.2.2.2.2.2.2.2.2.2.2.2.2.2.2.2.2.2.2.2.2.2.2.2.2.2.2.2.2.2.2.2.2.2.2.2.2.2.1, (h2.2.2.2.2.2.2.2.2.2.2.2.2.2.2.2.2.2.2.2.2.2.2.2.2.2.2.2.2.2.2.2.2.2.2.2.2.2.2.2.2.2.2.2.2.2.2.2.2.2.2.2.2.2.2.2.2.2.1).trans h1.2.2.2.2.2.2.2.2.2.2.2.2.2.2.2.2.2.2.2.2.2.2.2.2.2.2.2.2.2.2.2.2.2.2.2.2.2.2.2.2.2.2.2.2.2.2.2.2.2.2.2.2.2.2.2.2.2.1, (h2.2.2.2.2.2.2.2.2.2.2.2.2.2.2.2.2.2.2.2.2.2.2.2.2.2.2.2.2.2.2.2.2.2.2.2.2.2.2.2.2.2.2.2.2.2.2.2.2.2.2.2.2.2.2.2.2.2.2.1).trans h1.2.2.2.2.2.2.2.2.2.2.2.2.2.2.2.2.2.2.2.2.2.2.2.2.2.2.2.2.2.2.2.2.2.2.2.2.2.2.2.2.2.2.2.2.2.2.2.2.2.2.2.2.2.2.2.2.2.2.1, (h2.2.2.2.2.2.2.2.2.2.2.2.2.2.2.2.2.2.2.2.2.2.2.2.2.2.2.2.2.2.2.2.2.2.2.2.2.2.2.2.2.2.2.2.2.2.2.2.2.2.2.2.2.2.2.2.2.2.2.2.1).trans h1.2.2.2.2.2.2.2.2.2.2.2.2.2.2.2.2.2.2.2.2.2.2.2.2.2.2.2.2.2.2.2.2.2.2.2.2.2.2.2.2.2.2.2.2.2.2.2.2.2.2.2.2.2.2.2.2.2.2.2.1, (h2.2.2.2.2.2.2.2.2.2.2.2.2.2.2.2.2.2.2.2.2.2.2.2.2.2.2.2.2.2.2.2.2.2.2.2.2.2.2.2.2.2.2.2.2.2.2.2.2.2.2.2.2.2.2.2.2.2.2.2.2).trans h1.2.2.2.2.2.2.2.2.2.2.2.2.2.2.2.2.2.2.2.2.2.2.2.2.2.2.2.2.2.2.2.2.2.2.2.2.2.2.2.2.2.2.2.2.2.2.2.2.2.2.2.2.2.2.2.2.2.2.2.2⟩
theorem dX11_layVerdicts_0 : decode cX11_layVerdicts 0 = .ok (.iconst 0, 1) := by decide +kernel
theorem dX11_layVerdicts_1 : decode cX11_layVerdicts 1 = .ok (.istore_n 3, 1) := by decide +kernel
theorem dX11_layVerdicts_2 : decode cX11_layVerdicts 2 = .ok (.iload_n 3, 1) := by decide +kernel
theorem dX11_layVerdicts_3 : decode cX11_layVerdicts 3 = .ok (.bipush 64, 2) := by decide +kernel
theorem dX11_layVerdicts_5 : decode cX11_layVerdicts 5 = .ok (.if_icmp .ge 97, 3) := by decide +kernel
theorem dX11_layVerdicts_8 : decode cX11_layVerdicts 8 = .ok (.iload_n 3, 1) := by decide +kernel
theorem dX11_layVerdicts_9 : decode cX11_layVerdicts 9 = .ok (.bipush 8, 2) := by decide +kernel
theorem dX11_layVerdicts_11 : decode cX11_layVerdicts 11 = .ok (.idiv, 1) := by decide +kernel
theorem dX11_layVerdicts_12 : decode cX11_layVerdicts 12 = .ok (.istore 4, 2) := by decide +kernel
theorem dX11_layVerdicts_14 : decode cX11_layVerdicts 14 = .ok (.iload_n 3, 1) := by decide +kernel
theorem dX11_layVerdicts_15 : decode cX11_layVerdicts 15 = .ok (.bipush 8, 2) := by decide +kernel
theorem dX11_layVerdicts_17 : decode cX11_layVerdicts 17 = .ok (.irem, 1) := by decide +kernel
theorem dX11_layVerdicts_18 : decode cX11_layVerdicts 18 = .ok (.istore 5, 2) := by decide +kernel
theorem dX11_layVerdicts_20 : decode cX11_layVerdicts 20 = .ok (.aload_n 0, 1) := by decide +kernel
theorem dX11_layVerdicts_21 : decode cX11_layVerdicts 21 = .ok (.iload 4, 2) := by decide +kernel
theorem dX11_layVerdicts_23 : decode cX11_layVerdicts 23 = .ok (.invokevirtual 426, 3) := by decide +kernel
theorem dX11_layVerdicts_26 : decode cX11_layVerdicts 26 = .ok (.ifCond .eq 70, 3) := by decide +kernel
theorem dX11_layVerdicts_29 : decode cX11_layVerdicts 29 = .ok (.aload_n 0, 1) := by decide +kernel
theorem dX11_layVerdicts_30 : decode cX11_layVerdicts 30 = .ok (.iload 5, 2) := by decide +kernel
theorem dX11_layVerdicts_32 : decode cX11_layVerdicts 32 = .ok (.invokevirtual 426, 3) := by decide +kernel
theorem dX11_layVerdicts_35 : decode cX11_layVerdicts 35 = .ok (.ifCond .ne 6, 3) := by decide +kernel
theorem dX11_layVerdicts_38 : decode cX11_layVerdicts 38 = .ok (.goto 58, 3) := by decide +kernel
theorem dX11_layVerdicts_41 : decode cX11_layVerdicts 41 = .ok (.aload_n 0, 1) := by decide +kernel
theorem dX11_layVerdicts_42 : decode cX11_layVerdicts 42 = .ok (.getfield 109, 3) := by decide +kernel
theorem dX11_layVerdicts_45 : decode cX11_layVerdicts 45 = .ok (.iload_n 3, 1) := by decide +kernel
theorem dX11_layVerdicts_46 : decode cX11_layVerdicts 46 = .ok (.aload_n 0, 1) := by decide +kernel
theorem dX11_layVerdicts_47 : decode cX11_layVerdicts 47 = .ok (.iload_n 1, 1) := by decide +kernel
theorem dX11_layVerdicts_48 : decode cX11_layVerdicts 48 = .ok (.iload 4, 2) := by decide +kernel
theorem dX11_layVerdicts_50 : decode cX11_layVerdicts 50 = .ok (.iload 5, 2) := by decide +kernel
theorem dX11_layVerdicts_52 : decode cX11_layVerdicts 52 = .ok (.if_icmp .ne 7, 3) := by decide +kernel
theorem dX11_layVerdicts_55 : decode cX11_layVerdicts 55 = .ok (.iconst 0, 1) := by decide +kernel
theorem dX11_layVerdicts_56 : decode cX11_layVerdicts 56 = .ok (.goto 7, 3) := by decide +kernel
theorem dX11_layVerdicts_59 : decode cX11_layVerdicts 59 = .ok (.iconst 1, 1) := by decide +kernel
theorem dX11_layVerdicts_60 : decode cX11_layVerdicts 60 = .ok (.iload 4, 2) := by decide +kernel
theorem dX11_layVerdicts_62 : decode cX11_layVerdicts 62 = .ok (.ishl, 1) := by decide +kernel
theorem dX11_layVerdicts_63 : decode cX11_layVerdicts 63 = .ok (.invokevirtual 410, 3) := by decide +kernel
theorem dX11_layVerdicts_66 : decode cX11_layVerdicts 66 = .ok (.iastore, 1) := by decide +kernel
theorem dX11_layVerdicts_67 : decode cX11_layVerdicts 67 = .ok (.aload_n 0, 1) := by decide +kernel
theorem dX11_layVerdicts_68 : decode cX11_layVerdicts 68 = .ok (.getfield 109, 3) := by decide +kernel
theorem dX11_layVerdicts_71 : decode cX11_layVerdicts 71 = .ok (.bipush 64, 2) := by decide +kernel
theorem dX11_layVerdicts_73 : decode cX11_layVerdicts 73 = .ok (.iload_n 3, 1) := by decide +kernel
theorem dX11_layVerdicts_74 : decode cX11_layVerdicts 74 = .ok (.iadd, 1) := by decide +kernel
theorem dX11_layVerdicts_75 : decode cX11_layVerdicts 75 = .ok (.aload_n 0, 1) := by decide +kernel
theorem dX11_layVerdicts_76 : decode cX11_layVerdicts 76 = .ok (.iload_n 2, 1) := by decide +kernel
theorem dX11_layVerdicts_77 : decode cX11_layVerdicts 77 = .ok (.iload 4, 2) := by decide +kernel
theorem dX11_layVerdicts_79 : decode cX11_layVerdicts 79 = .ok (.iload 5, 2) := by decide +kernel
theorem dX11_layVerdicts_81 : decode cX11_layVerdicts 81 = .ok (.if_icmp .ne 7, 3) := by decide +kernel
theorem dX11_layVerdicts_84 : decode cX11_layVerdicts 84 = .ok (.iconst 0, 1) := by decide +kernel
theorem dX11_layVerdicts_85 : decode cX11_layVerdicts 85 = .ok (.goto 7, 3) := by decide +kernel
theorem dX11_layVerdicts_88 : decode cX11_layVerdicts 88 = .ok (.iconst 1, 1) := by decide +kernel
theorem dX11_layVerdicts_89 : decode cX11_layVerdicts 89 = .ok (.iload 5, 2) := by decide +kernel
theorem dX11_layVerdicts_91 : decode cX11_layVerdicts 91 = .ok (.ishl, 1) := by decide +kernel
theorem dX11_layVerdicts_92 : decode cX11_layVerdicts 92 = .ok (.invokevirtual 410, 3) := by decide +kernel
theorem dX11_layVerdicts_95 : decode cX11_layVerdicts 95 = .ok (.iastore, 1) := by decide +kernel
theorem dX11_layVerdicts_96 : decode cX11_layVerdicts 96 = .ok (.iinc 3 1, 3) := by decide +kernel
theorem dX11_layVerdicts_99 : decode cX11_layVerdicts 99 = .ok (.goto (-97), 3) := by decide +kernel
theorem dX11_layVerdicts_102 : decode cX11_layVerdicts 102 = .ok (.return_, 1) := by decide +kernel
theorem wd_1927 : (Cond.code ⟨"WebCourtModel", "layVerdicts", "(II)V"⟩ prog_13_method_98_code (6 : Nat) (Option.none : Option FieldType)) ∈ gtb := gtb_c8 138 (by decide +kernel) rfl
theorem Km4_I36 {u v : St} (h : Km4 u v) : fI v 0 36 = fI u 0 36 := h.2.2.2.2.2.2.2.2.2.1
theorem Km4_A5 {u v : St} (h : Km4 u v) : fA v 5 = fA u 5 := h.2.2.2.2.2.2.2.2.2.2.2.2.2.2.2.2.2.2.2.2.2.2.2.2.2.1
theorem wd_1407 : (Cond.fieldLink "WebCourtModel" (109 : Nat) "WebCourtModel" "verdicts" "[I") ∈ gtb := gtb_c6 98 (by decide +kernel) rfl
theorem gf_RX11_109 {p : Program} {l : Launch} {e : Env} {R : Room} {s : State} {m : MethodId} {args : Array Value} {below : List Frame} {meth : Method} {c : Code} {H : Heap} {locs : List Loc} {cells slots : Nat} {Q : State → Prop} {cc : ByteArray} {pc nL : Nat} {ls : Array Slot} {rest : List Value} {D : va_G} {cy : Nat → ClassId} {A : Nat → Prop} {ws : va_W} {b : Nat} {fs : List Value} {v : Value} (C : Cx p s m args c cc nL RX11 D cy A) (hO : Wo D A ws s.heap H locs) (q0 : Nat) (he : ws[q0]? = some (b, .inr (11, fs))) (hv : fs[51]? = some v) (hdg : decode cc pc = .ok (.getfield 109, 3)) (kk : W p l e R s m args below meth c H locs cells slots Q (F0 m (pc + 3) ls (v :: rest))) : W p l e R s m args below meth c H locs cells slots Q (F0 m pc ls (.ref b :: rest)) := gF (k := 51) C hO q0 he rfl inFX11 (by decide) wd_1407 rfl hv hdg kk
theorem Km2_to_Km4 {u v : St} (h : Km2 u v) : Km4 u v := ⟨h.1, h.2.1, h.2.2.1, h.2.2.2.1, h.2.2.2.2.1, h.2.2.2.2.2.1, h.2.2.2.2.2.2.1, h.2.2.2.2.2.2.2.1, h.2.2.2.2.2.2.2.2.1, h.2.2.2.2.2.2.2.2.2.1, h.2.2.2.2.2.2.2.2.2.2.1, h.2.2.2.2.2.2.2.2.2.2.2.1, h.2.2.2.2.2.2.2.2.2.2.2.2.1, h.2.2.2.2.2.2.2.2.2.2.2.2.2.1, h.2.2.2.2.2.2.2.2.2.2.2.2.2.2.1, h.2.2.2.2.2.2.2.2.2.2.2.2.2.2.2.1, h.2.2.2.2.2.2.2.2.2.2.2.2.2.2.2.2.1, h.2.2.2.2.2.2.2.2.2.2.2.2.2.2.2.2.2.1, h.2.2.2.2.2.2.2.2.2.2.2.2.2.2.2.2.2.2.1, h.2.2.2.2.2.2.2.2.2.2.2.2.2.2.2.2.2.2.2.1, h.2.2.2.2.2.2.2.2.2.2.2.2.2.2.2.2.2.2.2.2.1, h.2.2.2.2.2.2.2.2.2.2.2.2.2.2.2.2.2.2.2.2.2.1, h.2.2.2.2.2.2.2.2.2.2.2.2.2.2.2.2.2.2.2.2.2.2.1, h.2.2.2.2.2.2.2.2.2.2.2.2.2.2.2.2.2.2.2.2.2.2.2.1, h.2.2.2.2.2.2.2.2.2.2.2.2.2.2.2.2.2.2.2.2.2.2.2.2.1, h.2.2.2.2.2.2.2.2.2.2.2.2.2.2.2.2.2.2.2.2.2.2.2.2.2.1, h.2.2.2.2.2.2.2.2.2.2.2.2.2.2.2.2.2.2.2.2.2.2.2.2.2.2.1, h.2.2.2.2.2.2.2.2.2.2.2.2.2.2.2.2.2.2.2.2.2.2.2.2.2.2.2.1, h.2.2.2.2.2.2.2.2.2.2.2.2.2.2.2.2.2.2.2.2.2.2.2.2.2.2.2.2.1, h.2.2.2.2.2.2.2.2.2.2.2.2.2.2.2.2.2.2.2.2.2.2.2.2.2.2.2.2.2.1, h.2.2.2.2.2.2.2.2.2.2.2.2.2.2.2.2.2.2.2.2.2.2.2.2.2.2.2.2.2.2.1, h.2.2.2.2.2.2.2.2.2.2.2.2.2.2.2.2.2.2.2.2.2.2.2.2.2.2.2.2.2.2.2.1, h.2.2.2.2.2.2.2.2.2.2.2.2.2.2.2.2.2.2.2.2.2.2.2.2.2.2.2.2.2.2.2.2.1, h.2.2.2.2.2.2.2.2.2.2.2.2.2.2.2.2.2.2.2.2.2.2.2.2.2.2.2.2.2.2.2.2.2.1, h.2.2.2.2.2.2.2.2.2.2.2.2.2.2.2.2.2.2.2.2.2.2.2.2.2.2.2.2.2.2.2.2.2.2.1, h.2.2.2.2.2.2.2.2.2.2.2.2.2.2.2.2.2.2.2.2.2.2.2.2.2.2.2.2.2.2.2.2.2.2.2.1, h.2.2.2.2.2.2.2.2.2.2.2.2.2.2.2.2.2.2.2.2.2.2.2.2.2.2.2.2.2.2.2.2.2.2.2.2.1, h.2.2.2.2.2.2.2.2.2.2.2.2.2.2.2.2.2.2.2.2.2.2.2.2.2.2.2.2.2.2.2.2.2.2.2.2.2.1, h.2.2.2.2.2.2.2.2.2.2.2.2.2.2.2.2.2.2.2.2.2.2.2.2.2.2.2.2.2.2.2.2.2.2.2.2.2.2.1, h.2.2.2.2.2.2.2.2.2.2.2.2.2.2.2.2.2.2.2.2.2.2.2.2.2.2.2.2.2.2.2.2.2.2.2.2.2.2.2.1, h.2.2.2.2.2.2.2.2.2.2.2.2.2.2.2.2.2.2.2.2.2.2.2.2.2.2.2.2.2.2.2.2.2.2.2.2.2.2.2.2.1, h.2.2.2.2.2.2.2.2.2.2.2.2.2.2.2.2.2.2.2.2.2.2.2.2.2.2.2.2.2.2.2.2.2.2.2.2.2.2.2.2.2.1, h.2.2.2.2.2.2.2.2.2.2.2.2.2.2.2.2.2.2.2.2.2.2.2.2.2.2.2.2.2.2.2.2.2.2.2.2.2.2.2.2.2.2.1, h.2.2.2.2.2.2.2.2.2.2.2.2.2.2.2.2.2.2.2.2.2.2.2.2.2.2.2.2.2.2.2.2.2.2.2.2.2.2.2.2.2.2.2.1, h.2.2.2.2.2.2.2.2.2.2.2.2.2.2.2.2.2.2.2.2.2.2.2.2.2.2.2.2.2.2.2.2.2.2.2.2.2.2.2.2.2.2.2.2.1, h.2.2.2.2.2.2.2.2.2.2.2.2.2.2.2.2.2.2.2.2.2.2.2.2.2.2.2.2.2.2.2.2.2.2.2.2.2.2.2.2.2.2.2.2.2.1, h.2.2.2.2.2.2.2.2.2.2.2.2.2.2.2.2.2.2.2.2.2.2.2.2.2.2.2.2.2.2.2.2.2.2.2.2.2.2.2.2.2.2.2.2.2.2.1, h.2.2.2.2.2.2.2.2.2.2.2.2.2.2.2.2.2.2.2.2.2.2.2.2.2.2.2.2.2.2.2.2.2.2.2.2.2.2.2.2.2.2.2.2.2.2.2.1, h.2.2.2.2.2.2.2.2.2.2.2.2.2.2.2.2.2.2.2.2.2.2.2.2.2.2.2.2.2.2.2.2.2.2.2.2.2.2.2.2.2.2.2.2.2.2.2.2.1, h.2.2.2.2.2.2.2.2.2.2.2.2.2.2.2.2.2.2.2.2.2.2.2.2.2.2.2.2.2.2.2.2.2.2.2.2.2.2.2.2.2.2.2.2.2.2.2.2.2.1, h.2.2.2.2.2.2.2.2.2.2.2.2.2.2.2.2.2.2.2.2.2.2.2.2.2.2.2.2.2.2.2.2.2.2.2.2.2.2.2.2.2.2.2.2.2.2.2.2.2.2.2.1, h.2.2.2.2.2.2.2.2.2.2.2.2.2.2.2.2.2.2.2.2.2.2.2.2.2.2.2.2.2.2.2.2.2.2.2.2.2.2.2.2.2.2.2.2.2.2.2.2.2.2.2.2.1, h.2.2.2.2.2.2.2.2.2.2.2.2.2.2.2.2.2.2.2.2.2.2.2.2.2.2.2.2.2.2.2.2.2.2.2.2.2.2.2.2.2.2.2.2.2.2.2.2.2.2.2.2.2.1, h.2.2.2.2.2.2.2.2.2.2.2.2.2.2.2.2.2.2.2.2.2.2.2.2.2.2.2.2.2.2.2.2.2.2.2.2.2.2.2.2.2.2.2.2.2.2.2.2.2.2.2.2.2.2.1, h.2.2.2.2.2.2.2.2.2.2.2.2.2.2.2.2.2.2.2.2.2.2.2.2.2.2.2.2.2.2.2.2.2.2.2.2.2.2.2.2.2.2.2.2.2.2.2.2.2.2.2.2.2.2.2.1, h.2.2.2.2.2.2.2.2.2.2.2.2.2.2.2.2.2.2.2.2.2.2.2.2.2.2.2.2.2.2.2.2.2.2.2.2.2.2.2.2.2.2.2.2.2.2.2.2.2.2.2.2.2.2.2.2.1, h.2.2.2.2.2.2.2.2.2.2.2.2.2.2.2.2.2.2.2.2.2.2.2.2.2.2.2.2.2.2.2.2.2.2.2.2.2.2.2.2.2.2.2.2.2.2.2.2.2.2.2.2.2.2.2.2.2.1, h.2.2.2.2.2.2.2.2.2.2.2.2.2.2.2.2.2.2.2.2.2.2.2.2.2.2.2.2.2.2.2.2.2.2.2.2.2.2.2.2.2.2.2.2.2.2.2.2.2.2.2.2.2.2.2.2.2.2.1, h.2.2.2.2.2.2.2.2.2.2.2.2.2.2.2.2.2.2.2.2.2.2.2.2.2.2.2.2.2.2.2.2.2.2.2.2.2.2.2.2.2.2.2.2.2.2.2.2.2.2.2.2.2.2.2.2.2.2.2.1, h.2.2.2.2.2.2.2.2.2.2.2.2.2.2.2.2.2.2.2.2.2.2.2.2.2.2.2.2.2.2.2.2.2.2.2.2.2.2.2.2.2.2.2.2.2.2.2.2.2.2.2.2.2.2.2.2.2.2.2.2.1, h.2.2.2.2.2.2.2.2.2.2.2.2.2.2.2.2.2.2.2.2.2.2.2.2.2.2.2.2.2.2.2.2.2.2.2.2.2.2.2.2.2.2.2.2.2.2.2.2.2.2.2.2.2.2.2.2.2.2.2.2.2⟩
theorem Km4_wA31 {u v : St} {D : va_G} {A : Nat → Prop} {cy : Nat → ClassId} {a : Nat → Nat} {hp H : Heap} {locs : List Loc} {f : Nat → Int32} (_ : Wo D A (mW cy a (sA v 31 f)) hp H locs) (h : Km4 u v) : Km4 u (sA v 31 f) := ⟨h.1, h.2.1, h.2.2.1, h.2.2.2.1, h.2.2.2.2.1, h.2.2.2.2.2.1, h.2.2.2.2.2.2.1, h.2.2.2.2.2.2.2.1, h.2.2.2.2.2.2.2.2.1, h.2.2.2.2.2.2.2.2.2.1, h.2.2.2.2.2.2.2.2.2.2.1, h.2.2.2.2.2.2.2.2.2.2.2.1, h.2.2.2.2.2.2.2.2.2.2.2.2.1, h.2.2.2.2.2.2.2.2.2.2.2.2.2.1, h.2.2.2.2.2.2.2.2.2.2.2.2.2.2.1, h.2.2.2.2.2.2.2.2.2.2.2.2.2.2.2.1, h.2.2.2.2.2.2.2.2.2.2.2.2.2.2.2.2.1, h.2.2.2.2.2.2.2.2.2.2.2.2.2.2.2.2.2.1, h.2.2.2.2.2.2.2.2.2.2.2.2.2.2.2.2.2.2.1, h.2.2.2.2.2.2.2.2.2.2.2.2.2.2.2.2.2.2.2.1, h.2.2.2.2.2.2.2.2.2.2.2.2.2.2.2.2.2.2.2.2.1, h.2.2.2.2.2.2.2.2.2.2.2.2.2.2.2.2.2.2.2.2.2.1, h.2.2.2.2.2.2.2.2.2.2.2.2.2.2.2.2.2.2.2.2.2.2.1, h.2.2.2.2.2.2.2.2.2.2.2.2.2.2.2.2.2.2.2.2.2.2.2.1, h.2.2.2.2.2.2.2.2.2.2.2.2.2.2.2.2.2.2.2.2.2.2.2.2.1, h.2.2.2.2.2.2.2.2.2.2.2.2.2.2.2.2.2.2.2.2.2.2.2.2.2.1, h.2.2.2.2.2.2.2.2.2.2.2.2.2.2.2.2.2.2.2.2.2.2.2.2.2.2.1, h.2.2.2.2.2.2.2.2.2.2.2.2.2.2.2.2.2.2.2.2.2.2.2.2.2.2.2.1, h.2.2.2.2.2.2.2.2.2.2.2.2.2.2.2.2.2.2.2.2.2.2.2.2.2.2.2.2.1, h.2.2.2.2.2.2.2.2.2.2.2.2.2.2.2.2.2.2.2.2.2.2.2.2.2.2.2.2.2.1, h.2.2.2.2.2.2.2.2.2.2.2.2.2.2.2.2.2.2.2.2.2.2.2.2.2.2.2.2.2.2.1, h.2.2.2.2.2.2.2.2.2.2.2.2.2.2.2.2.2.2.2.2.2.2.2.2.2.2.2.2.2.2.2.1, h.2.2.2.2.2.2.2.2.2.2.2.2.2.2.2.2.2.2.2.2.2.2.2.2.2.2.2.2.2.2.2.2.1, h.2.2.2.2.2.2.2.2.2.2.2.2.2.2.2.2.2.2.2.2.2.2.2.2.2.2.2.2.2.2.2.2.2.1, h.2.2.2.2.2.2.2.2.2.2.2.2.2.2.2.2.2.2.2.2.2.2.2.2.2.2.2.2.2.2.2.2.2.2.1, h.2.2.2.2.2.2.2.2.2.2.2.2.2.2.2.2.2.2.2.2.2.2.2.2.2.2.2.2.2.2.2.2.2.2.2.1, h.2.2.2.2.2.2.2.2.2.2.2.2.2.2.2.2.2.2.2.2.2.2.2.2.2.2.2.2.2.2.2.2.2.2.2.2.1, h.2.2.2.2.2.2.2.2.2.2.2.2.2.2.2.2.2.2.2.2.2.2.2.2.2.2.2.2.2.2.2.2.2.2.2.2.2.1, h.2.2.2.2.2.2.2.2.2.2.2.2.2.2.2.2.2.2.2.2.2.2.2.2.2.2.2.2.2.2.2.2.2.2.2.2.2.2.1, h.2.2.2.2.2.2.2.2.2.2.2.2.2.2.2.2.2.2.2.2.2.2.2.2.2.2.2.2.2.2.2.2.2.2.2.2.2.2.2.1, h.2.2.2.2.2.2.2.2.2.2.2.2.2.2.2.2.2.2.2.2.2.2.2.2.2.2.2.2.2.2.2.2.2.2.2.2.2.2.2.2.1, h.2.2.2.2.2.2.2.2.2.2.2.2.2.2.2.2.2.2.2.2.2.2.2.2.2.2.2.2.2.2.2.2.2.2.2.2.2.2.2.2.2.1, h.2.2.2.2.2.2.2.2.2.2.2.2.2.2.2.2.2.2.2.2.2.2.2.2.2.2.2.2.2.2.2.2.2.2.2.2.2.2.2.2.2.2.1, h.2.2.2.2.2.2.2.2.2.2.2.2.2.2.2.2.2.2.2.2.2.2.2.2.2.2.2.2.2.2.2.2.2.2.2.2.2.2.2.2.2.2.2.1, h.2.2.2.2.2.2.2.2.2.2.2.2.2.2.2.2.2.2.2.2.2.2.2.2.2.2.2.2.2.2.2.2.2.2.2.2.2.2.2.2.2.2.2.2.1, h.2.2.2.2.2.2.2.2.2.2.2.2.2.2.2.2.2.2.2.2.2.2.2.2.2.2.2.2.2.2.2.2.2.2.2.2.2.2.2.2.2.2.2.2.2.1, h.2.2.2.2.2.2.2.2.2.2.2.2.2.2.2.2.2.2.2.2.2.2.2.2.2.2.2.2.2.2.2.2.2.2.2.2.2.2.2.2.2.2.2.2.2.2.1, h.2.2.2.2.2.2.2.2.2.2.2.2.2.2.2.2.2.2.2.2.2.2.2.2.2.2.2.2.2.2.2.2.2.2.2.2.2.2.2.2.2.2.2.2.2.2.2.1, h.2.2.2.2.2.2.2.2.2.2.2.2.2.2.2.2.2.2.2.2.2.2.2.2.2.2.2.2.2.2.2.2.2.2.2.2.2.2.2.2.2.2.2.2.2.2.2.2.1, h.2.2.2.2.2.2.2.2.2.2.2.2.2.2.2.2.2.2.2.2.2.2.2.2.2.2.2.2.2.2.2.2.2.2.2.2.2.2.2.2.2.2.2.2.2.2.2.2.2.1, h.2.2.2.2.2.2.2.2.2.2.2.2.2.2.2.2.2.2.2.2.2.2.2.2.2.2.2.2.2.2.2.2.2.2.2.2.2.2.2.2.2.2.2.2.2.2.2.2.2.2.1, h.2.2.2.2.2.2.2.2.2.2.2.2.2.2.2.2.2.2.2.2.2.2.2.2.2.2.2.2.2.2.2.2.2.2.2.2.2.2.2.2.2.2.2.2.2.2.2.2.2.2.2.1, h.2.2.2.2.2.2.2.2.2.2.2.2.2.2.2.2.2.2.2.2.2.2.2.2.2.2.2.2.2.2.2.2.2.2.2.2.2.2.2.2.2.2.2.2.2.2.2.2.2.2.2.2.1, h.2.2.2.2.2.2.2.2.2.2.2.2.2.2.2.2.2.2.2.2.2.2.2.2.2.2.2.2.2.2.2.2.2.2.2.2.2.2.2.2.2.2.2.2.2.2.2.2.2.2.2.2.2.1, h.2.2.2.2.2.2.2.2.2.2.2.2.2.2.2.2.2.2.2.2.2.2.2.2.2.2.2.2.2.2.2.2.2.2.2.2.2.2.2.2.2.2.2.2.2.2.2.2.2.2.2.2.2.2.1, h.2.2.2.2.2.2.2.2.2.2.2.2.2.2.2.2.2.2.2.2.2.2.2.2.2.2.2.2.2.2.2.2.2.2.2.2.2.2.2.2.2.2.2.2.2.2.2.2.2.2.2.2.2.2.2.1, h.2.2.2.2.2.2.2.2.2.2.2.2.2.2.2.2.2.2.2.2.2.2.2.2.2.2.2.2.2.2.2.2.2.2.2.2.2.2.2.2.2.2.2.2.2.2.2.2.2.2.2.2.2.2.2.2.1, h.2.2.2.2.2.2.2.2.2.2.2.2.2.2.2.2.2.2.2.2.2.2.2.2.2.2.2.2.2.2.2.2.2.2.2.2.2.2.2.2.2.2.2.2.2.2.2.2.2.2.2.2.2.2.2.2.2.1, h.2.2.2.2.2.2.2.2.2.2.2.2.2.2.2.2.2.2.2.2.2.2.2.2.2.2.2.2.2.2.2.2.2.2.2.2.2.2.2.2.2.2.2.2.2.2.2.2.2.2.2.2.2.2.2.2.2.2.1, h.2.2.2.2.2.2.2.2.2.2.2.2.2.2.2.2.2.2.2.2.2.2.2.2.2.2.2.2.2.2.2.2.2.2.2.2.2.2.2.2.2.2.2.2.2.2.2.2.2.2.2.2.2.2.2.2.2.2.2.1, h.2.2.2.2.2.2.2.2.2.2.2.2.2.2.2.2.2.2.2.2.2.2.2.2.2.2.2.2.2.2.2.2.2.2.2.2.2.2.2.2.2.2.2.2.2.2.2.2.2.2.2.2.2.2.2.2.2.2.2.2⟩
set_option maxHeartbeats 4000000 in
set_option maxRecDepth 100000 in
theorem T_X11_layVerdicts (l : Launch) (D : va_G) (cy : Nat → ClassId) (a : Nat → Nat) (u : St) (hJ : MI a u) (x1 : Int32) (x2 : Int32) (hx_x1 : 0 ≤ x1.toInt ∧ x1.toInt ≤ 5) (hx_x2 : 0 ≤ x2.toInt ∧ x2.toInt ≤ 5) : Mv l D cy (mW cy a) yX11_layVerdicts (.code yX11_layVerdicts cX11_layVerdicts 6 none) (rmo 6 132) [.ref (a 0), .int x1, .int x2] u (fun (u' : St) => (MI a u') ∧ (Km4 u u')) := by
  refine Mv.of (own := RX11) rfl (by decide) (Nat.le_of_ble_eq_true rfl) ?_
  have hT : Km4 u u := Km4.rf
  have hJ0 := hJ
  intro p e s m below meth c A Q ls C hret hO hl
  obtain ⟨hx, hb, hml, hown, ht, hK, hA⟩ := id C
  have hl : lv_has ls 6 [(0, .ref (a 0)), (1, .int x1), (2, .int x2)] := hl
  refine lv_iconst (v := 0) hx hb dX11_layVerdicts_0 (by decide) ?_
  refine lv_istore_n (lv' := [(3, .int 0), (0, .ref (a 0)), (1, .int x1), (2, .int x2)]) hx hb dX11_layVerdicts_1 rfl hl (by decide) rfl (fun ls hl => ?_)
  have LP_2_k2 : ∀ (n : Nat) (u1 : St) (H : Heap) (locs : List Loc) (ls : Array Slot) (i_k2 : Int32), Wo D A (mW cy a u1) s.heap H locs → lv_has ls 6 [(3, .int i_k2), (0, .ref (a 0)), (1, .int x1), (2, .int x2)] → MI a u1 → Km4 u u1 → 0 ≤ i_k2.toInt ∧ i_k2.toInt ≤ 64 → 64 - i_k2.toInt < (n : Int) → W p l e (rmo 6 132) s m [.ref (a 0), .int x1, .int x2].toArray below meth c H locs 0 0 Q (F0 m 2 ls []) := by
    intro n
    induction n with
    | zero =>
      intro u1 H locs ls i_k2 hO hl hJ hT iv0_k2 hm_k2
      exact absurd hm_k2 (by omega)
    | succ n ih_k2 =>
      intro u1 H locs ls i_k2 hO hl hJ hT iv0_k2 hm_k2
      refine lv_iload_n hx hb dX11_layVerdicts_2 rfl (lv_at hl 0 rfl) ?_
      refine lv_bipush (v := 64) hx hb dX11_layVerdicts_3 (by decide) ?_
      refine cs_ge (tgt := 102) (X := (i_k2).toInt) (Y := 64) hx hb dX11_layVerdicts_5 (by decide) rfl rfl (fun c3 => ?_) (fun c3 => ?_)
      · refine hret _ _ _ _ _ dX11_layVerdicts_102 ?_ hO
        exact ⟨hJ, hT⟩
      · refine lv_iload_n hx hb dX11_layVerdicts_8 rfl (lv_at hl 0 rfl) ?_
        refine lv_bipush (v := 8) hx hb dX11_layVerdicts_9 (by decide) ?_
        refine lv_idiv hx hb dX11_layVerdicts_11 (i_ne0 (X := 8) rfl (by omega)) ?_
        refine lv_topi (fun z4 ez4 => ?_)
        have d5 := i_div (x := i_k2) (y := 8) rfl (d := 8) rfl (by omega) (by decide)
        rw [← ez4] at d5
        refine lv_istore (lv' := [(4, .int z4), (3, .int i_k2), (0, .ref (a 0)), (1, .int x1), (2, .int x2)]) hx hb dX11_layVerdicts_12 hl (by decide) rfl (fun ls hl => ?_)
        refine lv_iload_n hx hb dX11_layVerdicts_14 rfl (lv_at hl 1 rfl) ?_
        refine lv_bipush (v := 8) hx hb dX11_layVerdicts_15 (by decide) ?_
        refine lv_irem hx hb dX11_layVerdicts_17 (i_ne0 (X := 8) rfl (by omega)) ?_
        refine lv_topi (fun z6 ez6 => ?_)
        have d7 := i_remj (x := i_k2) (y := 8) rfl (d := 8) rfl (by omega) (by decide)
        rw [← ez6] at d7
        refine lv_istore (lv' := [(5, .int z6), (4, .int z4), (3, .int i_k2), (0, .ref (a 0)), (1, .int x1), (2, .int x2)]) hx hb dX11_layVerdicts_18 hl (by decide) rfl (fun ls hl => ?_)
        refine lv_aload_n hx hb dX11_layVerdicts_20 rfl (lv_at hl 3 rfl) ?_
        refine lv_iload hx hb dX11_layVerdicts_21 (lv_at hl 1 rfl) ?_
        have g8 : 0 ≤ (fI u 0 36).toInt ∧ (fI u 0 36).toInt ≤ 1 := by have h := MI_36 hJ0; exact h
        have g9 : 0 ≤ (fA u 5 ((fI u 0 36)).toNatClampNeg).toInt ∧ (fA u 5 ((fI u 0 36)).toNatClampNeg).toInt ≤ 8 := by have h := MI_A5 hJ0 ((fI u 0 36)).toNatClampNeg; exact h
        refine cVi (w := mW cy a) (As := [.int z4]) (rest := []) C hO (T_X11_isPlea l D cy a _ (by exact hJ) ((fA u 5 ((fI u 0 36)).toNatClampNeg)) (by exact (Eq.trans (congrArg (fun z : Int32 => fA _ 5 z.toNatClampNeg) (Km4_I36 hT)) (congrFun (Km4_A5 hT) _))) (z4)) (cwV 1 ht (gV wd_1741 wd_1743 wd_81 wd_121 wd_1744) rfl rfl rfl hd_yX11_isPlea ⟨Nat.le_of_ble_eq_true rfl, Nat.le_of_ble_eq_true rfl⟩) 0 rfl mW_0 rfl rfl hl.1 (Nat.le_of_ble_eq_true rfl) dX11_layVerdicts_23 rfl ⟨Nat.zero_le _, Nat.zero_le _⟩ (fun r10 u11 H locs hp12 hO => ?_)
        obtain ⟨hr10, hu11⟩ := hp12
        rw [hu11] at hO
        rcases hr10 with ⟨hcr10, hvr10⟩ | ⟨hcr10, hvr10⟩
        · subst hvr10
          refine bn_eq (X := 1) hx hb dX11_layVerdicts_26 rfl (by omega) ?_ (tgt := 96) (by decide)
          refine lv_aload_n hx hb dX11_layVerdicts_29 rfl (lv_at hl 3 rfl) ?_
          refine lv_iload hx hb dX11_layVerdicts_30 (lv_at hl 0 rfl) ?_
          refine cVi (w := mW cy a) (As := [.int z6]) (rest := []) C hO (T_X11_isPlea l D cy a _ (by exact hJ) ((fA u 5 ((fI u 0 36)).toNatClampNeg)) (by exact (Eq.trans (congrArg (fun z : Int32 => fA _ 5 z.toNatClampNeg) (Km4_I36 hT)) (congrFun (Km4_A5 hT) _))) (z6)) (cwV 1 ht (gV wd_1741 wd_1743 wd_81 wd_121 wd_1744) rfl rfl rfl hd_yX11_isPlea ⟨Nat.le_of_ble_eq_true rfl, Nat.le_of_ble_eq_true rfl⟩) 0 rfl mW_0 rfl rfl hl.1 (Nat.le_of_ble_eq_true rfl) dX11_layVerdicts_32 rfl ⟨Nat.zero_le _, Nat.zero_le _⟩ (fun r13 u14 H locs hp15 hO => ?_)
          obtain ⟨hr13, hu14⟩ := hp15
          rw [hu14] at hO
          rcases hr13 with ⟨hcr13, hvr13⟩ | ⟨hcr13, hvr13⟩
          · subst hvr13
            refine bt_ne (tgt := 41) (X := 1) hx hb dX11_layVerdicts_35 (by decide) rfl (by omega) ?_
            refine lv_aload_n hx hb dX11_layVerdicts_41 rfl (lv_at hl 3 rfl) ?_
            refine gf_RX11_109 (v := .ref (a 31)) C hO 0 mW_0 rfl dX11_layVerdicts_42 ?_
            refine lv_iload_n hx hb dX11_layVerdicts_45 rfl (lv_at hl 2 rfl) ?_
            refine lv_aload_n hx hb dX11_layVerdicts_46 rfl (lv_at hl 3 rfl) ?_
            refine lv_iload_n hx hb dX11_layVerdicts_47 rfl (lv_at hl 4 rfl) ?_
            refine lv_iload hx hb dX11_layVerdicts_48 (lv_at hl 1 rfl) ?_
            refine lv_iload hx hb dX11_layVerdicts_50 (lv_at hl 0 rfl) ?_
            refine cs_ne (tgt := 59) (X := (z4).toInt) (Y := (z6).toInt) hx hb dX11_layVerdicts_52 (by decide) rfl rfl (fun c16 => ?_) (fun c16 => ?_)
            · refine lv_iconst (v := 1) hx hb dX11_layVerdicts_59 (by decide) ?_
              refine lv_iload hx hb dX11_layVerdicts_60 (lv_at hl 1 rfl) ?_
              refine lv_ishl hx hb dX11_layVerdicts_62 ?_
              refine lv_topi (fun z17 ez17 => ?_)
              have g18 : 0 ≤ z17.toInt ∧ z17.toInt ≤ 2 ^ 7 := by rw [ez17]; exact i_shl1 rfl (by omega) (by omega) (by decide)
              refine cVi (w := mW cy a) (As := [.int x1, .int z17]) (rest := [.int i_k2, .ref (a 31)]) C hO (T_X11_verdictBy l D cy a _ (by exact hJ) (x1) (z17) (by first | omega | decide)) (cwV 2 ht (gV wd_1765 wd_1767 wd_85 wd_121 wd_1768) rfl rfl rfl hd_yX11_verdictBy ⟨Nat.le_of_ble_eq_true rfl, Nat.le_of_ble_eq_true rfl⟩) 0 rfl mW_0 rfl rfl hl.1 (Nat.le_of_ble_eq_true rfl) dX11_layVerdicts_63 rfl ⟨Nat.zero_le _, Nat.zero_le _⟩ (fun r19 u20 H locs hp21 hO => ?_)
              obtain ⟨hJ, hTu20⟩ := hp21
              have hT : Km4 u u20 := Km4.tr (by exact hT) (Km2_to_Km4 hTu20)
              refine aIs C hO 31 mW_31 (i_in (X := (i_k2).toInt) rfl (by omega) (by omega)) mW_s31 dX11_layVerdicts_66 (fun H locs hO => ?_)
              have hT := Km4_wA31 hO hT
              have hJ := MIsA_31 hO hJ
              refine lv_aload_n hx hb dX11_layVerdicts_67 rfl (lv_at hl 3 rfl) ?_
              refine gf_RX11_109 (v := .ref (a 31)) C hO 0 mW_0 rfl dX11_layVerdicts_68 ?_
              refine lv_bipush (v := 64) hx hb dX11_layVerdicts_71 (by decide) ?_
              refine lv_iload_n hx hb dX11_layVerdicts_73 rfl (lv_at hl 2 rfl) ?_
              refine lv_iadd hx hb dX11_layVerdicts_74 ?_
              refine lv_topi (fun z22 ez22 => ?_)
              have e23 : z22.toInt = 64 + (i_k2).toInt := by rw [ez22]; exact i_add rfl rfl (by omega)
              refine lv_aload_n hx hb dX11_layVerdicts_75 rfl (lv_at hl 3 rfl) ?_
              refine lv_iload_n hx hb dX11_layVerdicts_76 rfl (lv_at hl 5 rfl) ?_
              refine lv_iload hx hb dX11_layVerdicts_77 (lv_at hl 1 rfl) ?_
              refine lv_iload hx hb dX11_layVerdicts_79 (lv_at hl 0 rfl) ?_
              refine cs_ne (tgt := 88) (X := (z4).toInt) (Y := (z6).toInt) hx hb dX11_layVerdicts_81 (by decide) rfl rfl (fun c24 => ?_) (fun c24 => ?_)
              · refine lv_iconst (v := 1) hx hb dX11_layVerdicts_88 (by decide) ?_
                refine lv_iload hx hb dX11_layVerdicts_89 (lv_at hl 0 rfl) ?_
                refine lv_ishl hx hb dX11_layVerdicts_91 ?_
                refine lv_topi (fun z25 ez25 => ?_)
                have g26 : 0 ≤ z25.toInt ∧ z25.toInt ≤ 2 ^ 7 := by rw [ez25]; exact i_shl1 rfl (by omega) (by omega) (by decide)
                refine cVi (w := mW cy a) (As := [.int x2, .int z25]) (rest := [.int z22, .ref (a 31)]) C hO (T_X11_verdictBy l D cy a _ (by exact hJ) (x2) (z25) (by first | omega | decide)) (cwV 2 ht (gV wd_1765 wd_1767 wd_85 wd_121 wd_1768) rfl rfl rfl hd_yX11_verdictBy ⟨Nat.le_of_ble_eq_true rfl, Nat.le_of_ble_eq_true rfl⟩) 0 rfl mW_0 rfl rfl hl.1 (Nat.le_of_ble_eq_true rfl) dX11_layVerdicts_92 rfl ⟨Nat.zero_le _, Nat.zero_le _⟩ (fun r27 u28 H locs hp29 hO => ?_)
                obtain ⟨hJ, hTu28⟩ := hp29
                have hT : Km4 u u28 := Km4.tr (by exact hT) (Km2_to_Km4 hTu28)
                refine aIs C hO 31 mW_31 (i_in (X := (64 + (i_k2).toInt)) e23 (by omega) (by omega)) mW_s31 dX11_layVerdicts_95 (fun H locs hO => ?_)
                have hT := Km4_wA31 hO hT
                have hJ := MIsA_31 hO hJ
                obtain ⟨z30, ez30⟩ : ∃ z : Int32, z = i_k2 + Int32.ofInt 1 := ⟨_, rfl⟩
                have e31 : z30.toInt = (i_k2).toInt + 1 := by rw [ez30]; exact i_add rfl rfl (by omega)
                refine lv_iinc (v := z30) (lv' := [(3, .int z30), (5, .int z6), (4, .int z4), (0, .ref (a 0)), (1, .int x1), (2, .int x2)]) hx hb dX11_layVerdicts_96 hl (k := 2) rfl ez30.symm (by decide) rfl (fun ls hl => ?_)
                refine lv_goto (tgt := 2) hx hb dX11_layVerdicts_99 (by decide) ?_
                exact ih_k2 _ _ _ _ (z30) hO (lv_sub hl [0, 3, 4, 5] rfl) (by exact hJ) (by exact hT) (by first | decide | omega) (by first | decide | omega)
              · refine lv_iconst (v := 0) hx hb dX11_layVerdicts_84 (by decide) ?_
                refine lv_goto (tgt := 92) hx hb dX11_layVerdicts_85 (by decide) ?_
                refine cVi (w := mW cy a) (As := [.int x2, .int 0]) (rest := [.int z22, .ref (a 31)]) C hO (T_X11_verdictBy l D cy a _ (by exact hJ) (x2) (0) (by first | omega | decide)) (cwV 2 ht (gV wd_1765 wd_1767 wd_85 wd_121 wd_1768) rfl rfl rfl hd_yX11_verdictBy ⟨Nat.le_of_ble_eq_true rfl, Nat.le_of_ble_eq_true rfl⟩) 0 rfl mW_0 rfl rfl hl.1 (Nat.le_of_ble_eq_true rfl) dX11_layVerdicts_92 rfl ⟨Nat.zero_le _, Nat.zero_le _⟩ (fun r32 u33 H locs hp34 hO => ?_)
                obtain ⟨hJ, hTu33⟩ := hp34
                have hT : Km4 u u33 := Km4.tr (by exact hT) (Km2_to_Km4 hTu33)
                refine aIs C hO 31 mW_31 (i_in (X := (64 + (i_k2).toInt)) e23 (by omega) (by omega)) mW_s31 dX11_layVerdicts_95 (fun H locs hO => ?_)
                have hT := Km4_wA31 hO hT
                have hJ := MIsA_31 hO hJ
                obtain ⟨z35, ez35⟩ : ∃ z : Int32, z = i_k2 + Int32.ofInt 1 := ⟨_, rfl⟩
                have e36 : z35.toInt = (i_k2).toInt + 1 := by rw [ez35]; exact i_add rfl rfl (by omega)
                refine lv_iinc (v := z35) (lv' := [(3, .int z35), (5, .int z6), (4, .int z4), (0, .ref (a 0)), (1, .int x1), (2, .int x2)]) hx hb dX11_layVerdicts_96 hl (k := 2) rfl ez35.symm (by decide) rfl (fun ls hl => ?_)
                refine lv_goto (tgt := 2) hx hb dX11_layVerdicts_99 (by decide) ?_
                exact ih_k2 _ _ _ _ (z35) hO (lv_sub hl [0, 3, 4, 5] rfl) (by exact hJ) (by exact hT) (by first | decide | omega) (by first | decide | omega)
            · refine lv_iconst (v := 0) hx hb dX11_layVerdicts_55 (by decide) ?_
              refine lv_goto (tgt := 63) hx hb dX11_layVerdicts_56 (by decide) ?_
              refine cVi (w := mW cy a) (As := [.int x1, .int 0]) (rest := [.int i_k2, .ref (a 31)]) C hO (T_X11_verdictBy l D cy a _ (by exact hJ) (x1) (0) (by first | omega | decide)) (cwV 2 ht (gV wd_1765 wd_1767 wd_85 wd_121 wd_1768) rfl rfl rfl hd_yX11_verdictBy ⟨Nat.le_of_ble_eq_true rfl, Nat.le_of_ble_eq_true rfl⟩) 0 rfl mW_0 rfl rfl hl.1 (Nat.le_of_ble_eq_true rfl) dX11_layVerdicts_63 rfl ⟨Nat.zero_le _, Nat.zero_le _⟩ (fun r37 u38 H locs hp39 hO => ?_)
              obtain ⟨hJ, hTu38⟩ := hp39
              have hT : Km4 u u38 := Km4.tr (by exact hT) (Km2_to_Km4 hTu38)
              refine aIs C hO 31 mW_31 (i_in (X := (i_k2).toInt) rfl (by omega) (by omega)) mW_s31 dX11_layVerdicts_66 (fun H locs hO => ?_)
              have hT := Km4_wA31 hO hT
              have hJ := MIsA_31 hO hJ
              refine lv_aload_n hx hb dX11_layVerdicts_67 rfl (lv_at hl 3 rfl) ?_
              refine gf_RX11_109 (v := .ref (a 31)) C hO 0 mW_0 rfl dX11_layVerdicts_68 ?_
              refine lv_bipush (v := 64) hx hb dX11_layVerdicts_71 (by decide) ?_
              refine lv_iload_n hx hb dX11_layVerdicts_73 rfl (lv_at hl 2 rfl) ?_
              refine lv_iadd hx hb dX11_layVerdicts_74 ?_
              refine lv_topi (fun z40 ez40 => ?_)
              have e41 : z40.toInt = 64 + (i_k2).toInt := by rw [ez40]; exact i_add rfl rfl (by omega)
              refine lv_aload_n hx hb dX11_layVerdicts_75 rfl (lv_at hl 3 rfl) ?_
              refine lv_iload_n hx hb dX11_layVerdicts_76 rfl (lv_at hl 5 rfl) ?_
              refine lv_iload hx hb dX11_layVerdicts_77 (lv_at hl 1 rfl) ?_
              refine lv_iload hx hb dX11_layVerdicts_79 (lv_at hl 0 rfl) ?_
              refine cs_ne (tgt := 88) (X := (z4).toInt) (Y := (z6).toInt) hx hb dX11_layVerdicts_81 (by decide) rfl rfl (fun c42 => ?_) (fun c42 => ?_)
              · refine lv_iconst (v := 1) hx hb dX11_layVerdicts_88 (by decide) ?_
                refine lv_iload hx hb dX11_layVerdicts_89 (lv_at hl 0 rfl) ?_
                refine lv_ishl hx hb dX11_layVerdicts_91 ?_
                refine lv_topi (fun z43 ez43 => ?_)
                have g44 : 0 ≤ z43.toInt ∧ z43.toInt ≤ 2 ^ 7 := by rw [ez43]; exact i_shl1 rfl (by omega) (by omega) (by decide)
                refine cVi (w := mW cy a) (As := [.int x2, .int z43]) (rest := [.int z40, .ref (a 31)]) C hO (T_X11_verdictBy l D cy a _ (by exact hJ) (x2) (z43) (by first | omega | decide)) (cwV 2 ht (gV wd_1765 wd_1767 wd_85 wd_121 wd_1768) rfl rfl rfl hd_yX11_verdictBy ⟨Nat.le_of_ble_eq_true rfl, Nat.le_of_ble_eq_true rfl⟩) 0 rfl mW_0 rfl rfl hl.1 (Nat.le_of_ble_eq_true rfl) dX11_layVerdicts_92 rfl ⟨Nat.zero_le _, Nat.zero_le _⟩ (fun r45 u46 H locs hp47 hO => ?_)
                obtain ⟨hJ, hTu46⟩ := hp47
                have hT : Km4 u u46 := Km4.tr (by exact hT) (Km2_to_Km4 hTu46)
                refine aIs C hO 31 mW_31 (i_in (X := (64 + (i_k2).toInt)) e41 (by omega) (by omega)) mW_s31 dX11_layVerdicts_95 (fun H locs hO => ?_)
                have hT := Km4_wA31 hO hT
                have hJ := MIsA_31 hO hJ
                obtain ⟨z48, ez48⟩ : ∃ z : Int32, z = i_k2 + Int32.ofInt 1 := ⟨_, rfl⟩
                have e49 : z48.toInt = (i_k2).toInt + 1 := by rw [ez48]; exact i_add rfl rfl (by omega)
                refine lv_iinc (v := z48) (lv' := [(3, .int z48), (5, .int z6), (4, .int z4), (0, .ref (a 0)), (1, .int x1), (2, .int x2)]) hx hb dX11_layVerdicts_96 hl (k := 2) rfl ez48.symm (by decide) rfl (fun ls hl => ?_)
                refine lv_goto (tgt := 2) hx hb dX11_layVerdicts_99 (by decide) ?_
                exact ih_k2 _ _ _ _ (z48) hO (lv_sub hl [0, 3, 4, 5] rfl) (by exact hJ) (by exact hT) (by first | decide | omega) (by first | decide | omega)
              · refine lv_iconst (v := 0) hx hb dX11_layVerdicts_84 (by decide) ?_
                refine lv_goto (tgt := 92) hx hb dX11_layVerdicts_85 (by decide) ?_
                refine cVi (w := mW cy a) (As := [.int x2, .int 0]) (rest := [.int z40, .ref (a 31)]) C hO (T_X11_verdictBy l D cy a _ (by exact hJ) (x2) (0) (by first | omega | decide)) (cwV 2 ht (gV wd_1765 wd_1767 wd_85 wd_121 wd_1768) rfl rfl rfl hd_yX11_verdictBy ⟨Nat.le_of_ble_eq_true rfl, Nat.le_of_ble_eq_true rfl⟩) 0 rfl mW_0 rfl rfl hl.1 (Nat.le_of_ble_eq_true rfl) dX11_layVerdicts_92 rfl ⟨Nat.zero_le _, Nat.zero_le _⟩ (fun r50 u51 H locs hp52 hO => ?_)
                obtain ⟨hJ, hTu51⟩ := hp52
                have hT : Km4 u u51 := Km4.tr (by exact hT) (Km2_to_Km4 hTu51)
                refine aIs C hO 31 mW_31 (i_in (X := (64 + (i_k2).toInt)) e41 (by omega) (by omega)) mW_s31 dX11_layVerdicts_95 (fun H locs hO => ?_)
                have hT := Km4_wA31 hO hT
                have hJ := MIsA_31 hO hJ
                obtain ⟨z53, ez53⟩ : ∃ z : Int32, z = i_k2 + Int32.ofInt 1 := ⟨_, rfl⟩
                have e54 : z53.toInt = (i_k2).toInt + 1 := by rw [ez53]; exact i_add rfl rfl (by omega)
                refine lv_iinc (v := z53) (lv' := [(3, .int z53), (5, .int z6), (4, .int z4), (0, .ref (a 0)), (1, .int x1), (2, .int x2)]) hx hb dX11_layVerdicts_96 hl (k := 2) rfl ez53.symm (by decide) rfl (fun ls hl => ?_)
                refine lv_goto (tgt := 2) hx hb dX11_layVerdicts_99 (by decide) ?_
                exact ih_k2 _ _ _ _ (z53) hO (lv_sub hl [0, 3, 4, 5] rfl) (by exact hJ) (by exact hT) (by first | decide | omega) (by first | decide | omega)
          · subst hvr13
            refine bn_ne (X := 0) hx hb dX11_layVerdicts_35 rfl (by omega) ?_ (tgt := 41) (by decide)
            refine lv_goto (tgt := 96) hx hb dX11_layVerdicts_38 (by decide) ?_
            obtain ⟨z55, ez55⟩ : ∃ z : Int32, z = i_k2 + Int32.ofInt 1 := ⟨_, rfl⟩
            have e56 : z55.toInt = (i_k2).toInt + 1 := by rw [ez55]; exact i_add rfl rfl (by omega)
            refine lv_iinc (v := z55) (lv' := [(3, .int z55), (5, .int z6), (4, .int z4), (0, .ref (a 0)), (1, .int x1), (2, .int x2)]) hx hb dX11_layVerdicts_96 hl (k := 2) rfl ez55.symm (by decide) rfl (fun ls hl => ?_)
            refine lv_goto (tgt := 2) hx hb dX11_layVerdicts_99 (by decide) ?_
            exact ih_k2 _ _ _ _ (z55) hO (lv_sub hl [0, 3, 4, 5] rfl) (by exact hJ) (by exact hT) (by first | decide | omega) (by first | decide | omega)
        · subst hvr10
          refine bt_eq (tgt := 96) (X := 0) hx hb dX11_layVerdicts_26 (by decide) rfl (by omega) ?_
          obtain ⟨z57, ez57⟩ : ∃ z : Int32, z = i_k2 + Int32.ofInt 1 := ⟨_, rfl⟩
          have e58 : z57.toInt = (i_k2).toInt + 1 := by rw [ez57]; exact i_add rfl rfl (by omega)
          refine lv_iinc (v := z57) (lv' := [(3, .int z57), (5, .int z6), (4, .int z4), (0, .ref (a 0)), (1, .int x1), (2, .int x2)]) hx hb dX11_layVerdicts_96 hl (k := 2) rfl ez57.symm (by decide) rfl (fun ls hl => ?_)
          refine lv_goto (tgt := 2) hx hb dX11_layVerdicts_99 (by decide) ?_
          exact ih_k2 _ _ _ _ (z57) hO (lv_sub hl [0, 3, 4, 5] rfl) (by exact hJ) (by exact hT) (by first | decide | omega) (by first | decide | omega)
  have zc59 : (0 : Int32).toInt = 0 := rfl
  exact LP_2_k2 4000 _ _ _ _ (0) hO (lv_sub hl [0, 1, 2, 3] rfl) (by exact hJ) (by exact hT) (by first | decide | omega) (by first | decide | omega)
theorem dX11_isRest_0 : decode cX11_isRest 0 = .ok (.iconst 0, 1) := by decide +kernel
theorem dX11_isRest_1 : decode cX11_isRest 1 = .ok (.istore_n 2, 1) := by decide +kernel
theorem dX11_isRest_2 : decode cX11_isRest 2 = .ok (.iload_n 2, 1) := by decide +kernel
theorem dX11_isRest_3 : decode cX11_isRest 3 = .ok (.aload_n 0, 1) := by decide +kernel
theorem dX11_isRest_4 : decode cX11_isRest 4 = .ok (.invokevirtual 377, 3) := by decide +kernel
theorem dX11_isRest_7 : decode cX11_isRest 7 = .ok (.if_icmp .ge 62, 3) := by decide +kernel
theorem dX11_isRest_10 : decode cX11_isRest 10 = .ok (.aload_n 0, 1) := by decide +kernel
theorem dX11_isRest_11 : decode cX11_isRest 11 = .ok (.getfield 109, 3) := by decide +kernel
theorem dX11_isRest_14 : decode cX11_isRest 14 = .ok (.bipush 8, 2) := by decide +kernel
theorem dX11_isRest_16 : decode cX11_isRest 16 = .ok (.iload_n 2, 1) := by decide +kernel
theorem dX11_isRest_17 : decode cX11_isRest 17 = .ok (.imul, 1) := by decide +kernel
theorem dX11_isRest_18 : decode cX11_isRest 18 = .ok (.iload_n 1, 1) := by decide +kernel
theorem dX11_isRest_19 : decode cX11_isRest 19 = .ok (.bipush 8, 2) := by decide +kernel
theorem dX11_isRest_21 : decode cX11_isRest 21 = .ok (.irem, 1) := by decide +kernel
theorem dX11_isRest_22 : decode cX11_isRest 22 = .ok (.iadd, 1) := by decide +kernel
theorem dX11_isRest_23 : decode cX11_isRest 23 = .ok (.iaload, 1) := by decide +kernel
theorem dX11_isRest_24 : decode cX11_isRest 24 = .ok (.aload_n 0, 1) := by decide +kernel
theorem dX11_isRest_25 : decode cX11_isRest 25 = .ok (.getfield 109, 3) := by decide +kernel
theorem dX11_isRest_28 : decode cX11_isRest 28 = .ok (.iload_n 1, 1) := by decide +kernel
theorem dX11_isRest_29 : decode cX11_isRest 29 = .ok (.iaload, 1) := by decide +kernel
theorem dX11_isRest_30 : decode cX11_isRest 30 = .ok (.if_icmp .gt 31, 3) := by decide +kernel
theorem dX11_isRest_33 : decode cX11_isRest 33 = .ok (.aload_n 0, 1) := by decide +kernel
theorem dX11_isRest_34 : decode cX11_isRest 34 = .ok (.getfield 109, 3) := by decide +kernel
theorem dX11_isRest_37 : decode cX11_isRest 37 = .ok (.bipush 64, 2) := by decide +kernel
theorem dX11_isRest_39 : decode cX11_isRest 39 = .ok (.iload_n 1, 1) := by decide +kernel
theorem dX11_isRest_40 : decode cX11_isRest 40 = .ok (.iadd, 1) := by decide +kernel
theorem dX11_isRest_41 : decode cX11_isRest 41 = .ok (.iload_n 1, 1) := by decide +kernel
theorem dX11_isRest_42 : decode cX11_isRest 42 = .ok (.bipush 8, 2) := by decide +kernel
theorem dX11_isRest_44 : decode cX11_isRest 44 = .ok (.irem, 1) := by decide +kernel
theorem dX11_isRest_45 : decode cX11_isRest 45 = .ok (.isub, 1) := by decide +kernel
theorem dX11_isRest_46 : decode cX11_isRest 46 = .ok (.iload_n 2, 1) := by decide +kernel
theorem dX11_isRest_47 : decode cX11_isRest 47 = .ok (.iadd, 1) := by decide +kernel
theorem dX11_isRest_48 : decode cX11_isRest 48 = .ok (.iaload, 1) := by decide +kernel
theorem dX11_isRest_49 : decode cX11_isRest 49 = .ok (.aload_n 0, 1) := by decide +kernel
theorem dX11_isRest_50 : decode cX11_isRest 50 = .ok (.getfield 109, 3) := by decide +kernel
theorem dX11_isRest_53 : decode cX11_isRest 53 = .ok (.bipush 64, 2) := by decide +kernel
theorem dX11_isRest_55 : decode cX11_isRest 55 = .ok (.iload_n 1, 1) := by decide +kernel
theorem dX11_isRest_56 : decode cX11_isRest 56 = .ok (.iadd, 1) := by decide +kernel
theorem dX11_isRest_57 : decode cX11_isRest 57 = .ok (.iaload, 1) := by decide +kernel
theorem dX11_isRest_58 : decode cX11_isRest 58 = .ok (.if_icmp .le 5, 3) := by decide +kernel
theorem dX11_isRest_61 : decode cX11_isRest 61 = .ok (.iconst 0, 1) := by decide +kernel
theorem dX11_isRest_62 : decode cX11_isRest 62 = .ok (.ireturn, 1) := by decide +kernel
theorem dX11_isRest_63 : decode cX11_isRest 63 = .ok (.iinc 2 1, 3) := by decide +kernel
theorem dX11_isRest_66 : decode cX11_isRest 66 = .ok (.goto (-64), 3) := by decide +kernel
theorem dX11_isRest_69 : decode cX11_isRest 69 = .ok (.iconst 1, 1) := by decide +kernel
theorem dX11_isRest_70 : decode cX11_isRest 70 = .ok (.ireturn, 1) := by decide +kernel
theorem wd_1931 : (Cond.code ⟨"WebCourtModel", "isRest", "(I)Z"⟩ prog_13_method_99_code (3 : Nat) (Option.some FieldType.boolean)) ∈ gtb := gtb_c8 142 (by decide +kernel) rfl
set_option maxHeartbeats 4000000 in
set_option maxRecDepth 100000 in
theorem T_X11_isRest (l : Launch) (D : va_G) (cy : Nat → ClassId) (a : Nat → Nat) (u : St) (hJ : MI a u) (x1 : Int32) (hx_x1 : 0 ≤ x1.toInt ∧ x1.toInt ≤ 63) : Mi l D cy (mW cy a) yX11_isRest (.code yX11_isRest cX11_isRest 3 (some .boolean)) (rmo 1 20) [.ref (a 0), .int x1] u (fun (r : Int32) (u' : St) => (r = 0 ∨ r = 1) ∧ (u' = u)) := by
  refine Mi.of (own := RX11) rfl (by decide) (Nat.le_of_ble_eq_true rfl) ?_
  have hT : Km0 u u := Km0.rf
  have hJ0 := hJ
  intro p e s m below meth c A Q ls C hret hO hl
  obtain ⟨hx, hb, hml, hown, ht, hK, hA⟩ := id C
  have hl : lv_has ls 3 [(0, .ref (a 0)), (1, .int x1)] := hl
  refine lv_iconst (v := 0) hx hb dX11_isRest_0 (by decide) ?_
  refine lv_istore_n (lv' := [(2, .int 0), (0, .ref (a 0)), (1, .int x1)]) hx hb dX11_isRest_1 rfl hl (by decide) rfl (fun ls hl => ?_)
  have LP_2_k1 : ∀ (n : Nat) (H : Heap) (locs : List Loc) (ls : Array Slot) (i_k1 : Int32), Wo D A (mW cy a u) s.heap H locs → lv_has ls 3 [(2, .int i_k1), (0, .ref (a 0)), (1, .int x1)] → 0 ≤ i_k1.toInt ∧ i_k1.toInt ≤ 8 → 8 - i_k1.toInt < (n : Int) → W p l e (rmo 1 20) s m [.ref (a 0), .int x1].toArray below meth c H locs 0 0 Q (F0 m 2 ls []) := by
    intro n
    induction n with
    | zero =>
      intro H locs ls i_k1 hO hl iv0_k1 hm_k1
      exact absurd hm_k1 (by omega)
    | succ n ih_k1 =>
      intro H locs ls i_k1 hO hl iv0_k1 hm_k1
      refine lv_iload_n hx hb dX11_isRest_2 rfl (lv_at hl 0 rfl) ?_
      refine lv_aload_n hx hb dX11_isRest_3 rfl (lv_at hl 1 rfl) ?_
      have g2 : 0 ≤ (fI u 0 36).toInt ∧ (fI u 0 36).toInt ≤ 1 := by have h := MI_36 hJ0; exact h
      have g3 : 0 ≤ (fA u 5 ((fI u 0 36)).toNatClampNeg).toInt ∧ (fA u 5 ((fI u 0 36)).toNatClampNeg).toInt ≤ 8 := by have h := MI_A5 hJ0 ((fI u 0 36)).toNatClampNeg; exact h
      refine cVi (w := mW cy a) (As := []) (rest := [.int i_k1]) C hO (T_X11_pleads l D cy a _ (by exact hJ) ((fA u 5 ((fI u 0 36)).toNatClampNeg)) (by exact rfl)) (cwV 0 ht (gV wd_1745 wd_1747 wd_82 wd_121 wd_1748) rfl rfl rfl hd_yX11_pleads ⟨Nat.le_of_ble_eq_true rfl, Nat.le_of_ble_eq_true rfl⟩) 0 rfl mW_0 rfl rfl hl.1 (Nat.le_of_ble_eq_true rfl) dX11_isRest_4 rfl ⟨Nat.zero_le _, Nat.zero_le _⟩ (fun r4 u5 H locs hp6 hO => ?_)
      obtain ⟨hr4, hu5⟩ := hp6
      refine tE hr4 ?_
      rw [hu5] at hO
      refine cs_ge (tgt := 69) (X := (i_k1).toInt) (Y := ((fA u 5 ((fI u 0 36)).toNatClampNeg)).toInt) hx hb dX11_isRest_7 (by decide) rfl rfl (fun c7 => ?_) (fun c7 => ?_)
      · refine lv_iconst (v := 1) hx hb dX11_isRest_69 (by decide) ?_
        refine hret _ _ _ _ _ _ dX11_isRest_70 rfl ?_ hO
        exact ⟨Or.inr rfl, rfl⟩
      · refine lv_aload_n hx hb dX11_isRest_10 rfl (lv_at hl 1 rfl) ?_
        refine gf_RX11_109 (v := .ref (a 31)) C hO 0 mW_0 rfl dX11_isRest_11 ?_
        refine lv_bipush (v := 8) hx hb dX11_isRest_14 (by decide) ?_
        refine lv_iload_n hx hb dX11_isRest_16 rfl (lv_at hl 0 rfl) ?_
        refine lv_imul hx hb dX11_isRest_17 ?_
        refine lv_topi (fun z8 ez8 => ?_)
        have e9 : z8.toInt = 8 * (i_k1).toInt := by rw [ez8]; exact i_mul rfl rfl (by omega)
        refine lv_iload_n hx hb dX11_isRest_18 rfl (lv_at hl 2 rfl) ?_
        refine lv_bipush (v := 8) hx hb dX11_isRest_19 (by decide) ?_
        refine lv_irem hx hb dX11_isRest_21 (i_ne0 (X := 8) rfl (by omega)) ?_
        refine lv_topi (fun z10 ez10 => ?_)
        have d11 := i_remj (x := x1) (y := 8) rfl (d := 8) rfl (by omega) (by decide)
        rw [← ez10] at d11
        refine lv_iadd hx hb dX11_isRest_22 ?_
        refine lv_topi (fun z12 ez12 => ?_)
        have e13 : z12.toInt = (8 * (i_k1).toInt) + (z10).toInt := by rw [ez12]; exact i_add e9 rfl (by omega)
        refine aI C hO 31 mW_31 (i_in (X := ((8 * (i_k1).toInt) + (z10).toInt)) e13 (by omega) (by omega)) dX11_isRest_23 ?_
        refine tE (y := (fA u 31 (z12).toNatClampNeg)) (by exact rfl) ?_
        refine lv_aload_n hx hb dX11_isRest_24 rfl (lv_at hl 1 rfl) ?_
        refine gf_RX11_109 (v := .ref (a 31)) C hO 0 mW_0 rfl dX11_isRest_25 ?_
        refine lv_iload_n hx hb dX11_isRest_28 rfl (lv_at hl 2 rfl) ?_
        refine aI C hO 31 mW_31 (i_in (X := (x1).toInt) rfl (by omega) (by omega)) dX11_isRest_29 ?_
        refine tE (y := (fA u 31 (x1).toNatClampNeg)) (by exact rfl) ?_
        refine cs_gt (tgt := 61) (X := ((fA u 31 (z12).toNatClampNeg)).toInt) (Y := ((fA u 31 (x1).toNatClampNeg)).toInt) hx hb dX11_isRest_30 (by decide) rfl rfl (fun c14 => ?_) (fun c14 => ?_)
        · refine lv_iconst (v := 0) hx hb dX11_isRest_61 (by decide) ?_
          refine hret _ _ _ _ _ _ dX11_isRest_62 rfl ?_ hO
          exact ⟨Or.inl rfl, rfl⟩
        · refine lv_aload_n hx hb dX11_isRest_33 rfl (lv_at hl 1 rfl) ?_
          refine gf_RX11_109 (v := .ref (a 31)) C hO 0 mW_0 rfl dX11_isRest_34 ?_
          refine lv_bipush (v := 64) hx hb dX11_isRest_37 (by decide) ?_
          refine lv_iload_n hx hb dX11_isRest_39 rfl (lv_at hl 2 rfl) ?_
          refine lv_iadd hx hb dX11_isRest_40 ?_
          refine lv_topi (fun z15 ez15 => ?_)
          have e16 : z15.toInt = 64 + (x1).toInt := by rw [ez15]; exact i_add rfl rfl (by omega)
          refine lv_iload_n hx hb dX11_isRest_41 rfl (lv_at hl 2 rfl) ?_
          refine lv_bipush (v := 8) hx hb dX11_isRest_42 (by decide) ?_
          refine lv_irem hx hb dX11_isRest_44 (i_ne0 (X := 8) rfl (by omega)) ?_
          refine lv_topi (fun z17 ez17 => ?_)
          have d18 := i_remj (x := x1) (y := 8) rfl (d := 8) rfl (by omega) (by decide)
          rw [← ez17] at d18
          refine lv_isub hx hb dX11_isRest_45 ?_
          refine lv_topi (fun z19 ez19 => ?_)
          have e20 : z19.toInt = (64 + (x1).toInt) - (z17).toInt := by rw [ez19]; exact i_sub e16 rfl (by omega)
          refine lv_iload_n hx hb dX11_isRest_46 rfl (lv_at hl 0 rfl) ?_
          refine lv_iadd hx hb dX11_isRest_47 ?_
          refine lv_topi (fun z21 ez21 => ?_)
          have e22 : z21.toInt = ((64 + (x1).toInt) - (z17).toInt) + (i_k1).toInt := by rw [ez21]; exact i_add e20 rfl (by omega)
          refine aI C hO 31 mW_31 (i_in (X := (((64 + (x1).toInt) - (z17).toInt) + (i_k1).toInt)) e22 (by omega) (by omega)) dX11_isRest_48 ?_
          refine tE (y := (fA u 31 (z21).toNatClampNeg)) (by exact rfl) ?_
          refine lv_aload_n hx hb dX11_isRest_49 rfl (lv_at hl 1 rfl) ?_
          refine gf_RX11_109 (v := .ref (a 31)) C hO 0 mW_0 rfl dX11_isRest_50 ?_
          refine lv_bipush (v := 64) hx hb dX11_isRest_53 (by decide) ?_
          refine lv_iload_n hx hb dX11_isRest_55 rfl (lv_at hl 2 rfl) ?_
          refine lv_iadd hx hb dX11_isRest_56 ?_
          refine lv_topi (fun z23 ez23 => ?_)
          have e24 : z23.toInt = 64 + (x1).toInt := by rw [ez23]; exact i_add rfl rfl (by omega)
          refine aI C hO 31 mW_31 (i_in (X := (64 + (x1).toInt)) e24 (by omega) (by omega)) dX11_isRest_57 ?_
          refine tE (y := (fA u 31 (z23).toNatClampNeg)) (by exact rfl) ?_
          refine cs_le (tgt := 63) (X := ((fA u 31 (z21).toNatClampNeg)).toInt) (Y := ((fA u 31 (z23).toNatClampNeg)).toInt) hx hb dX11_isRest_58 (by decide) rfl rfl (fun c25 => ?_) (fun c25 => ?_)
          · obtain ⟨z26, ez26⟩ : ∃ z : Int32, z = i_k1 + Int32.ofInt 1 := ⟨_, rfl⟩
            have e27 : z26.toInt = (i_k1).toInt + 1 := by rw [ez26]; exact i_add rfl rfl (by omega)
            refine lv_iinc (v := z26) (lv' := [(2, .int z26), (0, .ref (a 0)), (1, .int x1)]) hx hb dX11_isRest_63 hl (k := 0) rfl ez26.symm (by decide) rfl (fun ls hl => ?_)
            refine lv_goto (tgt := 2) hx hb dX11_isRest_66 (by decide) ?_
            exact ih_k1 _ _ _ (z26) hO (lv_sub hl [0, 1, 2] rfl) (by first | decide | omega) (by first | decide | omega)
          · refine lv_iconst (v := 0) hx hb dX11_isRest_61 (by decide) ?_
            refine hret _ _ _ _ _ _ dX11_isRest_62 rfl ?_ hO
            exact ⟨Or.inl rfl, rfl⟩
  have zc28 : (0 : Int32).toInt = 0 := rfl
  exact LP_2_k1 4000 _ _ _ (0) hO (lv_sub hl [0, 1, 2] rfl) (by first | decide | omega) (by first | decide | omega)
def Km5 (u v : St) : Prop := fI v 0 2 = fI u 0 2 ∧ fI v 0 3 = fI u 0 3 ∧ fI v 0 4 = fI u 0 4 ∧ fI v 0 5 = fI u 0 5 ∧ fI v 0 6 = fI u 0 6 ∧ fI v 0 7 = fI u 0 7 ∧ fI v 0 8 = fI u 0 8 ∧ fI v 0 9 = fI u 0 9 ∧ fL v 0 10 = fL u 0 10 ∧ fI v 0 36 = fI u 0 36 ∧ fI v 0 37 = fI u 0 37 ∧ fI v 0 38 = fI u 0 38 ∧ fI v 0 39 = fI u 0 39 ∧ fI v 0 40 = fI u 0 40 ∧ fI v 0 41 = fI u 0 41 ∧ fI v 0 45 = fI u 0 45 ∧ fI v 0 47 = fI u 0 47 ∧ fI v 0 48 = fI u 0 48 ∧ fI v 0 61 = fI u 0 61 ∧ fI v 0 62 = fI u 0 62 ∧ fA v 1 = fA u 1 ∧ fA v 2 = fA u 2 ∧ fA v 3 = fA u 3 ∧ fA v 4 = fA u 4 ∧ fA v 5 = fA u 5 ∧ fA v 6 = fA u 6 ∧ fA v 7 = fA u 7 ∧ fA v 8 = fA u 8 ∧ fA v 9 = fA u 9 ∧ fA v 10 = fA u 10 ∧ fA v 11 = fA u 11 ∧ fA v 12 = fA u 12 ∧ fA v 13 = fA u 13 ∧ fA v 14 = fA u 14 ∧ fA v 15 = fA u 15 ∧ fA v 16 = fA u 16 ∧ fA v 17 = fA u 17 ∧ fA v 18 = fA u 18 ∧ fA v 19 = fA u 19 ∧ fJ v 20 = fJ u 20 ∧ fJ v 21 = fJ u 21 ∧ fJ v 22 = fJ u 22 ∧ fA v 23 = fA u 23 ∧ fA v 24 = fA u 24 ∧ fA v 25 = fA u 25 ∧ fA v 26 = fA u 26 ∧ fA v 28 = fA u 28 ∧ fA v 29 = fA u 29 ∧ fA v 32 = fA u 32 ∧ fA v 33 = fA u 33 ∧ fA v 34 = fA u 34 ∧ fA v 35 = fA u 35 ∧ fA v 36 = fA u 36 ∧ fA v 37 = fA u 37 ∧ fA v 38 = fA u 38 ∧ fA v 39 = fA u 39 ∧ fA v 40 = fA u 40 ∧ fA v 41 = fA u 41 ∧ fA v 42 = fA u 42
theorem Km5.rf {u : St} : Km5 u u := ⟨rfl, rfl, rfl, rfl, rfl, rfl, rfl, rfl, rfl, rfl, rfl, rfl, rfl, rfl, rfl, rfl, rfl, rfl, rfl, rfl, rfl, rfl, rfl, rfl, rfl, rfl, rfl, rfl, rfl, rfl, rfl, rfl, rfl, rfl, rfl, rfl, rfl, rfl, rfl, rfl, rfl, rfl, rfl, rfl, rfl, rfl, rfl, rfl, rfl, rfl, rfl, rfl, rfl, rfl, rfl, rfl, rfl, rfl, rfl⟩
theorem Km5.tr {u v w : St} (h1 : Km5 u v) (h2 : Km5 v w) : Km5 u w := ⟨(h2.1).trans h1.1, (h2.2.1).trans h1.2.1, (h2.2.2.1).trans h1.2.2.1, (h2.2.2.2.1).trans h1.2.2.2.1, (h2.2.2.2.2.1).trans h1.2.2.2.2.1, (h2.2.2.2.2.2.1).trans h1.2.2.2.2.2.1, (h2.2.2.2.2.2.2.1).trans h1.2.2.2.2.2.2.1, (h2.2.2.2.2.2.2.2.1).trans h1.2.2.2.2.2.2.2.1, (h2.2.2.2.2.2.2.2.2.1).trans h1.2.2.2.2.2.2.2.2.1, (h2.2.2.2.2.2.2.2.2.2.1).trans h1.2.2.2.2.2.2.2.2.2.1, (h2.2.2.2.2.2.2.2.2.2.2.1).trans h1.2.2.2.2.2.2.2.2.2.2.1, (h2.2.2.2.2.2.2.2.2.2.2.2.1).trans h1.2.2.2.2.2.2.2.2.2.2.2.1, (h2.2.2.2.2.2.2.2.2.2.2.2.2.1).trans h1.2.2.2.2.2.2.2.2.2.2.2.2.1, (h2.2.2.2.2.2.2.2.2.2.2.2.2.2.1).trans h1.2.2.2.2.2.2.2.2.2.2.2.2.2.1, (h2.2.2.2.2.2.2.2.2.2.2.2.2.2.2.1).trans h1.2.2.2.2.2.2.2.2.2.2.2.2.2.2.1, (h2.2.2.2.2.2.2.2.2.2.2.2.2.2.2.2.1).trans h1.2.2.2.2.2.2.2.2.2.2.2.2.2.2.2.1, (h2.2.2.2.2.2.2.2.2.2.2.2.2.2.2.2.2.1).trans h1.2.2.2.2.2.2.2.2.2.2.2.2.2.2.2.2.1, (h2.2.2.2.2.2.2.2.2.2.2.2.2.2.2.2.2.2.1).trans h1.2.2.2.2.2.2.2.2.2.2.2.2.2.2.2.2.2.1, (h2.2.2.2.2.2.2.2.2.2.2.2.2.2.2.2.2.2.2.1).trans h1.2.2.2.2.2.2.2.2.2.2.2.2.2.2.2.2.2.2.1, (h2.2.2.2.2.2.2.2.2.2.2.2.2.2.2.2.2.2.2.2.1).trans h1.2.2.2.2.2.2.2.2.2.2.2.2.2.2.2.2.2.2.2.1, (h2.2.2.2.2.2.2.2.2.2.2.2.2.2.2.2.2.2.2.2.2.1).trans h1.2.2.2.2.2.2.2.2.2.2.2.2.2.2.2.2.2.2.2.2.1, (h2.2.2.2.2.2.2.2.2.2.2.2.2.2.2.2.2.2.2.2.2.2.1).trans h1.2.2.2.2.2.2.2.2.2.2.2.2.2.2.2.2.2.2.2.2.2.1, (h2.2.2.2.2.2.2.2.2.2.2.2.2.2.2.2.2.2.2.2.2.2.2.1).trans h1.2.2.2.2.2.2.2.2.2.2.2.2.2.2.2.2.2.2.2.2.2.2.1, (h2.2.2.2.2.2.2.2.2.2.2.2.2.2.2.2.2.2.2.2.2.2.2.2.1).trans h1.2.2.2.2.2.2.2.2.2.2.2.2.2.2.2.2.2.2.2.2.2.2.2.1, (h2.2.2.2.2.2.2.2.2.2.2.2.2.2.2.2.2.2.2.2.2.2.2.2.2.1).trans h1.2.2.2.2.2.2.2.2.2.2.2.2.2.2.2.2.2.2.2.2.2.2.2.2.1, (h2.2.2.2.2.2.2.2.2.2.2.2.2.2.2.2.2.2.2.2.2.2.2.2.2.2.1).trans h1.2.2.2.2.2.2.2.2.2.2.2.2.2.2.2.2.2.2.2.2.2.2.2.2.2.1, (h2.2.2.2.2.2.2.2.2.2.2.2.2.2.2.2.2.2.2.2.2.2.2.2.2.2.2.1).trans h1.2.2.2.2.2.2.2.2.2.2.2.2.2.2.2.2.2.2.2.2.2.2.2.2.2.2.1, (h2.2.2.2.2.2.2.2.2.2.2.2.2.2.2.2.2.2.2.2.2.2.2.2.2.2.2.2.1).trans h1.2.2.2.2.2.2.2.2.2.2.2.2.2.2.2.2.2.2.2.2.2.2.2.2.2.2.2.1, (h2.2.2.2.2.2.2.2.2.2.2.2.2.2.2.2.2.2.2.2.2.2.2.2.2.2.2.2.2.1).trans h1.2.2.2.2.2.2.2.2.2.2.2.2.2.2.2.2.2.2.2.2.2.2.2.2.2.2.2.2.1, (h2.2.2.2.2.2.2.2.2.2.2.2.2.2.2.2.2.2.2.2.2.2.2.2.2.2.2.2.2.2.1).trans h1.2.2.2.2.2.2.2.2.2.2.2.2.2.2.2.2.2.2.2.2.2.2.2.2.2.2.2.2.2.1, (h2.2.2.2.2.2.2.2.2.2.2.2.2.2.2.2.2.2.2.2.2.2.2.2.2.2.2.2.2.2.2.1).trans h1.2.2.2.2.2.2.2.2.2.2.2.2.2.2.2.2.2.2.2.2.2.2.2.2.2.2.2.2.2.2.1, (h2.2.2.2.2.2.2.2.2.2.2.2.2.2.2.2.2.2.2.2.2.2.2.2.2.2.2.2.2.2.2.2.1).trans h1.2.2.2.2.2.2.2.2.2.2.2.2.2.2.2.2.2.2.2.2.2.2.2.2.2.2.2.2.2.2.2.1, (h2.2.2.2.2.2.2.2.2.2.2.2.2.2.2.2.2.2.2.2.2.2.2.2.2.2.2.2.2.2.2.2.2.1).trans h1.2.2.2.2.2.2.2.2.2.2.2.2.2.2.2.2.2.2.2.2.2.2.2.2.2.2.2.2.2.2.2.2.1, (h2.2.2.2.2.2.2.2.2.2.2.2.2.2.2.2.2.2.2.2.2.2.2.2.2.2.2.2.2.2.2.2.2.2.1).trans h1.2.2.2.2.2.2.2.2.2.2.2.2.2.2.2.2.2.2.2.2.2.2.2.2.2.2.2.2.2.2.2.2.2.1, (h2.2.2.2.2.2.2.2.2.2.2.2.2.2.2.2.2.2.2.2.2.2.2.2.2.2.2.2.2.2.2.2.2.2.2.1).trans h1.2.2.2.2.2.2.2.2.2.2.2.2.2.2.2.2.2.2.2.2.2.2.2.2.2.2.2.2.2.2.2.2.2.2.1, (h2.2.2.2.2.2.2.2.2.2.2.2.2.2.2.2.2.2.2.2.2.2.2.2.2.2.2.2.2.2.2.2.2.2.2.2.1).trans h1.2.2.2.2.2.2.2.2.2.2.2.2.2.2.2.2.2.2.2.2.2.2.2.2.2.2.2.2.2.2.2.2.2.2.2.1, (h2.2.2.2.2.2.2.2.2.2.2.2.2.2.2.2.2.2.2.2.2.2.2.2.2.2.2.2.2.2.2.2.2.2.2.2.2.1).trans h1.2.2.2.2.2.2.2.2.2.2.2.2.2.2.2.2.2.2.2.2.2.2.2.2.2.2.2.2.2.2.2.2.2.2.2.2.1, (h2.2.2.2.2.2.2.2.2.2.2.2.2.2.2.2.2.2.2.2.2.2.2.2.2.2.2.2.2.2.2.2.2.2.2.2.2.2.1).trans h1.2.2.2.2.2.2.2.2.2.2.2.2.2.2.2.2.2.2.2.2.2.2.2.2.2.2.2.2.2.2.2.2.2.2.2.2.2.1, (h2.2.2.2.2.2.2.2.2.2.2.2.2.2.2.2.2.2.2.2.2.2.2.2.2.2.2.2.2.2.2.2.2.2.2.2.2.2.2.1).trans h1.2.2.2.2.2.2.2.2.2.2.2.2.2.2.2.2.2.2.2.2.2.2.2.2.2.2.2.2.2.2.2.2.2.2.2.2.2.2.1, (h2.2.2.2.2.2.2.2.2.2.2.2.2.2.2.2.2.2.2.2.2.2.2.2.2.2.2.2.2.2.2.2.2.2.2.2.2.2.2.2.1).trans h1.2.2.2.2.2.2.2.2.2.2.2.2.2.2.2.2.2.2.2.2.2.2.2.2.2.2.2.2.2.2.2.2.2.2.2.2.2.2.2.1, (h2.2.2.2.2.2.2.2.2.2.2.2.2.2.2.2.2.2.2.2.2.2.2.2.2.2.2.2.2.2.2.2.2.2.2.2.2.2.2.2.2.1).trans h1.2.2.2.2.2.2.2.2.2.2.2.2.2.2.2.2.2.2.2.2.2.2.2.2.2.2.2.2.2.2.2.2.2.2.2.2.2.2.2.2.1, (h2.2.2.2.2.2.2.2.2.2.2.2.2.2.2.2.2.2.2.2.2.2.2.2.2.2.2.2.2.2.2.2.2.2.2.2.2.2.2.2.2.2.1).trans h1.2.2.2.2.2.2.2.2.2.2.2.2.2.2.2.2.2.2.2.2.2.2.2.2.2.2.2.2.2.2.2.2.2.2.2.2.2.2.2.2.2.1, (h2.2.2.2.2.2.2.2.2.2.2.2.2.2.2.2.2.2.2.2.2.2.2.2.2.2.2.2.2.2.2.2.2.2.2.2.2.2.2.2.2.2.2.1).trans h1.2.2.2.2.2.2.2.2.2.2.2.2.2.2.2.2.2.2.2.2.2.2.2.2.2.2.2.2.2.2.2.2.2.2.2.2.2.2.2.2.2.2.1, (h2.2.2.2.2.2.2.2.2.2.2.2.2.2.2.2.2.2.2.2.2.2.2.2.2.2.2.2.2.2.2.2.2.2.2.2.2.2.2.2.2.2.2.2.1).trans h1.2.2.2.2.2.2.2.2.2.2.2.2.2.2.2.2.2.2.2.2.2.2.2.2.2.2.2.2.2.2.2.2.2.2.2.2.2.2.2.2.2.2.2.1, (h2.2.2.2.2.2.2.2.2.2.2.2.2.2.2.2.2.2.2.2.2.2.2.2.2.2.2.2.2.2.2.2.2.2.2.2.2.2.2.2.2.2.2.2.2.1).trans h1.2.2.2.2.2.2.2.2.2.2.2.2.2.2.2.2.2.2.2.2.2.2.2.2.2.2.2.2.2.2.2.2.2.2.2.2.2.2.2.2.2.2.2.2.1, (h2.2.2.2.2.2.2.2.2.2.2.2.2.2.2.2.2.2.2.2.2.2.2.2.2.2.2.2.2.2.2.2.2.2.2.2.2.2.2.2.2.2.2.2.2.2.1).trans h1.2.2.2.2.2.2.2.2.2.2.2.2.2.2.2.2.2.2.2.2.2.2.2.2.2.2.2.2.2.2.2.2.2.2.2.2.2.2.2.2.2.2.2.2.2.1, (h2.2.2.2.2.2.2.2.2.2.2.2.2.2.2.2.2.2.2.2.2.2.2.2.2.2.2.2.2.2.2.2.2.2.2.2.2.2.2.2.2.2.2.2.2.2.2.1).trans h1.2.2.2.2.2.2.2.2.2.2.2.2.2.2.2.2.2.2.2.2.2.2.2.2.2.2.2.2.2.2.2.2.2.2.2.2.2.2.2.2.2.2.2.2.2.2.1, (h2.2.2.2.2.2.2.2.2.2.2.2.2.2.2.2.2.2.2.2.2.2.2.2.2.2.2.2.2.2.2.2.2.2.2.2.2.2.2.2.2.2.2.2.2.2.2.2.1).trans h1.2.2.2.2.2.2.2.2.2.2.2.2.2.2.2.2.2.2.2.2.2.2.2.2.2.2.2.2.2.2.2.2.2.2.2.2.2.2.2.2.2.2.2.2.2.2.2.1, (h2.2.2.2.2.2.2.2.2.2.2.2.2.2.2.2.2.2.2.2.2.2.2.2.2.2.2.2.2.2.2.2.2.2.2.2.2.2.2.2.2.2.2.2.2.2.2.2.2.1).trans h1.2.2.2.2.2.2.2.2.2.2.2.2.2.2.2.2.2.2.2.2.2.2.2.2.2.2.2.2.2.2.2.2.2.2.2.2.2.2.2.2.2.2.2.2.2.2.2.2.1, (h2.2.2.2.2.2.2.2.2.2.2.2.2.2.2.2.2.2.2.2.2.2.2.2.2.2.2.2.2.2.2.2.2.2.2.2.2.2.2.2.2.2.2.2.2.2.2.2.2.2.1).trans h1.2.2.2.2.2.2.2.2.2.2.2.2.2.2.2.2.2.2.2.2.2.2.2.2.2.2.2.2.2.2.2.2.2.2.2.2.2.2.2.2.2.2.2.2.2.2.2.2.2.1, (h2.2.2.2.2.2.2.2.2.2.2.2.2.2.2.2.2.2.2.2.2.2.2.2.2.2.2.2.2.2.2.2.2.2.2.2.2.2.2.2.2.2.2.2.2.2.2.2.2.2.2.1).trans h1.2.2.2.2.2.2.2.2.2.2.2.2.2.2.2.2.2.2.2.2.2.2.2.2.2.2.2.2.2.2.2.2.2.2.2.2.2.2.2.2.2.2.2.2.2.2.2.2.2.2.1, (h2.2.2.2.2.2.2.2.2.2.2.2.2.2.2.2.2.2.2.2.2.2.2.2.2.2.2.2.2.2.2.2.2.2.2.2.2.2.2.2.2.2.2.2.2.2.2.2.2.2.2.2.1).trans h1.2.2.2.2.2.2.2.2.2.2.2.2.2.2.2.2.2.2.2.2.2.2.2.2.2.2.2.2.2.2.2.2.2.2.2.2.2.2.2.2.2.2.2.2.2.2.2.2.2.2.2.1, (h2.2.2.2.2.2.2.2.2.2.2.2.2.2.2.2.2.2.2.2.2.2.2.2.2.2.2.2.2.2.2.2.2.2.2.2.2.2.2.2.2.2.2.2.2.2.2.2.2.2.2.2.2.1).trans h1.2.2.2.2.2.2.2.2.2.2.2.2.2.2.2.2.2.2.2.2.2.2.2.2.2.2.2.2.2.2.2.2.2.2.2.2.2.2.2.2.2.2.2.2.2.2.2.2.2.2.2.2.1, (h2.2.2.2.2.2.2.2.2.2.2.2.2.2.2.2.2.2.2.2.2.2.2.2.2.2.2.2.2.2.2.2.2.2.2.2.2.2.2.2.2.2.2.2.2.2.2.2.2.2.2.2.2.2.1).trans h1.2.2.2.2.2.2.2.2.2.2.2.2.2.2.2.2.2.2.2.2.2.2.2.2.2.2.2.2.2.2.2.2.2.2.2.2.2.2.2.2.2.2.2.2.2.2.2.2.2.2.2.2.2.1, (h2.2.2.2.2.2.2.2.2.2.2.2.2.2.2.2.2.2.2.2.2.2.2.2.2.2.2.2.2.2.2.2.2.2.2.2.2.2.2.2.2.2.2.2.2.2.2.2.2.2.2.2.2.2.2.1).trans h1.2.2.2.2.2.2.2.2.2.2.2.2.2.2.2.2.2.2.2.2.2.2.2.2.2.2.2.2.2.2.2.2.2.2.2.2.2.2.2.2.2.2.2.2.2.2.2.2.2.2.2.2.2.2.1, (h2.2.2.2.2.2.2.2.2.2.2.2.2.2.2.2.2.2.2.2.2.2.2.2.2.2.2.2.2.2.2.2.2.2.2.2.2.2.2.2.2.2.2.2.2.2.2.2.2.2.2.2.2.2.2.2.1).trans h1.2.2.2.2.2.2.2.2.2.2.2.2.2.2.2.2.2.2.2.2.2.2.2.2.2.2.2.2.2.2.2.2.2.2.2.2.2.2.2.2.2.2.2.2.2.2.2.2.2.2.2.2.2.2.2.1, (h2.2.2.2.2.2.2.2.2.2.2.2.2.2.2.2.2.2.2.2.2.2.2.2.2.2.2.2.2.2.2.2.2.2.2.2.2.2.2.2.2.2.2.2.2.2.2.2.2.2.2.2.2.2.2.2.2.1).trans h1.2.2.2.2.2.2.2.2.2.2.2.2.2.2.2.2.2.2.2.2.2.2.2.2.2.2.2.2.2.2.2.2.2.2.2.2.2.2.2.2.2.2.2.2.2.2.2.2.2.2.2.2.2.2.2.2.1, (h2.2.2.2.2.2.2.2.2.2.2.2.2.2.2.2.2.2.2.2.2.2.2.2.2.2.2.2.2.2.2.2.2.2.2.2.2.2.2.2.2.2.2.2.2.2.2.2.2.2.2.2.2.2.2.2.2.2.1).trans h1.2.2.2.2.2.2.2.2.2.2.2.2.2.2.2.2.2.2.2.2.2.2.2.2.2.2.2.2.2.2.2.2.2.2.2.2.2.2.2.2.2.2.2.2.2.2.2.2.2.2.2.2.2.2.2.2.2.1, (h2.2.2.2.2.2.2.2.2.2.2.2.2.2.2.2.2.2.2.2.2.2.2.2.2.2.2.2.2.2.2.2.2.2.2.2.2.2.2.2.2.2.2.2.2.2.2.2.2.2.2.2.2.2.2.2.2.2.2).trans h1.2.2.2.2.2.2.2.2.2.2.2.2.2.2.2.2.2.2.2.2.2.2.2.2.2.2.2.2.2.2.2.2.2.2.2.2.2.2.2.2.2.2.2.2.2.2.2.2.2.2.2.2.2.2.2.2.2.2⟩
theorem dX11_rivals_0 : decode cX11_rivals 0 = .ok (.aload_n 0, 1) := by decide +kernel
theorem dX11_rivals_1 : decode cX11_rivals 1 = .ok (.iconst 0, 1) := by decide +kernel
theorem dX11_rivals_2 : decode cX11_rivals 2 = .ok (.putfield 398, 3) := by decide +kernel
theorem dX11_rivals_5 : decode cX11_rivals 5 = .ok (.aload_n 0, 1) := by decide +kernel
theorem dX11_rivals_6 : decode cX11_rivals 6 = .ok (.iload_n 1, 1) := by decide +kernel
theorem dX11_rivals_7 : decode cX11_rivals 7 = .ok (.invokevirtual 413, 3) := by decide +kernel
theorem dX11_rivals_10 : decode cX11_rivals 10 = .ok (.ifCond .eq 23, 3) := by decide +kernel
theorem dX11_rivals_13 : decode cX11_rivals 13 = .ok (.aload_n 0, 1) := by decide +kernel
theorem dX11_rivals_14 : decode cX11_rivals 14 = .ok (.iload_n 2, 1) := by decide +kernel
theorem dX11_rivals_15 : decode cX11_rivals 15 = .ok (.invokevirtual 413, 3) := by decide +kernel
theorem dX11_rivals_18 : decode cX11_rivals 18 = .ok (.ifCond .eq 15, 3) := by decide +kernel
theorem dX11_rivals_21 : decode cX11_rivals 21 = .ok (.iload_n 1, 1) := by decide +kernel
theorem dX11_rivals_22 : decode cX11_rivals 22 = .ok (.iload_n 2, 1) := by decide +kernel
theorem dX11_rivals_23 : decode cX11_rivals 23 = .ok (.if_icmp .eq 10, 3) := by decide +kernel
theorem dX11_rivals_26 : decode cX11_rivals 26 = .ok (.aload_n 0, 1) := by decide +kernel
theorem dX11_rivals_27 : decode cX11_rivals 27 = .ok (.invokevirtual 377, 3) := by decide +kernel
theorem dX11_rivals_30 : decode cX11_rivals 30 = .ok (.ifCond .ne 5, 3) := by decide +kernel
theorem dX11_rivals_33 : decode cX11_rivals 33 = .ok (.iconst (-1), 1) := by decide +kernel
theorem dX11_rivals_34 : decode cX11_rivals 34 = .ok (.ireturn, 1) := by decide +kernel
theorem dX11_rivals_35 : decode cX11_rivals 35 = .ok (.aload_n 0, 1) := by decide +kernel
theorem dX11_rivals_36 : decode cX11_rivals 36 = .ok (.iload_n 1, 1) := by decide +kernel
theorem dX11_rivals_37 : decode cX11_rivals 37 = .ok (.iload_n 2, 1) := by decide +kernel
theorem dX11_rivals_38 : decode cX11_rivals 38 = .ok (.invokevirtual 460, 3) := by decide +kernel
theorem dX11_rivals_41 : decode cX11_rivals 41 = .ok (.iconst 0, 1) := by decide +kernel
theorem dX11_rivals_42 : decode cX11_rivals 42 = .ok (.istore_n 3, 1) := by decide +kernel
theorem dX11_rivals_43 : decode cX11_rivals 43 = .ok (.iconst 0, 1) := by decide +kernel
theorem dX11_rivals_44 : decode cX11_rivals 44 = .ok (.istore 4, 2) := by decide +kernel
theorem dX11_rivals_46 : decode cX11_rivals 46 = .ok (.iload 4, 2) := by decide +kernel
theorem dX11_rivals_48 : decode cX11_rivals 48 = .ok (.bipush 64, 2) := by decide +kernel
theorem dX11_rivals_50 : decode cX11_rivals 50 = .ok (.if_icmp .ge 79, 3) := by decide +kernel
theorem dX11_rivals_53 : decode cX11_rivals 53 = .ok (.aload_n 0, 1) := by decide +kernel
theorem dX11_rivals_54 : decode cX11_rivals 54 = .ok (.iload 4, 2) := by decide +kernel
theorem dX11_rivals_56 : decode cX11_rivals 56 = .ok (.bipush 8, 2) := by decide +kernel
theorem dX11_rivals_58 : decode cX11_rivals 58 = .ok (.idiv, 1) := by decide +kernel
theorem dX11_rivals_59 : decode cX11_rivals 59 = .ok (.invokevirtual 426, 3) := by decide +kernel
theorem dX11_rivals_62 : decode cX11_rivals 62 = .ok (.ifCond .eq 61, 3) := by decide +kernel
theorem dX11_rivals_65 : decode cX11_rivals 65 = .ok (.aload_n 0, 1) := by decide +kernel
theorem dX11_rivals_66 : decode cX11_rivals 66 = .ok (.iload 4, 2) := by decide +kernel
theorem dX11_rivals_68 : decode cX11_rivals 68 = .ok (.bipush 8, 2) := by decide +kernel
theorem dX11_rivals_70 : decode cX11_rivals 70 = .ok (.irem, 1) := by decide +kernel
theorem dX11_rivals_71 : decode cX11_rivals 71 = .ok (.invokevirtual 426, 3) := by decide +kernel
theorem dX11_rivals_74 : decode cX11_rivals 74 = .ok (.ifCond .eq 49, 3) := by decide +kernel
theorem dX11_rivals_77 : decode cX11_rivals 77 = .ok (.aload_n 0, 1) := by decide +kernel
theorem dX11_rivals_78 : decode cX11_rivals 78 = .ok (.iload 4, 2) := by decide +kernel
theorem dX11_rivals_80 : decode cX11_rivals 80 = .ok (.invokevirtual 463, 3) := by decide +kernel
theorem dX11_rivals_83 : decode cX11_rivals 83 = .ok (.ifCond .ne 6, 3) := by decide +kernel
theorem dX11_rivals_86 : decode cX11_rivals 86 = .ok (.goto 37, 3) := by decide +kernel
theorem dX11_rivals_89 : decode cX11_rivals 89 = .ok (.iload_n 3, 1) := by decide +kernel
theorem dX11_rivals_90 : decode cX11_rivals 90 = .ok (.ifCond .ne 30, 3) := by decide +kernel
theorem dX11_rivals_93 : decode cX11_rivals 93 = .ok (.aload_n 0, 1) := by decide +kernel
theorem dX11_rivals_94 : decode cX11_rivals 94 = .ok (.getfield 106, 3) := by decide +kernel
theorem dX11_rivals_97 : decode cX11_rivals 97 = .ok (.iconst 0, 1) := by decide +kernel
theorem dX11_rivals_98 : decode cX11_rivals 98 = .ok (.iload 4, 2) := by decide +kernel
theorem dX11_rivals_100 : decode cX11_rivals 100 = .ok (.bipush 8, 2) := by decide +kernel
theorem dX11_rivals_102 : decode cX11_rivals 102 = .ok (.idiv, 1) := by decide +kernel
theorem dX11_rivals_103 : decode cX11_rivals 103 = .ok (.iastore, 1) := by decide +kernel
theorem dX11_rivals_104 : decode cX11_rivals 104 = .ok (.aload_n 0, 1) := by decide +kernel
theorem dX11_rivals_105 : decode cX11_rivals 105 = .ok (.getfield 106, 3) := by decide +kernel
theorem dX11_rivals_108 : decode cX11_rivals 108 = .ok (.iconst 1, 1) := by decide +kernel
theorem dX11_rivals_109 : decode cX11_rivals 109 = .ok (.iload 4, 2) := by decide +kernel
theorem dX11_rivals_111 : decode cX11_rivals 111 = .ok (.bipush 8, 2) := by decide +kernel
theorem dX11_rivals_113 : decode cX11_rivals 113 = .ok (.irem, 1) := by decide +kernel
theorem dX11_rivals_114 : decode cX11_rivals 114 = .ok (.iastore, 1) := by decide +kernel
theorem dX11_rivals_115 : decode cX11_rivals 115 = .ok (.aload_n 0, 1) := by decide +kernel
theorem dX11_rivals_116 : decode cX11_rivals 116 = .ok (.iconst 2, 1) := by decide +kernel
theorem dX11_rivals_117 : decode cX11_rivals 117 = .ok (.putfield 398, 3) := by decide +kernel
theorem dX11_rivals_120 : decode cX11_rivals 120 = .ok (.iinc 3 1, 3) := by decide +kernel
theorem dX11_rivals_123 : decode cX11_rivals 123 = .ok (.iinc 4 1, 3) := by decide +kernel
theorem dX11_rivals_126 : decode cX11_rivals 126 = .ok (.goto (-80), 3) := by decide +kernel
theorem dX11_rivals_129 : decode cX11_rivals 129 = .ok (.iload_n 3, 1) := by decide +kernel
theorem dX11_rivals_130 : decode cX11_rivals 130 = .ok (.ireturn, 1) := by decide +kernel
theorem wd_1923 : (Cond.code ⟨"WebCourtModel", "rivals", "(II)I"⟩ prog_13_method_100_code (5 : Nat) (Option.some FieldType.int)) ∈ gtb := gtb_c8 134 (by decide +kernel) rfl
theorem wd_1406 : (Cond.fieldLink "WebCourtModel" (398 : Nat) "WebCourtModel" "laid" "I") ∈ gtb := gtb_c6 97 (by decide +kernel) rfl
theorem pf_RX11_398 {p : Program} {l : Launch} {e : Env} {R : Room} {s : State} {m : MethodId} {args : Array Value} {below : List Frame} {meth : Method} {c : Code} {H : Heap} {locs : List Loc} {cells slots : Nat} {Q : State → Prop} {cc : ByteArray} {pc nL : Nat} {ls : Array Slot} {rest : List Value} {D : va_G} {cy : Nat → ClassId} {A : Nat → Prop} {ws : va_W} {b : Nat} {fs : List Value} {v : Int32} {ws' : va_W} (C : Cx p s m args c cc nL RX11 D cy A) (hO : Wo D A ws s.heap H locs) (q0 : Nat) (he : ws[q0]? = some (b, .inr (11, fs))) (hlen : 50 < fs.length) (hw : ws.set q0 (b, .inr (11, fs.set 50 (.int v))) = ws') (hdg : decode cc pc = .ok (.putfield 398, 3)) (kk : ∀ (H : Heap) (locs : List Loc), Wo D A ws' s.heap H locs → W p l e R s m args below meth c H locs cells slots Q (F0 m (pc + 3) ls rest)) : W p l e R s m args below meth c H locs cells slots Q (F0 m pc ls (.int v :: .ref b :: rest)) := pF (k := 50) (ty := .int) C hO q0 he rfl inFX11 (by decide) wd_1406 rfl tyX11 tyX11_ok nmX11 rfl (by decide +kernel) rfl rfl hlen hw hdg kk
theorem Km5_wI50 {u v : St} {x : Int32} (h : Km5 u v) : Km5 u (sI v 0 50 x) := ⟨h.1, h.2.1, h.2.2.1, h.2.2.2.1, h.2.2.2.2.1, h.2.2.2.2.2.1, h.2.2.2.2.2.2.1, h.2.2.2.2.2.2.2.1, h.2.2.2.2.2.2.2.2.1, h.2.2.2.2.2.2.2.2.2.1, h.2.2.2.2.2.2.2.2.2.2.1, h.2.2.2.2.2.2.2.2.2.2.2.1, h.2.2.2.2.2.2.2.2.2.2.2.2.1, h.2.2.2.2.2.2.2.2.2.2.2.2.2.1, h.2.2.2.2.2.2.2.2.2.2.2.2.2.2.1, h.2.2.2.2.2.2.2.2.2.2.2.2.2.2.2.1, h.2.2.2.2.2.2.2.2.2.2.2.2.2.2.2.2.1, h.2.2.2.2.2.2.2.2.2.2.2.2.2.2.2.2.2.1, h.2.2.2.2.2.2.2.2.2.2.2.2.2.2.2.2.2.2.1, h.2.2.2.2.2.2.2.2.2.2.2.2.2.2.2.2.2.2.2.1, h.2.2.2.2.2.2.2.2.2.2.2.2.2.2.2.2.2.2.2.2.1, h.2.2.2.2.2.2.2.2.2.2.2.2.2.2.2.2.2.2.2.2.2.1, h.2.2.2.2.2.2.2.2.2.2.2.2.2.2.2.2.2.2.2.2.2.2.1, h.2.2.2.2.2.2.2.2.2.2.2.2.2.2.2.2.2.2.2.2.2.2.2.1, h.2.2.2.2.2.2.2.2.2.2.2.2.2.2.2.2.2.2.2.2.2.2.2.2.1, h.2.2.2.2.2.2.2.2.2.2.2.2.2.2.2.2.2.2.2.2.2.2.2.2.2.1, h.2.2.2.2.2.2.2.2.2.2.2.2.2.2.2.2.2.2.2.2.2.2.2.2.2.2.1, h.2.2.2.2.2.2.2.2.2.2.2.2.2.2.2.2.2.2.2.2.2.2.2.2.2.2.2.1, h.2.2.2.2.2.2.2.2.2.2.2.2.2.2.2.2.2.2.2.2.2.2.2.2.2.2.2.2.1, h.2.2.2.2.2.2.2.2.2.2.2.2.2.2.2.2.2.2.2.2.2.2.2.2.2.2.2.2.2.1, h.2.2.2.2.2.2.2.2.2.2.2.2.2.2.2.2.2.2.2.2.2.2.2.2.2.2.2.2.2.2.1, h.2.2.2.2.2.2.2.2.2.2.2.2.2.2.2.2.2.2.2.2.2.2.2.2.2.2.2.2.2.2.2.1, h.2.2.2.2.2.2.2.2.2.2.2.2.2.2.2.2.2.2.2.2.2.2.2.2.2.2.2.2.2.2.2.2.1, h.2.2.2.2.2.2.2.2.2.2.2.2.2.2.2.2.2.2.2.2.2.2.2.2.2.2.2.2.2.2.2.2.2.1, h.2.2.2.2.2.2.2.2.2.2.2.2.2.2.2.2.2.2.2.2.2.2.2.2.2.2.2.2.2.2.2.2.2.2.1, h.2.2.2.2.2.2.2.2.2.2.2.2.2.2.2.2.2.2.2.2.2.2.2.2.2.2.2.2.2.2.2.2.2.2.2.1, h.2.2.2.2.2.2.2.2.2.2.2.2.2.2.2.2.2.2.2.2.2.2.2.2.2.2.2.2.2.2.2.2.2.2.2.2.1, h.2.2.2.2.2.2.2.2.2.2.2.2.2.2.2.2.2.2.2.2.2.2.2.2.2.2.2.2.2.2.2.2.2.2.2.2.2.1, h.2.2.2.2.2.2.2.2.2.2.2.2.2.2.2.2.2.2.2.2.2.2.2.2.2.2.2.2.2.2.2.2.2.2.2.2.2.2.1, h.2.2.2.2.2.2.2.2.2.2.2.2.2.2.2.2.2.2.2.2.2.2.2.2.2.2.2.2.2.2.2.2.2.2.2.2.2.2.2.1, h.2.2.2.2.2.2.2.2.2.2.2.2.2.2.2.2.2.2.2.2.2.2.2.2.2.2.2.2.2.2.2.2.2.2.2.2.2.2.2.2.1, h.2.2.2.2.2.2.2.2.2.2.2.2.2.2.2.2.2.2.2.2.2.2.2.2.2.2.2.2.2.2.2.2.2.2.2.2.2.2.2.2.2.1, h.2.2.2.2.2.2.2.2.2.2.2.2.2.2.2.2.2.2.2.2.2.2.2.2.2.2.2.2.2.2.2.2.2.2.2.2.2.2.2.2.2.2.1, h.2.2.2.2.2.2.2.2.2.2.2.2.2.2.2.2.2.2.2.2.2.2.2.2.2.2.2.2.2.2.2.2.2.2.2.2.2.2.2.2.2.2.2.1, h.2.2.2.2.2.2.2.2.2.2.2.2.2.2.2.2.2.2.2.2.2.2.2.2.2.2.2.2.2.2.2.2.2.2.2.2.2.2.2.2.2.2.2.2.1, h.2.2.2.2.2.2.2.2.2.2.2.2.2.2.2.2.2.2.2.2.2.2.2.2.2.2.2.2.2.2.2.2.2.2.2.2.2.2.2.2.2.2.2.2.2.1, h.2.2.2.2.2.2.2.2.2.2.2.2.2.2.2.2.2.2.2.2.2.2.2.2.2.2.2.2.2.2.2.2.2.2.2.2.2.2.2.2.2.2.2.2.2.2.1, h.2.2.2.2.2.2.2.2.2.2.2.2.2.2.2.2.2.2.2.2.2.2.2.2.2.2.2.2.2.2.2.2.2.2.2.2.2.2.2.2.2.2.2.2.2.2.2.1, h.2.2.2.2.2.2.2.2.2.2.2.2.2.2.2.2.2.2.2.2.2.2.2.2.2.2.2.2.2.2.2.2.2.2.2.2.2.2.2.2.2.2.2.2.2.2.2.2.1, h.2.2.2.2.2.2.2.2.2.2.2.2.2.2.2.2.2.2.2.2.2.2.2.2.2.2.2.2.2.2.2.2.2.2.2.2.2.2.2.2.2.2.2.2.2.2.2.2.2.1, h.2.2.2.2.2.2.2.2.2.2.2.2.2.2.2.2.2.2.2.2.2.2.2.2.2.2.2.2.2.2.2.2.2.2.2.2.2.2.2.2.2.2.2.2.2.2.2.2.2.2.1, h.2.2.2.2.2.2.2.2.2.2.2.2.2.2.2.2.2.2.2.2.2.2.2.2.2.2.2.2.2.2.2.2.2.2.2.2.2.2.2.2.2.2.2.2.2.2.2.2.2.2.2.1, h.2.2.2.2.2.2.2.2.2.2.2.2.2.2.2.2.2.2.2.2.2.2.2.2.2.2.2.2.2.2.2.2.2.2.2.2.2.2.2.2.2.2.2.2.2.2.2.2.2.2.2.2.1, h.2.2.2.2.2.2.2.2.2.2.2.2.2.2.2.2.2.2.2.2.2.2.2.2.2.2.2.2.2.2.2.2.2.2.2.2.2.2.2.2.2.2.2.2.2.2.2.2.2.2.2.2.2.1, h.2.2.2.2.2.2.2.2.2.2.2.2.2.2.2.2.2.2.2.2.2.2.2.2.2.2.2.2.2.2.2.2.2.2.2.2.2.2.2.2.2.2.2.2.2.2.2.2.2.2.2.2.2.2.1, h.2.2.2.2.2.2.2.2.2.2.2.2.2.2.2.2.2.2.2.2.2.2.2.2.2.2.2.2.2.2.2.2.2.2.2.2.2.2.2.2.2.2.2.2.2.2.2.2.2.2.2.2.2.2.2.1, h.2.2.2.2.2.2.2.2.2.2.2.2.2.2.2.2.2.2.2.2.2.2.2.2.2.2.2.2.2.2.2.2.2.2.2.2.2.2.2.2.2.2.2.2.2.2.2.2.2.2.2.2.2.2.2.2.1, h.2.2.2.2.2.2.2.2.2.2.2.2.2.2.2.2.2.2.2.2.2.2.2.2.2.2.2.2.2.2.2.2.2.2.2.2.2.2.2.2.2.2.2.2.2.2.2.2.2.2.2.2.2.2.2.2.2.1, h.2.2.2.2.2.2.2.2.2.2.2.2.2.2.2.2.2.2.2.2.2.2.2.2.2.2.2.2.2.2.2.2.2.2.2.2.2.2.2.2.2.2.2.2.2.2.2.2.2.2.2.2.2.2.2.2.2.2⟩
theorem wd_1924 : (Cond.methodLink "WebCourtModel" (460 : Nat) ⟨"WebCourtModel", "layVerdicts", "(II)V"⟩) ∈ gtb := gtb_c8 135 (by decide +kernel) rfl
theorem wd_1926 : (Cond.instanceMethod ⟨"WebCourtModel", "layVerdicts", "(II)V"⟩) ∈ gtb := gtb_c8 137 (by decide +kernel) rfl
theorem wd_100 : (Cond.selects "WebCourtModel" ⟨"WebCourtModel", "layVerdicts", "(II)V"⟩ ⟨"WebCourtModel", "layVerdicts", "(II)V"⟩) ∈ gtb := gtb_p 100 (by decide +kernel) rfl
theorem hd_yX11_layVerdicts : yX11_layVerdicts.cls = RX11 ∧ yX11_layVerdicts.cls ≠ "java/lang/invoke/MethodHandle" ∧ yX11_layVerdicts.cls ≠ "java/lang/invoke/VarHandle" ∧ (parseMethodDescriptor yX11_layVerdicts.desc).map (fun d => d.parameters.length) = some 2 := by decide +kernel
theorem Km4_to_Km5 {u v : St} (h : Km4 u v) : Km5 u v := ⟨h.1, h.2.1, h.2.2.1, h.2.2.2.1, h.2.2.2.2.1, h.2.2.2.2.2.1, h.2.2.2.2.2.2.1, h.2.2.2.2.2.2.2.1, h.2.2.2.2.2.2.2.2.1, h.2.2.2.2.2.2.2.2.2.1, h.2.2.2.2.2.2.2.2.2.2.1, h.2.2.2.2.2.2.2.2.2.2.2.1, h.2.2.2.2.2.2.2.2.2.2.2.2.1, h.2.2.2.2.2.2.2.2.2.2.2.2.2.1, h.2.2.2.2.2.2.2.2.2.2.2.2.2.2.1, h.2.2.2.2.2.2.2.2.2.2.2.2.2.2.2.1, h.2.2.2.2.2.2.2.2.2.2.2.2.2.2.2.2.1, h.2.2.2.2.2.2.2.2.2.2.2.2.2.2.2.2.2.1, h.2.2.2.2.2.2.2.2.2.2.2.2.2.2.2.2.2.2.2.1, h.2.2.2.2.2.2.2.2.2.2.2.2.2.2.2.2.2.2.2.2.1, h.2.2.2.2.2.2.2.2.2.2.2.2.2.2.2.2.2.2.2.2.2.1, h.2.2.2.2.2.2.2.2.2.2.2.2.2.2.2.2.2.2.2.2.2.2.1, h.2.2.2.2.2.2.2.2.2.2.2.2.2.2.2.2.2.2.2.2.2.2.2.1, h.2.2.2.2.2.2.2.2.2.2.2.2.2.2.2.2.2.2.2.2.2.2.2.2.1, h.2.2.2.2.2.2.2.2.2.2.2.2.2.2.2.2.2.2.2.2.2.2.2.2.2.1, h.2.2.2.2.2.2.2.2.2.2.2.2.2.2.2.2.2.2.2.2.2.2.2.2.2.2.1, h.2.2.2.2.2.2.2.2.2.2.2.2.2.2.2.2.2.2.2.2.2.2.2.2.2.2.2.1, h.2.2.2.2.2.2.2.2.2.2.2.2.2.2.2.2.2.2.2.2.2.2.2.2.2.2.2.2.1, h.2.2.2.2.2.2.2.2.2.2.2.2.2.2.2.2.2.2.2.2.2.2.2.2.2.2.2.2.2.1, h.2.2.2.2.2.2.2.2.2.2.2.2.2.2.2.2.2.2.2.2.2.2.2.2.2.2.2.2.2.2.1, h.2.2.2.2.2.2.2.2.2.2.2.2.2.2.2.2.2.2.2.2.2.2.2.2.2.2.2.2.2.2.2.1, h.2.2.2.2.2.2.2.2.2.2.2.2.2.2.2.2.2.2.2.2.2.2.2.2.2.2.2.2.2.2.2.2.1, h.2.2.2.2.2.2.2.2.2.2.2.2.2.2.2.2.2.2.2.2.2.2.2.2.2.2.2.2.2.2.2.2.2.1, h.2.2.2.2.2.2.2.2.2.2.2.2.2.2.2.2.2.2.2.2.2.2.2.2.2.2.2.2.2.2.2.2.2.2.1, h.2.2.2.2.2.2.2.2.2.2.2.2.2.2.2.2.2.2.2.2.2.2.2.2.2.2.2.2.2.2.2.2.2.2.2.1, h.2.2.2.2.2.2.2.2.2.2.2.2.2.2.2.2.2.2.2.2.2.2.2.2.2.2.2.2.2.2.2.2.2.2.2.2.1, h.2.2.2.2.2.2.2.2.2.2.2.2.2.2.2.2.2.2.2.2.2.2.2.2.2.2.2.2.2.2.2.2.2.2.2.2.2.1, h.2.2.2.2.2.2.2.2.2.2.2.2.2.2.2.2.2.2.2.2.2.2.2.2.2.2.2.2.2.2.2.2.2.2.2.2.2.2.1, h.2.2.2.2.2.2.2.2.2.2.2.2.2.2.2.2.2.2.2.2.2.2.2.2.2.2.2.2.2.2.2.2.2.2.2.2.2.2.2.1, h.2.2.2.2.2.2.2.2.2.2.2.2.2.2.2.2.2.2.2.2.2.2.2.2.2.2.2.2.2.2.2.2.2.2.2.2.2.2.2.2.1, h.2.2.2.2.2.2.2.2.2.2.2.2.2.2.2.2.2.2.2.2.2.2.2.2.2.2.2.2.2.2.2.2.2.2.2.2.2.2.2.2.2.1, h.2.2.2.2.2.2.2.2.2.2.2.2.2.2.2.2.2.2.2.2.2.2.2.2.2.2.2.2.2.2.2.2.2.2.2.2.2.2.2.2.2.2.1, h.2.2.2.2.2.2.2.2.2.2.2.2.2.2.2.2.2.2.2.2.2.2.2.2.2.2.2.2.2.2.2.2.2.2.2.2.2.2.2.2.2.2.2.1, h.2.2.2.2.2.2.2.2.2.2.2.2.2.2.2.2.2.2.2.2.2.2.2.2.2.2.2.2.2.2.2.2.2.2.2.2.2.2.2.2.2.2.2.2.1, h.2.2.2.2.2.2.2.2.2.2.2.2.2.2.2.2.2.2.2.2.2.2.2.2.2.2.2.2.2.2.2.2.2.2.2.2.2.2.2.2.2.2.2.2.2.1, h.2.2.2.2.2.2.2.2.2.2.2.2.2.2.2.2.2.2.2.2.2.2.2.2.2.2.2.2.2.2.2.2.2.2.2.2.2.2.2.2.2.2.2.2.2.2.1, h.2.2.2.2.2.2.2.2.2.2.2.2.2.2.2.2.2.2.2.2.2.2.2.2.2.2.2.2.2.2.2.2.2.2.2.2.2.2.2.2.2.2.2.2.2.2.2.1, h.2.2.2.2.2.2.2.2.2.2.2.2.2.2.2.2.2.2.2.2.2.2.2.2.2.2.2.2.2.2.2.2.2.2.2.2.2.2.2.2.2.2.2.2.2.2.2.2.1, h.2.2.2.2.2.2.2.2.2.2.2.2.2.2.2.2.2.2.2.2.2.2.2.2.2.2.2.2.2.2.2.2.2.2.2.2.2.2.2.2.2.2.2.2.2.2.2.2.2.2.1, h.2.2.2.2.2.2.2.2.2.2.2.2.2.2.2.2.2.2.2.2.2.2.2.2.2.2.2.2.2.2.2.2.2.2.2.2.2.2.2.2.2.2.2.2.2.2.2.2.2.2.2.1, h.2.2.2.2.2.2.2.2.2.2.2.2.2.2.2.2.2.2.2.2.2.2.2.2.2.2.2.2.2.2.2.2.2.2.2.2.2.2.2.2.2.2.2.2.2.2.2.2.2.2.2.2.1, h.2.2.2.2.2.2.2.2.2.2.2.2.2.2.2.2.2.2.2.2.2.2.2.2.2.2.2.2.2.2.2.2.2.2.2.2.2.2.2.2.2.2.2.2.2.2.2.2.2.2.2.2.2.1, h.2.2.2.2.2.2.2.2.2.2.2.2.2.2.2.2.2.2.2.2.2.2.2.2.2.2.2.2.2.2.2.2.2.2.2.2.2.2.2.2.2.2.2.2.2.2.2.2.2.2.2.2.2.2.1, h.2.2.2.2.2.2.2.2.2.2.2.2.2.2.2.2.2.2.2.2.2.2.2.2.2.2.2.2.2.2.2.2.2.2.2.2.2.2.2.2.2.2.2.2.2.2.2.2.2.2.2.2.2.2.2.1, h.2.2.2.2.2.2.2.2.2.2.2.2.2.2.2.2.2.2.2.2.2.2.2.2.2.2.2.2.2.2.2.2.2.2.2.2.2.2.2.2.2.2.2.2.2.2.2.2.2.2.2.2.2.2.2.2.1, h.2.2.2.2.2.2.2.2.2.2.2.2.2.2.2.2.2.2.2.2.2.2.2.2.2.2.2.2.2.2.2.2.2.2.2.2.2.2.2.2.2.2.2.2.2.2.2.2.2.2.2.2.2.2.2.2.2.1, h.2.2.2.2.2.2.2.2.2.2.2.2.2.2.2.2.2.2.2.2.2.2.2.2.2.2.2.2.2.2.2.2.2.2.2.2.2.2.2.2.2.2.2.2.2.2.2.2.2.2.2.2.2.2.2.2.2.2.1, h.2.2.2.2.2.2.2.2.2.2.2.2.2.2.2.2.2.2.2.2.2.2.2.2.2.2.2.2.2.2.2.2.2.2.2.2.2.2.2.2.2.2.2.2.2.2.2.2.2.2.2.2.2.2.2.2.2.2.2.1, h.2.2.2.2.2.2.2.2.2.2.2.2.2.2.2.2.2.2.2.2.2.2.2.2.2.2.2.2.2.2.2.2.2.2.2.2.2.2.2.2.2.2.2.2.2.2.2.2.2.2.2.2.2.2.2.2.2.2.2.2⟩
theorem Km5_I36 {u v : St} (h : Km5 u v) : fI v 0 36 = fI u 0 36 := h.2.2.2.2.2.2.2.2.2.1
theorem Km5_A5 {u v : St} (h : Km5 u v) : fA v 5 = fA u 5 := h.2.2.2.2.2.2.2.2.2.2.2.2.2.2.2.2.2.2.2.2.2.2.2.2.1
theorem wd_1928 : (Cond.methodLink "WebCourtModel" (463 : Nat) ⟨"WebCourtModel", "isRest", "(I)Z"⟩) ∈ gtb := gtb_c8 139 (by decide +kernel) rfl
theorem wd_1930 : (Cond.instanceMethod ⟨"WebCourtModel", "isRest", "(I)Z"⟩) ∈ gtb := gtb_c8 141 (by decide +kernel) rfl
theorem wd_101 : (Cond.selects "WebCourtModel" ⟨"WebCourtModel", "isRest", "(I)Z"⟩ ⟨"WebCourtModel", "isRest", "(I)Z"⟩) ∈ gtb := gtb_p 101 (by decide +kernel) rfl
theorem hd_yX11_isRest : yX11_isRest.cls = RX11 ∧ yX11_isRest.cls ≠ "java/lang/invoke/MethodHandle" ∧ yX11_isRest.cls ≠ "java/lang/invoke/VarHandle" ∧ (parseMethodDescriptor yX11_isRest.desc).map (fun d => d.parameters.length) = some 1 := by decide +kernel
theorem wd_1405 : (Cond.fieldLink "WebCourtModel" (106 : Nat) "WebCourtModel" "laidRow" "[I") ∈ gtb := gtb_c6 96 (by decide +kernel) rfl
theorem gf_RX11_106 {p : Program} {l : Launch} {e : Env} {R : Room} {s : State} {m : MethodId} {args : Array Value} {below : List Frame} {meth : Method} {c : Code} {H : Heap} {locs : List Loc} {cells slots : Nat} {Q : State → Prop} {cc : ByteArray} {pc nL : Nat} {ls : Array Slot} {rest : List Value} {D : va_G} {cy : Nat → ClassId} {A : Nat → Prop} {ws : va_W} {b : Nat} {fs : List Value} {v : Value} (C : Cx p s m args c cc nL RX11 D cy A) (hO : Wo D A ws s.heap H locs) (q0 : Nat) (he : ws[q0]? = some (b, .inr (11, fs))) (hv : fs[49]? = some v) (hdg : decode cc pc = .ok (.getfield 106, 3)) (kk : W p l e R s m args below meth c H locs cells slots Q (F0 m (pc + 3) ls (v :: rest))) : W p l e R s m args below meth c H locs cells slots Q (F0 m pc ls (.ref b :: rest)) := gF (k := 49) C hO q0 he rfl inFX11 (by decide) wd_1405 rfl hv hdg kk
theorem Km5_wA30 {u v : St} {D : va_G} {A : Nat → Prop} {cy : Nat → ClassId} {a : Nat → Nat} {hp H : Heap} {locs : List Loc} {f : Nat → Int32} (_ : Wo D A (mW cy a (sA v 30 f)) hp H locs) (h : Km5 u v) : Km5 u (sA v 30 f) := ⟨h.1, h.2.1, h.2.2.1, h.2.2.2.1, h.2.2.2.2.1, h.2.2.2.2.2.1, h.2.2.2.2.2.2.1, h.2.2.2.2.2.2.2.1, h.2.2.2.2.2.2.2.2.1, h.2.2.2.2.2.2.2.2.2.1, h.2.2.2.2.2.2.2.2.2.2.1, h.2.2.2.2.2.2.2.2.2.2.2.1, h.2.2.2.2.2.2.2.2.2.2.2.2.1, h.2.2.2.2.2.2.2.2.2.2.2.2.2.1, h.2.2.2.2.2.2.2.2.2.2.2.2.2.2.1, h.2.2.2.2.2.2.2.2.2.2.2.2.2.2.2.1, h.2.2.2.2.2.2.2.2.2.2.2.2.2.2.2.2.1, h.2.2.2.2.2.2.2.2.2.2.2.2.2.2.2.2.2.1, h.2.2.2.2.2.2.2.2.2.2.2.2.2.2.2.2.2.2.1, h.2.2.2.2.2.2.2.2.2.2.2.2.2.2.2.2.2.2.2.1, h.2.2.2.2.2.2.2.2.2.2.2.2.2.2.2.2.2.2.2.2.1, h.2.2.2.2.2.2.2.2.2.2.2.2.2.2.2.2.2.2.2.2.2.1, h.2.2.2.2.2.2.2.2.2.2.2.2.2.2.2.2.2.2.2.2.2.2.1, h.2.2.2.2.2.2.2.2.2.2.2.2.2.2.2.2.2.2.2.2.2.2.2.1, h.2.2.2.2.2.2.2.2.2.2.2.2.2.2.2.2.2.2.2.2.2.2.2.2.1, h.2.2.2.2.2.2.2.2.2.2.2.2.2.2.2.2.2.2.2.2.2.2.2.2.2.1, h.2.2.2.2.2.2.2.2.2.2.2.2.2.2.2.2.2.2.2.2.2.2.2.2.2.2.1, h.2.2.2.2.2.2.2.2.2.2.2.2.2.2.2.2.2.2.2.2.2.2.2.2.2.2.2.1, h.2.2.2.2.2.2.2.2.2.2.2.2.2.2.2.2.2.2.2.2.2.2.2.2.2.2.2.2.1, h.2.2.2.2.2.2.2.2.2.2.2.2.2.2.2.2.2.2.2.2.2.2.2.2.2.2.2.2.2.1, h.2.2.2.2.2.2.2.2.2.2.2.2.2.2.2.2.2.2.2.2.2.2.2.2.2.2.2.2.2.2.1, h.2.2.2.2.2.2.2.2.2.2.2.2.2.2.2.2.2.2.2.2.2.2.2.2.2.2.2.2.2.2.2.1, h.2.2.2.2.2.2.2.2.2.2.2.2.2.2.2.2.2.2.2.2.2.2.2.2.2.2.2.2.2.2.2.2.1, h.2.2.2.2.2.2.2.2.2.2.2.2.2.2.2.2.2.2.2.2.2.2.2.2.2.2.2.2.2.2.2.2.2.1, h.2.2.2.2.2.2.2.2.2.2.2.2.2.2.2.2.2.2.2.2.2.2.2.2.2.2.2.2.2.2.2.2.2.2.1, h.2.2.2.2.2.2.2.2.2.2.2.2.2.2.2.2.2.2.2.2.2.2.2.2.2.2.2.2.2.2.2.2.2.2.2.1, h.2.2.2.2.2.2.2.2.2.2.2.2.2.2.2.2.2.2.2.2.2.2.2.2.2.2.2.2.2.2.2.2.2.2.2.2.1, h.2.2.2.2.2.2.2.2.2.2.2.2.2.2.2.2.2.2.2.2.2.2.2.2.2.2.2.2.2.2.2.2.2.2.2.2.2.1, h.2.2.2.2.2.2.2.2.2.2.2.2.2.2.2.2.2.2.2.2.2.2.2.2.2.2.2.2.2.2.2.2.2.2.2.2.2.2.1, h.2.2.2.2.2.2.2.2.2.2.2.2.2.2.2.2.2.2.2.2.2.2.2.2.2.2.2.2.2.2.2.2.2.2.2.2.2.2.2.1, h.2.2.2.2.2.2.2.2.2.2.2.2.2.2.2.2.2.2.2.2.2.2.2.2.2.2.2.2.2.2.2.2.2.2.2.2.2.2.2.2.1, h.2.2.2.2.2.2.2.2.2.2.2.2.2.2.2.2.2.2.2.2.2.2.2.2.2.2.2.2.2.2.2.2.2.2.2.2.2.2.2.2.2.1, h.2.2.2.2.2.2.2.2.2.2.2.2.2.2.2.2.2.2.2.2.2.2.2.2.2.2.2.2.2.2.2.2.2.2.2.2.2.2.2.2.2.2.1, h.2.2.2.2.2.2.2.2.2.2.2.2.2.2.2.2.2.2.2.2.2.2.2.2.2.2.2.2.2.2.2.2.2.2.2.2.2.2.2.2.2.2.2.1, h.2.2.2.2.2.2.2.2.2.2.2.2.2.2.2.2.2.2.2.2.2.2.2.2.2.2.2.2.2.2.2.2.2.2.2.2.2.2.2.2.2.2.2.2.1, h.2.2.2.2.2.2.2.2.2.2.2.2.2.2.2.2.2.2.2.2.2.2.2.2.2.2.2.2.2.2.2.2.2.2.2.2.2.2.2.2.2.2.2.2.2.1, h.2.2.2.2.2.2.2.2.2.2.2.2.2.2.2.2.2.2.2.2.2.2.2.2.2.2.2.2.2.2.2.2.2.2.2.2.2.2.2.2.2.2.2.2.2.2.1, h.2.2.2.2.2.2.2.2.2.2.2.2.2.2.2.2.2.2.2.2.2.2.2.2.2.2.2.2.2.2.2.2.2.2.2.2.2.2.2.2.2.2.2.2.2.2.2.1, h.2.2.2.2.2.2.2.2.2.2.2.2.2.2.2.2.2.2.2.2.2.2.2.2.2.2.2.2.2.2.2.2.2.2.2.2.2.2.2.2.2.2.2.2.2.2.2.2.1, h.2.2.2.2.2.2.2.2.2.2.2.2.2.2.2.2.2.2.2.2.2.2.2.2.2.2.2.2.2.2.2.2.2.2.2.2.2.2.2.2.2.2.2.2.2.2.2.2.2.1, h.2.2.2.2.2.2.2.2.2.2.2.2.2.2.2.2.2.2.2.2.2.2.2.2.2.2.2.2.2.2.2.2.2.2.2.2.2.2.2.2.2.2.2.2.2.2.2.2.2.2.1, h.2.2.2.2.2.2.2.2.2.2.2.2.2.2.2.2.2.2.2.2.2.2.2.2.2.2.2.2.2.2.2.2.2.2.2.2.2.2.2.2.2.2.2.2.2.2.2.2.2.2.2.1, h.2.2.2.2.2.2.2.2.2.2.2.2.2.2.2.2.2.2.2.2.2.2.2.2.2.2.2.2.2.2.2.2.2.2.2.2.2.2.2.2.2.2.2.2.2.2.2.2.2.2.2.2.1, h.2.2.2.2.2.2.2.2.2.2.2.2.2.2.2.2.2.2.2.2.2.2.2.2.2.2.2.2.2.2.2.2.2.2.2.2.2.2.2.2.2.2.2.2.2.2.2.2.2.2.2.2.2.1, h.2.2.2.2.2.2.2.2.2.2.2.2.2.2.2.2.2.2.2.2.2.2.2.2.2.2.2.2.2.2.2.2.2.2.2.2.2.2.2.2.2.2.2.2.2.2.2.2.2.2.2.2.2.2.1, h.2.2.2.2.2.2.2.2.2.2.2.2.2.2.2.2.2.2.2.2.2.2.2.2.2.2.2.2.2.2.2.2.2.2.2.2.2.2.2.2.2.2.2.2.2.2.2.2.2.2.2.2.2.2.2.1, h.2.2.2.2.2.2.2.2.2.2.2.2.2.2.2.2.2.2.2.2.2.2.2.2.2.2.2.2.2.2.2.2.2.2.2.2.2.2.2.2.2.2.2.2.2.2.2.2.2.2.2.2.2.2.2.2.1, h.2.2.2.2.2.2.2.2.2.2.2.2.2.2.2.2.2.2.2.2.2.2.2.2.2.2.2.2.2.2.2.2.2.2.2.2.2.2.2.2.2.2.2.2.2.2.2.2.2.2.2.2.2.2.2.2.2.1, h.2.2.2.2.2.2.2.2.2.2.2.2.2.2.2.2.2.2.2.2.2.2.2.2.2.2.2.2.2.2.2.2.2.2.2.2.2.2.2.2.2.2.2.2.2.2.2.2.2.2.2.2.2.2.2.2.2.2⟩
set_option maxHeartbeats 4000000 in
set_option maxRecDepth 100000 in
theorem T_X11_rivals (l : Launch) (D : va_G) (cy : Nat → ClassId) (a : Nat → Nat) (u : St) (hJ : MI a u) (x1 : Int32) (x2 : Int32)  : Mi l D cy (mW cy a) yX11_rivals (.code yX11_rivals cX11_rivals 5 (some .int)) (rmo 7 157) [.ref (a 0), .int x1, .int x2] u (fun (r : Int32) (u' : St) => (MI a u') ∧ (Km5 u u')) := by
  refine Mi.of (own := RX11) rfl (by decide) (Nat.le_of_ble_eq_true rfl) ?_
  have hT : Km5 u u := Km5.rf
  have hJ0 := hJ
  intro p e s m below meth c A Q ls C hret hO hl
  obtain ⟨hx, hb, hml, hown, ht, hK, hA⟩ := id C
  have hl : lv_has ls 5 [(0, .ref (a 0)), (1, .int x1), (2, .int x2)] := hl
  refine lv_aload_n hx hb dX11_rivals_0 rfl (lv_at hl 0 rfl) ?_
  refine lv_iconst (v := 0) hx hb dX11_rivals_1 (by decide) ?_
  refine pf_RX11_398 C hO 0 mW_0 (Nat.le_of_ble_eq_true rfl) mW_s0_50 dX11_rivals_2 (fun H locs hO => ?_)
  have hT := Km5_wI50 (x := 0) hT
  have hJ := MIs_50 (v := 0) hJ (by first | decide | omega)
  refine lv_aload_n hx hb dX11_rivals_5 rfl (lv_at hl 0 rfl) ?_
  refine lv_iload_n hx hb dX11_rivals_6 rfl (lv_at hl 1 rfl) ?_
  have g1 : 0 ≤ (fI u 0 36).toInt ∧ (fI u 0 36).toInt ≤ 1 := by have h := MI_36 hJ0; exact h
  have g2 : 0 ≤ (fA u 6 ((fI u 0 36)).toNatClampNeg).toInt ∧ (fA u 6 ((fI u 0 36)).toNatClampNeg).toInt ≤ 6 := by have h := MI_A6 hJ0 ((fI u 0 36)).toNatClampNeg; exact h
  refine cVi (w := mW cy a) (As := [.int x1]) (rest := []) C hO (T_X11_isHeld l D cy a _ (by exact hJ) ((fA u 6 ((fI u 0 36)).toNatClampNeg)) (by exact rfl) (x1)) (cwV 1 ht (gV wd_1797 wd_1799 wd_91 wd_121 wd_1800) rfl rfl rfl hd_yX11_isHeld ⟨Nat.le_of_ble_eq_true rfl, Nat.le_of_ble_eq_true rfl⟩) 0 rfl mW_0 rfl rfl hl.1 (Nat.le_of_ble_eq_true rfl) dX11_rivals_7 rfl ⟨Nat.zero_le _, Nat.zero_le _⟩ (fun r3 u4 H locs hp5 hO => ?_)
  obtain ⟨hr3, hu4⟩ := hp5
  rw [hu4] at hO
  rcases hr3 with ⟨hcr3, hvr3⟩ | ⟨hcr3, hvr3⟩
  · subst hvr3
    refine bn_eq (X := 1) hx hb dX11_rivals_10 rfl (by omega) ?_ (tgt := 33) (by decide)
    refine lv_aload_n hx hb dX11_rivals_13 rfl (lv_at hl 0 rfl) ?_
    refine lv_iload_n hx hb dX11_rivals_14 rfl (lv_at hl 2 rfl) ?_
    refine cVi (w := mW cy a) (As := [.int x2]) (rest := []) C hO (T_X11_isHeld l D cy a _ (by exact hJ) ((fA u 6 ((fI u 0 36)).toNatClampNeg)) (by exact rfl) (x2)) (cwV 1 ht (gV wd_1797 wd_1799 wd_91 wd_121 wd_1800) rfl rfl rfl hd_yX11_isHeld ⟨Nat.le_of_ble_eq_true rfl, Nat.le_of_ble_eq_true rfl⟩) 0 rfl mW_0 rfl rfl hl.1 (Nat.le_of_ble_eq_true rfl) dX11_rivals_15 rfl ⟨Nat.zero_le _, Nat.zero_le _⟩ (fun r6 u7 H locs hp8 hO => ?_)
    obtain ⟨hr6, hu7⟩ := hp8
    rw [hu7] at hO
    rcases hr6 with ⟨hcr6, hvr6⟩ | ⟨hcr6, hvr6⟩
    · subst hvr6
      refine bn_eq (X := 1) hx hb dX11_rivals_18 rfl (by omega) ?_ (tgt := 33) (by decide)
      refine lv_iload_n hx hb dX11_rivals_21 rfl (lv_at hl 1 rfl) ?_
      refine lv_iload_n hx hb dX11_rivals_22 rfl (lv_at hl 2 rfl) ?_
      refine cs_eq (tgt := 33) (X := (x1).toInt) (Y := (x2).toInt) hx hb dX11_rivals_23 (by decide) rfl rfl (fun c9 => ?_) (fun c9 => ?_)
      · refine lv_iconst (v := (-1)) hx hb dX11_rivals_33 (by decide) ?_
        refine hret _ _ _ _ _ _ dX11_rivals_34 rfl ?_ hO
        exact ⟨hJ, hT⟩
      · refine lv_aload_n hx hb dX11_rivals_26 rfl (lv_at hl 0 rfl) ?_
        have g10 : 0 ≤ (fA u 5 ((fI u 0 36)).toNatClampNeg).toInt ∧ (fA u 5 ((fI u 0 36)).toNatClampNeg).toInt ≤ 8 := by have h := MI_A5 hJ0 ((fI u 0 36)).toNatClampNeg; exact h
        refine cVi (w := mW cy a) (As := []) (rest := []) C hO (T_X11_pleads l D cy a _ (by exact hJ) ((fA u 5 ((fI u 0 36)).toNatClampNeg)) (by exact rfl)) (cwV 0 ht (gV wd_1745 wd_1747 wd_82 wd_121 wd_1748) rfl rfl rfl hd_yX11_pleads ⟨Nat.le_of_ble_eq_true rfl, Nat.le_of_ble_eq_true rfl⟩) 0 rfl mW_0 rfl rfl hl.1 (Nat.le_of_ble_eq_true rfl) dX11_rivals_27 rfl ⟨Nat.zero_le _, Nat.zero_le _⟩ (fun r11 u12 H locs hp13 hO => ?_)
        obtain ⟨hr11, hu12⟩ := hp13
        refine tE hr11 ?_
        rw [hu12] at hO
        refine bs_ne (tgt := 35) (X := ((fA u 5 ((fI u 0 36)).toNatClampNeg)).toInt) hx hb dX11_rivals_30 (by decide) rfl (fun c14 => ?_) (fun c14 => ?_)
        · refine lv_aload_n hx hb dX11_rivals_35 rfl (lv_at hl 0 rfl) ?_
          refine lv_iload_n hx hb dX11_rivals_36 rfl (lv_at hl 1 rfl) ?_
          refine lv_iload_n hx hb dX11_rivals_37 rfl (lv_at hl 2 rfl) ?_
          refine cVv (w := mW cy a) (As := [.int x1, .int x2]) (rest := []) C hO (T_X11_layVerdicts l D cy a _ (by exact hJ) (x1) (x2) (by first | omega | decide) (by first | omega | decide)) (cwV 2 ht (gV wd_1924 wd_1926 wd_100 wd_121 wd_1927) rfl rfl rfl hd_yX11_layVerdicts ⟨Nat.le_of_ble_eq_true rfl, Nat.le_of_ble_eq_true rfl⟩) 0 rfl mW_0 rfl rfl hl.1 (Nat.le_of_ble_eq_true rfl) dX11_rivals_38 rfl ⟨Nat.zero_le _, Nat.zero_le _⟩ (fun u16 H locs hp17 hO => ?_)
          obtain ⟨hJ, hTu16⟩ := hp17
          have hT : Km5 u u16 := Km5.tr (by exact hT) (Km4_to_Km5 hTu16)
          refine lv_iconst (v := 0) hx hb dX11_rivals_41 (by decide) ?_
          refine lv_istore_n (lv' := [(3, .int 0), (0, .ref (a 0)), (1, .int x1), (2, .int x2)]) hx hb dX11_rivals_42 rfl hl (by decide) rfl (fun ls hl => ?_)
          refine lv_iconst (v := 0) hx hb dX11_rivals_43 (by decide) ?_
          refine lv_istore (lv' := [(4, .int 0), (3, .int 0), (0, .ref (a 0)), (1, .int x1), (2, .int x2)]) hx hb dX11_rivals_44 hl (by decide) rfl (fun ls hl => ?_)
          have LP_46_k19 : ∀ (n : Nat) (u18 : St) (H : Heap) (locs : List Loc) (ls : Array Slot) (i_k19 : Int32) (w3_k19 : Int32), Wo D A (mW cy a u18) s.heap H locs → lv_has ls 5 [(4, .int i_k19), (3, .int w3_k19), (0, .ref (a 0)), (1, .int x1), (2, .int x2)] → MI a u18 → Km5 u u18 → 0 ≤ i_k19.toInt ∧ i_k19.toInt ≤ 64 → 64 - i_k19.toInt < (n : Int) → W p l e (rmo 7 157) s m [.ref (a 0), .int x1, .int x2].toArray below meth c H locs 0 0 Q (F0 m 46 ls []) := by
            intro n
            induction n with
            | zero =>
              intro u18 H locs ls i_k19 w3_k19 hO hl hJ hT iv0_k19 hm_k19
              exact absurd hm_k19 (by omega)
            | succ n ih_k19 =>
              intro u18 H locs ls i_k19 w3_k19 hO hl hJ hT iv0_k19 hm_k19
              refine lv_iload hx hb dX11_rivals_46 (lv_at hl 0 rfl) ?_
              refine lv_bipush (v := 64) hx hb dX11_rivals_48 (by decide) ?_
              refine cs_ge (tgt := 129) (X := (i_k19).toInt) (Y := 64) hx hb dX11_rivals_50 (by decide) rfl rfl (fun c20 => ?_) (fun c20 => ?_)
              · refine lv_iload_n hx hb dX11_rivals_129 rfl (lv_at hl 1 rfl) ?_
                refine hret _ _ _ _ _ _ dX11_rivals_130 rfl ?_ hO
                exact ⟨hJ, hT⟩
              · refine lv_aload_n hx hb dX11_rivals_53 rfl (lv_at hl 2 rfl) ?_
                refine lv_iload hx hb dX11_rivals_54 (lv_at hl 0 rfl) ?_
                refine lv_bipush (v := 8) hx hb dX11_rivals_56 (by decide) ?_
                refine lv_idiv hx hb dX11_rivals_58 (i_ne0 (X := 8) rfl (by omega)) ?_
                refine lv_topi (fun z21 ez21 => ?_)
                have d22 := i_div (x := i_k19) (y := 8) rfl (d := 8) rfl (by omega) (by decide)
                rw [← ez21] at d22
                have g23 : 0 ≤ (fI u 0 36).toInt ∧ (fI u 0 36).toInt ≤ 1 := by have h := MI_36 hJ0; exact h
                have g24 : 0 ≤ (fA u 5 ((fI u 0 36)).toNatClampNeg).toInt ∧ (fA u 5 ((fI u 0 36)).toNatClampNeg).toInt ≤ 8 := by have h := MI_A5 hJ0 ((fI u 0 36)).toNatClampNeg; exact h
                refine cVi (w := mW cy a) (As := [.int z21]) (rest := []) C hO (T_X11_isPlea l D cy a _ (by exact hJ) ((fA u 5 ((fI u 0 36)).toNatClampNeg)) (by exact (Eq.trans (congrArg (fun z : Int32 => fA _ 5 z.toNatClampNeg) (Km5_I36 hT)) (congrFun (Km5_A5 hT) _))) (z21)) (cwV 1 ht (gV wd_1741 wd_1743 wd_81 wd_121 wd_1744) rfl rfl rfl hd_yX11_isPlea ⟨Nat.le_of_ble_eq_true rfl, Nat.le_of_ble_eq_true rfl⟩) 0 rfl mW_0 rfl rfl hl.1 (Nat.le_of_ble_eq_true rfl) dX11_rivals_59 rfl ⟨Nat.zero_le _, Nat.zero_le _⟩ (fun r25 u26 H locs hp27 hO => ?_)
                obtain ⟨hr25, hu26⟩ := hp27
                rw [hu26] at hO
                rcases hr25 with ⟨hcr25, hvr25⟩ | ⟨hcr25, hvr25⟩
                · subst hvr25
                  refine bn_eq (X := 1) hx hb dX11_rivals_62 rfl (by omega) ?_ (tgt := 123) (by decide)
                  refine lv_aload_n hx hb dX11_rivals_65 rfl (lv_at hl 2 rfl) ?_
                  refine lv_iload hx hb dX11_rivals_66 (lv_at hl 0 rfl) ?_
                  refine lv_bipush (v := 8) hx hb dX11_rivals_68 (by decide) ?_
                  refine lv_irem hx hb dX11_rivals_70 (i_ne0 (X := 8) rfl (by omega)) ?_
                  refine lv_topi (fun z28 ez28 => ?_)
                  have d29 := i_remj (x := i_k19) (y := 8) rfl (d := 8) rfl (by omega) (by decide)
                  rw [← ez28] at d29
                  refine cVi (w := mW cy a) (As := [.int z28]) (rest := []) C hO (T_X11_isPlea l D cy a _ (by exact hJ) ((fA u 5 ((fI u 0 36)).toNatClampNeg)) (by exact (Eq.trans (congrArg (fun z : Int32 => fA _ 5 z.toNatClampNeg) (Km5_I36 hT)) (congrFun (Km5_A5 hT) _))) (z28)) (cwV 1 ht (gV wd_1741 wd_1743 wd_81 wd_121 wd_1744) rfl rfl rfl hd_yX11_isPlea ⟨Nat.le_of_ble_eq_true rfl, Nat.le_of_ble_eq_true rfl⟩) 0 rfl mW_0 rfl rfl hl.1 (Nat.le_of_ble_eq_true rfl) dX11_rivals_71 rfl ⟨Nat.zero_le _, Nat.zero_le _⟩ (fun r30 u31 H locs hp32 hO => ?_)
                  obtain ⟨hr30, hu31⟩ := hp32
                  rw [hu31] at hO
                  rcases hr30 with ⟨hcr30, hvr30⟩ | ⟨hcr30, hvr30⟩
                  · subst hvr30
                    refine bn_eq (X := 1) hx hb dX11_rivals_74 rfl (by omega) ?_ (tgt := 123) (by decide)
                    refine lv_aload_n hx hb dX11_rivals_77 rfl (lv_at hl 2 rfl) ?_
                    refine lv_iload hx hb dX11_rivals_78 (lv_at hl 0 rfl) ?_
                    refine cVi (w := mW cy a) (As := [.int i_k19]) (rest := []) C hO (T_X11_isRest l D cy a _ (by exact hJ) (i_k19) (by first | omega | decide)) (cwV 1 ht (gV wd_1928 wd_1930 wd_101 wd_121 wd_1931) rfl rfl rfl hd_yX11_isRest ⟨Nat.le_of_ble_eq_true rfl, Nat.le_of_ble_eq_true rfl⟩) 0 rfl mW_0 rfl rfl hl.1 (Nat.le_of_ble_eq_true rfl) dX11_rivals_80 rfl ⟨Nat.zero_le _, Nat.zero_le _⟩ (fun r33 u34 H locs hp35 hO => ?_)
                    obtain ⟨hr33, hu34⟩ := hp35
                    have gr33 : 0 ≤ r33.toInt ∧ r33.toInt ≤ 1 := by rcases hr33 with h | h <;> rw [h] <;> decide
                    rw [hu34] at hO
                    refine bs_ne (tgt := 89) (X := (r33).toInt) hx hb dX11_rivals_83 (by decide) rfl (fun c36 => ?_) (fun c36 => ?_)
                    · refine lv_iload_n hx hb dX11_rivals_89 rfl (lv_at hl 1 rfl) ?_
                      refine bs_ne (tgt := 120) (X := (w3_k19).toInt) hx hb dX11_rivals_90 (by decide) rfl (fun c37 => ?_) (fun c37 => ?_)
                      · obtain ⟨z38, ez38⟩ : ∃ z : Int32, z = w3_k19 + Int32.ofInt 1 := ⟨_, rfl⟩
                        refine lv_iinc (v := z38) (lv' := [(3, .int z38), (4, .int i_k19), (0, .ref (a 0)), (1, .int x1), (2, .int x2)]) hx hb dX11_rivals_120 hl (k := 1) rfl ez38.symm (by decide) rfl (fun ls hl => ?_)
                        obtain ⟨z39, ez39⟩ : ∃ z : Int32, z = i_k19 + Int32.ofInt 1 := ⟨_, rfl⟩
                        have e40 : z39.toInt = (i_k19).toInt + 1 := by rw [ez39]; exact i_add rfl rfl (by omega)
                        refine lv_iinc (v := z39) (lv' := [(4, .int z39), (3, .int z38), (0, .ref (a 0)), (1, .int x1), (2, .int x2)]) hx hb dX11_rivals_123 hl (k := 1) rfl ez39.symm (by decide) rfl (fun ls hl => ?_)
                        refine lv_goto (tgt := 46) hx hb dX11_rivals_126 (by decide) ?_
                        exact ih_k19 _ _ _ _ (z39) (z38) hO (lv_sub hl [0, 1, 2, 3, 4] rfl) (by exact hJ) (by exact hT) (by first | decide | omega) (by first | decide | omega)
                      · refine lv_aload_n hx hb dX11_rivals_93 rfl (lv_at hl 2 rfl) ?_
                        refine gf_RX11_106 (v := .ref (a 30)) C hO 0 mW_0 rfl dX11_rivals_94 ?_
                        refine lv_iconst (v := 0) hx hb dX11_rivals_97 (by decide) ?_
                        refine lv_iload hx hb dX11_rivals_98 (lv_at hl 0 rfl) ?_
                        refine lv_bipush (v := 8) hx hb dX11_rivals_100 (by decide) ?_
                        refine lv_idiv hx hb dX11_rivals_102 (i_ne0 (X := 8) rfl (by omega)) ?_
                        refine lv_topi (fun z41 ez41 => ?_)
                        have d42 := i_div (x := i_k19) (y := 8) rfl (d := 8) rfl (by omega) (by decide)
                        rw [← ez41] at d42
                        refine aIs C hO 30 mW_30 (i_in (X := 0) rfl (by omega) (by omega)) mW_s30 dX11_rivals_103 (fun H locs hO => ?_)
                        have hT := Km5_wA30 hO hT
                        have hJ := MIsA_30 hO hJ
                        refine lv_aload_n hx hb dX11_rivals_104 rfl (lv_at hl 2 rfl) ?_
                        refine gf_RX11_106 (v := .ref (a 30)) C hO 0 mW_0 rfl dX11_rivals_105 ?_
                        refine lv_iconst (v := 1) hx hb dX11_rivals_108 (by decide) ?_
                        refine lv_iload hx hb dX11_rivals_109 (lv_at hl 0 rfl) ?_
                        refine lv_bipush (v := 8) hx hb dX11_rivals_111 (by decide) ?_
                        refine lv_irem hx hb dX11_rivals_113 (i_ne0 (X := 8) rfl (by omega)) ?_
                        refine lv_topi (fun z43 ez43 => ?_)
                        have d44 := i_remj (x := i_k19) (y := 8) rfl (d := 8) rfl (by omega) (by decide)
                        rw [← ez43] at d44
                        refine aIs C hO 30 mW_30 (i_in (X := 1) rfl (by omega) (by omega)) mW_s30 dX11_rivals_114 (fun H locs hO => ?_)
                        have hT := Km5_wA30 hO hT
                        have hJ := MIsA_30 hO hJ
                        refine lv_aload_n hx hb dX11_rivals_115 rfl (lv_at hl 2 rfl) ?_
                        refine lv_iconst (v := 2) hx hb dX11_rivals_116 (by decide) ?_
                        refine pf_RX11_398 C hO 0 mW_0 (Nat.le_of_ble_eq_true rfl) mW_s0_50 dX11_rivals_117 (fun H locs hO => ?_)
                        have hT := Km5_wI50 (x := 2) hT
                        have hJ := MIs_50 (v := 2) hJ (by first | decide | omega)
                        obtain ⟨z45, ez45⟩ : ∃ z : Int32, z = w3_k19 + Int32.ofInt 1 := ⟨_, rfl⟩
                        have e46 : z45.toInt = (w3_k19).toInt + 1 := by rw [ez45]; exact i_add rfl rfl (by omega)
                        refine lv_iinc (v := z45) (lv' := [(3, .int z45), (4, .int i_k19), (0, .ref (a 0)), (1, .int x1), (2, .int x2)]) hx hb dX11_rivals_120 hl (k := 1) rfl ez45.symm (by decide) rfl (fun ls hl => ?_)
                        obtain ⟨z47, ez47⟩ : ∃ z : Int32, z = i_k19 + Int32.ofInt 1 := ⟨_, rfl⟩
                        have e48 : z47.toInt = (i_k19).toInt + 1 := by rw [ez47]; exact i_add rfl rfl (by omega)
                        refine lv_iinc (v := z47) (lv' := [(4, .int z47), (3, .int z45), (0, .ref (a 0)), (1, .int x1), (2, .int x2)]) hx hb dX11_rivals_123 hl (k := 1) rfl ez47.symm (by decide) rfl (fun ls hl => ?_)
                        refine lv_goto (tgt := 46) hx hb dX11_rivals_126 (by decide) ?_
                        exact ih_k19 _ _ _ _ (z47) (z45) hO (lv_sub hl [0, 1, 2, 3, 4] rfl) (by exact hJ) (by exact hT) (by first | decide | omega) (by first | decide | omega)
                    · refine lv_goto (tgt := 123) hx hb dX11_rivals_86 (by decide) ?_
                      obtain ⟨z49, ez49⟩ : ∃ z : Int32, z = i_k19 + Int32.ofInt 1 := ⟨_, rfl⟩
                      have e50 : z49.toInt = (i_k19).toInt + 1 := by rw [ez49]; exact i_add rfl rfl (by omega)
                      refine lv_iinc (v := z49) (lv' := [(4, .int z49), (3, .int w3_k19), (0, .ref (a 0)), (1, .int x1), (2, .int x2)]) hx hb dX11_rivals_123 hl (k := 0) rfl ez49.symm (by decide) rfl (fun ls hl => ?_)
                      refine lv_goto (tgt := 46) hx hb dX11_rivals_126 (by decide) ?_
                      exact ih_k19 _ _ _ _ (z49) (w3_k19) hO (lv_sub hl [0, 1, 2, 3, 4] rfl) (by exact hJ) (by exact hT) (by first | decide | omega) (by first | decide | omega)
                  · subst hvr30
                    refine bt_eq (tgt := 123) (X := 0) hx hb dX11_rivals_74 (by decide) rfl (by omega) ?_
                    obtain ⟨z51, ez51⟩ : ∃ z : Int32, z = i_k19 + Int32.ofInt 1 := ⟨_, rfl⟩
                    have e52 : z51.toInt = (i_k19).toInt + 1 := by rw [ez51]; exact i_add rfl rfl (by omega)
                    refine lv_iinc (v := z51) (lv' := [(4, .int z51), (3, .int w3_k19), (0, .ref (a 0)), (1, .int x1), (2, .int x2)]) hx hb dX11_rivals_123 hl (k := 0) rfl ez51.symm (by decide) rfl (fun ls hl => ?_)
                    refine lv_goto (tgt := 46) hx hb dX11_rivals_126 (by decide) ?_
                    exact ih_k19 _ _ _ _ (z51) (w3_k19) hO (lv_sub hl [0, 1, 2, 3, 4] rfl) (by exact hJ) (by exact hT) (by first | decide | omega) (by first | decide | omega)
                · subst hvr25
                  refine bt_eq (tgt := 123) (X := 0) hx hb dX11_rivals_62 (by decide) rfl (by omega) ?_
                  obtain ⟨z53, ez53⟩ : ∃ z : Int32, z = i_k19 + Int32.ofInt 1 := ⟨_, rfl⟩
                  have e54 : z53.toInt = (i_k19).toInt + 1 := by rw [ez53]; exact i_add rfl rfl (by omega)
                  refine lv_iinc (v := z53) (lv' := [(4, .int z53), (3, .int w3_k19), (0, .ref (a 0)), (1, .int x1), (2, .int x2)]) hx hb dX11_rivals_123 hl (k := 0) rfl ez53.symm (by decide) rfl (fun ls hl => ?_)
                  refine lv_goto (tgt := 46) hx hb dX11_rivals_126 (by decide) ?_
                  exact ih_k19 _ _ _ _ (z53) (w3_k19) hO (lv_sub hl [0, 1, 2, 3, 4] rfl) (by exact hJ) (by exact hT) (by first | decide | omega) (by first | decide | omega)
          have zc55 : (0 : Int32).toInt = 0 := rfl
          exact LP_46_k19 4000 _ _ _ _ (0) (0) hO (lv_sub hl [0, 1, 2, 3, 4] rfl) (by exact hJ) (by exact hT) (by first | decide | omega) (by first | decide | omega)
        · refine lv_iconst (v := (-1)) hx hb dX11_rivals_33 (by decide) ?_
          refine hret _ _ _ _ _ _ dX11_rivals_34 rfl ?_ hO
          exact ⟨hJ, hT⟩
    · subst hvr6
      refine bt_eq (tgt := 33) (X := 0) hx hb dX11_rivals_18 (by decide) rfl (by omega) ?_
      refine lv_iconst (v := (-1)) hx hb dX11_rivals_33 (by decide) ?_
      refine hret _ _ _ _ _ _ dX11_rivals_34 rfl ?_ hO
      exact ⟨hJ, hT⟩
  · subst hvr3
    refine bt_eq (tgt := 33) (X := 0) hx hb dX11_rivals_10 (by decide) rfl (by omega) ?_
    refine lv_iconst (v := (-1)) hx hb dX11_rivals_33 (by decide) ?_
    refine hret _ _ _ _ _ _ dX11_rivals_34 rfl ?_ hO
    exact ⟨hJ, hT⟩
theorem dX11_lies_0 : decode cX11_lies 0 = .ok (.iload_n 1, 1) := by decide +kernel
theorem dX11_lies_1 : decode cX11_lies 1 = .ok (.iconst 0, 1) := by decide +kernel
theorem dX11_lies_2 : decode cX11_lies 2 = .ok (.aload_n 0, 1) := by decide +kernel
theorem dX11_lies_3 : decode cX11_lies 3 = .ok (.getfield 398, 3) := by decide +kernel
theorem dX11_lies_6 : decode cX11_lies 6 = .ok (.iconst 1, 1) := by decide +kernel
theorem dX11_lies_7 : decode cX11_lies 7 = .ok (.isub, 1) := by decide +kernel
theorem dX11_lies_8 : decode cX11_lies 8 = .ok (.invokestatic 374, 3) := by decide +kernel
theorem dX11_lies_11 : decode cX11_lies 11 = .ok (.ifCond .eq 12, 3) := by decide +kernel
theorem dX11_lies_14 : decode cX11_lies 14 = .ok (.aload_n 0, 1) := by decide +kernel
theorem dX11_lies_15 : decode cX11_lies 15 = .ok (.getfield 106, 3) := by decide +kernel
theorem dX11_lies_18 : decode cX11_lies 18 = .ok (.iload_n 1, 1) := by decide +kernel
theorem dX11_lies_19 : decode cX11_lies 19 = .ok (.iaload, 1) := by decide +kernel
theorem dX11_lies_20 : decode cX11_lies 20 = .ok (.goto 4, 3) := by decide +kernel
theorem dX11_lies_23 : decode cX11_lies 23 = .ok (.iconst (-1), 1) := by decide +kernel
theorem dX11_lies_24 : decode cX11_lies 24 = .ok (.ireturn, 1) := by decide +kernel
theorem wd_1863 : (Cond.code ⟨"WebCourtModel", "lies", "(I)I"⟩ prog_13_method_83_code (2 : Nat) (Option.some FieldType.int)) ∈ gtb := gtb_c8 74 (by decide +kernel) rfl
theorem gf_RX11_398 {p : Program} {l : Launch} {e : Env} {R : Room} {s : State} {m : MethodId} {args : Array Value} {below : List Frame} {meth : Method} {c : Code} {H : Heap} {locs : List Loc} {cells slots : Nat} {Q : State → Prop} {cc : ByteArray} {pc nL : Nat} {ls : Array Slot} {rest : List Value} {D : va_G} {cy : Nat → ClassId} {A : Nat → Prop} {ws : va_W} {b : Nat} {fs : List Value} {v : Value} (C : Cx p s m args c cc nL RX11 D cy A) (hO : Wo D A ws s.heap H locs) (q0 : Nat) (he : ws[q0]? = some (b, .inr (11, fs))) (hv : fs[50]? = some v) (hdg : decode cc pc = .ok (.getfield 398, 3)) (kk : W p l e R s m args below meth c H locs cells slots Q (F0 m (pc + 3) ls (v :: rest))) : W p l e R s m args below meth c H locs cells slots Q (F0 m pc ls (.ref b :: rest)) := gF (k := 50) C hO q0 he rfl inFX11 (by decide) wd_1406 rfl hv hdg kk
set_option maxHeartbeats 4000000 in
set_option maxRecDepth 100000 in
theorem T_X11_lies (l : Launch) (D : va_G) (cy : Nat → ClassId) (a : Nat → Nat) (u : St) (hJ : MI a u) (x1 : Int32)  : Mi l D cy (mW cy a) yX11_lies (.code yX11_lies cX11_lies 2 (some .int)) (rmo 1 22) [.ref (a 0), .int x1] u (fun (r : Int32) (u' : St) => u' = u) := by
  refine Mi.of (own := RX11) rfl (by decide) (Nat.le_of_ble_eq_true rfl) ?_
  have hT : Km0 u u := Km0.rf
  have hJ0 := hJ
  intro p e s m below meth c A Q ls C hret hO hl
  obtain ⟨hx, hb, hml, hown, ht, hK, hA⟩ := id C
  have hl : lv_has ls 2 [(0, .ref (a 0)), (1, .int x1)] := hl
  refine lv_iload_n hx hb dX11_lies_0 rfl (lv_at hl 1 rfl) ?_
  refine lv_iconst (v := 0) hx hb dX11_lies_1 (by decide) ?_
  refine lv_aload_n hx hb dX11_lies_2 rfl (lv_at hl 0 rfl) ?_
  have g1 : 0 ≤ (fI u 0 50).toInt ∧ (fI u 0 50).toInt ≤ 8 := by have h := MI_50 hJ0; exact h
  refine gf_RX11_398 (v := .int (fI u 0 50)) C hO 0 mW_0 rfl dX11_lies_3 ?_
  refine lv_iconst (v := 1) hx hb dX11_lies_6 (by decide) ?_
  refine lv_isub hx hb dX11_lies_7 ?_
  refine lv_topi (fun z2 ez2 => ?_)
  have e3 : z2.toInt = ((fI u 0 50)).toInt - 1 := by rw [ez2]; exact i_sub rfl rfl (by omega)
  refine cSi (w := mW cy a) (As := [.int x1, .int 0, .int z2]) (rest := []) C hO (T_X11_isIn l D cy a _ (by exact hJ) (x1) (0) (z2)) (va_cwS 3 ht (gSS wd_1722 wd_1723 wd_121 wd_1724) rfl rfl rfl hd_yX11_isIn ⟨Nat.le_of_ble_eq_true rfl, Nat.le_of_ble_eq_true rfl⟩)  rfl hl.1 (Nat.le_of_ble_eq_true rfl) dX11_lies_8 rfl ⟨Nat.zero_le _, Nat.zero_le _⟩ (fun r4 u5 H locs hp6 hO => ?_)
  obtain ⟨hr4, hu5⟩ := hp6
  rw [hu5] at hO
  have zz7 : (0 : Int32).toInt = 0 := rfl
  rcases hr4 with ⟨hcr4, hvr4⟩ | ⟨hcr4, hvr4⟩
  · subst hvr4
    refine bn_eq (X := 1) hx hb dX11_lies_11 rfl (by omega) ?_ (tgt := 23) (by decide)
    refine lv_aload_n hx hb dX11_lies_14 rfl (lv_at hl 0 rfl) ?_
    refine gf_RX11_106 (v := .ref (a 30)) C hO 0 mW_0 rfl dX11_lies_15 ?_
    refine lv_iload_n hx hb dX11_lies_18 rfl (lv_at hl 1 rfl) ?_
    refine aI C hO 30 mW_30 (i_in (X := (x1).toInt) rfl (by omega) (by omega)) dX11_lies_19 ?_
    refine tE (y := (fA u 30 (x1).toNatClampNeg)) (by exact rfl) ?_
    refine lv_goto (tgt := 24) hx hb dX11_lies_20 (by decide) ?_
    refine hret _ _ _ _ _ _ dX11_lies_24 rfl ?_ hO
    exact rfl
  · subst hvr4
    refine bt_eq (tgt := 23) (X := 0) hx hb dX11_lies_11 (by decide) rfl (by omega) ?_
    refine lv_iconst (v := (-1)) hx hb dX11_lies_23 (by decide) ?_
    refine hret _ _ _ _ _ _ dX11_lies_24 rfl ?_ hO
    exact rfl
