theorem dX11_power_0 : decode cX11_power 0 = .ok (.iconst 1, 1) := by decide +kernel
theorem dX11_power_1 : decode cX11_power 1 = .ok (.istore_n 2, 1) := by decide +kernel
theorem dX11_power_2 : decode cX11_power 2 = .ok (.iconst 0, 1) := by decide +kernel
theorem dX11_power_3 : decode cX11_power 3 = .ok (.istore_n 3, 1) := by decide +kernel
theorem dX11_power_4 : decode cX11_power 4 = .ok (.iload_n 3, 1) := by decide +kernel
theorem dX11_power_5 : decode cX11_power 5 = .ok (.iload_n 1, 1) := by decide +kernel
theorem dX11_power_6 : decode cX11_power 6 = .ok (.if_icmp .ge 13, 3) := by decide +kernel
theorem dX11_power_9 : decode cX11_power 9 = .ok (.iload_n 2, 1) := by decide +kernel
theorem dX11_power_10 : decode cX11_power 10 = .ok (.iload_n 0, 1) := by decide +kernel
theorem dX11_power_11 : decode cX11_power 11 = .ok (.imul, 1) := by decide +kernel
theorem dX11_power_12 : decode cX11_power 12 = .ok (.istore_n 2, 1) := by decide +kernel
theorem dX11_power_13 : decode cX11_power 13 = .ok (.iinc 3 1, 3) := by decide +kernel
theorem dX11_power_16 : decode cX11_power 16 = .ok (.goto (-12), 3) := by decide +kernel
theorem dX11_power_19 : decode cX11_power 19 = .ok (.iload_n 2, 1) := by decide +kernel
theorem dX11_power_20 : decode cX11_power 20 = .ok (.ireturn, 1) := by decide +kernel
theorem wd_1958 : (Cond.code ⟨"WebCourtModel", "power", "(II)I"⟩ prog_13_method_45_code (4 : Nat) (Option.some FieldType.int)) ∈ gtb := gtb_c8 169 (by decide +kernel) rfl
set_option maxHeartbeats 4000000 in
set_option maxRecDepth 100000 in
theorem T_X11_power_0 (l : Launch) (D : va_G) (cy : Nat → ClassId) (a : Nat → Nat) (u : St)    : Mi l D cy (mW cy a) yX11_power (.code yX11_power cX11_power 4 (some .int)) (rmo 0 0) [.int 100, .int 0] u (fun (r : Int32) (u' : St) => (r = 1) ∧ (u' = u)) := by
  refine Mi.of (own := RX11) rfl (by decide) (Nat.le_of_ble_eq_true rfl) ?_
  intro p e s m below meth c A Q ls C hret hO hl
  obtain ⟨hx, hb, hml, hown, ht, hK, hA⟩ := id C
  have hl : lv_has ls 4 [(0, .int 100), (1, .int 0)] := hl
  refine lv_iconst (v := 1) hx hb dX11_power_0 (by decide) ?_
  refine lv_istore_n (lv' := [(2, .int 1), (0, .int 100), (1, .int 0)]) hx hb dX11_power_1 rfl hl (by decide) rfl (fun ls hl => ?_)
  refine lv_iconst (v := 0) hx hb dX11_power_2 (by decide) ?_
  refine lv_istore_n (lv' := [(3, .int 0), (2, .int 1), (0, .int 100), (1, .int 0)]) hx hb dX11_power_3 rfl hl (by decide) rfl (fun ls hl => ?_)
  refine lv_iload_n hx hb dX11_power_4 rfl (lv_at hl 0 rfl) ?_
  refine lv_iload_n hx hb dX11_power_5 rfl (lv_at hl 3 rfl) ?_
  refine ct_ge (tgt := 19) (X := 0) (Y := 0) hx hb dX11_power_6 (by decide) rfl rfl (by omega) ?_
  refine lv_iload_n hx hb dX11_power_19 rfl (lv_at hl 1 rfl) ?_
  refine hret _ _ _ _ _ _ dX11_power_20 rfl ?_ hO
  exact ⟨rfl, rfl⟩
theorem dX11_divisor_0 : decode cX11_divisor 0 = .ok (.iload_n 0, 1) := by decide +kernel
theorem dX11_divisor_1 : decode cX11_divisor 1 = .ok (.istore_n 2, 1) := by decide +kernel
theorem dX11_divisor_2 : decode cX11_divisor 2 = .ok (.iload_n 1, 1) := by decide +kernel
theorem dX11_divisor_3 : decode cX11_divisor 3 = .ok (.istore_n 3, 1) := by decide +kernel
theorem dX11_divisor_4 : decode cX11_divisor 4 = .ok (.iload_n 3, 1) := by decide +kernel
theorem dX11_divisor_5 : decode cX11_divisor 5 = .ok (.ifCond .le 16, 3) := by decide +kernel
theorem dX11_divisor_8 : decode cX11_divisor 8 = .ok (.iload_n 2, 1) := by decide +kernel
theorem dX11_divisor_9 : decode cX11_divisor 9 = .ok (.iload_n 3, 1) := by decide +kernel
theorem dX11_divisor_10 : decode cX11_divisor 10 = .ok (.irem, 1) := by decide +kernel
theorem dX11_divisor_11 : decode cX11_divisor 11 = .ok (.istore 4, 2) := by decide +kernel
theorem dX11_divisor_13 : decode cX11_divisor 13 = .ok (.iload_n 3, 1) := by decide +kernel
theorem dX11_divisor_14 : decode cX11_divisor 14 = .ok (.istore_n 2, 1) := by decide +kernel
theorem dX11_divisor_15 : decode cX11_divisor 15 = .ok (.iload 4, 2) := by decide +kernel
theorem dX11_divisor_17 : decode cX11_divisor 17 = .ok (.istore_n 3, 1) := by decide +kernel
theorem dX11_divisor_18 : decode cX11_divisor 18 = .ok (.goto (-14), 3) := by decide +kernel
theorem dX11_divisor_21 : decode cX11_divisor 21 = .ok (.iload_n 2, 1) := by decide +kernel
theorem dX11_divisor_22 : decode cX11_divisor 22 = .ok (.ireturn, 1) := by decide +kernel
theorem wd_1977 : (Cond.code ⟨"WebCourtModel", "divisor", "(II)I"⟩ prog_13_method_44_code (5 : Nat) (Option.some FieldType.int)) ∈ gtb := gtb_c8 188 (by decide +kernel) rfl
set_option maxHeartbeats 4000000 in
set_option maxRecDepth 100000 in
theorem T_X11_divisor_0 (l : Launch) (D : va_G) (cy : Nat → ClassId) (a : Nat → Nat) (u : St)    : Mi l D cy (mW cy a) yX11_divisor (.code yX11_divisor cX11_divisor 5 (some .int)) (rmo 0 0) [.int 1, .int 1] u (fun (r : Int32) (u' : St) => (r = 1) ∧ (u' = u)) := by
  refine Mi.of (own := RX11) rfl (by decide) (Nat.le_of_ble_eq_true rfl) ?_
  intro p e s m below meth c A Q ls C hret hO hl
  obtain ⟨hx, hb, hml, hown, ht, hK, hA⟩ := id C
  have hl : lv_has ls 5 [(0, .int 1), (1, .int 1)] := hl
  refine lv_iload_n hx hb dX11_divisor_0 rfl (lv_at hl 0 rfl) ?_
  refine lv_istore_n (lv' := [(2, .int 1), (0, .int 1), (1, .int 1)]) hx hb dX11_divisor_1 rfl hl (by decide) rfl (fun ls hl => ?_)
  refine lv_iload_n hx hb dX11_divisor_2 rfl (lv_at hl 2 rfl) ?_
  refine lv_istore_n (lv' := [(3, .int 1), (2, .int 1), (0, .int 1), (1, .int 1)]) hx hb dX11_divisor_3 rfl hl (by decide) rfl (fun ls hl => ?_)
  refine lv_iload_n hx hb dX11_divisor_4 rfl (lv_at hl 0 rfl) ?_
  refine bn_le (X := 1) hx hb dX11_divisor_5 rfl (by omega) ?_ (tgt := 21) (by decide)
  refine lv_iload_n hx hb dX11_divisor_8 rfl (lv_at hl 1 rfl) ?_
  refine lv_iload_n hx hb dX11_divisor_9 rfl (lv_at hl 0 rfl) ?_
  refine lv_irem hx hb dX11_divisor_10 (i_ne0 (X := 1) rfl (by omega)) ?_
  refine tE (y := 0) (by decide) ?_
  refine lv_istore (lv' := [(4, .int 0), (3, .int 1), (2, .int 1), (0, .int 1), (1, .int 1)]) hx hb dX11_divisor_11 hl (by decide) rfl (fun ls hl => ?_)
  refine lv_iload_n hx hb dX11_divisor_13 rfl (lv_at hl 1 rfl) ?_
  refine lv_istore_n (lv' := [(2, .int 1), (4, .int 0), (3, .int 1), (0, .int 1), (1, .int 1)]) hx hb dX11_divisor_14 rfl hl (by decide) rfl (fun ls hl => ?_)
  refine lv_iload hx hb dX11_divisor_15 (lv_at hl 1 rfl) ?_
  refine lv_istore_n (lv' := [(3, .int 0), (2, .int 1), (4, .int 0), (0, .int 1), (1, .int 1)]) hx hb dX11_divisor_17 rfl hl (by decide) rfl (fun ls hl => ?_)
  refine lv_goto (tgt := 4) hx hb dX11_divisor_18 (by decide) ?_
  refine lv_iload_n hx hb dX11_divisor_4 rfl (lv_at hl 0 rfl) ?_
  refine bt_le (tgt := 21) (X := 0) hx hb dX11_divisor_5 (by decide) rfl (by omega) ?_
  refine lv_iload_n hx hb dX11_divisor_21 rfl (lv_at hl 1 rfl) ?_
  refine hret _ _ _ _ _ _ dX11_divisor_22 rfl ?_ hO
  exact ⟨rfl, rfl⟩
set_option maxHeartbeats 4000000 in
set_option maxRecDepth 100000 in
theorem T_X11_power_1 (l : Launch) (D : va_G) (cy : Nat → ClassId) (a : Nat → Nat) (u : St)    : Mi l D cy (mW cy a) yX11_power (.code yX11_power cX11_power 4 (some .int)) (rmo 0 0) [.int 100, .int 1] u (fun (r : Int32) (u' : St) => (r = 100) ∧ (u' = u)) := by
  refine Mi.of (own := RX11) rfl (by decide) (Nat.le_of_ble_eq_true rfl) ?_
  intro p e s m below meth c A Q ls C hret hO hl
  obtain ⟨hx, hb, hml, hown, ht, hK, hA⟩ := id C
  have hl : lv_has ls 4 [(0, .int 100), (1, .int 1)] := hl
  refine lv_iconst (v := 1) hx hb dX11_power_0 (by decide) ?_
  refine lv_istore_n (lv' := [(2, .int 1), (0, .int 100), (1, .int 1)]) hx hb dX11_power_1 rfl hl (by decide) rfl (fun ls hl => ?_)
  refine lv_iconst (v := 0) hx hb dX11_power_2 (by decide) ?_
  refine lv_istore_n (lv' := [(3, .int 0), (2, .int 1), (0, .int 100), (1, .int 1)]) hx hb dX11_power_3 rfl hl (by decide) rfl (fun ls hl => ?_)
  refine lv_iload_n hx hb dX11_power_4 rfl (lv_at hl 0 rfl) ?_
  refine lv_iload_n hx hb dX11_power_5 rfl (lv_at hl 3 rfl) ?_
  refine cn_ge (X := 0) (Y := 1) hx hb dX11_power_6 rfl rfl (by omega) ?_ (tgt := 19) (by decide)
  refine lv_iload_n hx hb dX11_power_9 rfl (lv_at hl 1 rfl) ?_
  refine lv_iload_n hx hb dX11_power_10 rfl (lv_at hl 2 rfl) ?_
  refine lv_imul hx hb dX11_power_11 ?_
  refine tE (y := 100) rfl ?_
  refine lv_istore_n (lv' := [(2, .int 100), (3, .int 0), (0, .int 100), (1, .int 1)]) hx hb dX11_power_12 rfl hl (by decide) rfl (fun ls hl => ?_)
  refine lv_iinc (v := 1) (lv' := [(3, .int 1), (2, .int 100), (0, .int 100), (1, .int 1)]) hx hb dX11_power_13 hl (k := 1) rfl rfl (by decide) rfl (fun ls hl => ?_)
  refine lv_goto (tgt := 4) hx hb dX11_power_16 (by decide) ?_
  refine lv_iload_n hx hb dX11_power_4 rfl (lv_at hl 0 rfl) ?_
  refine lv_iload_n hx hb dX11_power_5 rfl (lv_at hl 3 rfl) ?_
  refine ct_ge (tgt := 19) (X := 1) (Y := 1) hx hb dX11_power_6 (by decide) rfl rfl (by omega) ?_
  refine lv_iload_n hx hb dX11_power_19 rfl (lv_at hl 1 rfl) ?_
  refine hret _ _ _ _ _ _ dX11_power_20 rfl ?_ hO
  exact ⟨rfl, rfl⟩
set_option maxHeartbeats 4000000 in
set_option maxRecDepth 100000 in
theorem T_X11_divisor_1 (l : Launch) (D : va_G) (cy : Nat → ClassId) (a : Nat → Nat) (u : St)    : Mi l D cy (mW cy a) yX11_divisor (.code yX11_divisor cX11_divisor 5 (some .int)) (rmo 0 0) [.int 100, .int 100] u (fun (r : Int32) (u' : St) => (r = 100) ∧ (u' = u)) := by
  refine Mi.of (own := RX11) rfl (by decide) (Nat.le_of_ble_eq_true rfl) ?_
  intro p e s m below meth c A Q ls C hret hO hl
  obtain ⟨hx, hb, hml, hown, ht, hK, hA⟩ := id C
  have hl : lv_has ls 5 [(0, .int 100), (1, .int 100)] := hl
  refine lv_iload_n hx hb dX11_divisor_0 rfl (lv_at hl 0 rfl) ?_
  refine lv_istore_n (lv' := [(2, .int 100), (0, .int 100), (1, .int 100)]) hx hb dX11_divisor_1 rfl hl (by decide) rfl (fun ls hl => ?_)
  refine lv_iload_n hx hb dX11_divisor_2 rfl (lv_at hl 2 rfl) ?_
  refine lv_istore_n (lv' := [(3, .int 100), (2, .int 100), (0, .int 100), (1, .int 100)]) hx hb dX11_divisor_3 rfl hl (by decide) rfl (fun ls hl => ?_)
  refine lv_iload_n hx hb dX11_divisor_4 rfl (lv_at hl 0 rfl) ?_
  refine bn_le (X := 100) hx hb dX11_divisor_5 rfl (by omega) ?_ (tgt := 21) (by decide)
  refine lv_iload_n hx hb dX11_divisor_8 rfl (lv_at hl 1 rfl) ?_
  refine lv_iload_n hx hb dX11_divisor_9 rfl (lv_at hl 0 rfl) ?_
  refine lv_irem hx hb dX11_divisor_10 (i_ne0 (X := 100) rfl (by omega)) ?_
  refine tE (y := 0) (by decide) ?_
  refine lv_istore (lv' := [(4, .int 0), (3, .int 100), (2, .int 100), (0, .int 100), (1, .int 100)]) hx hb dX11_divisor_11 hl (by decide) rfl (fun ls hl => ?_)
  refine lv_iload_n hx hb dX11_divisor_13 rfl (lv_at hl 1 rfl) ?_
  refine lv_istore_n (lv' := [(2, .int 100), (4, .int 0), (3, .int 100), (0, .int 100), (1, .int 100)]) hx hb dX11_divisor_14 rfl hl (by decide) rfl (fun ls hl => ?_)
  refine lv_iload hx hb dX11_divisor_15 (lv_at hl 1 rfl) ?_
  refine lv_istore_n (lv' := [(3, .int 0), (2, .int 100), (4, .int 0), (0, .int 100), (1, .int 100)]) hx hb dX11_divisor_17 rfl hl (by decide) rfl (fun ls hl => ?_)
  refine lv_goto (tgt := 4) hx hb dX11_divisor_18 (by decide) ?_
  refine lv_iload_n hx hb dX11_divisor_4 rfl (lv_at hl 0 rfl) ?_
  refine bt_le (tgt := 21) (X := 0) hx hb dX11_divisor_5 (by decide) rfl (by omega) ?_
  refine lv_iload_n hx hb dX11_divisor_21 rfl (lv_at hl 1 rfl) ?_
  refine hret _ _ _ _ _ _ dX11_divisor_22 rfl ?_ hO
  exact ⟨rfl, rfl⟩
set_option maxHeartbeats 4000000 in
set_option maxRecDepth 100000 in
theorem T_X11_power_2 (l : Launch) (D : va_G) (cy : Nat → ClassId) (a : Nat → Nat) (u : St)    : Mi l D cy (mW cy a) yX11_power (.code yX11_power cX11_power 4 (some .int)) (rmo 0 0) [.int 100, .int 2] u (fun (r : Int32) (u' : St) => (r = 10000) ∧ (u' = u)) := by
  refine Mi.of (own := RX11) rfl (by decide) (Nat.le_of_ble_eq_true rfl) ?_
  intro p e s m below meth c A Q ls C hret hO hl
  obtain ⟨hx, hb, hml, hown, ht, hK, hA⟩ := id C
  have hl : lv_has ls 4 [(0, .int 100), (1, .int 2)] := hl
  refine lv_iconst (v := 1) hx hb dX11_power_0 (by decide) ?_
  refine lv_istore_n (lv' := [(2, .int 1), (0, .int 100), (1, .int 2)]) hx hb dX11_power_1 rfl hl (by decide) rfl (fun ls hl => ?_)
  refine lv_iconst (v := 0) hx hb dX11_power_2 (by decide) ?_
  refine lv_istore_n (lv' := [(3, .int 0), (2, .int 1), (0, .int 100), (1, .int 2)]) hx hb dX11_power_3 rfl hl (by decide) rfl (fun ls hl => ?_)
  refine lv_iload_n hx hb dX11_power_4 rfl (lv_at hl 0 rfl) ?_
  refine lv_iload_n hx hb dX11_power_5 rfl (lv_at hl 3 rfl) ?_
  refine cn_ge (X := 0) (Y := 2) hx hb dX11_power_6 rfl rfl (by omega) ?_ (tgt := 19) (by decide)
  refine lv_iload_n hx hb dX11_power_9 rfl (lv_at hl 1 rfl) ?_
  refine lv_iload_n hx hb dX11_power_10 rfl (lv_at hl 2 rfl) ?_
  refine lv_imul hx hb dX11_power_11 ?_
  refine tE (y := 100) rfl ?_
  refine lv_istore_n (lv' := [(2, .int 100), (3, .int 0), (0, .int 100), (1, .int 2)]) hx hb dX11_power_12 rfl hl (by decide) rfl (fun ls hl => ?_)
  refine lv_iinc (v := 1) (lv' := [(3, .int 1), (2, .int 100), (0, .int 100), (1, .int 2)]) hx hb dX11_power_13 hl (k := 1) rfl rfl (by decide) rfl (fun ls hl => ?_)
  refine lv_goto (tgt := 4) hx hb dX11_power_16 (by decide) ?_
  refine lv_iload_n hx hb dX11_power_4 rfl (lv_at hl 0 rfl) ?_
  refine lv_iload_n hx hb dX11_power_5 rfl (lv_at hl 3 rfl) ?_
  refine cn_ge (X := 1) (Y := 2) hx hb dX11_power_6 rfl rfl (by omega) ?_ (tgt := 19) (by decide)
  refine lv_iload_n hx hb dX11_power_9 rfl (lv_at hl 1 rfl) ?_
  refine lv_iload_n hx hb dX11_power_10 rfl (lv_at hl 2 rfl) ?_
  refine lv_imul hx hb dX11_power_11 ?_
  refine tE (y := 10000) rfl ?_
  refine lv_istore_n (lv' := [(2, .int 10000), (3, .int 1), (0, .int 100), (1, .int 2)]) hx hb dX11_power_12 rfl hl (by decide) rfl (fun ls hl => ?_)
  refine lv_iinc (v := 2) (lv' := [(3, .int 2), (2, .int 10000), (0, .int 100), (1, .int 2)]) hx hb dX11_power_13 hl (k := 1) rfl rfl (by decide) rfl (fun ls hl => ?_)
  refine lv_goto (tgt := 4) hx hb dX11_power_16 (by decide) ?_
  refine lv_iload_n hx hb dX11_power_4 rfl (lv_at hl 0 rfl) ?_
  refine lv_iload_n hx hb dX11_power_5 rfl (lv_at hl 3 rfl) ?_
  refine ct_ge (tgt := 19) (X := 2) (Y := 2) hx hb dX11_power_6 (by decide) rfl rfl (by omega) ?_
  refine lv_iload_n hx hb dX11_power_19 rfl (lv_at hl 1 rfl) ?_
  refine hret _ _ _ _ _ _ dX11_power_20 rfl ?_ hO
  exact ⟨rfl, rfl⟩
set_option maxHeartbeats 4000000 in
set_option maxRecDepth 100000 in
theorem T_X11_divisor_2 (l : Launch) (D : va_G) (cy : Nat → ClassId) (a : Nat → Nat) (u : St)    : Mi l D cy (mW cy a) yX11_divisor (.code yX11_divisor cX11_divisor 5 (some .int)) (rmo 0 0) [.int 10000, .int 10000] u (fun (r : Int32) (u' : St) => (r = 10000) ∧ (u' = u)) := by
  refine Mi.of (own := RX11) rfl (by decide) (Nat.le_of_ble_eq_true rfl) ?_
  intro p e s m below meth c A Q ls C hret hO hl
  obtain ⟨hx, hb, hml, hown, ht, hK, hA⟩ := id C
  have hl : lv_has ls 5 [(0, .int 10000), (1, .int 10000)] := hl
  refine lv_iload_n hx hb dX11_divisor_0 rfl (lv_at hl 0 rfl) ?_
  refine lv_istore_n (lv' := [(2, .int 10000), (0, .int 10000), (1, .int 10000)]) hx hb dX11_divisor_1 rfl hl (by decide) rfl (fun ls hl => ?_)
  refine lv_iload_n hx hb dX11_divisor_2 rfl (lv_at hl 2 rfl) ?_
  refine lv_istore_n (lv' := [(3, .int 10000), (2, .int 10000), (0, .int 10000), (1, .int 10000)]) hx hb dX11_divisor_3 rfl hl (by decide) rfl (fun ls hl => ?_)
  refine lv_iload_n hx hb dX11_divisor_4 rfl (lv_at hl 0 rfl) ?_
  refine bn_le (X := 10000) hx hb dX11_divisor_5 rfl (by omega) ?_ (tgt := 21) (by decide)
  refine lv_iload_n hx hb dX11_divisor_8 rfl (lv_at hl 1 rfl) ?_
  refine lv_iload_n hx hb dX11_divisor_9 rfl (lv_at hl 0 rfl) ?_
  refine lv_irem hx hb dX11_divisor_10 (i_ne0 (X := 10000) rfl (by omega)) ?_
  refine tE (y := 0) (by decide) ?_
  refine lv_istore (lv' := [(4, .int 0), (3, .int 10000), (2, .int 10000), (0, .int 10000), (1, .int 10000)]) hx hb dX11_divisor_11 hl (by decide) rfl (fun ls hl => ?_)
  refine lv_iload_n hx hb dX11_divisor_13 rfl (lv_at hl 1 rfl) ?_
  refine lv_istore_n (lv' := [(2, .int 10000), (4, .int 0), (3, .int 10000), (0, .int 10000), (1, .int 10000)]) hx hb dX11_divisor_14 rfl hl (by decide) rfl (fun ls hl => ?_)
  refine lv_iload hx hb dX11_divisor_15 (lv_at hl 1 rfl) ?_
  refine lv_istore_n (lv' := [(3, .int 0), (2, .int 10000), (4, .int 0), (0, .int 10000), (1, .int 10000)]) hx hb dX11_divisor_17 rfl hl (by decide) rfl (fun ls hl => ?_)
  refine lv_goto (tgt := 4) hx hb dX11_divisor_18 (by decide) ?_
  refine lv_iload_n hx hb dX11_divisor_4 rfl (lv_at hl 0 rfl) ?_
  refine bt_le (tgt := 21) (X := 0) hx hb dX11_divisor_5 (by decide) rfl (by omega) ?_
  refine lv_iload_n hx hb dX11_divisor_21 rfl (lv_at hl 1 rfl) ?_
  refine hret _ _ _ _ _ _ dX11_divisor_22 rfl ?_ hO
  exact ⟨rfl, rfl⟩
set_option maxHeartbeats 4000000 in
set_option maxRecDepth 100000 in
theorem T_X11_power_3 (l : Launch) (D : va_G) (cy : Nat → ClassId) (a : Nat → Nat) (u : St)    : Mi l D cy (mW cy a) yX11_power (.code yX11_power cX11_power 4 (some .int)) (rmo 0 0) [.int 100, .int 3] u (fun (r : Int32) (u' : St) => (r = 1000000) ∧ (u' = u)) := by
  refine Mi.of (own := RX11) rfl (by decide) (Nat.le_of_ble_eq_true rfl) ?_
  intro p e s m below meth c A Q ls C hret hO hl
  obtain ⟨hx, hb, hml, hown, ht, hK, hA⟩ := id C
  have hl : lv_has ls 4 [(0, .int 100), (1, .int 3)] := hl
  refine lv_iconst (v := 1) hx hb dX11_power_0 (by decide) ?_
  refine lv_istore_n (lv' := [(2, .int 1), (0, .int 100), (1, .int 3)]) hx hb dX11_power_1 rfl hl (by decide) rfl (fun ls hl => ?_)
  refine lv_iconst (v := 0) hx hb dX11_power_2 (by decide) ?_
  refine lv_istore_n (lv' := [(3, .int 0), (2, .int 1), (0, .int 100), (1, .int 3)]) hx hb dX11_power_3 rfl hl (by decide) rfl (fun ls hl => ?_)
  refine lv_iload_n hx hb dX11_power_4 rfl (lv_at hl 0 rfl) ?_
  refine lv_iload_n hx hb dX11_power_5 rfl (lv_at hl 3 rfl) ?_
  refine cn_ge (X := 0) (Y := 3) hx hb dX11_power_6 rfl rfl (by omega) ?_ (tgt := 19) (by decide)
  refine lv_iload_n hx hb dX11_power_9 rfl (lv_at hl 1 rfl) ?_
  refine lv_iload_n hx hb dX11_power_10 rfl (lv_at hl 2 rfl) ?_
  refine lv_imul hx hb dX11_power_11 ?_
  refine tE (y := 100) rfl ?_
  refine lv_istore_n (lv' := [(2, .int 100), (3, .int 0), (0, .int 100), (1, .int 3)]) hx hb dX11_power_12 rfl hl (by decide) rfl (fun ls hl => ?_)
  refine lv_iinc (v := 1) (lv' := [(3, .int 1), (2, .int 100), (0, .int 100), (1, .int 3)]) hx hb dX11_power_13 hl (k := 1) rfl rfl (by decide) rfl (fun ls hl => ?_)
  refine lv_goto (tgt := 4) hx hb dX11_power_16 (by decide) ?_
  refine lv_iload_n hx hb dX11_power_4 rfl (lv_at hl 0 rfl) ?_
  refine lv_iload_n hx hb dX11_power_5 rfl (lv_at hl 3 rfl) ?_
  refine cn_ge (X := 1) (Y := 3) hx hb dX11_power_6 rfl rfl (by omega) ?_ (tgt := 19) (by decide)
  refine lv_iload_n hx hb dX11_power_9 rfl (lv_at hl 1 rfl) ?_
  refine lv_iload_n hx hb dX11_power_10 rfl (lv_at hl 2 rfl) ?_
  refine lv_imul hx hb dX11_power_11 ?_
  refine tE (y := 10000) rfl ?_
  refine lv_istore_n (lv' := [(2, .int 10000), (3, .int 1), (0, .int 100), (1, .int 3)]) hx hb dX11_power_12 rfl hl (by decide) rfl (fun ls hl => ?_)
  refine lv_iinc (v := 2) (lv' := [(3, .int 2), (2, .int 10000), (0, .int 100), (1, .int 3)]) hx hb dX11_power_13 hl (k := 1) rfl rfl (by decide) rfl (fun ls hl => ?_)
  refine lv_goto (tgt := 4) hx hb dX11_power_16 (by decide) ?_
  refine lv_iload_n hx hb dX11_power_4 rfl (lv_at hl 0 rfl) ?_
  refine lv_iload_n hx hb dX11_power_5 rfl (lv_at hl 3 rfl) ?_
  refine cn_ge (X := 2) (Y := 3) hx hb dX11_power_6 rfl rfl (by omega) ?_ (tgt := 19) (by decide)
  refine lv_iload_n hx hb dX11_power_9 rfl (lv_at hl 1 rfl) ?_
  refine lv_iload_n hx hb dX11_power_10 rfl (lv_at hl 2 rfl) ?_
  refine lv_imul hx hb dX11_power_11 ?_
  refine tE (y := 1000000) rfl ?_
  refine lv_istore_n (lv' := [(2, .int 1000000), (3, .int 2), (0, .int 100), (1, .int 3)]) hx hb dX11_power_12 rfl hl (by decide) rfl (fun ls hl => ?_)
  refine lv_iinc (v := 3) (lv' := [(3, .int 3), (2, .int 1000000), (0, .int 100), (1, .int 3)]) hx hb dX11_power_13 hl (k := 1) rfl rfl (by decide) rfl (fun ls hl => ?_)
  refine lv_goto (tgt := 4) hx hb dX11_power_16 (by decide) ?_
  refine lv_iload_n hx hb dX11_power_4 rfl (lv_at hl 0 rfl) ?_
  refine lv_iload_n hx hb dX11_power_5 rfl (lv_at hl 3 rfl) ?_
  refine ct_ge (tgt := 19) (X := 3) (Y := 3) hx hb dX11_power_6 (by decide) rfl rfl (by omega) ?_
  refine lv_iload_n hx hb dX11_power_19 rfl (lv_at hl 1 rfl) ?_
  refine hret _ _ _ _ _ _ dX11_power_20 rfl ?_ hO
  exact ⟨rfl, rfl⟩
set_option maxHeartbeats 4000000 in
set_option maxRecDepth 100000 in
theorem T_X11_divisor_3 (l : Launch) (D : va_G) (cy : Nat → ClassId) (a : Nat → Nat) (u : St)    : Mi l D cy (mW cy a) yX11_divisor (.code yX11_divisor cX11_divisor 5 (some .int)) (rmo 0 0) [.int 1000000, .int 1000000] u (fun (r : Int32) (u' : St) => (r = 1000000) ∧ (u' = u)) := by
  refine Mi.of (own := RX11) rfl (by decide) (Nat.le_of_ble_eq_true rfl) ?_
  intro p e s m below meth c A Q ls C hret hO hl
  obtain ⟨hx, hb, hml, hown, ht, hK, hA⟩ := id C
  have hl : lv_has ls 5 [(0, .int 1000000), (1, .int 1000000)] := hl
  refine lv_iload_n hx hb dX11_divisor_0 rfl (lv_at hl 0 rfl) ?_
  refine lv_istore_n (lv' := [(2, .int 1000000), (0, .int 1000000), (1, .int 1000000)]) hx hb dX11_divisor_1 rfl hl (by decide) rfl (fun ls hl => ?_)
  refine lv_iload_n hx hb dX11_divisor_2 rfl (lv_at hl 2 rfl) ?_
  refine lv_istore_n (lv' := [(3, .int 1000000), (2, .int 1000000), (0, .int 1000000), (1, .int 1000000)]) hx hb dX11_divisor_3 rfl hl (by decide) rfl (fun ls hl => ?_)
  refine lv_iload_n hx hb dX11_divisor_4 rfl (lv_at hl 0 rfl) ?_
  refine bn_le (X := 1000000) hx hb dX11_divisor_5 rfl (by omega) ?_ (tgt := 21) (by decide)
  refine lv_iload_n hx hb dX11_divisor_8 rfl (lv_at hl 1 rfl) ?_
  refine lv_iload_n hx hb dX11_divisor_9 rfl (lv_at hl 0 rfl) ?_
  refine lv_irem hx hb dX11_divisor_10 (i_ne0 (X := 1000000) rfl (by omega)) ?_
  refine tE (y := 0) (by decide) ?_
  refine lv_istore (lv' := [(4, .int 0), (3, .int 1000000), (2, .int 1000000), (0, .int 1000000), (1, .int 1000000)]) hx hb dX11_divisor_11 hl (by decide) rfl (fun ls hl => ?_)
  refine lv_iload_n hx hb dX11_divisor_13 rfl (lv_at hl 1 rfl) ?_
  refine lv_istore_n (lv' := [(2, .int 1000000), (4, .int 0), (3, .int 1000000), (0, .int 1000000), (1, .int 1000000)]) hx hb dX11_divisor_14 rfl hl (by decide) rfl (fun ls hl => ?_)
  refine lv_iload hx hb dX11_divisor_15 (lv_at hl 1 rfl) ?_
  refine lv_istore_n (lv' := [(3, .int 0), (2, .int 1000000), (4, .int 0), (0, .int 1000000), (1, .int 1000000)]) hx hb dX11_divisor_17 rfl hl (by decide) rfl (fun ls hl => ?_)
  refine lv_goto (tgt := 4) hx hb dX11_divisor_18 (by decide) ?_
  refine lv_iload_n hx hb dX11_divisor_4 rfl (lv_at hl 0 rfl) ?_
  refine bt_le (tgt := 21) (X := 0) hx hb dX11_divisor_5 (by decide) rfl (by omega) ?_
  refine lv_iload_n hx hb dX11_divisor_21 rfl (lv_at hl 1 rfl) ?_
  refine hret _ _ _ _ _ _ dX11_divisor_22 rfl ?_ hO
  exact ⟨rfl, rfl⟩
set_option maxHeartbeats 4000000 in
set_option maxRecDepth 100000 in
theorem T_X11_power_4 (l : Launch) (D : va_G) (cy : Nat → ClassId) (a : Nat → Nat) (u : St)    : Mi l D cy (mW cy a) yX11_power (.code yX11_power cX11_power 4 (some .int)) (rmo 0 0) [.int 100, .int 4] u (fun (r : Int32) (u' : St) => (r = 100000000) ∧ (u' = u)) := by
  refine Mi.of (own := RX11) rfl (by decide) (Nat.le_of_ble_eq_true rfl) ?_
  intro p e s m below meth c A Q ls C hret hO hl
  obtain ⟨hx, hb, hml, hown, ht, hK, hA⟩ := id C
  have hl : lv_has ls 4 [(0, .int 100), (1, .int 4)] := hl
  refine lv_iconst (v := 1) hx hb dX11_power_0 (by decide) ?_
  refine lv_istore_n (lv' := [(2, .int 1), (0, .int 100), (1, .int 4)]) hx hb dX11_power_1 rfl hl (by decide) rfl (fun ls hl => ?_)
  refine lv_iconst (v := 0) hx hb dX11_power_2 (by decide) ?_
  refine lv_istore_n (lv' := [(3, .int 0), (2, .int 1), (0, .int 100), (1, .int 4)]) hx hb dX11_power_3 rfl hl (by decide) rfl (fun ls hl => ?_)
  refine lv_iload_n hx hb dX11_power_4 rfl (lv_at hl 0 rfl) ?_
  refine lv_iload_n hx hb dX11_power_5 rfl (lv_at hl 3 rfl) ?_
  refine cn_ge (X := 0) (Y := 4) hx hb dX11_power_6 rfl rfl (by omega) ?_ (tgt := 19) (by decide)
  refine lv_iload_n hx hb dX11_power_9 rfl (lv_at hl 1 rfl) ?_
  refine lv_iload_n hx hb dX11_power_10 rfl (lv_at hl 2 rfl) ?_
  refine lv_imul hx hb dX11_power_11 ?_
  refine tE (y := 100) rfl ?_
  refine lv_istore_n (lv' := [(2, .int 100), (3, .int 0), (0, .int 100), (1, .int 4)]) hx hb dX11_power_12 rfl hl (by decide) rfl (fun ls hl => ?_)
  refine lv_iinc (v := 1) (lv' := [(3, .int 1), (2, .int 100), (0, .int 100), (1, .int 4)]) hx hb dX11_power_13 hl (k := 1) rfl rfl (by decide) rfl (fun ls hl => ?_)
  refine lv_goto (tgt := 4) hx hb dX11_power_16 (by decide) ?_
  refine lv_iload_n hx hb dX11_power_4 rfl (lv_at hl 0 rfl) ?_
  refine lv_iload_n hx hb dX11_power_5 rfl (lv_at hl 3 rfl) ?_
  refine cn_ge (X := 1) (Y := 4) hx hb dX11_power_6 rfl rfl (by omega) ?_ (tgt := 19) (by decide)
  refine lv_iload_n hx hb dX11_power_9 rfl (lv_at hl 1 rfl) ?_
  refine lv_iload_n hx hb dX11_power_10 rfl (lv_at hl 2 rfl) ?_
  refine lv_imul hx hb dX11_power_11 ?_
  refine tE (y := 10000) rfl ?_
  refine lv_istore_n (lv' := [(2, .int 10000), (3, .int 1), (0, .int 100), (1, .int 4)]) hx hb dX11_power_12 rfl hl (by decide) rfl (fun ls hl => ?_)
  refine lv_iinc (v := 2) (lv' := [(3, .int 2), (2, .int 10000), (0, .int 100), (1, .int 4)]) hx hb dX11_power_13 hl (k := 1) rfl rfl (by decide) rfl (fun ls hl => ?_)
  refine lv_goto (tgt := 4) hx hb dX11_power_16 (by decide) ?_
  refine lv_iload_n hx hb dX11_power_4 rfl (lv_at hl 0 rfl) ?_
  refine lv_iload_n hx hb dX11_power_5 rfl (lv_at hl 3 rfl) ?_
  refine cn_ge (X := 2) (Y := 4) hx hb dX11_power_6 rfl rfl (by omega) ?_ (tgt := 19) (by decide)
  refine lv_iload_n hx hb dX11_power_9 rfl (lv_at hl 1 rfl) ?_
  refine lv_iload_n hx hb dX11_power_10 rfl (lv_at hl 2 rfl) ?_
  refine lv_imul hx hb dX11_power_11 ?_
  refine tE (y := 1000000) rfl ?_
  refine lv_istore_n (lv' := [(2, .int 1000000), (3, .int 2), (0, .int 100), (1, .int 4)]) hx hb dX11_power_12 rfl hl (by decide) rfl (fun ls hl => ?_)
  refine lv_iinc (v := 3) (lv' := [(3, .int 3), (2, .int 1000000), (0, .int 100), (1, .int 4)]) hx hb dX11_power_13 hl (k := 1) rfl rfl (by decide) rfl (fun ls hl => ?_)
  refine lv_goto (tgt := 4) hx hb dX11_power_16 (by decide) ?_
  refine lv_iload_n hx hb dX11_power_4 rfl (lv_at hl 0 rfl) ?_
  refine lv_iload_n hx hb dX11_power_5 rfl (lv_at hl 3 rfl) ?_
  refine cn_ge (X := 3) (Y := 4) hx hb dX11_power_6 rfl rfl (by omega) ?_ (tgt := 19) (by decide)
  refine lv_iload_n hx hb dX11_power_9 rfl (lv_at hl 1 rfl) ?_
  refine lv_iload_n hx hb dX11_power_10 rfl (lv_at hl 2 rfl) ?_
  refine lv_imul hx hb dX11_power_11 ?_
  refine tE (y := 100000000) rfl ?_
  refine lv_istore_n (lv' := [(2, .int 100000000), (3, .int 3), (0, .int 100), (1, .int 4)]) hx hb dX11_power_12 rfl hl (by decide) rfl (fun ls hl => ?_)
  refine lv_iinc (v := 4) (lv' := [(3, .int 4), (2, .int 100000000), (0, .int 100), (1, .int 4)]) hx hb dX11_power_13 hl (k := 1) rfl rfl (by decide) rfl (fun ls hl => ?_)
  refine lv_goto (tgt := 4) hx hb dX11_power_16 (by decide) ?_
  refine lv_iload_n hx hb dX11_power_4 rfl (lv_at hl 0 rfl) ?_
  refine lv_iload_n hx hb dX11_power_5 rfl (lv_at hl 3 rfl) ?_
  refine ct_ge (tgt := 19) (X := 4) (Y := 4) hx hb dX11_power_6 (by decide) rfl rfl (by omega) ?_
  refine lv_iload_n hx hb dX11_power_19 rfl (lv_at hl 1 rfl) ?_
  refine hret _ _ _ _ _ _ dX11_power_20 rfl ?_ hO
  exact ⟨rfl, rfl⟩
set_option maxHeartbeats 4000000 in
set_option maxRecDepth 100000 in
theorem T_X11_divisor_4 (l : Launch) (D : va_G) (cy : Nat → ClassId) (a : Nat → Nat) (u : St)    : Mi l D cy (mW cy a) yX11_divisor (.code yX11_divisor cX11_divisor 5 (some .int)) (rmo 0 0) [.int 100000000, .int 100000000] u (fun (r : Int32) (u' : St) => (r = 100000000) ∧ (u' = u)) := by
  refine Mi.of (own := RX11) rfl (by decide) (Nat.le_of_ble_eq_true rfl) ?_
  intro p e s m below meth c A Q ls C hret hO hl
  obtain ⟨hx, hb, hml, hown, ht, hK, hA⟩ := id C
  have hl : lv_has ls 5 [(0, .int 100000000), (1, .int 100000000)] := hl
  refine lv_iload_n hx hb dX11_divisor_0 rfl (lv_at hl 0 rfl) ?_
  refine lv_istore_n (lv' := [(2, .int 100000000), (0, .int 100000000), (1, .int 100000000)]) hx hb dX11_divisor_1 rfl hl (by decide) rfl (fun ls hl => ?_)
  refine lv_iload_n hx hb dX11_divisor_2 rfl (lv_at hl 2 rfl) ?_
  refine lv_istore_n (lv' := [(3, .int 100000000), (2, .int 100000000), (0, .int 100000000), (1, .int 100000000)]) hx hb dX11_divisor_3 rfl hl (by decide) rfl (fun ls hl => ?_)
  refine lv_iload_n hx hb dX11_divisor_4 rfl (lv_at hl 0 rfl) ?_
  refine bn_le (X := 100000000) hx hb dX11_divisor_5 rfl (by omega) ?_ (tgt := 21) (by decide)
  refine lv_iload_n hx hb dX11_divisor_8 rfl (lv_at hl 1 rfl) ?_
  refine lv_iload_n hx hb dX11_divisor_9 rfl (lv_at hl 0 rfl) ?_
  refine lv_irem hx hb dX11_divisor_10 (i_ne0 (X := 100000000) rfl (by omega)) ?_
  refine tE (y := 0) (by decide) ?_
  refine lv_istore (lv' := [(4, .int 0), (3, .int 100000000), (2, .int 100000000), (0, .int 100000000), (1, .int 100000000)]) hx hb dX11_divisor_11 hl (by decide) rfl (fun ls hl => ?_)
  refine lv_iload_n hx hb dX11_divisor_13 rfl (lv_at hl 1 rfl) ?_
  refine lv_istore_n (lv' := [(2, .int 100000000), (4, .int 0), (3, .int 100000000), (0, .int 100000000), (1, .int 100000000)]) hx hb dX11_divisor_14 rfl hl (by decide) rfl (fun ls hl => ?_)
  refine lv_iload hx hb dX11_divisor_15 (lv_at hl 1 rfl) ?_
  refine lv_istore_n (lv' := [(3, .int 0), (2, .int 100000000), (4, .int 0), (0, .int 100000000), (1, .int 100000000)]) hx hb dX11_divisor_17 rfl hl (by decide) rfl (fun ls hl => ?_)
  refine lv_goto (tgt := 4) hx hb dX11_divisor_18 (by decide) ?_
  refine lv_iload_n hx hb dX11_divisor_4 rfl (lv_at hl 0 rfl) ?_
  refine bt_le (tgt := 21) (X := 0) hx hb dX11_divisor_5 (by decide) rfl (by omega) ?_
  refine lv_iload_n hx hb dX11_divisor_21 rfl (lv_at hl 1 rfl) ?_
  refine hret _ _ _ _ _ _ dX11_divisor_22 rfl ?_ hO
  exact ⟨rfl, rfl⟩
theorem dX11_odds_0 : decode cX11_odds 0 = .ok (.iload_n 1, 1) := by decide +kernel
theorem dX11_odds_1 : decode cX11_odds 1 = .ok (.iconst 0, 1) := by decide +kernel
theorem dX11_odds_2 : decode cX11_odds 2 = .ok (.iconst 4, 1) := by decide +kernel
theorem dX11_odds_3 : decode cX11_odds 3 = .ok (.invokestatic 374, 3) := by decide +kernel
theorem dX11_odds_6 : decode cX11_odds 6 = .ok (.ifCond .eq 12, 3) := by decide +kernel
theorem dX11_odds_9 : decode cX11_odds 9 = .ok (.iload_n 2, 1) := by decide +kernel
theorem dX11_odds_10 : decode cX11_odds 10 = .ok (.iconst 0, 1) := by decide +kernel
theorem dX11_odds_11 : decode cX11_odds 11 = .ok (.iconst 1, 1) := by decide +kernel
theorem dX11_odds_12 : decode cX11_odds 12 = .ok (.invokestatic 374, 3) := by decide +kernel
theorem dX11_odds_15 : decode cX11_odds 15 = .ok (.ifCond .ne 5, 3) := by decide +kernel
theorem dX11_odds_18 : decode cX11_odds 18 = .ok (.iconst (-1), 1) := by decide +kernel
theorem dX11_odds_19 : decode cX11_odds 19 = .ok (.ireturn, 1) := by decide +kernel
theorem dX11_odds_20 : decode cX11_odds 20 = .ok (.bipush 100, 2) := by decide +kernel
theorem dX11_odds_22 : decode cX11_odds 22 = .ok (.aload_n 0, 1) := by decide +kernel
theorem dX11_odds_23 : decode cX11_odds 23 = .ok (.getfield 39, 3) := by decide +kernel
theorem dX11_odds_26 : decode cX11_odds 26 = .ok (.aload_n 0, 1) := by decide +kernel
theorem dX11_odds_27 : decode cX11_odds 27 = .ok (.getfield 255, 3) := by decide +kernel
theorem dX11_odds_30 : decode cX11_odds 30 = .ok (.iaload, 1) := by decide +kernel
theorem dX11_odds_31 : decode cX11_odds 31 = .ok (.isub, 1) := by decide +kernel
theorem dX11_odds_32 : decode cX11_odds 32 = .ok (.iload_n 1, 1) := by decide +kernel
theorem dX11_odds_33 : decode cX11_odds 33 = .ok (.invokestatic 472, 3) := by decide +kernel
theorem dX11_odds_36 : decode cX11_odds 36 = .ok (.istore_n 3, 1) := by decide +kernel
theorem dX11_odds_37 : decode cX11_odds 37 = .ok (.bipush 100, 2) := by decide +kernel
theorem dX11_odds_39 : decode cX11_odds 39 = .ok (.iload_n 1, 1) := by decide +kernel
theorem dX11_odds_40 : decode cX11_odds 40 = .ok (.invokestatic 472, 3) := by decide +kernel
theorem dX11_odds_43 : decode cX11_odds 43 = .ok (.istore 4, 2) := by decide +kernel
theorem dX11_odds_45 : decode cX11_odds 45 = .ok (.iload_n 2, 1) := by decide +kernel
theorem dX11_odds_46 : decode cX11_odds 46 = .ok (.ifCond .ne 7, 3) := by decide +kernel
theorem dX11_odds_49 : decode cX11_odds 49 = .ok (.iload_n 3, 1) := by decide +kernel
theorem dX11_odds_50 : decode cX11_odds 50 = .ok (.goto 5, 3) := by decide +kernel
theorem dX11_odds_53 : decode cX11_odds 53 = .ok (.iload 4, 2) := by decide +kernel
theorem dX11_odds_55 : decode cX11_odds 55 = .ok (.iload 4, 2) := by decide +kernel
theorem dX11_odds_57 : decode cX11_odds 57 = .ok (.iload_n 3, 1) := by decide +kernel
theorem dX11_odds_58 : decode cX11_odds 58 = .ok (.invokestatic 481, 3) := by decide +kernel
theorem dX11_odds_61 : decode cX11_odds 61 = .ok (.idiv, 1) := by decide +kernel
theorem dX11_odds_62 : decode cX11_odds 62 = .ok (.ireturn, 1) := by decide +kernel
theorem wd_1974 : (Cond.code ⟨"WebCourtModel", "odds", "(II)I"⟩ prog_13_method_110_code (5 : Nat) (Option.some FieldType.int)) ∈ gtb := gtb_c8 185 (by decide +kernel) rfl
theorem wd_1373 : (Cond.fieldLink "WebCourtModel" (39 : Nat) "WebCourtModel" "back" "[I") ∈ gtb := gtb_c6 64 (by decide +kernel) rfl
theorem gf_RX11_39 {p : Program} {l : Launch} {e : Env} {R : Room} {s : State} {m : MethodId} {args : Array Value} {below : List Frame} {meth : Method} {c : Code} {H : Heap} {locs : List Loc} {cells slots : Nat} {Q : State → Prop} {cc : ByteArray} {pc nL : Nat} {ls : Array Slot} {rest : List Value} {D : va_G} {cy : Nat → ClassId} {A : Nat → Prop} {ws : va_W} {b : Nat} {fs : List Value} {v : Value} (C : Cx p s m args c cc nL RX11 D cy A) (hO : Wo D A ws s.heap H locs) (q0 : Nat) (he : ws[q0]? = some (b, .inr (11, fs))) (hv : fs[17]? = some v) (hdg : decode cc pc = .ok (.getfield 39, 3)) (kk : W p l e R s m args below meth c H locs cells slots Q (F0 m (pc + 3) ls (v :: rest))) : W p l e R s m args below meth c H locs cells slots Q (F0 m pc ls (.ref b :: rest)) := gF (k := 17) C hO q0 he rfl inFX11 (by decide) wd_1373 rfl hv hdg kk
theorem wd_1956 : (Cond.methodLink "WebCourtModel" (472 : Nat) ⟨"WebCourtModel", "power", "(II)I"⟩) ∈ gtb := gtb_c8 167 (by decide +kernel) rfl
theorem wd_1957 : (Cond.static ⟨"WebCourtModel", "power", "(II)I"⟩) ∈ gtb := gtb_c8 168 (by decide +kernel) rfl
theorem hd_yX11_power : yX11_power.cls ≠ "java/lang/invoke/MethodHandle" ∧ yX11_power.cls ≠ "java/lang/invoke/VarHandle" ∧ (parseMethodDescriptor yX11_power.desc).map (fun d => d.parameters.length) = some 2 := by decide +kernel
theorem wd_1975 : (Cond.methodLink "WebCourtModel" (481 : Nat) ⟨"WebCourtModel", "divisor", "(II)I"⟩) ∈ gtb := gtb_c8 186 (by decide +kernel) rfl
theorem wd_1976 : (Cond.static ⟨"WebCourtModel", "divisor", "(II)I"⟩) ∈ gtb := gtb_c8 187 (by decide +kernel) rfl
theorem hd_yX11_divisor : yX11_divisor.cls ≠ "java/lang/invoke/MethodHandle" ∧ yX11_divisor.cls ≠ "java/lang/invoke/VarHandle" ∧ (parseMethodDescriptor yX11_divisor.desc).map (fun d => d.parameters.length) = some 2 := by decide +kernel
set_option maxHeartbeats 4000000 in
set_option maxRecDepth 100000 in
theorem T_X11_odds (l : Launch) (D : va_G) (cy : Nat → ClassId) (a : Nat → Nat) (u : St) (hA_9_0 : fA u 9 0 = 0) (hI_0_36 : fI u 0 36 = 0) (x1 : Int32) (x2 : Int32)  : Mi l D cy (mW cy a) yX11_odds (.code yX11_odds cX11_odds 5 (some .int)) (rmo 1 24) [.ref (a 0), .int x1, .int x2] u (fun (r : Int32) (u' : St) => (r = q_odds x1 x2) ∧ (u' = u)) := by
  refine Mi.of (own := RX11) rfl (by decide) (Nat.le_of_ble_eq_true rfl) ?_
  intro p e s m below meth c A Q ls C hret hO hl
  obtain ⟨hx, hb, hml, hown, ht, hK, hA⟩ := id C
  have hl : lv_has ls 5 [(0, .ref (a 0)), (1, .int x1), (2, .int x2)] := hl
  refine lv_iload_n hx hb dX11_odds_0 rfl (lv_at hl 1 rfl) ?_
  refine lv_iconst (v := 0) hx hb dX11_odds_1 (by decide) ?_
  refine lv_iconst (v := 4) hx hb dX11_odds_2 (by decide) ?_
  refine cSi (w := mW cy a) (As := [.int x1, .int 0, .int 4]) (rest := []) C hO (T_X11_isIn l D cy a _ (x1) (0) (4)) (va_cwS 3 ht (gSS wd_1722 wd_1723 wd_121 wd_1724) rfl rfl rfl hd_yX11_isIn ⟨Nat.le_of_ble_eq_true rfl, Nat.le_of_ble_eq_true rfl⟩)  rfl hl.1 (Nat.le_of_ble_eq_true rfl) dX11_odds_3 rfl ⟨Nat.zero_le _, Nat.zero_le _⟩ (fun r1 u2 H locs hp3 hO => ?_)
  obtain ⟨hr1, hu2⟩ := hp3
  rw [hu2] at hO
  have zz4 : (0 : Int32).toInt = 0 := rfl
  have zz5 : (4 : Int32).toInt = 4 := rfl
  rcases hr1 with ⟨hcr1, hvr1⟩ | ⟨hcr1, hvr1⟩
  · subst hvr1
    refine bn_eq (X := 1) hx hb dX11_odds_6 rfl (by omega) ?_ (tgt := 18) (by decide)
    refine lv_iload_n hx hb dX11_odds_9 rfl (lv_at hl 2 rfl) ?_
    refine lv_iconst (v := 0) hx hb dX11_odds_10 (by decide) ?_
    refine lv_iconst (v := 1) hx hb dX11_odds_11 (by decide) ?_
    refine cSi (w := mW cy a) (As := [.int x2, .int 0, .int 1]) (rest := []) C hO (T_X11_isIn l D cy a _ (x2) (0) (1)) (va_cwS 3 ht (gSS wd_1722 wd_1723 wd_121 wd_1724) rfl rfl rfl hd_yX11_isIn ⟨Nat.le_of_ble_eq_true rfl, Nat.le_of_ble_eq_true rfl⟩)  rfl hl.1 (Nat.le_of_ble_eq_true rfl) dX11_odds_12 rfl ⟨Nat.zero_le _, Nat.zero_le _⟩ (fun r6 u7 H locs hp8 hO => ?_)
    obtain ⟨hr6, hu7⟩ := hp8
    rw [hu7] at hO
    have zz9 : (0 : Int32).toInt = 0 := rfl
    have zz10 : (1 : Int32).toInt = 1 := rfl
    rcases hr6 with ⟨hcr6, hvr6⟩ | ⟨hcr6, hvr6⟩
    · subst hvr6
      refine bt_ne (tgt := 20) (X := 1) hx hb dX11_odds_15 (by decide) rfl (by omega) ?_
      have c11 : (x1).toInt = 0 ∨ (x1).toInt = 1 ∨ (x1).toInt = 2 ∨ (x1).toInt = 3 ∨ (x1).toInt = 4 := by omega
      rcases c11 with c11 | c11 | c11 | c11 | c11
      · have ec11 : x1 = 0 := i32_eq.mpr (by rw [c11]; rfl)
        subst ec11
        refine lv_bipush (v := 100) hx hb dX11_odds_20 (by decide) ?_
        refine lv_aload_n hx hb dX11_odds_22 rfl (lv_at hl 0 rfl) ?_
        refine gf_RX11_39 (v := .ref (a 9)) C hO 0 mW_0 rfl dX11_odds_23 ?_
        refine lv_aload_n hx hb dX11_odds_26 rfl (lv_at hl 0 rfl) ?_
        refine gf_RX11_255 (v := .int 0) C hO 0 mW_0 (congrArg (fun z : Int32 => some (Value.int z)) hI_0_36) dX11_odds_27 ?_
        refine aI C hO 9 mW_9 (i_in (X := 0) rfl (by omega) (by omega)) dX11_odds_30 ?_
        refine tE (y := 0) hA_9_0 ?_
        refine lv_isub hx hb dX11_odds_31 ?_
        refine tE (y := 100) rfl ?_
        refine lv_iload_n hx hb dX11_odds_32 rfl (lv_at hl 1 rfl) ?_
        refine cSi (w := mW cy a) (As := [.int 100, .int 0]) (rest := []) C hO (T_X11_power_0 l D cy a _ ) (va_cwS 2 ht (gSS wd_1956 wd_1957 wd_121 wd_1958) rfl rfl rfl hd_yX11_power ⟨Nat.le_of_ble_eq_true rfl, Nat.le_of_ble_eq_true rfl⟩)  rfl hl.1 (Nat.le_of_ble_eq_true rfl) dX11_odds_33 rfl ⟨Nat.zero_le _, Nat.zero_le _⟩ (fun r12 u13 H locs hp14 hO => ?_)
        obtain ⟨hr12, hu13⟩ := hp14
        subst hr12
        rw [hu13] at hO
        refine lv_istore_n (lv' := [(3, .int 1), (0, .ref (a 0)), (1, .int 0), (2, .int x2)]) hx hb dX11_odds_36 rfl hl (by decide) rfl (fun ls hl => ?_)
        refine lv_bipush (v := 100) hx hb dX11_odds_37 (by decide) ?_
        refine lv_iload_n hx hb dX11_odds_39 rfl (lv_at hl 2 rfl) ?_
        refine cSi (w := mW cy a) (As := [.int 100, .int 0]) (rest := []) C hO (T_X11_power_0 l D cy a _ ) (va_cwS 2 ht (gSS wd_1956 wd_1957 wd_121 wd_1958) rfl rfl rfl hd_yX11_power ⟨Nat.le_of_ble_eq_true rfl, Nat.le_of_ble_eq_true rfl⟩)  rfl hl.1 (Nat.le_of_ble_eq_true rfl) dX11_odds_40 rfl ⟨Nat.zero_le _, Nat.zero_le _⟩ (fun r15 u16 H locs hp17 hO => ?_)
        obtain ⟨hr15, hu16⟩ := hp17
        subst hr15
        rw [hu16] at hO
        refine lv_istore (lv' := [(4, .int 1), (3, .int 1), (0, .ref (a 0)), (1, .int 0), (2, .int x2)]) hx hb dX11_odds_43 hl (by decide) rfl (fun ls hl => ?_)
        refine lv_iload_n hx hb dX11_odds_45 rfl (lv_at hl 4 rfl) ?_
        refine bs_ne (tgt := 53) (X := (x2).toInt) hx hb dX11_odds_46 (by decide) rfl (fun c18 => ?_) (fun c18 => ?_)
        · refine lv_iload hx hb dX11_odds_53 (lv_at hl 0 rfl) ?_
          refine lv_iload hx hb dX11_odds_55 (lv_at hl 0 rfl) ?_
          refine lv_iload_n hx hb dX11_odds_57 rfl (lv_at hl 1 rfl) ?_
          refine cSi (w := mW cy a) (As := [.int 1, .int 1]) (rest := [.int 1]) C hO (T_X11_divisor_0 l D cy a _ ) (va_cwS 2 ht (gSS wd_1975 wd_1976 wd_121 wd_1977) rfl rfl rfl hd_yX11_divisor ⟨Nat.le_of_ble_eq_true rfl, Nat.le_of_ble_eq_true rfl⟩)  rfl hl.1 (Nat.le_of_ble_eq_true rfl) dX11_odds_58 rfl ⟨Nat.zero_le _, Nat.zero_le _⟩ (fun r19 u20 H locs hp21 hO => ?_)
          obtain ⟨hr19, hu20⟩ := hp21
          subst hr19
          rw [hu20] at hO
          refine lv_idiv hx hb dX11_odds_61 (i_ne0 (X := 1) rfl (by omega)) ?_
          refine tE (y := 1) (by decide) ?_
          refine hret _ _ _ _ _ _ dX11_odds_62 rfl ?_ hO
          exact ⟨(by unfold q_odds; have z0 : (0 : Int32).toInt = 0 := rfl; have z1 : (-1 : Int32).toInt = -1 := rfl; split <;> first | rfl | (exact i32_eq.mpr (by omega)) | (exfalso; omega)), rfl⟩
        · refine lv_iload_n hx hb dX11_odds_49 rfl (lv_at hl 1 rfl) ?_
          refine lv_goto (tgt := 55) hx hb dX11_odds_50 (by decide) ?_
          refine lv_iload hx hb dX11_odds_55 (lv_at hl 0 rfl) ?_
          refine lv_iload_n hx hb dX11_odds_57 rfl (lv_at hl 1 rfl) ?_
          refine cSi (w := mW cy a) (As := [.int 1, .int 1]) (rest := [.int 1]) C hO (T_X11_divisor_0 l D cy a _ ) (va_cwS 2 ht (gSS wd_1975 wd_1976 wd_121 wd_1977) rfl rfl rfl hd_yX11_divisor ⟨Nat.le_of_ble_eq_true rfl, Nat.le_of_ble_eq_true rfl⟩)  rfl hl.1 (Nat.le_of_ble_eq_true rfl) dX11_odds_58 rfl ⟨Nat.zero_le _, Nat.zero_le _⟩ (fun r22 u23 H locs hp24 hO => ?_)
          obtain ⟨hr22, hu23⟩ := hp24
          subst hr22
          rw [hu23] at hO
          refine lv_idiv hx hb dX11_odds_61 (i_ne0 (X := 1) rfl (by omega)) ?_
          refine tE (y := 1) (by decide) ?_
          refine hret _ _ _ _ _ _ dX11_odds_62 rfl ?_ hO
          exact ⟨(by unfold q_odds; have z0 : (0 : Int32).toInt = 0 := rfl; have z1 : (-1 : Int32).toInt = -1 := rfl; split <;> first | rfl | (exact i32_eq.mpr (by omega)) | (exfalso; omega)), rfl⟩
      · have ec11 : x1 = 1 := i32_eq.mpr (by rw [c11]; rfl)
        subst ec11
        refine lv_bipush (v := 100) hx hb dX11_odds_20 (by decide) ?_
        refine lv_aload_n hx hb dX11_odds_22 rfl (lv_at hl 0 rfl) ?_
        refine gf_RX11_39 (v := .ref (a 9)) C hO 0 mW_0 rfl dX11_odds_23 ?_
        refine lv_aload_n hx hb dX11_odds_26 rfl (lv_at hl 0 rfl) ?_
        refine gf_RX11_255 (v := .int 0) C hO 0 mW_0 (congrArg (fun z : Int32 => some (Value.int z)) hI_0_36) dX11_odds_27 ?_
        refine aI C hO 9 mW_9 (i_in (X := 0) rfl (by omega) (by omega)) dX11_odds_30 ?_
        refine tE (y := 0) hA_9_0 ?_
        refine lv_isub hx hb dX11_odds_31 ?_
        refine tE (y := 100) rfl ?_
        refine lv_iload_n hx hb dX11_odds_32 rfl (lv_at hl 1 rfl) ?_
        refine cSi (w := mW cy a) (As := [.int 100, .int 1]) (rest := []) C hO (T_X11_power_1 l D cy a _ ) (va_cwS 2 ht (gSS wd_1956 wd_1957 wd_121 wd_1958) rfl rfl rfl hd_yX11_power ⟨Nat.le_of_ble_eq_true rfl, Nat.le_of_ble_eq_true rfl⟩)  rfl hl.1 (Nat.le_of_ble_eq_true rfl) dX11_odds_33 rfl ⟨Nat.zero_le _, Nat.zero_le _⟩ (fun r25 u26 H locs hp27 hO => ?_)
        obtain ⟨hr25, hu26⟩ := hp27
        subst hr25
        rw [hu26] at hO
        refine lv_istore_n (lv' := [(3, .int 100), (0, .ref (a 0)), (1, .int 1), (2, .int x2)]) hx hb dX11_odds_36 rfl hl (by decide) rfl (fun ls hl => ?_)
        refine lv_bipush (v := 100) hx hb dX11_odds_37 (by decide) ?_
        refine lv_iload_n hx hb dX11_odds_39 rfl (lv_at hl 2 rfl) ?_
        refine cSi (w := mW cy a) (As := [.int 100, .int 1]) (rest := []) C hO (T_X11_power_1 l D cy a _ ) (va_cwS 2 ht (gSS wd_1956 wd_1957 wd_121 wd_1958) rfl rfl rfl hd_yX11_power ⟨Nat.le_of_ble_eq_true rfl, Nat.le_of_ble_eq_true rfl⟩)  rfl hl.1 (Nat.le_of_ble_eq_true rfl) dX11_odds_40 rfl ⟨Nat.zero_le _, Nat.zero_le _⟩ (fun r28 u29 H locs hp30 hO => ?_)
        obtain ⟨hr28, hu29⟩ := hp30
        subst hr28
        rw [hu29] at hO
        refine lv_istore (lv' := [(4, .int 100), (3, .int 100), (0, .ref (a 0)), (1, .int 1), (2, .int x2)]) hx hb dX11_odds_43 hl (by decide) rfl (fun ls hl => ?_)
        refine lv_iload_n hx hb dX11_odds_45 rfl (lv_at hl 4 rfl) ?_
        refine bs_ne (tgt := 53) (X := (x2).toInt) hx hb dX11_odds_46 (by decide) rfl (fun c31 => ?_) (fun c31 => ?_)
        · refine lv_iload hx hb dX11_odds_53 (lv_at hl 0 rfl) ?_
          refine lv_iload hx hb dX11_odds_55 (lv_at hl 0 rfl) ?_
          refine lv_iload_n hx hb dX11_odds_57 rfl (lv_at hl 1 rfl) ?_
          refine cSi (w := mW cy a) (As := [.int 100, .int 100]) (rest := [.int 100]) C hO (T_X11_divisor_1 l D cy a _ ) (va_cwS 2 ht (gSS wd_1975 wd_1976 wd_121 wd_1977) rfl rfl rfl hd_yX11_divisor ⟨Nat.le_of_ble_eq_true rfl, Nat.le_of_ble_eq_true rfl⟩)  rfl hl.1 (Nat.le_of_ble_eq_true rfl) dX11_odds_58 rfl ⟨Nat.zero_le _, Nat.zero_le _⟩ (fun r32 u33 H locs hp34 hO => ?_)
          obtain ⟨hr32, hu33⟩ := hp34
          subst hr32
          rw [hu33] at hO
          refine lv_idiv hx hb dX11_odds_61 (i_ne0 (X := 100) rfl (by omega)) ?_
          refine tE (y := 1) (by decide) ?_
          refine hret _ _ _ _ _ _ dX11_odds_62 rfl ?_ hO
          exact ⟨(by unfold q_odds; have z0 : (0 : Int32).toInt = 0 := rfl; have z1 : (-1 : Int32).toInt = -1 := rfl; split <;> first | rfl | (exact i32_eq.mpr (by omega)) | (exfalso; omega)), rfl⟩
        · refine lv_iload_n hx hb dX11_odds_49 rfl (lv_at hl 1 rfl) ?_
          refine lv_goto (tgt := 55) hx hb dX11_odds_50 (by decide) ?_
          refine lv_iload hx hb dX11_odds_55 (lv_at hl 0 rfl) ?_
          refine lv_iload_n hx hb dX11_odds_57 rfl (lv_at hl 1 rfl) ?_
          refine cSi (w := mW cy a) (As := [.int 100, .int 100]) (rest := [.int 100]) C hO (T_X11_divisor_1 l D cy a _ ) (va_cwS 2 ht (gSS wd_1975 wd_1976 wd_121 wd_1977) rfl rfl rfl hd_yX11_divisor ⟨Nat.le_of_ble_eq_true rfl, Nat.le_of_ble_eq_true rfl⟩)  rfl hl.1 (Nat.le_of_ble_eq_true rfl) dX11_odds_58 rfl ⟨Nat.zero_le _, Nat.zero_le _⟩ (fun r35 u36 H locs hp37 hO => ?_)
          obtain ⟨hr35, hu36⟩ := hp37
          subst hr35
          rw [hu36] at hO
          refine lv_idiv hx hb dX11_odds_61 (i_ne0 (X := 100) rfl (by omega)) ?_
          refine tE (y := 1) (by decide) ?_
          refine hret _ _ _ _ _ _ dX11_odds_62 rfl ?_ hO
          exact ⟨(by unfold q_odds; have z0 : (0 : Int32).toInt = 0 := rfl; have z1 : (-1 : Int32).toInt = -1 := rfl; split <;> first | rfl | (exact i32_eq.mpr (by omega)) | (exfalso; omega)), rfl⟩
      · have ec11 : x1 = 2 := i32_eq.mpr (by rw [c11]; rfl)
        subst ec11
        refine lv_bipush (v := 100) hx hb dX11_odds_20 (by decide) ?_
        refine lv_aload_n hx hb dX11_odds_22 rfl (lv_at hl 0 rfl) ?_
        refine gf_RX11_39 (v := .ref (a 9)) C hO 0 mW_0 rfl dX11_odds_23 ?_
        refine lv_aload_n hx hb dX11_odds_26 rfl (lv_at hl 0 rfl) ?_
        refine gf_RX11_255 (v := .int 0) C hO 0 mW_0 (congrArg (fun z : Int32 => some (Value.int z)) hI_0_36) dX11_odds_27 ?_
        refine aI C hO 9 mW_9 (i_in (X := 0) rfl (by omega) (by omega)) dX11_odds_30 ?_
        refine tE (y := 0) hA_9_0 ?_
        refine lv_isub hx hb dX11_odds_31 ?_
        refine tE (y := 100) rfl ?_
        refine lv_iload_n hx hb dX11_odds_32 rfl (lv_at hl 1 rfl) ?_
        refine cSi (w := mW cy a) (As := [.int 100, .int 2]) (rest := []) C hO (T_X11_power_2 l D cy a _ ) (va_cwS 2 ht (gSS wd_1956 wd_1957 wd_121 wd_1958) rfl rfl rfl hd_yX11_power ⟨Nat.le_of_ble_eq_true rfl, Nat.le_of_ble_eq_true rfl⟩)  rfl hl.1 (Nat.le_of_ble_eq_true rfl) dX11_odds_33 rfl ⟨Nat.zero_le _, Nat.zero_le _⟩ (fun r38 u39 H locs hp40 hO => ?_)
        obtain ⟨hr38, hu39⟩ := hp40
        subst hr38
        rw [hu39] at hO
        refine lv_istore_n (lv' := [(3, .int 10000), (0, .ref (a 0)), (1, .int 2), (2, .int x2)]) hx hb dX11_odds_36 rfl hl (by decide) rfl (fun ls hl => ?_)
        refine lv_bipush (v := 100) hx hb dX11_odds_37 (by decide) ?_
        refine lv_iload_n hx hb dX11_odds_39 rfl (lv_at hl 2 rfl) ?_
        refine cSi (w := mW cy a) (As := [.int 100, .int 2]) (rest := []) C hO (T_X11_power_2 l D cy a _ ) (va_cwS 2 ht (gSS wd_1956 wd_1957 wd_121 wd_1958) rfl rfl rfl hd_yX11_power ⟨Nat.le_of_ble_eq_true rfl, Nat.le_of_ble_eq_true rfl⟩)  rfl hl.1 (Nat.le_of_ble_eq_true rfl) dX11_odds_40 rfl ⟨Nat.zero_le _, Nat.zero_le _⟩ (fun r41 u42 H locs hp43 hO => ?_)
        obtain ⟨hr41, hu42⟩ := hp43
        subst hr41
        rw [hu42] at hO
        refine lv_istore (lv' := [(4, .int 10000), (3, .int 10000), (0, .ref (a 0)), (1, .int 2), (2, .int x2)]) hx hb dX11_odds_43 hl (by decide) rfl (fun ls hl => ?_)
        refine lv_iload_n hx hb dX11_odds_45 rfl (lv_at hl 4 rfl) ?_
        refine bs_ne (tgt := 53) (X := (x2).toInt) hx hb dX11_odds_46 (by decide) rfl (fun c44 => ?_) (fun c44 => ?_)
        · refine lv_iload hx hb dX11_odds_53 (lv_at hl 0 rfl) ?_
          refine lv_iload hx hb dX11_odds_55 (lv_at hl 0 rfl) ?_
          refine lv_iload_n hx hb dX11_odds_57 rfl (lv_at hl 1 rfl) ?_
          refine cSi (w := mW cy a) (As := [.int 10000, .int 10000]) (rest := [.int 10000]) C hO (T_X11_divisor_2 l D cy a _ ) (va_cwS 2 ht (gSS wd_1975 wd_1976 wd_121 wd_1977) rfl rfl rfl hd_yX11_divisor ⟨Nat.le_of_ble_eq_true rfl, Nat.le_of_ble_eq_true rfl⟩)  rfl hl.1 (Nat.le_of_ble_eq_true rfl) dX11_odds_58 rfl ⟨Nat.zero_le _, Nat.zero_le _⟩ (fun r45 u46 H locs hp47 hO => ?_)
          obtain ⟨hr45, hu46⟩ := hp47
          subst hr45
          rw [hu46] at hO
          refine lv_idiv hx hb dX11_odds_61 (i_ne0 (X := 10000) rfl (by omega)) ?_
          refine tE (y := 1) (by decide) ?_
          refine hret _ _ _ _ _ _ dX11_odds_62 rfl ?_ hO
          exact ⟨(by unfold q_odds; have z0 : (0 : Int32).toInt = 0 := rfl; have z1 : (-1 : Int32).toInt = -1 := rfl; split <;> first | rfl | (exact i32_eq.mpr (by omega)) | (exfalso; omega)), rfl⟩
        · refine lv_iload_n hx hb dX11_odds_49 rfl (lv_at hl 1 rfl) ?_
          refine lv_goto (tgt := 55) hx hb dX11_odds_50 (by decide) ?_
          refine lv_iload hx hb dX11_odds_55 (lv_at hl 0 rfl) ?_
          refine lv_iload_n hx hb dX11_odds_57 rfl (lv_at hl 1 rfl) ?_
          refine cSi (w := mW cy a) (As := [.int 10000, .int 10000]) (rest := [.int 10000]) C hO (T_X11_divisor_2 l D cy a _ ) (va_cwS 2 ht (gSS wd_1975 wd_1976 wd_121 wd_1977) rfl rfl rfl hd_yX11_divisor ⟨Nat.le_of_ble_eq_true rfl, Nat.le_of_ble_eq_true rfl⟩)  rfl hl.1 (Nat.le_of_ble_eq_true rfl) dX11_odds_58 rfl ⟨Nat.zero_le _, Nat.zero_le _⟩ (fun r48 u49 H locs hp50 hO => ?_)
          obtain ⟨hr48, hu49⟩ := hp50
          subst hr48
          rw [hu49] at hO
          refine lv_idiv hx hb dX11_odds_61 (i_ne0 (X := 10000) rfl (by omega)) ?_
          refine tE (y := 1) (by decide) ?_
          refine hret _ _ _ _ _ _ dX11_odds_62 rfl ?_ hO
          exact ⟨(by unfold q_odds; have z0 : (0 : Int32).toInt = 0 := rfl; have z1 : (-1 : Int32).toInt = -1 := rfl; split <;> first | rfl | (exact i32_eq.mpr (by omega)) | (exfalso; omega)), rfl⟩
      · have ec11 : x1 = 3 := i32_eq.mpr (by rw [c11]; rfl)
        subst ec11
        refine lv_bipush (v := 100) hx hb dX11_odds_20 (by decide) ?_
        refine lv_aload_n hx hb dX11_odds_22 rfl (lv_at hl 0 rfl) ?_
        refine gf_RX11_39 (v := .ref (a 9)) C hO 0 mW_0 rfl dX11_odds_23 ?_
        refine lv_aload_n hx hb dX11_odds_26 rfl (lv_at hl 0 rfl) ?_
        refine gf_RX11_255 (v := .int 0) C hO 0 mW_0 (congrArg (fun z : Int32 => some (Value.int z)) hI_0_36) dX11_odds_27 ?_
        refine aI C hO 9 mW_9 (i_in (X := 0) rfl (by omega) (by omega)) dX11_odds_30 ?_
        refine tE (y := 0) hA_9_0 ?_
        refine lv_isub hx hb dX11_odds_31 ?_
        refine tE (y := 100) rfl ?_
        refine lv_iload_n hx hb dX11_odds_32 rfl (lv_at hl 1 rfl) ?_
        refine cSi (w := mW cy a) (As := [.int 100, .int 3]) (rest := []) C hO (T_X11_power_3 l D cy a _ ) (va_cwS 2 ht (gSS wd_1956 wd_1957 wd_121 wd_1958) rfl rfl rfl hd_yX11_power ⟨Nat.le_of_ble_eq_true rfl, Nat.le_of_ble_eq_true rfl⟩)  rfl hl.1 (Nat.le_of_ble_eq_true rfl) dX11_odds_33 rfl ⟨Nat.zero_le _, Nat.zero_le _⟩ (fun r51 u52 H locs hp53 hO => ?_)
        obtain ⟨hr51, hu52⟩ := hp53
        subst hr51
        rw [hu52] at hO
        refine lv_istore_n (lv' := [(3, .int 1000000), (0, .ref (a 0)), (1, .int 3), (2, .int x2)]) hx hb dX11_odds_36 rfl hl (by decide) rfl (fun ls hl => ?_)
        refine lv_bipush (v := 100) hx hb dX11_odds_37 (by decide) ?_
        refine lv_iload_n hx hb dX11_odds_39 rfl (lv_at hl 2 rfl) ?_
        refine cSi (w := mW cy a) (As := [.int 100, .int 3]) (rest := []) C hO (T_X11_power_3 l D cy a _ ) (va_cwS 2 ht (gSS wd_1956 wd_1957 wd_121 wd_1958) rfl rfl rfl hd_yX11_power ⟨Nat.le_of_ble_eq_true rfl, Nat.le_of_ble_eq_true rfl⟩)  rfl hl.1 (Nat.le_of_ble_eq_true rfl) dX11_odds_40 rfl ⟨Nat.zero_le _, Nat.zero_le _⟩ (fun r54 u55 H locs hp56 hO => ?_)
        obtain ⟨hr54, hu55⟩ := hp56
        subst hr54
        rw [hu55] at hO
        refine lv_istore (lv' := [(4, .int 1000000), (3, .int 1000000), (0, .ref (a 0)), (1, .int 3), (2, .int x2)]) hx hb dX11_odds_43 hl (by decide) rfl (fun ls hl => ?_)
        refine lv_iload_n hx hb dX11_odds_45 rfl (lv_at hl 4 rfl) ?_
        refine bs_ne (tgt := 53) (X := (x2).toInt) hx hb dX11_odds_46 (by decide) rfl (fun c57 => ?_) (fun c57 => ?_)
        · refine lv_iload hx hb dX11_odds_53 (lv_at hl 0 rfl) ?_
          refine lv_iload hx hb dX11_odds_55 (lv_at hl 0 rfl) ?_
          refine lv_iload_n hx hb dX11_odds_57 rfl (lv_at hl 1 rfl) ?_
          refine cSi (w := mW cy a) (As := [.int 1000000, .int 1000000]) (rest := [.int 1000000]) C hO (T_X11_divisor_3 l D cy a _ ) (va_cwS 2 ht (gSS wd_1975 wd_1976 wd_121 wd_1977) rfl rfl rfl hd_yX11_divisor ⟨Nat.le_of_ble_eq_true rfl, Nat.le_of_ble_eq_true rfl⟩)  rfl hl.1 (Nat.le_of_ble_eq_true rfl) dX11_odds_58 rfl ⟨Nat.zero_le _, Nat.zero_le _⟩ (fun r58 u59 H locs hp60 hO => ?_)
          obtain ⟨hr58, hu59⟩ := hp60
          subst hr58
          rw [hu59] at hO
          refine lv_idiv hx hb dX11_odds_61 (i_ne0 (X := 1000000) rfl (by omega)) ?_
          refine tE (y := 1) (by decide) ?_
          refine hret _ _ _ _ _ _ dX11_odds_62 rfl ?_ hO
          exact ⟨(by unfold q_odds; have z0 : (0 : Int32).toInt = 0 := rfl; have z1 : (-1 : Int32).toInt = -1 := rfl; split <;> first | rfl | (exact i32_eq.mpr (by omega)) | (exfalso; omega)), rfl⟩
        · refine lv_iload_n hx hb dX11_odds_49 rfl (lv_at hl 1 rfl) ?_
          refine lv_goto (tgt := 55) hx hb dX11_odds_50 (by decide) ?_
          refine lv_iload hx hb dX11_odds_55 (lv_at hl 0 rfl) ?_
          refine lv_iload_n hx hb dX11_odds_57 rfl (lv_at hl 1 rfl) ?_
          refine cSi (w := mW cy a) (As := [.int 1000000, .int 1000000]) (rest := [.int 1000000]) C hO (T_X11_divisor_3 l D cy a _ ) (va_cwS 2 ht (gSS wd_1975 wd_1976 wd_121 wd_1977) rfl rfl rfl hd_yX11_divisor ⟨Nat.le_of_ble_eq_true rfl, Nat.le_of_ble_eq_true rfl⟩)  rfl hl.1 (Nat.le_of_ble_eq_true rfl) dX11_odds_58 rfl ⟨Nat.zero_le _, Nat.zero_le _⟩ (fun r61 u62 H locs hp63 hO => ?_)
          obtain ⟨hr61, hu62⟩ := hp63
          subst hr61
          rw [hu62] at hO
          refine lv_idiv hx hb dX11_odds_61 (i_ne0 (X := 1000000) rfl (by omega)) ?_
          refine tE (y := 1) (by decide) ?_
          refine hret _ _ _ _ _ _ dX11_odds_62 rfl ?_ hO
          exact ⟨(by unfold q_odds; have z0 : (0 : Int32).toInt = 0 := rfl; have z1 : (-1 : Int32).toInt = -1 := rfl; split <;> first | rfl | (exact i32_eq.mpr (by omega)) | (exfalso; omega)), rfl⟩
      · have ec11 : x1 = 4 := i32_eq.mpr (by rw [c11]; rfl)
        subst ec11
        refine lv_bipush (v := 100) hx hb dX11_odds_20 (by decide) ?_
        refine lv_aload_n hx hb dX11_odds_22 rfl (lv_at hl 0 rfl) ?_
        refine gf_RX11_39 (v := .ref (a 9)) C hO 0 mW_0 rfl dX11_odds_23 ?_
        refine lv_aload_n hx hb dX11_odds_26 rfl (lv_at hl 0 rfl) ?_
        refine gf_RX11_255 (v := .int 0) C hO 0 mW_0 (congrArg (fun z : Int32 => some (Value.int z)) hI_0_36) dX11_odds_27 ?_
        refine aI C hO 9 mW_9 (i_in (X := 0) rfl (by omega) (by omega)) dX11_odds_30 ?_
        refine tE (y := 0) hA_9_0 ?_
        refine lv_isub hx hb dX11_odds_31 ?_
        refine tE (y := 100) rfl ?_
        refine lv_iload_n hx hb dX11_odds_32 rfl (lv_at hl 1 rfl) ?_
        refine cSi (w := mW cy a) (As := [.int 100, .int 4]) (rest := []) C hO (T_X11_power_4 l D cy a _ ) (va_cwS 2 ht (gSS wd_1956 wd_1957 wd_121 wd_1958) rfl rfl rfl hd_yX11_power ⟨Nat.le_of_ble_eq_true rfl, Nat.le_of_ble_eq_true rfl⟩)  rfl hl.1 (Nat.le_of_ble_eq_true rfl) dX11_odds_33 rfl ⟨Nat.zero_le _, Nat.zero_le _⟩ (fun r64 u65 H locs hp66 hO => ?_)
        obtain ⟨hr64, hu65⟩ := hp66
        subst hr64
        rw [hu65] at hO
        refine lv_istore_n (lv' := [(3, .int 100000000), (0, .ref (a 0)), (1, .int 4), (2, .int x2)]) hx hb dX11_odds_36 rfl hl (by decide) rfl (fun ls hl => ?_)
        refine lv_bipush (v := 100) hx hb dX11_odds_37 (by decide) ?_
        refine lv_iload_n hx hb dX11_odds_39 rfl (lv_at hl 2 rfl) ?_
        refine cSi (w := mW cy a) (As := [.int 100, .int 4]) (rest := []) C hO (T_X11_power_4 l D cy a _ ) (va_cwS 2 ht (gSS wd_1956 wd_1957 wd_121 wd_1958) rfl rfl rfl hd_yX11_power ⟨Nat.le_of_ble_eq_true rfl, Nat.le_of_ble_eq_true rfl⟩)  rfl hl.1 (Nat.le_of_ble_eq_true rfl) dX11_odds_40 rfl ⟨Nat.zero_le _, Nat.zero_le _⟩ (fun r67 u68 H locs hp69 hO => ?_)
        obtain ⟨hr67, hu68⟩ := hp69
        subst hr67
        rw [hu68] at hO
        refine lv_istore (lv' := [(4, .int 100000000), (3, .int 100000000), (0, .ref (a 0)), (1, .int 4), (2, .int x2)]) hx hb dX11_odds_43 hl (by decide) rfl (fun ls hl => ?_)
        refine lv_iload_n hx hb dX11_odds_45 rfl (lv_at hl 4 rfl) ?_
        refine bs_ne (tgt := 53) (X := (x2).toInt) hx hb dX11_odds_46 (by decide) rfl (fun c70 => ?_) (fun c70 => ?_)
        · refine lv_iload hx hb dX11_odds_53 (lv_at hl 0 rfl) ?_
          refine lv_iload hx hb dX11_odds_55 (lv_at hl 0 rfl) ?_
          refine lv_iload_n hx hb dX11_odds_57 rfl (lv_at hl 1 rfl) ?_
          refine cSi (w := mW cy a) (As := [.int 100000000, .int 100000000]) (rest := [.int 100000000]) C hO (T_X11_divisor_4 l D cy a _ ) (va_cwS 2 ht (gSS wd_1975 wd_1976 wd_121 wd_1977) rfl rfl rfl hd_yX11_divisor ⟨Nat.le_of_ble_eq_true rfl, Nat.le_of_ble_eq_true rfl⟩)  rfl hl.1 (Nat.le_of_ble_eq_true rfl) dX11_odds_58 rfl ⟨Nat.zero_le _, Nat.zero_le _⟩ (fun r71 u72 H locs hp73 hO => ?_)
          obtain ⟨hr71, hu72⟩ := hp73
          subst hr71
          rw [hu72] at hO
          refine lv_idiv hx hb dX11_odds_61 (i_ne0 (X := 100000000) rfl (by omega)) ?_
          refine tE (y := 1) (by decide) ?_
          refine hret _ _ _ _ _ _ dX11_odds_62 rfl ?_ hO
          exact ⟨(by unfold q_odds; have z0 : (0 : Int32).toInt = 0 := rfl; have z1 : (-1 : Int32).toInt = -1 := rfl; split <;> first | rfl | (exact i32_eq.mpr (by omega)) | (exfalso; omega)), rfl⟩
        · refine lv_iload_n hx hb dX11_odds_49 rfl (lv_at hl 1 rfl) ?_
          refine lv_goto (tgt := 55) hx hb dX11_odds_50 (by decide) ?_
          refine lv_iload hx hb dX11_odds_55 (lv_at hl 0 rfl) ?_
          refine lv_iload_n hx hb dX11_odds_57 rfl (lv_at hl 1 rfl) ?_
          refine cSi (w := mW cy a) (As := [.int 100000000, .int 100000000]) (rest := [.int 100000000]) C hO (T_X11_divisor_4 l D cy a _ ) (va_cwS 2 ht (gSS wd_1975 wd_1976 wd_121 wd_1977) rfl rfl rfl hd_yX11_divisor ⟨Nat.le_of_ble_eq_true rfl, Nat.le_of_ble_eq_true rfl⟩)  rfl hl.1 (Nat.le_of_ble_eq_true rfl) dX11_odds_58 rfl ⟨Nat.zero_le _, Nat.zero_le _⟩ (fun r74 u75 H locs hp76 hO => ?_)
          obtain ⟨hr74, hu75⟩ := hp76
          subst hr74
          rw [hu75] at hO
          refine lv_idiv hx hb dX11_odds_61 (i_ne0 (X := 100000000) rfl (by omega)) ?_
          refine tE (y := 1) (by decide) ?_
          refine hret _ _ _ _ _ _ dX11_odds_62 rfl ?_ hO
          exact ⟨(by unfold q_odds; have z0 : (0 : Int32).toInt = 0 := rfl; have z1 : (-1 : Int32).toInt = -1 := rfl; split <;> first | rfl | (exact i32_eq.mpr (by omega)) | (exfalso; omega)), rfl⟩
    · subst hvr6
      refine bn_ne (X := 0) hx hb dX11_odds_15 rfl (by omega) ?_ (tgt := 20) (by decide)
      refine lv_iconst (v := (-1)) hx hb dX11_odds_18 (by decide) ?_
      refine hret _ _ _ _ _ _ dX11_odds_19 rfl ?_ hO
      exact ⟨(by unfold q_odds; have z0 : (0 : Int32).toInt = 0 := rfl; have z1 : (-1 : Int32).toInt = -1 := rfl; split <;> first | rfl | (exact i32_eq.mpr (by omega)) | (exfalso; omega)), rfl⟩
  · subst hvr1
    refine bt_eq (tgt := 18) (X := 0) hx hb dX11_odds_6 (by decide) rfl (by omega) ?_
    refine lv_iconst (v := (-1)) hx hb dX11_odds_18 (by decide) ?_
    refine hret _ _ _ _ _ _ dX11_odds_19 rfl ?_ hO
    exact ⟨(by unfold q_odds; have z0 : (0 : Int32).toInt = 0 := rfl; have z1 : (-1 : Int32).toInt = -1 := rfl; split <;> first | rfl | (exact i32_eq.mpr (by omega)) | (exfalso; omega)), rfl⟩
theorem dX11_heard_0 : decode cX11_heard 0 = .ok (.aload_n 0, 1) := by decide +kernel
theorem dX11_heard_1 : decode cX11_heard 1 = .ok (.iload_n 1, 1) := by decide +kernel
theorem dX11_heard_2 : decode cX11_heard 2 = .ok (.invokevirtual 383, 3) := by decide +kernel
theorem dX11_heard_5 : decode cX11_heard 5 = .ok (.ifCond .eq 32, 3) := by decide +kernel
theorem dX11_heard_8 : decode cX11_heard 8 = .ok (.iload_n 2, 1) := by decide +kernel
theorem dX11_heard_9 : decode cX11_heard 9 = .ok (.sipush (-9999), 3) := by decide +kernel
theorem dX11_heard_12 : decode cX11_heard 12 = .ok (.sipush 9999, 3) := by decide +kernel
theorem dX11_heard_15 : decode cX11_heard 15 = .ok (.invokestatic 374, 3) := by decide +kernel
theorem dX11_heard_18 : decode cX11_heard 18 = .ok (.ifCond .eq 19, 3) := by decide +kernel
theorem dX11_heard_21 : decode cX11_heard 21 = .ok (.aload_n 0, 1) := by decide +kernel
theorem dX11_heard_22 : decode cX11_heard 22 = .ok (.getfield 395, 3) := by decide +kernel
theorem dX11_heard_25 : decode cX11_heard 25 = .ok (.bipush 30, 2) := by decide +kernel
theorem dX11_heard_27 : decode cX11_heard 27 = .ok (.if_icmp .eq 10, 3) := by decide +kernel
theorem dX11_heard_30 : decode cX11_heard 30 = .ok (.aload_n 0, 1) := by decide +kernel
theorem dX11_heard_31 : decode cX11_heard 31 = .ok (.invokevirtual 377, 3) := by decide +kernel
theorem dX11_heard_34 : decode cX11_heard 34 = .ok (.ifCond .ne 5, 3) := by decide +kernel
theorem dX11_heard_37 : decode cX11_heard 37 = .ok (.iconst (-1), 1) := by decide +kernel
theorem dX11_heard_38 : decode cX11_heard 38 = .ok (.ireturn, 1) := by decide +kernel
theorem dX11_heard_39 : decode cX11_heard 39 = .ok (.aload_n 0, 1) := by decide +kernel
theorem dX11_heard_40 : decode cX11_heard 40 = .ok (.getfield 118, 3) := by decide +kernel
theorem dX11_heard_43 : decode cX11_heard 43 = .ok (.aload_n 0, 1) := by decide +kernel
theorem dX11_heard_44 : decode cX11_heard 44 = .ok (.getfield 395, 3) := by decide +kernel
theorem dX11_heard_47 : decode cX11_heard 47 = .ok (.iload_n 1, 1) := by decide +kernel
theorem dX11_heard_48 : decode cX11_heard 48 = .ok (.iastore, 1) := by decide +kernel
theorem dX11_heard_49 : decode cX11_heard 49 = .ok (.aload_n 0, 1) := by decide +kernel
theorem dX11_heard_50 : decode cX11_heard 50 = .ok (.getfield 121, 3) := by decide +kernel
theorem dX11_heard_53 : decode cX11_heard 53 = .ok (.aload_n 0, 1) := by decide +kernel
theorem dX11_heard_54 : decode cX11_heard 54 = .ok (.getfield 395, 3) := by decide +kernel
theorem dX11_heard_57 : decode cX11_heard 57 = .ok (.iload_n 2, 1) := by decide +kernel
theorem dX11_heard_58 : decode cX11_heard 58 = .ok (.iastore, 1) := by decide +kernel
theorem dX11_heard_59 : decode cX11_heard 59 = .ok (.aload_n 0, 1) := by decide +kernel
theorem dX11_heard_60 : decode cX11_heard 60 = .ok (.getfield 124, 3) := by decide +kernel
theorem dX11_heard_63 : decode cX11_heard 63 = .ok (.aload_n 0, 1) := by decide +kernel
theorem dX11_heard_64 : decode cX11_heard 64 = .ok (.getfield 395, 3) := by decide +kernel
theorem dX11_heard_67 : decode cX11_heard 67 = .ok (.iload_n 3, 1) := by decide +kernel
theorem dX11_heard_68 : decode cX11_heard 68 = .ok (.ifCond .eq 7, 3) := by decide +kernel
theorem dX11_heard_71 : decode cX11_heard 71 = .ok (.iconst 1, 1) := by decide +kernel
theorem dX11_heard_72 : decode cX11_heard 72 = .ok (.goto 4, 3) := by decide +kernel
theorem dX11_heard_75 : decode cX11_heard 75 = .ok (.iconst 0, 1) := by decide +kernel
theorem dX11_heard_76 : decode cX11_heard 76 = .ok (.iastore, 1) := by decide +kernel
theorem dX11_heard_77 : decode cX11_heard 77 = .ok (.aload_n 0, 1) := by decide +kernel
theorem dX11_heard_78 : decode cX11_heard 78 = .ok (.getfield 127, 3) := by decide +kernel
theorem dX11_heard_81 : decode cX11_heard 81 = .ok (.aload_n 0, 1) := by decide +kernel
theorem dX11_heard_82 : decode cX11_heard 82 = .ok (.getfield 395, 3) := by decide +kernel
theorem dX11_heard_85 : decode cX11_heard 85 = .ok (.aload_n 0, 1) := by decide +kernel
theorem dX11_heard_86 : decode cX11_heard 86 = .ok (.getfield 484, 3) := by decide +kernel
theorem dX11_heard_89 : decode cX11_heard 89 = .ok (.iastore, 1) := by decide +kernel
theorem dX11_heard_90 : decode cX11_heard 90 = .ok (.aload_n 0, 1) := by decide +kernel
theorem dX11_heard_91 : decode cX11_heard 91 = .ok (.getfield 130, 3) := by decide +kernel
theorem dX11_heard_94 : decode cX11_heard 94 = .ok (.aload_n 0, 1) := by decide +kernel
theorem dX11_heard_95 : decode cX11_heard 95 = .ok (.getfield 395, 3) := by decide +kernel
theorem dX11_heard_98 : decode cX11_heard 98 = .ok (.iconst (-1), 1) := by decide +kernel
theorem dX11_heard_99 : decode cX11_heard 99 = .ok (.iastore, 1) := by decide +kernel
theorem dX11_heard_100 : decode cX11_heard 100 = .ok (.aload_n 0, 1) := by decide +kernel
theorem dX11_heard_101 : decode cX11_heard 101 = .ok (.dup, 1) := by decide +kernel
theorem dX11_heard_102 : decode cX11_heard 102 = .ok (.getfield 395, 3) := by decide +kernel
theorem dX11_heard_105 : decode cX11_heard 105 = .ok (.iconst 1, 1) := by decide +kernel
theorem dX11_heard_106 : decode cX11_heard 106 = .ok (.iadd, 1) := by decide +kernel
theorem dX11_heard_107 : decode cX11_heard 107 = .ok (.putfield 395, 3) := by decide +kernel
theorem dX11_heard_110 : decode cX11_heard 110 = .ok (.aload_n 0, 1) := by decide +kernel
theorem dX11_heard_111 : decode cX11_heard 111 = .ok (.getfield 395, 3) := by decide +kernel
theorem dX11_heard_114 : decode cX11_heard 114 = .ok (.iconst 1, 1) := by decide +kernel
theorem dX11_heard_115 : decode cX11_heard 115 = .ok (.isub, 1) := by decide +kernel
theorem dX11_heard_116 : decode cX11_heard 116 = .ok (.ireturn, 1) := by decide +kernel
theorem wd_1981 : (Cond.code ⟨"WebCourtModel", "heard", "(IIZ)I"⟩ prog_13_method_111_code (4 : Nat) (Option.some FieldType.int)) ∈ gtb := gtb_c8 192 (by decide +kernel) rfl
set_option maxHeartbeats 4000000 in
set_option maxRecDepth 100000 in
theorem T_X11_heard (l : Launch) (D : va_G) (cy : Nat → ClassId) (a : Nat → Nat) (u : St) (hA_6_0 : fA u 6 0 = 0) (hI_0_36 : fI u 0 36 = 0) (x1 : Int32) (x2 : Int32) (x3 : Int32)  : Mi l D cy (mW cy a) yX11_heard (.code yX11_heard cX11_heard 4 (some .int)) (rmo 2 43) [.ref (a 0), .int x1, .int x2, .int x3] u (fun (r : Int32) (u' : St) => (r = (-1)) ∧ (u' = u)) := by
  refine Mi.of (own := RX11) rfl (by decide) (Nat.le_of_ble_eq_true rfl) ?_
  intro p e s m below meth c A Q ls C hret hO hl
  obtain ⟨hx, hb, hml, hown, ht, hK, hA⟩ := id C
  have hl : lv_has ls 4 [(0, .ref (a 0)), (1, .int x1), (2, .int x2), (3, .int x3)] := hl
  refine lv_aload_n hx hb dX11_heard_0 rfl (lv_at hl 0 rfl) ?_
  refine lv_iload_n hx hb dX11_heard_1 rfl (lv_at hl 1 rfl) ?_
  refine cVi (w := mW cy a) (As := [.int x1]) (rest := []) C hO (T_X11_isCase l D cy a _ (by exact hA_6_0) (by exact hI_0_36) (x1)) (cwV 1 ht (gV wd_1753 wd_1755 wd_83 wd_121 wd_1756) rfl rfl rfl hd_yX11_isCase ⟨Nat.le_of_ble_eq_true rfl, Nat.le_of_ble_eq_true rfl⟩) 0 rfl mW_0 rfl rfl hl.1 (Nat.le_of_ble_eq_true rfl) dX11_heard_2 rfl ⟨Nat.zero_le _, Nat.zero_le _⟩ (fun r1 u2 H locs hp3 hO => ?_)
  obtain ⟨hr1, hu2⟩ := hp3
  subst hr1
  rw [hu2] at hO
  refine bt_eq (tgt := 37) (X := 0) hx hb dX11_heard_5 (by decide) rfl (by omega) ?_
  refine lv_iconst (v := (-1)) hx hb dX11_heard_37 (by decide) ?_
  refine hret _ _ _ _ _ _ dX11_heard_38 rfl ?_ hO
  exact ⟨rfl, rfl⟩
theorem dX11_untell_0 : decode cX11_untell 0 = .ok (.iload_n 1, 1) := by decide +kernel
theorem dX11_untell_1 : decode cX11_untell 1 = .ok (.iconst 0, 1) := by decide +kernel
theorem dX11_untell_2 : decode cX11_untell 2 = .ok (.aload_n 0, 1) := by decide +kernel
theorem dX11_untell_3 : decode cX11_untell 3 = .ok (.getfield 395, 3) := by decide +kernel
theorem dX11_untell_6 : decode cX11_untell 6 = .ok (.iconst 1, 1) := by decide +kernel
theorem dX11_untell_7 : decode cX11_untell 7 = .ok (.isub, 1) := by decide +kernel
theorem dX11_untell_8 : decode cX11_untell 8 = .ok (.invokestatic 374, 3) := by decide +kernel
theorem dX11_untell_11 : decode cX11_untell 11 = .ok (.ifCond .eq 12, 3) := by decide +kernel
theorem dX11_untell_14 : decode cX11_untell 14 = .ok (.aload_n 0, 1) := by decide +kernel
theorem dX11_untell_15 : decode cX11_untell 15 = .ok (.getfield 130, 3) := by decide +kernel
theorem dX11_untell_18 : decode cX11_untell 18 = .ok (.iload_n 1, 1) := by decide +kernel
theorem dX11_untell_19 : decode cX11_untell 19 = .ok (.iaload, 1) := by decide +kernel
theorem dX11_untell_20 : decode cX11_untell 20 = .ok (.ifCond .lt 5, 3) := by decide +kernel
theorem dX11_untell_23 : decode cX11_untell 23 = .ok (.iconst 0, 1) := by decide +kernel
theorem dX11_untell_24 : decode cX11_untell 24 = .ok (.ireturn, 1) := by decide +kernel
theorem dX11_untell_25 : decode cX11_untell 25 = .ok (.aload_n 0, 1) := by decide +kernel
theorem dX11_untell_26 : decode cX11_untell 26 = .ok (.getfield 130, 3) := by decide +kernel
theorem dX11_untell_29 : decode cX11_untell 29 = .ok (.iload_n 1, 1) := by decide +kernel
theorem dX11_untell_30 : decode cX11_untell 30 = .ok (.aload_n 0, 1) := by decide +kernel
theorem dX11_untell_31 : decode cX11_untell 31 = .ok (.getfield 484, 3) := by decide +kernel
theorem dX11_untell_34 : decode cX11_untell 34 = .ok (.iastore, 1) := by decide +kernel
theorem dX11_untell_35 : decode cX11_untell 35 = .ok (.iconst 1, 1) := by decide +kernel
theorem dX11_untell_36 : decode cX11_untell 36 = .ok (.ireturn, 1) := by decide +kernel
theorem wd_1985 : (Cond.code ⟨"WebCourtModel", "untell", "(I)Z"⟩ prog_13_method_112_code (2 : Nat) (Option.some FieldType.boolean)) ∈ gtb := gtb_c8 196 (by decide +kernel) rfl
theorem wd_1417 : (Cond.fieldLink "WebCourtModel" (395 : Nat) "WebCourtModel" "heards" "I") ∈ gtb := gtb_c6 108 (by decide +kernel) rfl
theorem gf_RX11_395 {p : Program} {l : Launch} {e : Env} {R : Room} {s : State} {m : MethodId} {args : Array Value} {below : List Frame} {meth : Method} {c : Code} {H : Heap} {locs : List Loc} {cells slots : Nat} {Q : State → Prop} {cc : ByteArray} {pc nL : Nat} {ls : Array Slot} {rest : List Value} {D : va_G} {cy : Nat → ClassId} {A : Nat → Prop} {ws : va_W} {b : Nat} {fs : List Value} {v : Value} (C : Cx p s m args c cc nL RX11 D cy A) (hO : Wo D A ws s.heap H locs) (q0 : Nat) (he : ws[q0]? = some (b, .inr (11, fs))) (hv : fs[61]? = some v) (hdg : decode cc pc = .ok (.getfield 395, 3)) (kk : W p l e R s m args below meth c H locs cells slots Q (F0 m (pc + 3) ls (v :: rest))) : W p l e R s m args below meth c H locs cells slots Q (F0 m pc ls (.ref b :: rest)) := gF (k := 61) C hO q0 he rfl inFX11 (by decide) wd_1417 rfl hv hdg kk
set_option maxHeartbeats 4000000 in
set_option maxRecDepth 100000 in
theorem T_X11_untell (l : Launch) (D : va_G) (cy : Nat → ClassId) (a : Nat → Nat) (u : St) (hI_0_61 : fI u 0 61 = 0) (x1 : Int32)  : Mi l D cy (mW cy a) yX11_untell (.code yX11_untell cX11_untell 2 (some .boolean)) (rmo 1 22) [.ref (a 0), .int x1] u (fun (r : Int32) (u' : St) => (r = 0) ∧ (u' = u)) := by
  refine Mi.of (own := RX11) rfl (by decide) (Nat.le_of_ble_eq_true rfl) ?_
  intro p e s m below meth c A Q ls C hret hO hl
  obtain ⟨hx, hb, hml, hown, ht, hK, hA⟩ := id C
  have hl : lv_has ls 2 [(0, .ref (a 0)), (1, .int x1)] := hl
  refine lv_iload_n hx hb dX11_untell_0 rfl (lv_at hl 1 rfl) ?_
  refine lv_iconst (v := 0) hx hb dX11_untell_1 (by decide) ?_
  refine lv_aload_n hx hb dX11_untell_2 rfl (lv_at hl 0 rfl) ?_
  refine gf_RX11_395 (v := .int 0) C hO 0 mW_0 (congrArg (fun z : Int32 => some (Value.int z)) hI_0_61) dX11_untell_3 ?_
  refine lv_iconst (v := 1) hx hb dX11_untell_6 (by decide) ?_
  refine lv_isub hx hb dX11_untell_7 ?_
  refine tE (y := (-1)) rfl ?_
  refine cSi (w := mW cy a) (As := [.int x1, .int 0, .int (-1)]) (rest := []) C hO (T_X11_isIn l D cy a _ (x1) (0) ((-1))) (va_cwS 3 ht (gSS wd_1722 wd_1723 wd_121 wd_1724) rfl rfl rfl hd_yX11_isIn ⟨Nat.le_of_ble_eq_true rfl, Nat.le_of_ble_eq_true rfl⟩)  rfl hl.1 (Nat.le_of_ble_eq_true rfl) dX11_untell_8 rfl ⟨Nat.zero_le _, Nat.zero_le _⟩ (fun r1 u2 H locs hp3 hO => ?_)
  obtain ⟨hr1, hu2⟩ := hp3
  rw [hu2] at hO
  have zz4 : (0 : Int32).toInt = 0 := rfl
  have zz5 : ((-1) : Int32).toInt = (-1) := rfl
  rcases hr1 with ⟨hcr1, hvr1⟩ | ⟨hcr1, hvr1⟩
  · exfalso
    omega
  · subst hvr1
    refine bt_eq (tgt := 23) (X := 0) hx hb dX11_untell_11 (by decide) rfl (by omega) ?_
    refine lv_iconst (v := 0) hx hb dX11_untell_23 (by decide) ?_
    refine hret _ _ _ _ _ _ dX11_untell_24 rfl ?_ hO
    exact ⟨rfl, rfl⟩
theorem dX11_later_0 : decode cX11_later 0 = .ok (.iload_n 1, 1) := by decide +kernel
theorem dX11_later_1 : decode cX11_later 1 = .ok (.iconst 0, 1) := by decide +kernel
theorem dX11_later_2 : decode cX11_later 2 = .ok (.sipush 1000, 3) := by decide +kernel
theorem dX11_later_5 : decode cX11_later 5 = .ok (.invokestatic 374, 3) := by decide +kernel
theorem dX11_later_8 : decode cX11_later 8 = .ok (.ifCond .eq 15, 3) := by decide +kernel
theorem dX11_later_11 : decode cX11_later 11 = .ok (.aload_n 0, 1) := by decide +kernel
theorem dX11_later_12 : decode cX11_later 12 = .ok (.getfield 484, 3) := by decide +kernel
theorem dX11_later_15 : decode cX11_later 15 = .ok (.iload_n 1, 1) := by decide +kernel
theorem dX11_later_16 : decode cX11_later 16 = .ok (.iadd, 1) := by decide +kernel
theorem dX11_later_17 : decode cX11_later 17 = .ok (.ldc_w 487, 3) := by decide +kernel
theorem dX11_later_20 : decode cX11_later 20 = .ok (.if_icmp .le 5, 3) := by decide +kernel
theorem dX11_later_23 : decode cX11_later 23 = .ok (.iconst (-1), 1) := by decide +kernel
theorem dX11_later_24 : decode cX11_later 24 = .ok (.ireturn, 1) := by decide +kernel
theorem dX11_later_25 : decode cX11_later 25 = .ok (.aload_n 0, 1) := by decide +kernel
theorem dX11_later_26 : decode cX11_later 26 = .ok (.dup, 1) := by decide +kernel
theorem dX11_later_27 : decode cX11_later 27 = .ok (.getfield 484, 3) := by decide +kernel
theorem dX11_later_30 : decode cX11_later 30 = .ok (.iload_n 1, 1) := by decide +kernel
theorem dX11_later_31 : decode cX11_later 31 = .ok (.iadd, 1) := by decide +kernel
theorem dX11_later_32 : decode cX11_later 32 = .ok (.putfield 484, 3) := by decide +kernel
theorem dX11_later_35 : decode cX11_later 35 = .ok (.aload_n 0, 1) := by decide +kernel
theorem dX11_later_36 : decode cX11_later 36 = .ok (.getfield 484, 3) := by decide +kernel
theorem dX11_later_39 : decode cX11_later 39 = .ok (.ireturn, 1) := by decide +kernel
theorem wd_1989 : (Cond.code ⟨"WebCourtModel", "later", "(I)I"⟩ prog_13_method_113_code (2 : Nat) (Option.some FieldType.int)) ∈ gtb := gtb_c8 200 (by decide +kernel) rfl
theorem wd_1418 : (Cond.fieldLink "WebCourtModel" (484 : Nat) "WebCourtModel" "time" "I") ∈ gtb := gtb_c6 109 (by decide +kernel) rfl
theorem gf_RX11_484 {p : Program} {l : Launch} {e : Env} {R : Room} {s : State} {m : MethodId} {args : Array Value} {below : List Frame} {meth : Method} {c : Code} {H : Heap} {locs : List Loc} {cells slots : Nat} {Q : State → Prop} {cc : ByteArray} {pc nL : Nat} {ls : Array Slot} {rest : List Value} {D : va_G} {cy : Nat → ClassId} {A : Nat → Prop} {ws : va_W} {b : Nat} {fs : List Value} {v : Value} (C : Cx p s m args c cc nL RX11 D cy A) (hO : Wo D A ws s.heap H locs) (q0 : Nat) (he : ws[q0]? = some (b, .inr (11, fs))) (hv : fs[62]? = some v) (hdg : decode cc pc = .ok (.getfield 484, 3)) (kk : W p l e R s m args below meth c H locs cells slots Q (F0 m (pc + 3) ls (v :: rest))) : W p l e R s m args below meth c H locs cells slots Q (F0 m pc ls (.ref b :: rest)) := gF (k := 62) C hO q0 he rfl inFX11 (by decide) wd_1418 rfl hv hdg kk
theorem wd_1990 : (Cond.constant "WebCourtModel" (487 : Nat) (100000 : Int32)) ∈ gtb := gtb_c8 201 (by decide +kernel) rfl
theorem pf_RX11_484 {p : Program} {l : Launch} {e : Env} {R : Room} {s : State} {m : MethodId} {args : Array Value} {below : List Frame} {meth : Method} {c : Code} {H : Heap} {locs : List Loc} {cells slots : Nat} {Q : State → Prop} {cc : ByteArray} {pc nL : Nat} {ls : Array Slot} {rest : List Value} {D : va_G} {cy : Nat → ClassId} {A : Nat → Prop} {ws : va_W} {b : Nat} {fs : List Value} {v : Int32} {ws' : va_W} (C : Cx p s m args c cc nL RX11 D cy A) (hO : Wo D A ws s.heap H locs) (q0 : Nat) (he : ws[q0]? = some (b, .inr (11, fs))) (hlen : 62 < fs.length) (hw : ws.set q0 (b, .inr (11, fs.set 62 (.int v))) = ws') (hdg : decode cc pc = .ok (.putfield 484, 3)) (kk : ∀ (H : Heap) (locs : List Loc), Wo D A ws' s.heap H locs → W p l e R s m args below meth c H locs cells slots Q (F0 m (pc + 3) ls rest)) : W p l e R s m args below meth c H locs cells slots Q (F0 m pc ls (.int v :: .ref b :: rest)) := pF (k := 62) (ty := .int) C hO q0 he rfl inFX11 (by decide) wd_1418 rfl tyX11 tyX11_ok nmX11 rfl (by decide +kernel) rfl rfl hlen hw hdg kk
set_option maxHeartbeats 4000000 in
set_option maxRecDepth 100000 in
theorem T_X11_later (l : Launch) (D : va_G) (cy : Nat → ClassId) (a : Nat → Nat) (u : St) (hI_0_62 : fI u 0 62 = 0) (x1 : Int32)  : Mi l D cy (mW cy a) yX11_later (.code yX11_later cX11_later 2 (some .int)) (rmo 1 22) [.ref (a 0), .int x1] u (fun (r : Int32) (u' : St) => r = q_later x1) := by
  refine Mi.of (own := RX11) rfl (by decide) (Nat.le_of_ble_eq_true rfl) ?_
  intro p e s m below meth c A Q ls C hret hO hl
  obtain ⟨hx, hb, hml, hown, ht, hK, hA⟩ := id C
  have hl : lv_has ls 2 [(0, .ref (a 0)), (1, .int x1)] := hl
  refine lv_iload_n hx hb dX11_later_0 rfl (lv_at hl 1 rfl) ?_
  refine lv_iconst (v := 0) hx hb dX11_later_1 (by decide) ?_
  refine lv_sipush (v := 1000) hx hb dX11_later_2 (by decide) ?_
  refine cSi (w := mW cy a) (As := [.int x1, .int 0, .int 1000]) (rest := []) C hO (T_X11_isIn l D cy a _ (x1) (0) (1000)) (va_cwS 3 ht (gSS wd_1722 wd_1723 wd_121 wd_1724) rfl rfl rfl hd_yX11_isIn ⟨Nat.le_of_ble_eq_true rfl, Nat.le_of_ble_eq_true rfl⟩)  rfl hl.1 (Nat.le_of_ble_eq_true rfl) dX11_later_5 rfl ⟨Nat.zero_le _, Nat.zero_le _⟩ (fun r1 u2 H locs hp3 hO => ?_)
  obtain ⟨hr1, hu2⟩ := hp3
  rw [hu2] at hO
  have zz4 : (0 : Int32).toInt = 0 := rfl
  have zz5 : (1000 : Int32).toInt = 1000 := rfl
  rcases hr1 with ⟨hcr1, hvr1⟩ | ⟨hcr1, hvr1⟩
  · subst hvr1
    refine bn_eq (X := 1) hx hb dX11_later_8 rfl (by omega) ?_ (tgt := 23) (by decide)
    refine lv_aload_n hx hb dX11_later_11 rfl (lv_at hl 0 rfl) ?_
    refine gf_RX11_484 (v := .int 0) C hO 0 mW_0 (congrArg (fun z : Int32 => some (Value.int z)) hI_0_62) dX11_later_12 ?_
    refine lv_iload_n hx hb dX11_later_15 rfl (lv_at hl 1 rfl) ?_
    have e6 : ((0 + x1)).toInt = 0 + (x1).toInt := i_add rfl rfl (by omega)
    refine lv_iadd hx hb dX11_later_16 ?_
    refine lv_ldcw (v := 100000) hx hb hown (ht _ wd_1990) dX11_later_17 ?_
    refine ct_le (tgt := 25) (X := (0 + (x1).toInt)) (Y := 100000) hx hb dX11_later_20 (by decide) e6 rfl (by omega) ?_
    refine lv_aload_n hx hb dX11_later_25 rfl (lv_at hl 0 rfl) ?_
    refine lv_dup hx hb dX11_later_26 rfl ?_
    refine gf_RX11_484 (v := .int 0) C hO 0 mW_0 (congrArg (fun z : Int32 => some (Value.int z)) hI_0_62) dX11_later_27 ?_
    refine lv_iload_n hx hb dX11_later_30 rfl (lv_at hl 1 rfl) ?_
    have e7 : ((0 + x1)).toInt = 0 + (x1).toInt := i_add rfl rfl (by omega)
    refine lv_iadd hx hb dX11_later_31 ?_
    refine pf_RX11_484 C hO 0 mW_0 (Nat.le_of_ble_eq_true rfl) mW_s0_62 dX11_later_32 (fun H locs hO => ?_)
    refine lv_aload_n hx hb dX11_later_35 rfl (lv_at hl 0 rfl) ?_
    refine gf_RX11_484 (v := .int (0 + x1)) C hO 0 mW_0 rfl dX11_later_36 ?_
    refine hret _ _ _ _ _ _ dX11_later_39 rfl ?_ hO
    exact (by unfold q_later; have z0 : (0 : Int32).toInt = 0 := rfl; have z1 : (-1 : Int32).toInt = -1 := rfl; split <;> first | rfl | (exact i32_eq.mpr (by omega)) | (exfalso; omega))
  · subst hvr1
    refine bt_eq (tgt := 23) (X := 0) hx hb dX11_later_8 (by decide) rfl (by omega) ?_
    refine lv_iconst (v := (-1)) hx hb dX11_later_23 (by decide) ?_
    refine hret _ _ _ _ _ _ dX11_later_24 rfl ?_ hO
    exact (by unfold q_later; have z0 : (0 : Int32).toInt = 0 := rfl; have z1 : (-1 : Int32).toInt = -1 := rfl; split <;> first | rfl | (exact i32_eq.mpr (by omega)) | (exfalso; omega))
theorem dX11_fits_0 : decode cX11_fits 0 = .ok (.aload_n 0, 1) := by decide +kernel
theorem dX11_fits_1 : decode cX11_fits 1 = .ok (.invokevirtual 377, 3) := by decide +kernel
theorem dX11_fits_4 : decode cX11_fits 4 = .ok (.ifCond .ne 5, 3) := by decide +kernel
theorem dX11_fits_7 : decode cX11_fits 7 = .ok (.iconst 0, 1) := by decide +kernel
theorem dX11_fits_8 : decode cX11_fits 8 = .ok (.ireturn, 1) := by decide +kernel
theorem dX11_fits_9 : decode cX11_fits 9 = .ok (.aload_n 0, 1) := by decide +kernel
theorem dX11_fits_10 : decode cX11_fits 10 = .ok (.invokevirtual 488, 3) := by decide +kernel
theorem dX11_fits_13 : decode cX11_fits 13 = .ok (.iconst 0, 1) := by decide +kernel
theorem dX11_fits_14 : decode cX11_fits 14 = .ok (.istore_n 2, 1) := by decide +kernel
theorem dX11_fits_15 : decode cX11_fits 15 = .ok (.iconst 0, 1) := by decide +kernel
theorem dX11_fits_16 : decode cX11_fits 16 = .ok (.istore_n 3, 1) := by decide +kernel
theorem dX11_fits_17 : decode cX11_fits 17 = .ok (.iload_n 3, 1) := by decide +kernel
theorem dX11_fits_18 : decode cX11_fits 18 = .ok (.bipush 30, 2) := by decide +kernel
theorem dX11_fits_20 : decode cX11_fits 20 = .ok (.if_icmp .gt 26, 3) := by decide +kernel
theorem dX11_fits_23 : decode cX11_fits 23 = .ok (.iload_n 2, 1) := by decide +kernel
theorem dX11_fits_24 : decode cX11_fits 24 = .ok (.aload_n 0, 1) := by decide +kernel
theorem dX11_fits_25 : decode cX11_fits 25 = .ok (.iload_n 3, 1) := by decide +kernel
theorem dX11_fits_26 : decode cX11_fits 26 = .ok (.iload_n 1, 1) := by decide +kernel
theorem dX11_fits_27 : decode cX11_fits 27 = .ok (.invokevirtual 491, 3) := by decide +kernel
theorem dX11_fits_30 : decode cX11_fits 30 = .ok (.ifCond .eq 7, 3) := by decide +kernel
theorem dX11_fits_33 : decode cX11_fits 33 = .ok (.iconst 1, 1) := by decide +kernel
theorem dX11_fits_34 : decode cX11_fits 34 = .ok (.goto 4, 3) := by decide +kernel
theorem dX11_fits_37 : decode cX11_fits 37 = .ok (.iconst 0, 1) := by decide +kernel
theorem dX11_fits_38 : decode cX11_fits 38 = .ok (.iadd, 1) := by decide +kernel
theorem dX11_fits_39 : decode cX11_fits 39 = .ok (.istore_n 2, 1) := by decide +kernel
theorem dX11_fits_40 : decode cX11_fits 40 = .ok (.iinc 3 1, 3) := by decide +kernel
theorem dX11_fits_43 : decode cX11_fits 43 = .ok (.goto (-26), 3) := by decide +kernel
theorem dX11_fits_46 : decode cX11_fits 46 = .ok (.iload_n 2, 1) := by decide +kernel
theorem dX11_fits_47 : decode cX11_fits 47 = .ok (.ireturn, 1) := by decide +kernel
theorem wd_1994 : (Cond.code ⟨"WebCourtModel", "fits", "(I)I"⟩ prog_13_method_116_code (4 : Nat) (Option.some FieldType.int)) ∈ gtb := gtb_c8 205 (by decide +kernel) rfl
set_option maxHeartbeats 4000000 in
set_option maxRecDepth 100000 in
theorem T_X11_fits (l : Launch) (D : va_G) (cy : Nat → ClassId) (a : Nat → Nat) (u : St) (hA_5_0 : fA u 5 0 = 0) (hI_0_36 : fI u 0 36 = 0) (x1 : Int32)  : Mi l D cy (mW cy a) yX11_fits (.code yX11_fits cX11_fits 4 (some .int)) (rmo 1 20) [.ref (a 0), .int x1] u (fun (r : Int32) (u' : St) => (r = 0) ∧ (u' = u)) := by
  refine Mi.of (own := RX11) rfl (by decide) (Nat.le_of_ble_eq_true rfl) ?_
  intro p e s m below meth c A Q ls C hret hO hl
  obtain ⟨hx, hb, hml, hown, ht, hK, hA⟩ := id C
  have hl : lv_has ls 4 [(0, .ref (a 0)), (1, .int x1)] := hl
  refine lv_aload_n hx hb dX11_fits_0 rfl (lv_at hl 0 rfl) ?_
  refine cVi (w := mW cy a) (As := []) (rest := []) C hO (T_X11_pleads l D cy a _ (by exact hA_5_0) (by exact hI_0_36)) (cwV 0 ht (gV wd_1745 wd_1747 wd_82 wd_121 wd_1748) rfl rfl rfl hd_yX11_pleads ⟨Nat.le_of_ble_eq_true rfl, Nat.le_of_ble_eq_true rfl⟩) 0 rfl mW_0 rfl rfl hl.1 (Nat.le_of_ble_eq_true rfl) dX11_fits_1 rfl ⟨Nat.zero_le _, Nat.zero_le _⟩ (fun r1 u2 H locs hp3 hO => ?_)
  obtain ⟨hr1, hu2⟩ := hp3
  subst hr1
  rw [hu2] at hO
  refine bn_ne (X := 0) hx hb dX11_fits_4 rfl (by omega) ?_ (tgt := 9) (by decide)
  refine lv_iconst (v := 0) hx hb dX11_fits_7 (by decide) ?_
  refine hret _ _ _ _ _ _ dX11_fits_8 rfl ?_ hO
  exact ⟨rfl, rfl⟩
theorem dX11_sure_0 : decode cX11_sure 0 = .ok (.iload_n 1, 1) := by decide +kernel
theorem dX11_sure_1 : decode cX11_sure 1 = .ok (.iconst 0, 1) := by decide +kernel
theorem dX11_sure_2 : decode cX11_sure 2 = .ok (.iconst 1, 1) := by decide +kernel
theorem dX11_sure_3 : decode cX11_sure 3 = .ok (.invokestatic 374, 3) := by decide +kernel
theorem dX11_sure_6 : decode cX11_sure 6 = .ok (.ifCond .eq 11, 3) := by decide +kernel
theorem dX11_sure_9 : decode cX11_sure 9 = .ok (.aload_n 0, 1) := by decide +kernel
theorem dX11_sure_10 : decode cX11_sure 10 = .ok (.iload_n 2, 1) := by decide +kernel
theorem dX11_sure_11 : decode cX11_sure 11 = .ok (.invokevirtual 494, 3) := by decide +kernel
theorem dX11_sure_14 : decode cX11_sure 14 = .ok (.ifCond .ne 5, 3) := by decide +kernel
theorem dX11_sure_17 : decode cX11_sure 17 = .ok (.iconst (-1), 1) := by decide +kernel
theorem dX11_sure_18 : decode cX11_sure 18 = .ok (.ireturn, 1) := by decide +kernel
theorem dX11_sure_19 : decode cX11_sure 19 = .ok (.iload_n 1, 1) := by decide +kernel
theorem dX11_sure_20 : decode cX11_sure 20 = .ok (.ifCond .ne 7, 3) := by decide +kernel
theorem dX11_sure_23 : decode cX11_sure 23 = .ok (.iconst 0, 1) := by decide +kernel
theorem dX11_sure_24 : decode cX11_sure 24 = .ok (.goto 5, 3) := by decide +kernel
theorem dX11_sure_27 : decode cX11_sure 27 = .ok (.bipush 30, 2) := by decide +kernel
theorem dX11_sure_29 : decode cX11_sure 29 = .ok (.istore_n 3, 1) := by decide +kernel
theorem dX11_sure_30 : decode cX11_sure 30 = .ok (.aload_n 0, 1) := by decide +kernel
theorem dX11_sure_31 : decode cX11_sure 31 = .ok (.iload_n 3, 1) := by decide +kernel
theorem dX11_sure_32 : decode cX11_sure 32 = .ok (.iload_n 2, 1) := by decide +kernel
theorem dX11_sure_33 : decode cX11_sure 33 = .ok (.invokevirtual 491, 3) := by decide +kernel
theorem dX11_sure_36 : decode cX11_sure 36 = .ok (.ifCond .ne 18, 3) := by decide +kernel
theorem dX11_sure_39 : decode cX11_sure 39 = .ok (.iload_n 3, 1) := by decide +kernel
theorem dX11_sure_40 : decode cX11_sure 40 = .ok (.iload_n 1, 1) := by decide +kernel
theorem dX11_sure_41 : decode cX11_sure 41 = .ok (.ifCond .ne 7, 3) := by decide +kernel
theorem dX11_sure_44 : decode cX11_sure 44 = .ok (.iconst 1, 1) := by decide +kernel
theorem dX11_sure_45 : decode cX11_sure 45 = .ok (.goto 4, 3) := by decide +kernel
theorem dX11_sure_48 : decode cX11_sure 48 = .ok (.iconst (-1), 1) := by decide +kernel
theorem dX11_sure_49 : decode cX11_sure 49 = .ok (.iadd, 1) := by decide +kernel
theorem dX11_sure_50 : decode cX11_sure 50 = .ok (.istore_n 3, 1) := by decide +kernel
theorem dX11_sure_51 : decode cX11_sure 51 = .ok (.goto (-21), 3) := by decide +kernel
theorem dX11_sure_54 : decode cX11_sure 54 = .ok (.iload_n 3, 1) := by decide +kernel
theorem dX11_sure_55 : decode cX11_sure 55 = .ok (.ireturn, 1) := by decide +kernel
theorem wd_2006 : (Cond.code ⟨"WebCourtModel", "sure", "(II)I"⟩ prog_13_method_117_code (4 : Nat) (Option.some FieldType.int)) ∈ gtb := gtb_c8 217 (by decide +kernel) rfl
theorem wd_2007 : (Cond.methodLink "WebCourtModel" (494 : Nat) ⟨"WebCourtModel", "fits", "(I)I"⟩) ∈ gtb := gtb_c8 218 (by decide +kernel) rfl
theorem wd_1992 : (Cond.instanceMethod ⟨"WebCourtModel", "fits", "(I)I"⟩) ∈ gtb := gtb_c8 203 (by decide +kernel) rfl
theorem wd_1993 : (Cond.selects "WebCourtModel" ⟨"WebCourtModel", "fits", "(I)I"⟩ ⟨"WebCourtModel", "fits", "(I)I"⟩) ∈ gtb := gtb_c8 204 (by decide +kernel) rfl
theorem hd_yX11_fits : yX11_fits.cls = RX11 ∧ yX11_fits.cls ≠ "java/lang/invoke/MethodHandle" ∧ yX11_fits.cls ≠ "java/lang/invoke/VarHandle" ∧ (parseMethodDescriptor yX11_fits.desc).map (fun d => d.parameters.length) = some 1 := by decide +kernel
set_option maxHeartbeats 4000000 in
set_option maxRecDepth 100000 in
theorem T_X11_sure (l : Launch) (D : va_G) (cy : Nat → ClassId) (a : Nat → Nat) (u : St) (hA_5_0 : fA u 5 0 = 0) (hI_0_36 : fI u 0 36 = 0) (x1 : Int32) (x2 : Int32)  : Mi l D cy (mW cy a) yX11_sure (.code yX11_sure cX11_sure 4 (some .int)) (rmo 2 43) [.ref (a 0), .int x1, .int x2] u (fun (r : Int32) (u' : St) => (r = (-1)) ∧ (u' = u)) := by
  refine Mi.of (own := RX11) rfl (by decide) (Nat.le_of_ble_eq_true rfl) ?_
  intro p e s m below meth c A Q ls C hret hO hl
  obtain ⟨hx, hb, hml, hown, ht, hK, hA⟩ := id C
  have hl : lv_has ls 4 [(0, .ref (a 0)), (1, .int x1), (2, .int x2)] := hl
  refine lv_iload_n hx hb dX11_sure_0 rfl (lv_at hl 1 rfl) ?_
  refine lv_iconst (v := 0) hx hb dX11_sure_1 (by decide) ?_
  refine lv_iconst (v := 1) hx hb dX11_sure_2 (by decide) ?_
  refine cSi (w := mW cy a) (As := [.int x1, .int 0, .int 1]) (rest := []) C hO (T_X11_isIn l D cy a _ (x1) (0) (1)) (va_cwS 3 ht (gSS wd_1722 wd_1723 wd_121 wd_1724) rfl rfl rfl hd_yX11_isIn ⟨Nat.le_of_ble_eq_true rfl, Nat.le_of_ble_eq_true rfl⟩)  rfl hl.1 (Nat.le_of_ble_eq_true rfl) dX11_sure_3 rfl ⟨Nat.zero_le _, Nat.zero_le _⟩ (fun r1 u2 H locs hp3 hO => ?_)
  obtain ⟨hr1, hu2⟩ := hp3
  rw [hu2] at hO
  have zz4 : (0 : Int32).toInt = 0 := rfl
  have zz5 : (1 : Int32).toInt = 1 := rfl
  rcases hr1 with ⟨hcr1, hvr1⟩ | ⟨hcr1, hvr1⟩
  · subst hvr1
    refine bn_eq (X := 1) hx hb dX11_sure_6 rfl (by omega) ?_ (tgt := 17) (by decide)
    refine lv_aload_n hx hb dX11_sure_9 rfl (lv_at hl 0 rfl) ?_
    refine lv_iload_n hx hb dX11_sure_10 rfl (lv_at hl 2 rfl) ?_
    refine cVi (w := mW cy a) (As := [.int x2]) (rest := []) C hO (T_X11_fits l D cy a _ (by exact hA_5_0) (by exact hI_0_36) (x2)) (cwV 1 ht (gV wd_2007 wd_1992 wd_1993 wd_121 wd_1994) rfl rfl rfl hd_yX11_fits ⟨Nat.le_of_ble_eq_true rfl, Nat.le_of_ble_eq_true rfl⟩) 0 rfl mW_0 rfl rfl hl.1 (Nat.le_of_ble_eq_true rfl) dX11_sure_11 rfl ⟨Nat.zero_le _, Nat.zero_le _⟩ (fun r6 u7 H locs hp8 hO => ?_)
    obtain ⟨hr6, hu7⟩ := hp8
    subst hr6
    rw [hu7] at hO
    refine bn_ne (X := 0) hx hb dX11_sure_14 rfl (by omega) ?_ (tgt := 19) (by decide)
    refine lv_iconst (v := (-1)) hx hb dX11_sure_17 (by decide) ?_
    refine hret _ _ _ _ _ _ dX11_sure_18 rfl ?_ hO
    exact ⟨rfl, rfl⟩
  · subst hvr1
    refine bt_eq (tgt := 17) (X := 0) hx hb dX11_sure_6 (by decide) rfl (by omega) ?_
    refine lv_iconst (v := (-1)) hx hb dX11_sure_17 (by decide) ?_
    refine hret _ _ _ _ _ _ dX11_sure_18 rfl ?_ hO
    exact ⟨rfl, rfl⟩
theorem dX11_ask_0 : decode cX11_ask 0 = .ok (.iload_n 1, 1) := by decide +kernel
theorem dX11_ask_1 : decode cX11_ask 1 = .ok (.iconst 0, 1) := by decide +kernel
theorem dX11_ask_2 : decode cX11_ask 2 = .ok (.iconst 1, 1) := by decide +kernel
theorem dX11_ask_3 : decode cX11_ask 3 = .ok (.invokestatic 374, 3) := by decide +kernel
theorem dX11_ask_6 : decode cX11_ask 6 = .ok (.ifCond .eq 18, 3) := by decide +kernel
theorem dX11_ask_9 : decode cX11_ask 9 = .ok (.aload_n 0, 1) := by decide +kernel
theorem dX11_ask_10 : decode cX11_ask 10 = .ok (.invokevirtual 371, 3) := by decide +kernel
theorem dX11_ask_13 : decode cX11_ask 13 = .ok (.ifCond .eq 11, 3) := by decide +kernel
theorem dX11_ask_16 : decode cX11_ask 16 = .ok (.aload_n 0, 1) := by decide +kernel
theorem dX11_ask_17 : decode cX11_ask 17 = .ok (.iload_n 2, 1) := by decide +kernel
theorem dX11_ask_18 : decode cX11_ask 18 = .ok (.invokevirtual 494, 3) := by decide +kernel
theorem dX11_ask_21 : decode cX11_ask 21 = .ok (.ifCond .ne 5, 3) := by decide +kernel
theorem dX11_ask_24 : decode cX11_ask 24 = .ok (.iconst (-1), 1) := by decide +kernel
theorem dX11_ask_25 : decode cX11_ask 25 = .ok (.ireturn, 1) := by decide +kernel
theorem dX11_ask_26 : decode cX11_ask 26 = .ok (.iconst 0, 1) := by decide +kernel
theorem dX11_ask_27 : decode cX11_ask 27 = .ok (.istore_n 3, 1) := by decide +kernel
theorem dX11_ask_28 : decode cX11_ask 28 = .ok (.iconst 1, 1) := by decide +kernel
theorem dX11_ask_29 : decode cX11_ask 29 = .ok (.istore 4, 2) := by decide +kernel
theorem dX11_ask_31 : decode cX11_ask 31 = .ok (.iload 4, 2) := by decide +kernel
theorem dX11_ask_33 : decode cX11_ask 33 = .ok (.aload_n 0, 1) := by decide +kernel
theorem dX11_ask_34 : decode cX11_ask 34 = .ok (.invokevirtual 371, 3) := by decide +kernel
theorem dX11_ask_37 : decode cX11_ask 37 = .ok (.if_icmp .ge 28, 3) := by decide +kernel
theorem dX11_ask_40 : decode cX11_ask 40 = .ok (.aload_n 0, 1) := by decide +kernel
theorem dX11_ask_41 : decode cX11_ask 41 = .ok (.iload 4, 2) := by decide +kernel
theorem dX11_ask_43 : decode cX11_ask 43 = .ok (.iload_n 2, 1) := by decide +kernel
theorem dX11_ask_44 : decode cX11_ask 44 = .ok (.invokevirtual 497, 3) := by decide +kernel
theorem dX11_ask_47 : decode cX11_ask 47 = .ok (.aload_n 0, 1) := by decide +kernel
theorem dX11_ask_48 : decode cX11_ask 48 = .ok (.iload_n 3, 1) := by decide +kernel
theorem dX11_ask_49 : decode cX11_ask 49 = .ok (.iload_n 2, 1) := by decide +kernel
theorem dX11_ask_50 : decode cX11_ask 50 = .ok (.invokevirtual 497, 3) := by decide +kernel
theorem dX11_ask_53 : decode cX11_ask 53 = .ok (.if_icmp .ge 6, 3) := by decide +kernel
theorem dX11_ask_56 : decode cX11_ask 56 = .ok (.iload 4, 2) := by decide +kernel
theorem dX11_ask_58 : decode cX11_ask 58 = .ok (.istore_n 3, 1) := by decide +kernel
theorem dX11_ask_59 : decode cX11_ask 59 = .ok (.iinc 4 1, 3) := by decide +kernel
theorem dX11_ask_62 : decode cX11_ask 62 = .ok (.goto (-31), 3) := by decide +kernel
theorem dX11_ask_65 : decode cX11_ask 65 = .ok (.iload_n 1, 1) := by decide +kernel
theorem dX11_ask_66 : decode cX11_ask 66 = .ok (.ifCond .ne 7, 3) := by decide +kernel
theorem dX11_ask_69 : decode cX11_ask 69 = .ok (.iload_n 3, 1) := by decide +kernel
theorem dX11_ask_70 : decode cX11_ask 70 = .ok (.goto 9, 3) := by decide +kernel
theorem dX11_ask_73 : decode cX11_ask 73 = .ok (.aload_n 0, 1) := by decide +kernel
theorem dX11_ask_74 : decode cX11_ask 74 = .ok (.iload_n 3, 1) := by decide +kernel
theorem dX11_ask_75 : decode cX11_ask 75 = .ok (.iload_n 2, 1) := by decide +kernel
theorem dX11_ask_76 : decode cX11_ask 76 = .ok (.invokevirtual 497, 3) := by decide +kernel
theorem dX11_ask_79 : decode cX11_ask 79 = .ok (.ireturn, 1) := by decide +kernel
theorem wd_2011 : (Cond.code ⟨"WebCourtModel", "ask", "(II)I"⟩ prog_13_method_119_code (5 : Nat) (Option.some FieldType.int)) ∈ gtb := gtb_c8 222 (by decide +kernel) rfl
set_option maxHeartbeats 4000000 in
set_option maxRecDepth 100000 in
theorem T_X11_ask (l : Launch) (D : va_G) (cy : Nat → ClassId) (a : Nat → Nat) (u : St) (hA_6_0 : fA u 6 0 = 0) (hI_0_36 : fI u 0 36 = 0) (x1 : Int32) (x2 : Int32)  : Mi l D cy (mW cy a) yX11_ask (.code yX11_ask cX11_ask 5 (some .int)) (rmo 1 22) [.ref (a 0), .int x1, .int x2] u (fun (r : Int32) (u' : St) => (r = (-1)) ∧ (u' = u)) := by
  refine Mi.of (own := RX11) rfl (by decide) (Nat.le_of_ble_eq_true rfl) ?_
  intro p e s m below meth c A Q ls C hret hO hl
  obtain ⟨hx, hb, hml, hown, ht, hK, hA⟩ := id C
  have hl : lv_has ls 5 [(0, .ref (a 0)), (1, .int x1), (2, .int x2)] := hl
  refine lv_iload_n hx hb dX11_ask_0 rfl (lv_at hl 1 rfl) ?_
  refine lv_iconst (v := 0) hx hb dX11_ask_1 (by decide) ?_
  refine lv_iconst (v := 1) hx hb dX11_ask_2 (by decide) ?_
  refine cSi (w := mW cy a) (As := [.int x1, .int 0, .int 1]) (rest := []) C hO (T_X11_isIn l D cy a _ (x1) (0) (1)) (va_cwS 3 ht (gSS wd_1722 wd_1723 wd_121 wd_1724) rfl rfl rfl hd_yX11_isIn ⟨Nat.le_of_ble_eq_true rfl, Nat.le_of_ble_eq_true rfl⟩)  rfl hl.1 (Nat.le_of_ble_eq_true rfl) dX11_ask_3 rfl ⟨Nat.zero_le _, Nat.zero_le _⟩ (fun r1 u2 H locs hp3 hO => ?_)
  obtain ⟨hr1, hu2⟩ := hp3
  rw [hu2] at hO
  have zz4 : (0 : Int32).toInt = 0 := rfl
  have zz5 : (1 : Int32).toInt = 1 := rfl
  rcases hr1 with ⟨hcr1, hvr1⟩ | ⟨hcr1, hvr1⟩
  · subst hvr1
    refine bn_eq (X := 1) hx hb dX11_ask_6 rfl (by omega) ?_ (tgt := 24) (by decide)
    refine lv_aload_n hx hb dX11_ask_9 rfl (lv_at hl 0 rfl) ?_
    refine cVi (w := mW cy a) (As := []) (rest := []) C hO (T_X11_many l D cy a _ (by exact hA_6_0) (by exact hI_0_36)) (cwV 0 ht (gV wd_1348 wd_1350 wd_46 wd_121 wd_1351) rfl rfl rfl hd_yX11_many ⟨Nat.le_of_ble_eq_true rfl, Nat.le_of_ble_eq_true rfl⟩) 0 rfl mW_0 rfl rfl hl.1 (Nat.le_of_ble_eq_true rfl) dX11_ask_10 rfl ⟨Nat.zero_le _, Nat.zero_le _⟩ (fun r6 u7 H locs hp8 hO => ?_)
    obtain ⟨hr6, hu7⟩ := hp8
    subst hr6
    rw [hu7] at hO
    refine bt_eq (tgt := 24) (X := 0) hx hb dX11_ask_13 (by decide) rfl (by omega) ?_
    refine lv_iconst (v := (-1)) hx hb dX11_ask_24 (by decide) ?_
    refine hret _ _ _ _ _ _ dX11_ask_25 rfl ?_ hO
    exact ⟨rfl, rfl⟩
  · subst hvr1
    refine bt_eq (tgt := 24) (X := 0) hx hb dX11_ask_6 (by decide) rfl (by omega) ?_
    refine lv_iconst (v := (-1)) hx hb dX11_ask_24 (by decide) ?_
    refine hret _ _ _ _ _ _ dX11_ask_25 rfl ?_ hO
    exact ⟨rfl, rfl⟩
theorem dX11_image_0 : decode cX11_image 0 = .ok (.iload_n 1, 1) := by decide +kernel
theorem dX11_image_1 : decode cX11_image 1 = .ok (.iconst 0, 1) := by decide +kernel
theorem dX11_image_2 : decode cX11_image 2 = .ok (.iconst 2, 1) := by decide +kernel
theorem dX11_image_3 : decode cX11_image 3 = .ok (.invokestatic 374, 3) := by decide +kernel
theorem dX11_image_6 : decode cX11_image 6 = .ok (.ifCond .ne 5, 3) := by decide +kernel
theorem dX11_image_9 : decode cX11_image 9 = .ok (.iconst (-1), 1) := by decide +kernel
theorem dX11_image_10 : decode cX11_image 10 = .ok (.ireturn, 1) := by decide +kernel
theorem dX11_image_11 : decode cX11_image 11 = .ok (.iconst 0, 1) := by decide +kernel
theorem dX11_image_12 : decode cX11_image 12 = .ok (.istore_n 2, 1) := by decide +kernel
theorem dX11_image_13 : decode cX11_image 13 = .ok (.iload_n 2, 1) := by decide +kernel
theorem dX11_image_14 : decode cX11_image 14 = .ok (.bipush 29, 2) := by decide +kernel
theorem dX11_image_16 : decode cX11_image 16 = .ok (.if_icmp .ge 26, 3) := by decide +kernel
theorem dX11_image_19 : decode cX11_image 19 = .ok (.aload_n 0, 1) := by decide +kernel
theorem dX11_image_20 : decode cX11_image 20 = .ok (.getfield 139, 3) := by decide +kernel
theorem dX11_image_23 : decode cX11_image 23 = .ok (.bipush 29, 2) := by decide +kernel
theorem dX11_image_25 : decode cX11_image 25 = .ok (.iload_n 1, 1) := by decide +kernel
theorem dX11_image_26 : decode cX11_image 26 = .ok (.imul, 1) := by decide +kernel
theorem dX11_image_27 : decode cX11_image 27 = .ok (.iload_n 2, 1) := by decide +kernel
theorem dX11_image_28 : decode cX11_image 28 = .ok (.iadd, 1) := by decide +kernel
theorem dX11_image_29 : decode cX11_image 29 = .ok (.aload_n 0, 1) := by decide +kernel
theorem dX11_image_30 : decode cX11_image 30 = .ok (.getfield 97, 3) := by decide +kernel
theorem dX11_image_33 : decode cX11_image 33 = .ok (.iload_n 2, 1) := by decide +kernel
theorem dX11_image_34 : decode cX11_image 34 = .ok (.iaload, 1) := by decide +kernel
theorem dX11_image_35 : decode cX11_image 35 = .ok (.iastore, 1) := by decide +kernel
theorem dX11_image_36 : decode cX11_image 36 = .ok (.iinc 2 1, 3) := by decide +kernel
theorem dX11_image_39 : decode cX11_image 39 = .ok (.goto (-26), 3) := by decide +kernel
theorem dX11_image_42 : decode cX11_image 42 = .ok (.aload_n 0, 1) := by decide +kernel
theorem dX11_image_43 : decode cX11_image 43 = .ok (.getfield 142, 3) := by decide +kernel
theorem dX11_image_46 : decode cX11_image 46 = .ok (.iload_n 1, 1) := by decide +kernel
theorem dX11_image_47 : decode cX11_image 47 = .ok (.iconst 1, 1) := by decide +kernel
theorem dX11_image_48 : decode cX11_image 48 = .ok (.bastore, 1) := by decide +kernel
theorem dX11_image_49 : decode cX11_image 49 = .ok (.aload_n 0, 1) := by decide +kernel
theorem dX11_image_50 : decode cX11_image 50 = .ok (.getfield 97, 3) := by decide +kernel
theorem dX11_image_53 : decode cX11_image 53 = .ok (.bipush 25, 2) := by decide +kernel
theorem dX11_image_55 : decode cX11_image 55 = .ok (.iaload, 1) := by decide +kernel
theorem dX11_image_56 : decode cX11_image 56 = .ok (.ireturn, 1) := by decide +kernel
theorem wd_2019 : (Cond.code ⟨"WebCourtModel", "image", "(I)I"⟩ prog_13_method_120_code (3 : Nat) (Option.some FieldType.int)) ∈ gtb := gtb_c8 230 (by decide +kernel) rfl
theorem wd_1420 : (Cond.fieldLink "WebCourtModel" (142 : Nat) "WebCourtModel" "isBoxed" "[Z") ∈ gtb := gtb_c6 111 (by decide +kernel) rfl
theorem gf_RX11_142 {p : Program} {l : Launch} {e : Env} {R : Room} {s : State} {m : MethodId} {args : Array Value} {below : List Frame} {meth : Method} {c : Code} {H : Heap} {locs : List Loc} {cells slots : Nat} {Q : State → Prop} {cc : ByteArray} {pc nL : Nat} {ls : Array Slot} {rest : List Value} {D : va_G} {cy : Nat → ClassId} {A : Nat → Prop} {ws : va_W} {b : Nat} {fs : List Value} {v : Value} (C : Cx p s m args c cc nL RX11 D cy A) (hO : Wo D A ws s.heap H locs) (q0 : Nat) (he : ws[q0]? = some (b, .inr (11, fs))) (hv : fs[64]? = some v) (hdg : decode cc pc = .ok (.getfield 142, 3)) (kk : W p l e R s m args below meth c H locs cells slots Q (F0 m (pc + 3) ls (v :: rest))) : W p l e R s m args below meth c H locs cells slots Q (F0 m pc ls (.ref b :: rest)) := gF (k := 64) C hO q0 he rfl inFX11 (by decide) wd_1420 rfl hv hdg kk
theorem wd_1400 : (Cond.fieldLink "WebCourtModel" (97 : Nat) "WebCourtModel" "all" "[I") ∈ gtb := gtb_c6 91 (by decide +kernel) rfl
theorem gf_RX11_97 {p : Program} {l : Launch} {e : Env} {R : Room} {s : State} {m : MethodId} {args : Array Value} {below : List Frame} {meth : Method} {c : Code} {H : Heap} {locs : List Loc} {cells slots : Nat} {Q : State → Prop} {cc : ByteArray} {pc nL : Nat} {ls : Array Slot} {rest : List Value} {D : va_G} {cy : Nat → ClassId} {A : Nat → Prop} {ws : va_W} {b : Nat} {fs : List Value} {v : Value} (C : Cx p s m args c cc nL RX11 D cy A) (hO : Wo D A ws s.heap H locs) (q0 : Nat) (he : ws[q0]? = some (b, .inr (11, fs))) (hv : fs[44]? = some v) (hdg : decode cc pc = .ok (.getfield 97, 3)) (kk : W p l e R s m args below meth c H locs cells slots Q (F0 m (pc + 3) ls (v :: rest))) : W p l e R s m args below meth c H locs cells slots Q (F0 m pc ls (.ref b :: rest)) := gF (k := 44) C hO q0 he rfl inFX11 (by decide) wd_1400 rfl hv hdg kk
theorem wd_1419 : (Cond.fieldLink "WebCourtModel" (139 : Nat) "WebCourtModel" "boxAll" "[I") ∈ gtb := gtb_c6 110 (by decide +kernel) rfl
theorem gf_RX11_139 {p : Program} {l : Launch} {e : Env} {R : Room} {s : State} {m : MethodId} {args : Array Value} {below : List Frame} {meth : Method} {c : Code} {H : Heap} {locs : List Loc} {cells slots : Nat} {Q : State → Prop} {cc : ByteArray} {pc nL : Nat} {ls : Array Slot} {rest : List Value} {D : va_G} {cy : Nat → ClassId} {A : Nat → Prop} {ws : va_W} {b : Nat} {fs : List Value} {v : Value} (C : Cx p s m args c cc nL RX11 D cy A) (hO : Wo D A ws s.heap H locs) (q0 : Nat) (he : ws[q0]? = some (b, .inr (11, fs))) (hv : fs[63]? = some v) (hdg : decode cc pc = .ok (.getfield 139, 3)) (kk : W p l e R s m args below meth c H locs cells slots Q (F0 m (pc + 3) ls (v :: rest))) : W p l e R s m args below meth c H locs cells slots Q (F0 m pc ls (.ref b :: rest)) := gF (k := 63) C hO q0 he rfl inFX11 (by decide) wd_1419 rfl hv hdg kk
set_option maxHeartbeats 4000000 in
set_option maxRecDepth 100000 in
theorem T_X11_image (l : Launch) (D : va_G) (cy : Nat → ClassId) (a : Nat → Nat) (u : St) (hA_28_25 : fA u 28 25 = 0) (x1 : Int32)  : Mi l D cy (mW cy a) yX11_image (.code yX11_image cX11_image 3 (some .int)) (rmo 1 22) [.ref (a 0), .int x1] u (fun (r : Int32) (u' : St) => r = q_image x1) := by
  refine Mi.of (own := RX11) rfl (by decide) (Nat.le_of_ble_eq_true rfl) ?_
  intro p e s m below meth c A Q ls C hret hO hl
  obtain ⟨hx, hb, hml, hown, ht, hK, hA⟩ := id C
  have hl : lv_has ls 3 [(0, .ref (a 0)), (1, .int x1)] := hl
  refine lv_iload_n hx hb dX11_image_0 rfl (lv_at hl 1 rfl) ?_
  refine lv_iconst (v := 0) hx hb dX11_image_1 (by decide) ?_
  refine lv_iconst (v := 2) hx hb dX11_image_2 (by decide) ?_
  refine cSi (w := mW cy a) (As := [.int x1, .int 0, .int 2]) (rest := []) C hO (T_X11_isIn l D cy a _ (x1) (0) (2)) (va_cwS 3 ht (gSS wd_1722 wd_1723 wd_121 wd_1724) rfl rfl rfl hd_yX11_isIn ⟨Nat.le_of_ble_eq_true rfl, Nat.le_of_ble_eq_true rfl⟩)  rfl hl.1 (Nat.le_of_ble_eq_true rfl) dX11_image_3 rfl ⟨Nat.zero_le _, Nat.zero_le _⟩ (fun r1 u2 H locs hp3 hO => ?_)
  obtain ⟨hr1, hu2⟩ := hp3
  rw [hu2] at hO
  have zz4 : (0 : Int32).toInt = 0 := rfl
  have zz5 : (2 : Int32).toInt = 2 := rfl
  rcases hr1 with ⟨hcr1, hvr1⟩ | ⟨hcr1, hvr1⟩
  · subst hvr1
    refine bt_ne (tgt := 11) (X := 1) hx hb dX11_image_6 (by decide) rfl (by omega) ?_
    refine lv_iconst (v := 0) hx hb dX11_image_11 (by decide) ?_
    refine lv_istore_n (lv' := [(2, .int 0), (0, .ref (a 0)), (1, .int x1)]) hx hb dX11_image_12 rfl hl (by decide) rfl (fun ls hl => ?_)
    have LP_13_u6 : ∀ (n : Nat) (u6 : St) (H : Heap) (locs : List Loc) (ls : Array Slot) (i_6 : Int32), Wo D A (mW cy a u6) s.heap H locs → lv_has ls 3 [(2, .int i_6), (0, .ref (a 0)), (1, .int x1)] → fA u6 28 25 = 0 → 0 ≤ i_6.toInt ∧ i_6.toInt ≤ 29 → 29 - i_6.toInt < (n : Int) → W p l e (rmo 1 22) s m [.ref (a 0), .int x1].toArray below meth c H locs 0 0 Q (F0 m 13 ls []) := by
      intro n
      induction n with
      | zero =>
        intro u6 H locs ls i_6 hO hl hA_28_25_u6 iv0_u6 hm_u6
        exact absurd hm_u6 (by omega)
      | succ n ih_u6 =>
        intro u6 H locs ls i_6 hO hl hA_28_25_u6 iv0_u6 hm_u6
        refine lv_iload_n hx hb dX11_image_13 rfl (lv_at hl 0 rfl) ?_
        refine lv_bipush (v := 29) hx hb dX11_image_14 (by decide) ?_
        refine cs_ge (tgt := 42) (X := (i_6).toInt) (Y := 29) hx hb dX11_image_16 (by decide) rfl rfl (fun c8 => ?_) (fun c8 => ?_)
        · refine lv_aload_n hx hb dX11_image_42 rfl (lv_at hl 1 rfl) ?_
          refine gf_RX11_142 (v := .ref (a 42)) C hO 0 mW_0 rfl dX11_image_43 ?_
          refine lv_iload_n hx hb dX11_image_46 rfl (lv_at hl 2 rfl) ?_
          refine lv_iconst (v := 1) hx hb dX11_image_47 (by decide) ?_
          refine aZs C hO 42 mW_42 (i_in (X := (x1).toInt) rfl (by omega) (by omega)) mW_s42 dX11_image_48 (fun H locs hO => ?_)
          refine lv_aload_n hx hb dX11_image_49 rfl (lv_at hl 1 rfl) ?_
          refine gf_RX11_97 (v := .ref (a 28)) C hO 0 mW_0 rfl dX11_image_50 ?_
          refine lv_bipush (v := 25) hx hb dX11_image_53 (by decide) ?_
          refine aI C hO 28 mW_28 (i_in (X := 25) rfl (by omega) (by omega)) dX11_image_55 ?_
          refine tE (y := 0) hA_28_25_u6 ?_
          refine hret _ _ _ _ _ _ dX11_image_56 rfl ?_ hO
          exact (by unfold q_image; have z0 : (0 : Int32).toInt = 0 := rfl; have z1 : (-1 : Int32).toInt = -1 := rfl; split <;> first | rfl | (exact i32_eq.mpr (by omega)) | (exfalso; omega))
        · refine lv_aload_n hx hb dX11_image_19 rfl (lv_at hl 1 rfl) ?_
          refine gf_RX11_139 (v := .ref (a 41)) C hO 0 mW_0 rfl dX11_image_20 ?_
          refine lv_bipush (v := 29) hx hb dX11_image_23 (by decide) ?_
          refine lv_iload_n hx hb dX11_image_25 rfl (lv_at hl 2 rfl) ?_
          have e9 : ((29 * x1)).toInt = 29 * (x1).toInt := i_mul rfl rfl (by omega)
          refine lv_imul hx hb dX11_image_26 ?_
          refine lv_iload_n hx hb dX11_image_27 rfl (lv_at hl 0 rfl) ?_
          have e10 : (((29 * x1) + i_6)).toInt = (29 * (x1).toInt) + (i_6).toInt := i_add e9 rfl (by omega)
          refine lv_iadd hx hb dX11_image_28 ?_
          refine lv_aload_n hx hb dX11_image_29 rfl (lv_at hl 1 rfl) ?_
          refine gf_RX11_97 (v := .ref (a 28)) C hO 0 mW_0 rfl dX11_image_30 ?_
          refine lv_iload_n hx hb dX11_image_33 rfl (lv_at hl 0 rfl) ?_
          refine aI C hO 28 mW_28 (i_in (X := (i_6).toInt) rfl (by omega) (by omega)) dX11_image_34 ?_
          refine lv_topi (fun w11 ew11 => ?_)
          refine aIs C hO 41 mW_41 (i_in (X := ((29 * (x1).toInt) + (i_6).toInt)) e10 (by omega) (by omega)) mW_s41 dX11_image_35 (fun H locs hO => ?_)
          have e12 : ((i_6 + 1)).toInt = (i_6).toInt + 1 := i_add rfl rfl (by omega)
          refine lv_iinc (v := (i_6 + 1)) (lv' := [(2, .int (i_6 + 1)), (0, .ref (a 0)), (1, .int x1)]) hx hb dX11_image_36 hl (k := 0) rfl rfl (by decide) rfl (fun ls hl => ?_)
          refine lv_goto (tgt := 13) hx hb dX11_image_39 (by decide) ?_
          exact ih_u6 _ _ _ _ ((i_6 + 1)) hO (lv_sub hl [0, 1, 2] rfl) (by exact hA_28_25_u6) (by first | decide | omega) (by first | decide | omega)
    exact LP_13_u6 2000 _ _ _ _ (0) hO (lv_sub hl [0, 1, 2] rfl) (by exact hA_28_25) (by first | decide | omega) (by first | decide | omega)
  · subst hvr1
    refine bn_ne (X := 0) hx hb dX11_image_6 rfl (by omega) ?_ (tgt := 11) (by decide)
    refine lv_iconst (v := (-1)) hx hb dX11_image_9 (by decide) ?_
    refine hret _ _ _ _ _ _ dX11_image_10 rfl ?_ hO
    exact (by unfold q_image; have z0 : (0 : Int32).toInt = 0 := rfl; have z1 : (-1 : Int32).toInt = -1 := rfl; split <;> first | rfl | (exact i32_eq.mpr (by omega)) | (exfalso; omega))
theorem dX11_restore_0 : decode cX11_restore 0 = .ok (.iload_n 1, 1) := by decide +kernel
theorem dX11_restore_1 : decode cX11_restore 1 = .ok (.iconst 0, 1) := by decide +kernel
theorem dX11_restore_2 : decode cX11_restore 2 = .ok (.iconst 2, 1) := by decide +kernel
theorem dX11_restore_3 : decode cX11_restore 3 = .ok (.invokestatic 374, 3) := by decide +kernel
theorem dX11_restore_6 : decode cX11_restore 6 = .ok (.ifCond .eq 12, 3) := by decide +kernel
theorem dX11_restore_9 : decode cX11_restore 9 = .ok (.aload_n 0, 1) := by decide +kernel
theorem dX11_restore_10 : decode cX11_restore 10 = .ok (.getfield 142, 3) := by decide +kernel
theorem dX11_restore_13 : decode cX11_restore 13 = .ok (.iload_n 1, 1) := by decide +kernel
theorem dX11_restore_14 : decode cX11_restore 14 = .ok (.baload, 1) := by decide +kernel
theorem dX11_restore_15 : decode cX11_restore 15 = .ok (.ifCond .ne 5, 3) := by decide +kernel
theorem dX11_restore_18 : decode cX11_restore 18 = .ok (.iconst (-1), 1) := by decide +kernel
theorem dX11_restore_19 : decode cX11_restore 19 = .ok (.ireturn, 1) := by decide +kernel
theorem dX11_restore_20 : decode cX11_restore 20 = .ok (.iconst 0, 1) := by decide +kernel
theorem dX11_restore_21 : decode cX11_restore 21 = .ok (.istore_n 2, 1) := by decide +kernel
theorem dX11_restore_22 : decode cX11_restore 22 = .ok (.iload_n 2, 1) := by decide +kernel
theorem dX11_restore_23 : decode cX11_restore 23 = .ok (.bipush 29, 2) := by decide +kernel
theorem dX11_restore_25 : decode cX11_restore 25 = .ok (.if_icmp .ge 26, 3) := by decide +kernel
theorem dX11_restore_28 : decode cX11_restore 28 = .ok (.aload_n 0, 1) := by decide +kernel
theorem dX11_restore_29 : decode cX11_restore 29 = .ok (.getfield 97, 3) := by decide +kernel
theorem dX11_restore_32 : decode cX11_restore 32 = .ok (.iload_n 2, 1) := by decide +kernel
theorem dX11_restore_33 : decode cX11_restore 33 = .ok (.aload_n 0, 1) := by decide +kernel
theorem dX11_restore_34 : decode cX11_restore 34 = .ok (.getfield 139, 3) := by decide +kernel
theorem dX11_restore_37 : decode cX11_restore 37 = .ok (.bipush 29, 2) := by decide +kernel
theorem dX11_restore_39 : decode cX11_restore 39 = .ok (.iload_n 1, 1) := by decide +kernel
theorem dX11_restore_40 : decode cX11_restore 40 = .ok (.imul, 1) := by decide +kernel
theorem dX11_restore_41 : decode cX11_restore 41 = .ok (.iload_n 2, 1) := by decide +kernel
theorem dX11_restore_42 : decode cX11_restore 42 = .ok (.iadd, 1) := by decide +kernel
theorem dX11_restore_43 : decode cX11_restore 43 = .ok (.iaload, 1) := by decide +kernel
theorem dX11_restore_44 : decode cX11_restore 44 = .ok (.iastore, 1) := by decide +kernel
theorem dX11_restore_45 : decode cX11_restore 45 = .ok (.iinc 2 1, 3) := by decide +kernel
theorem dX11_restore_48 : decode cX11_restore 48 = .ok (.goto (-26), 3) := by decide +kernel
theorem dX11_restore_51 : decode cX11_restore 51 = .ok (.aload_n 0, 1) := by decide +kernel
theorem dX11_restore_52 : decode cX11_restore 52 = .ok (.iconst 0, 1) := by decide +kernel
theorem dX11_restore_53 : decode cX11_restore 53 = .ok (.putfield 389, 3) := by decide +kernel
theorem dX11_restore_56 : decode cX11_restore 56 = .ok (.aload_n 0, 1) := by decide +kernel
theorem dX11_restore_57 : decode cX11_restore 57 = .ok (.iconst 0, 1) := by decide +kernel
theorem dX11_restore_58 : decode cX11_restore 58 = .ok (.putfield 392, 3) := by decide +kernel
theorem dX11_restore_61 : decode cX11_restore 61 = .ok (.aload_n 0, 1) := by decide +kernel
theorem dX11_restore_62 : decode cX11_restore 62 = .ok (.getfield 97, 3) := by decide +kernel
theorem dX11_restore_65 : decode cX11_restore 65 = .ok (.bipush 25, 2) := by decide +kernel
theorem dX11_restore_67 : decode cX11_restore 67 = .ok (.iaload, 1) := by decide +kernel
theorem dX11_restore_68 : decode cX11_restore 68 = .ok (.ireturn, 1) := by decide +kernel
theorem wd_2023 : (Cond.code ⟨"WebCourtModel", "restore", "(I)I"⟩ prog_13_method_121_code (3 : Nat) (Option.some FieldType.int)) ∈ gtb := gtb_c8 234 (by decide +kernel) rfl
set_option maxHeartbeats 4000000 in
set_option maxRecDepth 100000 in
theorem T_X11_restore (l : Launch) (D : va_G) (cy : Nat → ClassId) (a : Nat → Nat) (u : St) (hA_42_0 : fA u 42 0 = 0) (hA_42_1 : fA u 42 1 = 0) (hA_42_2 : fA u 42 2 = 0) (x1 : Int32)  : Mi l D cy (mW cy a) yX11_restore (.code yX11_restore cX11_restore 3 (some .int)) (rmo 1 22) [.ref (a 0), .int x1] u (fun (r : Int32) (u' : St) => (r = (-1)) ∧ (u' = u)) := by
  refine Mi.of (own := RX11) rfl (by decide) (Nat.le_of_ble_eq_true rfl) ?_
  intro p e s m below meth c A Q ls C hret hO hl
  obtain ⟨hx, hb, hml, hown, ht, hK, hA⟩ := id C
  have hl : lv_has ls 3 [(0, .ref (a 0)), (1, .int x1)] := hl
  refine lv_iload_n hx hb dX11_restore_0 rfl (lv_at hl 1 rfl) ?_
  refine lv_iconst (v := 0) hx hb dX11_restore_1 (by decide) ?_
  refine lv_iconst (v := 2) hx hb dX11_restore_2 (by decide) ?_
  refine cSi (w := mW cy a) (As := [.int x1, .int 0, .int 2]) (rest := []) C hO (T_X11_isIn l D cy a _ (x1) (0) (2)) (va_cwS 3 ht (gSS wd_1722 wd_1723 wd_121 wd_1724) rfl rfl rfl hd_yX11_isIn ⟨Nat.le_of_ble_eq_true rfl, Nat.le_of_ble_eq_true rfl⟩)  rfl hl.1 (Nat.le_of_ble_eq_true rfl) dX11_restore_3 rfl ⟨Nat.zero_le _, Nat.zero_le _⟩ (fun r1 u2 H locs hp3 hO => ?_)
  obtain ⟨hr1, hu2⟩ := hp3
  rw [hu2] at hO
  have zz4 : (0 : Int32).toInt = 0 := rfl
  have zz5 : (2 : Int32).toInt = 2 := rfl
  rcases hr1 with ⟨hcr1, hvr1⟩ | ⟨hcr1, hvr1⟩
  · subst hvr1
    refine bn_eq (X := 1) hx hb dX11_restore_6 rfl (by omega) ?_ (tgt := 18) (by decide)
    have c6 : (x1).toInt = 0 ∨ (x1).toInt = 1 ∨ (x1).toInt = 2 := by omega
    rcases c6 with c6 | c6 | c6
    · have ec6 : x1 = 0 := i32_eq.mpr (by rw [c6]; rfl)
      subst ec6
      refine lv_aload_n hx hb dX11_restore_9 rfl (lv_at hl 0 rfl) ?_
      refine gf_RX11_142 (v := .ref (a 42)) C hO 0 mW_0 rfl dX11_restore_10 ?_
      refine lv_iload_n hx hb dX11_restore_13 rfl (lv_at hl 1 rfl) ?_
      refine aZ C hO 42 mW_42 (i_in (X := 0) rfl (by omega) (by omega)) dX11_restore_14 ?_
      refine tE (y := 0) hA_42_0 ?_
      refine bn_ne (X := 0) hx hb dX11_restore_15 rfl (by omega) ?_ (tgt := 20) (by decide)
      refine lv_iconst (v := (-1)) hx hb dX11_restore_18 (by decide) ?_
      refine hret _ _ _ _ _ _ dX11_restore_19 rfl ?_ hO
      exact ⟨rfl, rfl⟩
    · have ec6 : x1 = 1 := i32_eq.mpr (by rw [c6]; rfl)
      subst ec6
      refine lv_aload_n hx hb dX11_restore_9 rfl (lv_at hl 0 rfl) ?_
      refine gf_RX11_142 (v := .ref (a 42)) C hO 0 mW_0 rfl dX11_restore_10 ?_
      refine lv_iload_n hx hb dX11_restore_13 rfl (lv_at hl 1 rfl) ?_
      refine aZ C hO 42 mW_42 (i_in (X := 1) rfl (by omega) (by omega)) dX11_restore_14 ?_
      refine tE (y := 0) hA_42_1 ?_
      refine bn_ne (X := 0) hx hb dX11_restore_15 rfl (by omega) ?_ (tgt := 20) (by decide)
      refine lv_iconst (v := (-1)) hx hb dX11_restore_18 (by decide) ?_
      refine hret _ _ _ _ _ _ dX11_restore_19 rfl ?_ hO
      exact ⟨rfl, rfl⟩
    · have ec6 : x1 = 2 := i32_eq.mpr (by rw [c6]; rfl)
      subst ec6
      refine lv_aload_n hx hb dX11_restore_9 rfl (lv_at hl 0 rfl) ?_
      refine gf_RX11_142 (v := .ref (a 42)) C hO 0 mW_0 rfl dX11_restore_10 ?_
      refine lv_iload_n hx hb dX11_restore_13 rfl (lv_at hl 1 rfl) ?_
      refine aZ C hO 42 mW_42 (i_in (X := 2) rfl (by omega) (by omega)) dX11_restore_14 ?_
      refine tE (y := 0) hA_42_2 ?_
      refine bn_ne (X := 0) hx hb dX11_restore_15 rfl (by omega) ?_ (tgt := 20) (by decide)
      refine lv_iconst (v := (-1)) hx hb dX11_restore_18 (by decide) ?_
      refine hret _ _ _ _ _ _ dX11_restore_19 rfl ?_ hO
      exact ⟨rfl, rfl⟩
  · subst hvr1
    refine bt_eq (tgt := 18) (X := 0) hx hb dX11_restore_6 (by decide) rfl (by omega) ?_
    refine lv_iconst (v := (-1)) hx hb dX11_restore_18 (by decide) ?_
    refine hret _ _ _ _ _ _ dX11_restore_19 rfl ?_ hO
    exact ⟨rfl, rfl⟩
theorem dX11_about_0 : decode cX11_about 0 = .ok (.iload_n 1, 1) := by decide +kernel
theorem dX11_about_1 : decode cX11_about 1 = .ok (.tableswitch 184 0 15 #[79, 84, 89, 99, 104, 112, 120, 128, 136, 141, 146, 151, 156, 161, 171, 176], 79) := by decide +kernel
theorem dX11_about_80 : decode cX11_about 80 = .ok (.aload_n 0, 1) := by decide +kernel
theorem dX11_about_81 : decode cX11_about 81 = .ok (.invokevirtual 371, 3) := by decide +kernel
theorem dX11_about_84 : decode cX11_about 84 = .ok (.ireturn, 1) := by decide +kernel
theorem dX11_about_85 : decode cX11_about 85 = .ok (.aload_n 0, 1) := by decide +kernel
theorem dX11_about_86 : decode cX11_about 86 = .ok (.invokevirtual 380, 3) := by decide +kernel
theorem dX11_about_89 : decode cX11_about 89 = .ok (.ireturn, 1) := by decide +kernel
theorem dX11_about_90 : decode cX11_about 90 = .ok (.aload_n 0, 1) := by decide +kernel
theorem dX11_about_91 : decode cX11_about 91 = .ok (.getfield 24, 3) := by decide +kernel
theorem dX11_about_94 : decode cX11_about 94 = .ok (.aload_n 0, 1) := by decide +kernel
theorem dX11_about_95 : decode cX11_about 95 = .ok (.getfield 255, 3) := by decide +kernel
theorem dX11_about_98 : decode cX11_about 98 = .ok (.iaload, 1) := by decide +kernel
theorem dX11_about_99 : decode cX11_about 99 = .ok (.ireturn, 1) := by decide +kernel
theorem dX11_about_100 : decode cX11_about 100 = .ok (.aload_n 0, 1) := by decide +kernel
theorem dX11_about_101 : decode cX11_about 101 = .ok (.invokevirtual 377, 3) := by decide +kernel
theorem dX11_about_104 : decode cX11_about 104 = .ok (.ireturn, 1) := by decide +kernel
theorem dX11_about_105 : decode cX11_about 105 = .ok (.aload_n 0, 1) := by decide +kernel
theorem dX11_about_106 : decode cX11_about 106 = .ok (.getfield 97, 3) := by decide +kernel
theorem dX11_about_109 : decode cX11_about 109 = .ok (.bipush 24, 2) := by decide +kernel
theorem dX11_about_111 : decode cX11_about 111 = .ok (.iaload, 1) := by decide +kernel
theorem dX11_about_112 : decode cX11_about 112 = .ok (.ireturn, 1) := by decide +kernel
theorem dX11_about_113 : decode cX11_about 113 = .ok (.aload_n 0, 1) := by decide +kernel
theorem dX11_about_114 : decode cX11_about 114 = .ok (.getfield 97, 3) := by decide +kernel
theorem dX11_about_117 : decode cX11_about 117 = .ok (.bipush 25, 2) := by decide +kernel
theorem dX11_about_119 : decode cX11_about 119 = .ok (.iaload, 1) := by decide +kernel
theorem dX11_about_120 : decode cX11_about 120 = .ok (.ireturn, 1) := by decide +kernel
theorem dX11_about_121 : decode cX11_about 121 = .ok (.aload_n 0, 1) := by decide +kernel
theorem dX11_about_122 : decode cX11_about 122 = .ok (.getfield 97, 3) := by decide +kernel
theorem dX11_about_125 : decode cX11_about 125 = .ok (.bipush 26, 2) := by decide +kernel
theorem dX11_about_127 : decode cX11_about 127 = .ok (.iaload, 1) := by decide +kernel
theorem dX11_about_128 : decode cX11_about 128 = .ok (.ireturn, 1) := by decide +kernel
theorem dX11_about_129 : decode cX11_about 129 = .ok (.aload_n 0, 1) := by decide +kernel
theorem dX11_about_130 : decode cX11_about 130 = .ok (.getfield 97, 3) := by decide +kernel
theorem dX11_about_133 : decode cX11_about 133 = .ok (.bipush 27, 2) := by decide +kernel
theorem dX11_about_135 : decode cX11_about 135 = .ok (.iaload, 1) := by decide +kernel
theorem dX11_about_136 : decode cX11_about 136 = .ok (.ireturn, 1) := by decide +kernel
theorem dX11_about_137 : decode cX11_about 137 = .ok (.aload_n 0, 1) := by decide +kernel
theorem dX11_about_138 : decode cX11_about 138 = .ok (.getfield 389, 3) := by decide +kernel
theorem dX11_about_141 : decode cX11_about 141 = .ok (.ireturn, 1) := by decide +kernel
theorem dX11_about_142 : decode cX11_about 142 = .ok (.aload_n 0, 1) := by decide +kernel
theorem dX11_about_143 : decode cX11_about 143 = .ok (.getfield 392, 3) := by decide +kernel
theorem dX11_about_146 : decode cX11_about 146 = .ok (.ireturn, 1) := by decide +kernel
theorem dX11_about_147 : decode cX11_about 147 = .ok (.aload_n 0, 1) := by decide +kernel
theorem dX11_about_148 : decode cX11_about 148 = .ok (.getfield 395, 3) := by decide +kernel
theorem dX11_about_151 : decode cX11_about 151 = .ok (.ireturn, 1) := by decide +kernel
theorem dX11_about_152 : decode cX11_about 152 = .ok (.aload_n 0, 1) := by decide +kernel
theorem dX11_about_153 : decode cX11_about 153 = .ok (.getfield 484, 3) := by decide +kernel
theorem dX11_about_156 : decode cX11_about 156 = .ok (.ireturn, 1) := by decide +kernel
theorem dX11_about_157 : decode cX11_about 157 = .ok (.aload_n 0, 1) := by decide +kernel
theorem dX11_about_158 : decode cX11_about 158 = .ok (.getfield 252, 3) := by decide +kernel
theorem dX11_about_161 : decode cX11_about 161 = .ok (.ireturn, 1) := by decide +kernel
theorem dX11_about_162 : decode cX11_about 162 = .ok (.aload_n 0, 1) := by decide +kernel
theorem dX11_about_163 : decode cX11_about 163 = .ok (.getfield 33, 3) := by decide +kernel
theorem dX11_about_166 : decode cX11_about 166 = .ok (.aload_n 0, 1) := by decide +kernel
theorem dX11_about_167 : decode cX11_about 167 = .ok (.getfield 255, 3) := by decide +kernel
theorem dX11_about_170 : decode cX11_about 170 = .ok (.iaload, 1) := by decide +kernel
theorem dX11_about_171 : decode cX11_about 171 = .ok (.ireturn, 1) := by decide +kernel
theorem dX11_about_172 : decode cX11_about 172 = .ok (.aload_n 0, 1) := by decide +kernel
theorem dX11_about_173 : decode cX11_about 173 = .ok (.getfield 398, 3) := by decide +kernel
theorem dX11_about_176 : decode cX11_about 176 = .ok (.ireturn, 1) := by decide +kernel
theorem dX11_about_177 : decode cX11_about 177 = .ok (.aload_n 0, 1) := by decide +kernel
theorem dX11_about_178 : decode cX11_about 178 = .ok (.getfield 97, 3) := by decide +kernel
theorem dX11_about_181 : decode cX11_about 181 = .ok (.bipush 28, 2) := by decide +kernel
theorem dX11_about_183 : decode cX11_about 183 = .ok (.iaload, 1) := by decide +kernel
theorem dX11_about_184 : decode cX11_about 184 = .ok (.ireturn, 1) := by decide +kernel
theorem dX11_about_185 : decode cX11_about 185 = .ok (.iconst (-1), 1) := by decide +kernel
theorem dX11_about_186 : decode cX11_about 186 = .ok (.ireturn, 1) := by decide +kernel
theorem wd_2027 : (Cond.code ⟨"WebCourtModel", "about", "(I)I"⟩ prog_13_method_122_code (2 : Nat) (Option.some FieldType.int)) ∈ gtb := gtb_c8 238 (by decide +kernel) rfl
theorem wd_1358 : (Cond.fieldLink "WebCourtModel" (252 : Nat) "WebCourtModel" "taped" "I") ∈ gtb := gtb_c6 49 (by decide +kernel) rfl
theorem gf_RX11_252 {p : Program} {l : Launch} {e : Env} {R : Room} {s : State} {m : MethodId} {args : Array Value} {below : List Frame} {meth : Method} {c : Code} {H : Heap} {locs : List Loc} {cells slots : Nat} {Q : State → Prop} {cc : ByteArray} {pc nL : Nat} {ls : Array Slot} {rest : List Value} {D : va_G} {cy : Nat → ClassId} {A : Nat → Prop} {ws : va_W} {b : Nat} {fs : List Value} {v : Value} (C : Cx p s m args c cc nL RX11 D cy A) (hO : Wo D A ws s.heap H locs) (q0 : Nat) (he : ws[q0]? = some (b, .inr (11, fs))) (hv : fs[2]? = some v) (hdg : decode cc pc = .ok (.getfield 252, 3)) (kk : W p l e R s m args below meth c H locs cells slots Q (F0 m (pc + 3) ls (v :: rest))) : W p l e R s m args below meth c H locs cells slots Q (F0 m pc ls (.ref b :: rest)) := gF (k := 2) C hO q0 he rfl inFX11 (by decide) wd_1358 rfl hv hdg kk
theorem wd_1371 : (Cond.fieldLink "WebCourtModel" (33 : Nat) "WebCourtModel" "units" "[I") ∈ gtb := gtb_c6 62 (by decide +kernel) rfl
theorem gf_RX11_33 {p : Program} {l : Launch} {e : Env} {R : Room} {s : State} {m : MethodId} {args : Array Value} {below : List Frame} {meth : Method} {c : Code} {H : Heap} {locs : List Loc} {cells slots : Nat} {Q : State → Prop} {cc : ByteArray} {pc nL : Nat} {ls : Array Slot} {rest : List Value} {D : va_G} {cy : Nat → ClassId} {A : Nat → Prop} {ws : va_W} {b : Nat} {fs : List Value} {v : Value} (C : Cx p s m args c cc nL RX11 D cy A) (hO : Wo D A ws s.heap H locs) (q0 : Nat) (he : ws[q0]? = some (b, .inr (11, fs))) (hv : fs[15]? = some v) (hdg : decode cc pc = .ok (.getfield 33, 3)) (kk : W p l e R s m args below meth c H locs cells slots Q (F0 m (pc + 3) ls (v :: rest))) : W p l e R s m args below meth c H locs cells slots Q (F0 m pc ls (.ref b :: rest)) := gF (k := 15) C hO q0 he rfl inFX11 (by decide) wd_1371 rfl hv hdg kk
set_option maxHeartbeats 4000000 in
set_option maxRecDepth 100000 in
theorem T_X11_about (l : Launch) (D : va_G) (cy : Nat → ClassId) (a : Nat → Nat) (u : St) (hA_28_24 : fA u 28 24 = (-1)) (hA_28_25 : fA u 28 25 = 0) (hA_28_26 : fA u 28 26 = 0) (hA_28_27 : fA u 28 27 = 0) (hA_28_28 : fA u 28 28 = 0) (hA_3_0 : fA u 3 0 = 0) (hA_4_0 : fA u 4 0 = 0) (hA_5_0 : fA u 5 0 = 0) (hA_6_0 : fA u 6 0 = 0) (hA_7_0 : fA u 7 0 = 0) (hI_0_2 : fI u 0 2 = 0) (hI_0_36 : fI u 0 36 = 0) (hI_0_47 : fI u 0 47 = 0) (hI_0_48 : fI u 0 48 = 0) (hI_0_50 : fI u 0 50 = 0) (hI_0_61 : fI u 0 61 = 0) (hI_0_62 : fI u 0 62 = 0) (x1 : Int32)  : Mi l D cy (mW cy a) yX11_about (.code yX11_about cX11_about 2 (some .int)) (rmo 1 20) [.ref (a 0), .int x1] u (fun (r : Int32) (u' : St) => (r = q_about x1) ∧ (u' = u)) := by
  refine Mi.of (own := RX11) rfl (by decide) (Nat.le_of_ble_eq_true rfl) ?_
  intro p e s m below meth c A Q ls C hret hO hl
  obtain ⟨hx, hb, hml, hown, ht, hK, hA⟩ := id C
  have hl : lv_has ls 2 [(0, .ref (a 0)), (1, .int x1)] := hl
  refine lv_iload_n hx hb dX11_about_0 rfl (lv_at hl 1 rfl) ?_
  have c1 : ((x1).toInt < 0 ∨ 15 < (x1).toInt) ∨ (x1).toInt = 0 ∨ (x1).toInt = 1 ∨ (x1).toInt = 2 ∨ (x1).toInt = 3 ∨ (x1).toInt = 4 ∨ (x1).toInt = 5 ∨ (x1).toInt = 6 ∨ (x1).toInt = 7 ∨ (x1).toInt = 8 ∨ (x1).toInt = 9 ∨ (x1).toInt = 10 ∨ (x1).toInt = 11 ∨ (x1).toInt = 12 ∨ (x1).toInt = 13 ∨ (x1).toInt = 14 ∨ (x1).toInt = 15 := by omega
  rcases c1 with c1 | c1 | c1 | c1 | c1 | c1 | c1 | c1 | c1 | c1 | c1 | c1 | c1 | c1 | c1 | c1 | c1
  · refine lv_tableOut (tgt := 185) hx hb dX11_about_1 (by rw [show x1.toInt = (x1).toInt from rfl]; exact c1) (by decide) ?_
    refine lv_iconst (v := (-1)) hx hb dX11_about_185 (by decide) ?_
    refine hret _ _ _ _ _ _ dX11_about_186 rfl ?_ hO
    exact ⟨(by unfold q_about; have z0 : (0 : Int32).toInt = 0 := rfl; have z1 : (-1 : Int32).toInt = -1 := rfl; split <;> first | rfl | (exact i32_eq.mpr (by omega)) | (exfalso; omega)), rfl⟩
  · refine lv_tableIn (tgt := 80) hx hb dX11_about_1 (by rw [c1]; decide) (by rw [c1]; decide) (by rw [c1]; rfl) (by decide) ?_
    refine lv_aload_n hx hb dX11_about_80 rfl (lv_at hl 0 rfl) ?_
    refine cVi (w := mW cy a) (As := []) (rest := []) C hO (T_X11_many l D cy a _ (by exact hA_6_0) (by exact hI_0_36)) (cwV 0 ht (gV wd_1348 wd_1350 wd_46 wd_121 wd_1351) rfl rfl rfl hd_yX11_many ⟨Nat.le_of_ble_eq_true rfl, Nat.le_of_ble_eq_true rfl⟩) 0 rfl mW_0 rfl rfl hl.1 (Nat.le_of_ble_eq_true rfl) dX11_about_81 rfl ⟨Nat.zero_le _, Nat.zero_le _⟩ (fun r2 u3 H locs hp4 hO => ?_)
    obtain ⟨hr2, hu3⟩ := hp4
    subst hr2
    rw [hu3] at hO
    refine hret _ _ _ _ _ _ dX11_about_84 rfl ?_ hO
    exact ⟨(by unfold q_about; have z0 : (0 : Int32).toInt = 0 := rfl; have z1 : (-1 : Int32).toInt = -1 := rfl; split <;> first | rfl | (exact i32_eq.mpr (by omega)) | (exfalso; omega)), rfl⟩
  · refine lv_tableIn (tgt := 85) hx hb dX11_about_1 (by rw [c1]; decide) (by rw [c1]; decide) (by rw [c1]; rfl) (by decide) ?_
    refine lv_aload_n hx hb dX11_about_85 rfl (lv_at hl 0 rfl) ?_
    refine cVi (w := mW cy a) (As := []) (rest := []) C hO (T_X11_spots l D cy a _ (by exact hA_3_0) (by exact hI_0_36)) (cwV 0 ht (gV wd_1352 wd_1354 wd_47 wd_121 wd_1355) rfl rfl rfl hd_yX11_spots ⟨Nat.le_of_ble_eq_true rfl, Nat.le_of_ble_eq_true rfl⟩) 0 rfl mW_0 rfl rfl hl.1 (Nat.le_of_ble_eq_true rfl) dX11_about_86 rfl ⟨Nat.zero_le _, Nat.zero_le _⟩ (fun r5 u6 H locs hp7 hO => ?_)
    obtain ⟨hr5, hu6⟩ := hp7
    subst hr5
    rw [hu6] at hO
    refine hret _ _ _ _ _ _ dX11_about_89 rfl ?_ hO
    exact ⟨(by unfold q_about; have z0 : (0 : Int32).toInt = 0 := rfl; have z1 : (-1 : Int32).toInt = -1 := rfl; split <;> first | rfl | (exact i32_eq.mpr (by omega)) | (exfalso; omega)), rfl⟩
  · refine lv_tableIn (tgt := 90) hx hb dX11_about_1 (by rw [c1]; decide) (by rw [c1]; decide) (by rw [c1]; rfl) (by decide) ?_
    refine lv_aload_n hx hb dX11_about_90 rfl (lv_at hl 0 rfl) ?_
    refine gf_RX11_24 (v := .ref (a 4)) C hO 0 mW_0 rfl dX11_about_91 ?_
    refine lv_aload_n hx hb dX11_about_94 rfl (lv_at hl 0 rfl) ?_
    refine gf_RX11_255 (v := .int 0) C hO 0 mW_0 (congrArg (fun z : Int32 => some (Value.int z)) hI_0_36) dX11_about_95 ?_
    refine aI C hO 4 mW_4 (i_in (X := 0) rfl (by omega) (by omega)) dX11_about_98 ?_
    refine tE (y := 0) hA_4_0 ?_
    refine hret _ _ _ _ _ _ dX11_about_99 rfl ?_ hO
    exact ⟨(by unfold q_about; have z0 : (0 : Int32).toInt = 0 := rfl; have z1 : (-1 : Int32).toInt = -1 := rfl; split <;> first | rfl | (exact i32_eq.mpr (by omega)) | (exfalso; omega)), rfl⟩
  · refine lv_tableIn (tgt := 100) hx hb dX11_about_1 (by rw [c1]; decide) (by rw [c1]; decide) (by rw [c1]; rfl) (by decide) ?_
    refine lv_aload_n hx hb dX11_about_100 rfl (lv_at hl 0 rfl) ?_
    refine cVi (w := mW cy a) (As := []) (rest := []) C hO (T_X11_pleads l D cy a _ (by exact hA_5_0) (by exact hI_0_36)) (cwV 0 ht (gV wd_1745 wd_1747 wd_82 wd_121 wd_1748) rfl rfl rfl hd_yX11_pleads ⟨Nat.le_of_ble_eq_true rfl, Nat.le_of_ble_eq_true rfl⟩) 0 rfl mW_0 rfl rfl hl.1 (Nat.le_of_ble_eq_true rfl) dX11_about_101 rfl ⟨Nat.zero_le _, Nat.zero_le _⟩ (fun r8 u9 H locs hp10 hO => ?_)
    obtain ⟨hr8, hu9⟩ := hp10
    subst hr8
    rw [hu9] at hO
    refine hret _ _ _ _ _ _ dX11_about_104 rfl ?_ hO
    exact ⟨(by unfold q_about; have z0 : (0 : Int32).toInt = 0 := rfl; have z1 : (-1 : Int32).toInt = -1 := rfl; split <;> first | rfl | (exact i32_eq.mpr (by omega)) | (exfalso; omega)), rfl⟩
  · refine lv_tableIn (tgt := 105) hx hb dX11_about_1 (by rw [c1]; decide) (by rw [c1]; decide) (by rw [c1]; rfl) (by decide) ?_
    refine lv_aload_n hx hb dX11_about_105 rfl (lv_at hl 0 rfl) ?_
    refine gf_RX11_97 (v := .ref (a 28)) C hO 0 mW_0 rfl dX11_about_106 ?_
    refine lv_bipush (v := 24) hx hb dX11_about_109 (by decide) ?_
    refine aI C hO 28 mW_28 (i_in (X := 24) rfl (by omega) (by omega)) dX11_about_111 ?_
    refine tE (y := (-1)) hA_28_24 ?_
    refine hret _ _ _ _ _ _ dX11_about_112 rfl ?_ hO
    exact ⟨(by unfold q_about; have z0 : (0 : Int32).toInt = 0 := rfl; have z1 : (-1 : Int32).toInt = -1 := rfl; split <;> first | rfl | (exact i32_eq.mpr (by omega)) | (exfalso; omega)), rfl⟩
  · refine lv_tableIn (tgt := 113) hx hb dX11_about_1 (by rw [c1]; decide) (by rw [c1]; decide) (by rw [c1]; rfl) (by decide) ?_
    refine lv_aload_n hx hb dX11_about_113 rfl (lv_at hl 0 rfl) ?_
    refine gf_RX11_97 (v := .ref (a 28)) C hO 0 mW_0 rfl dX11_about_114 ?_
    refine lv_bipush (v := 25) hx hb dX11_about_117 (by decide) ?_
    refine aI C hO 28 mW_28 (i_in (X := 25) rfl (by omega) (by omega)) dX11_about_119 ?_
    refine tE (y := 0) hA_28_25 ?_
    refine hret _ _ _ _ _ _ dX11_about_120 rfl ?_ hO
    exact ⟨(by unfold q_about; have z0 : (0 : Int32).toInt = 0 := rfl; have z1 : (-1 : Int32).toInt = -1 := rfl; split <;> first | rfl | (exact i32_eq.mpr (by omega)) | (exfalso; omega)), rfl⟩
  · refine lv_tableIn (tgt := 121) hx hb dX11_about_1 (by rw [c1]; decide) (by rw [c1]; decide) (by rw [c1]; rfl) (by decide) ?_
    refine lv_aload_n hx hb dX11_about_121 rfl (lv_at hl 0 rfl) ?_
    refine gf_RX11_97 (v := .ref (a 28)) C hO 0 mW_0 rfl dX11_about_122 ?_
    refine lv_bipush (v := 26) hx hb dX11_about_125 (by decide) ?_
    refine aI C hO 28 mW_28 (i_in (X := 26) rfl (by omega) (by omega)) dX11_about_127 ?_
    refine tE (y := 0) hA_28_26 ?_
    refine hret _ _ _ _ _ _ dX11_about_128 rfl ?_ hO
    exact ⟨(by unfold q_about; have z0 : (0 : Int32).toInt = 0 := rfl; have z1 : (-1 : Int32).toInt = -1 := rfl; split <;> first | rfl | (exact i32_eq.mpr (by omega)) | (exfalso; omega)), rfl⟩
  · refine lv_tableIn (tgt := 129) hx hb dX11_about_1 (by rw [c1]; decide) (by rw [c1]; decide) (by rw [c1]; rfl) (by decide) ?_
    refine lv_aload_n hx hb dX11_about_129 rfl (lv_at hl 0 rfl) ?_
    refine gf_RX11_97 (v := .ref (a 28)) C hO 0 mW_0 rfl dX11_about_130 ?_
    refine lv_bipush (v := 27) hx hb dX11_about_133 (by decide) ?_
    refine aI C hO 28 mW_28 (i_in (X := 27) rfl (by omega) (by omega)) dX11_about_135 ?_
    refine tE (y := 0) hA_28_27 ?_
    refine hret _ _ _ _ _ _ dX11_about_136 rfl ?_ hO
    exact ⟨(by unfold q_about; have z0 : (0 : Int32).toInt = 0 := rfl; have z1 : (-1 : Int32).toInt = -1 := rfl; split <;> first | rfl | (exact i32_eq.mpr (by omega)) | (exfalso; omega)), rfl⟩
  · refine lv_tableIn (tgt := 137) hx hb dX11_about_1 (by rw [c1]; decide) (by rw [c1]; decide) (by rw [c1]; rfl) (by decide) ?_
    refine lv_aload_n hx hb dX11_about_137 rfl (lv_at hl 0 rfl) ?_
    refine gf_RX11_389 (v := .int 0) C hO 0 mW_0 (congrArg (fun z : Int32 => some (Value.int z)) hI_0_47) dX11_about_138 ?_
    refine hret _ _ _ _ _ _ dX11_about_141 rfl ?_ hO
    exact ⟨(by unfold q_about; have z0 : (0 : Int32).toInt = 0 := rfl; have z1 : (-1 : Int32).toInt = -1 := rfl; split <;> first | rfl | (exact i32_eq.mpr (by omega)) | (exfalso; omega)), rfl⟩
  · refine lv_tableIn (tgt := 142) hx hb dX11_about_1 (by rw [c1]; decide) (by rw [c1]; decide) (by rw [c1]; rfl) (by decide) ?_
    refine lv_aload_n hx hb dX11_about_142 rfl (lv_at hl 0 rfl) ?_
    refine gf_RX11_392 (v := .int 0) C hO 0 mW_0 (congrArg (fun z : Int32 => some (Value.int z)) hI_0_48) dX11_about_143 ?_
    refine hret _ _ _ _ _ _ dX11_about_146 rfl ?_ hO
    exact ⟨(by unfold q_about; have z0 : (0 : Int32).toInt = 0 := rfl; have z1 : (-1 : Int32).toInt = -1 := rfl; split <;> first | rfl | (exact i32_eq.mpr (by omega)) | (exfalso; omega)), rfl⟩
  · refine lv_tableIn (tgt := 147) hx hb dX11_about_1 (by rw [c1]; decide) (by rw [c1]; decide) (by rw [c1]; rfl) (by decide) ?_
    refine lv_aload_n hx hb dX11_about_147 rfl (lv_at hl 0 rfl) ?_
    refine gf_RX11_395 (v := .int 0) C hO 0 mW_0 (congrArg (fun z : Int32 => some (Value.int z)) hI_0_61) dX11_about_148 ?_
    refine hret _ _ _ _ _ _ dX11_about_151 rfl ?_ hO
    exact ⟨(by unfold q_about; have z0 : (0 : Int32).toInt = 0 := rfl; have z1 : (-1 : Int32).toInt = -1 := rfl; split <;> first | rfl | (exact i32_eq.mpr (by omega)) | (exfalso; omega)), rfl⟩
  · refine lv_tableIn (tgt := 152) hx hb dX11_about_1 (by rw [c1]; decide) (by rw [c1]; decide) (by rw [c1]; rfl) (by decide) ?_
    refine lv_aload_n hx hb dX11_about_152 rfl (lv_at hl 0 rfl) ?_
    refine gf_RX11_484 (v := .int 0) C hO 0 mW_0 (congrArg (fun z : Int32 => some (Value.int z)) hI_0_62) dX11_about_153 ?_
    refine hret _ _ _ _ _ _ dX11_about_156 rfl ?_ hO
    exact ⟨(by unfold q_about; have z0 : (0 : Int32).toInt = 0 := rfl; have z1 : (-1 : Int32).toInt = -1 := rfl; split <;> first | rfl | (exact i32_eq.mpr (by omega)) | (exfalso; omega)), rfl⟩
  · refine lv_tableIn (tgt := 157) hx hb dX11_about_1 (by rw [c1]; decide) (by rw [c1]; decide) (by rw [c1]; rfl) (by decide) ?_
    refine lv_aload_n hx hb dX11_about_157 rfl (lv_at hl 0 rfl) ?_
    refine gf_RX11_252 (v := .int 0) C hO 0 mW_0 (congrArg (fun z : Int32 => some (Value.int z)) hI_0_2) dX11_about_158 ?_
    refine hret _ _ _ _ _ _ dX11_about_161 rfl ?_ hO
    exact ⟨(by unfold q_about; have z0 : (0 : Int32).toInt = 0 := rfl; have z1 : (-1 : Int32).toInt = -1 := rfl; split <;> first | rfl | (exact i32_eq.mpr (by omega)) | (exfalso; omega)), rfl⟩
  · refine lv_tableIn (tgt := 162) hx hb dX11_about_1 (by rw [c1]; decide) (by rw [c1]; decide) (by rw [c1]; rfl) (by decide) ?_
    refine lv_aload_n hx hb dX11_about_162 rfl (lv_at hl 0 rfl) ?_
    refine gf_RX11_33 (v := .ref (a 7)) C hO 0 mW_0 rfl dX11_about_163 ?_
    refine lv_aload_n hx hb dX11_about_166 rfl (lv_at hl 0 rfl) ?_
    refine gf_RX11_255 (v := .int 0) C hO 0 mW_0 (congrArg (fun z : Int32 => some (Value.int z)) hI_0_36) dX11_about_167 ?_
    refine aI C hO 7 mW_7 (i_in (X := 0) rfl (by omega) (by omega)) dX11_about_170 ?_
    refine tE (y := 0) hA_7_0 ?_
    refine hret _ _ _ _ _ _ dX11_about_171 rfl ?_ hO
    exact ⟨(by unfold q_about; have z0 : (0 : Int32).toInt = 0 := rfl; have z1 : (-1 : Int32).toInt = -1 := rfl; split <;> first | rfl | (exact i32_eq.mpr (by omega)) | (exfalso; omega)), rfl⟩
  · refine lv_tableIn (tgt := 172) hx hb dX11_about_1 (by rw [c1]; decide) (by rw [c1]; decide) (by rw [c1]; rfl) (by decide) ?_
    refine lv_aload_n hx hb dX11_about_172 rfl (lv_at hl 0 rfl) ?_
    refine gf_RX11_398 (v := .int 0) C hO 0 mW_0 (congrArg (fun z : Int32 => some (Value.int z)) hI_0_50) dX11_about_173 ?_
    refine hret _ _ _ _ _ _ dX11_about_176 rfl ?_ hO
    exact ⟨(by unfold q_about; have z0 : (0 : Int32).toInt = 0 := rfl; have z1 : (-1 : Int32).toInt = -1 := rfl; split <;> first | rfl | (exact i32_eq.mpr (by omega)) | (exfalso; omega)), rfl⟩
  · refine lv_tableIn (tgt := 177) hx hb dX11_about_1 (by rw [c1]; decide) (by rw [c1]; decide) (by rw [c1]; rfl) (by decide) ?_
    refine lv_aload_n hx hb dX11_about_177 rfl (lv_at hl 0 rfl) ?_
    refine gf_RX11_97 (v := .ref (a 28)) C hO 0 mW_0 rfl dX11_about_178 ?_
    refine lv_bipush (v := 28) hx hb dX11_about_181 (by decide) ?_
    refine aI C hO 28 mW_28 (i_in (X := 28) rfl (by omega) (by omega)) dX11_about_183 ?_
    refine tE (y := 0) hA_28_28 ?_
    refine hret _ _ _ _ _ _ dX11_about_184 rfl ?_ hO
    exact ⟨(by unfold q_about; have z0 : (0 : Int32).toInt = 0 := rfl; have z1 : (-1 : Int32).toInt = -1 := rfl; split <;> first | rfl | (exact i32_eq.mpr (by omega)) | (exfalso; omega)), rfl⟩
theorem dX11_feed_0 : decode cX11_feed 0 = .ok (.aload_n 0, 1) := by decide +kernel
theorem dX11_feed_1 : decode cX11_feed 1 = .ok (.getfield 252, 3) := by decide +kernel
theorem dX11_feed_4 : decode cX11_feed 4 = .ok (.bipush 20, 2) := by decide +kernel
theorem dX11_feed_6 : decode cX11_feed 6 = .ok (.iadd, 1) := by decide +kernel
theorem dX11_feed_7 : decode cX11_feed 7 = .ok (.sipush 1600, 3) := by decide +kernel
theorem dX11_feed_10 : decode cX11_feed 10 = .ok (.if_icmp .le 5, 3) := by decide +kernel
theorem dX11_feed_13 : decode cX11_feed 13 = .ok (.iconst (-1), 1) := by decide +kernel
theorem dX11_feed_14 : decode cX11_feed 14 = .ok (.ireturn, 1) := by decide +kernel
theorem dX11_feed_15 : decode cX11_feed 15 = .ok (.iconst 0, 1) := by decide +kernel
theorem dX11_feed_16 : decode cX11_feed 16 = .ok (.istore 6, 2) := by decide +kernel
theorem dX11_feed_18 : decode cX11_feed 18 = .ok (.iload 6, 2) := by decide +kernel
theorem dX11_feed_20 : decode cX11_feed 20 = .ok (.bipush 20, 2) := by decide +kernel
theorem dX11_feed_22 : decode cX11_feed 22 = .ok (.if_icmp .ge 83, 3) := by decide +kernel
theorem dX11_feed_25 : decode cX11_feed 25 = .ok (.iload 6, 2) := by decide +kernel
theorem dX11_feed_27 : decode cX11_feed 27 = .ok (.iconst 4, 1) := by decide +kernel
theorem dX11_feed_28 : decode cX11_feed 28 = .ok (.if_icmp .ge 7, 3) := by decide +kernel
theorem dX11_feed_31 : decode cX11_feed 31 = .ok (.iload_n 1, 1) := by decide +kernel
theorem dX11_feed_32 : decode cX11_feed 32 = .ok (.goto 39, 3) := by decide +kernel
theorem dX11_feed_35 : decode cX11_feed 35 = .ok (.iload 6, 2) := by decide +kernel
theorem dX11_feed_37 : decode cX11_feed 37 = .ok (.bipush 8, 2) := by decide +kernel
theorem dX11_feed_39 : decode cX11_feed 39 = .ok (.if_icmp .ge 7, 3) := by decide +kernel
theorem dX11_feed_42 : decode cX11_feed 42 = .ok (.iload_n 2, 1) := by decide +kernel
theorem dX11_feed_43 : decode cX11_feed 43 = .ok (.goto 28, 3) := by decide +kernel
theorem dX11_feed_46 : decode cX11_feed 46 = .ok (.iload 6, 2) := by decide +kernel
theorem dX11_feed_48 : decode cX11_feed 48 = .ok (.bipush 12, 2) := by decide +kernel
theorem dX11_feed_50 : decode cX11_feed 50 = .ok (.if_icmp .ge 7, 3) := by decide +kernel
theorem dX11_feed_53 : decode cX11_feed 53 = .ok (.iload_n 3, 1) := by decide +kernel
theorem dX11_feed_54 : decode cX11_feed 54 = .ok (.goto 17, 3) := by decide +kernel
theorem dX11_feed_57 : decode cX11_feed 57 = .ok (.iload 6, 2) := by decide +kernel
theorem dX11_feed_59 : decode cX11_feed 59 = .ok (.bipush 16, 2) := by decide +kernel
theorem dX11_feed_61 : decode cX11_feed 61 = .ok (.if_icmp .ge 8, 3) := by decide +kernel
theorem dX11_feed_64 : decode cX11_feed 64 = .ok (.iload 4, 2) := by decide +kernel
theorem dX11_feed_66 : decode cX11_feed 66 = .ok (.goto 5, 3) := by decide +kernel
theorem dX11_feed_69 : decode cX11_feed 69 = .ok (.iload 5, 2) := by decide +kernel
theorem dX11_feed_71 : decode cX11_feed 71 = .ok (.istore 7, 2) := by decide +kernel
theorem dX11_feed_73 : decode cX11_feed 73 = .ok (.aload_n 0, 1) := by decide +kernel
theorem dX11_feed_74 : decode cX11_feed 74 = .ok (.getfield 7, 3) := by decide +kernel
theorem dX11_feed_77 : decode cX11_feed 77 = .ok (.aload_n 0, 1) := by decide +kernel
theorem dX11_feed_78 : decode cX11_feed 78 = .ok (.getfield 252, 3) := by decide +kernel
theorem dX11_feed_81 : decode cX11_feed 81 = .ok (.iload 6, 2) := by decide +kernel
theorem dX11_feed_83 : decode cX11_feed 83 = .ok (.iadd, 1) := by decide +kernel
theorem dX11_feed_84 : decode cX11_feed 84 = .ok (.iload 7, 2) := by decide +kernel
theorem dX11_feed_86 : decode cX11_feed 86 = .ok (.bipush 24, 2) := by decide +kernel
theorem dX11_feed_88 : decode cX11_feed 88 = .ok (.bipush 8, 2) := by decide +kernel
theorem dX11_feed_90 : decode cX11_feed 90 = .ok (.iload 6, 2) := by decide +kernel
theorem dX11_feed_92 : decode cX11_feed 92 = .ok (.iconst 3, 1) := by decide +kernel
theorem dX11_feed_93 : decode cX11_feed 93 = .ok (.iand, 1) := by decide +kernel
theorem dX11_feed_94 : decode cX11_feed 94 = .ok (.imul, 1) := by decide +kernel
theorem dX11_feed_95 : decode cX11_feed 95 = .ok (.isub, 1) := by decide +kernel
theorem dX11_feed_96 : decode cX11_feed 96 = .ok (.ishr, 1) := by decide +kernel
theorem dX11_feed_97 : decode cX11_feed 97 = .ok (.i2b, 1) := by decide +kernel
theorem dX11_feed_98 : decode cX11_feed 98 = .ok (.bastore, 1) := by decide +kernel
theorem dX11_feed_99 : decode cX11_feed 99 = .ok (.iinc 6 1, 3) := by decide +kernel
theorem dX11_feed_102 : decode cX11_feed 102 = .ok (.goto (-84), 3) := by decide +kernel
theorem dX11_feed_105 : decode cX11_feed 105 = .ok (.aload_n 0, 1) := by decide +kernel
theorem dX11_feed_106 : decode cX11_feed 106 = .ok (.dup, 1) := by decide +kernel
theorem dX11_feed_107 : decode cX11_feed 107 = .ok (.getfield 252, 3) := by decide +kernel
theorem dX11_feed_110 : decode cX11_feed 110 = .ok (.bipush 20, 2) := by decide +kernel
theorem dX11_feed_112 : decode cX11_feed 112 = .ok (.iadd, 1) := by decide +kernel
theorem dX11_feed_113 : decode cX11_feed 113 = .ok (.putfield 252, 3) := by decide +kernel
theorem dX11_feed_116 : decode cX11_feed 116 = .ok (.aload_n 0, 1) := by decide +kernel
theorem dX11_feed_117 : decode cX11_feed 117 = .ok (.getfield 252, 3) := by decide +kernel
theorem dX11_feed_120 : decode cX11_feed 120 = .ok (.ireturn, 1) := by decide +kernel
theorem wd_2031 : (Cond.code ⟨"WebCourtModel", "feed", "(IIIII)I"⟩ prog_13_method_123_code (8 : Nat) (Option.some FieldType.int)) ∈ gtb := gtb_c9 2 (by decide +kernel) rfl
theorem pf_RX11_252 {p : Program} {l : Launch} {e : Env} {R : Room} {s : State} {m : MethodId} {args : Array Value} {below : List Frame} {meth : Method} {c : Code} {H : Heap} {locs : List Loc} {cells slots : Nat} {Q : State → Prop} {cc : ByteArray} {pc nL : Nat} {ls : Array Slot} {rest : List Value} {D : va_G} {cy : Nat → ClassId} {A : Nat → Prop} {ws : va_W} {b : Nat} {fs : List Value} {v : Int32} {ws' : va_W} (C : Cx p s m args c cc nL RX11 D cy A) (hO : Wo D A ws s.heap H locs) (q0 : Nat) (he : ws[q0]? = some (b, .inr (11, fs))) (hlen : 2 < fs.length) (hw : ws.set q0 (b, .inr (11, fs.set 2 (.int v))) = ws') (hdg : decode cc pc = .ok (.putfield 252, 3)) (kk : ∀ (H : Heap) (locs : List Loc), Wo D A ws' s.heap H locs → W p l e R s m args below meth c H locs cells slots Q (F0 m (pc + 3) ls rest)) : W p l e R s m args below meth c H locs cells slots Q (F0 m pc ls (.int v :: .ref b :: rest)) := pF (k := 2) (ty := .int) C hO q0 he rfl inFX11 (by decide) wd_1358 rfl tyX11 tyX11_ok nmX11 rfl (by decide +kernel) rfl rfl hlen hw hdg kk
theorem wd_1356 : (Cond.fieldLink "WebCourtModel" (7 : Nat) "WebCourtModel" "tape" "[B") ∈ gtb := gtb_c6 47 (by decide +kernel) rfl
theorem gf_RX11_7 {p : Program} {l : Launch} {e : Env} {R : Room} {s : State} {m : MethodId} {args : Array Value} {below : List Frame} {meth : Method} {c : Code} {H : Heap} {locs : List Loc} {cells slots : Nat} {Q : State → Prop} {cc : ByteArray} {pc nL : Nat} {ls : Array Slot} {rest : List Value} {D : va_G} {cy : Nat → ClassId} {A : Nat → Prop} {ws : va_W} {b : Nat} {fs : List Value} {v : Value} (C : Cx p s m args c cc nL RX11 D cy A) (hO : Wo D A ws s.heap H locs) (q0 : Nat) (he : ws[q0]? = some (b, .inr (11, fs))) (hv : fs[0]? = some v) (hdg : decode cc pc = .ok (.getfield 7, 3)) (kk : W p l e R s m args below meth c H locs cells slots Q (F0 m (pc + 3) ls (v :: rest))) : W p l e R s m args below meth c H locs cells slots Q (F0 m pc ls (.ref b :: rest)) := gF (k := 0) C hO q0 he rfl inFX11 (by decide) wd_1356 rfl hv hdg kk
set_option maxHeartbeats 4000000 in
set_option maxRecDepth 100000 in
theorem T_X11_feed (l : Launch) (D : va_G) (cy : Nat → ClassId) (a : Nat → Nat) (u : St) (hI_0_2 : fI u 0 2 = 0) (x1 : Int32) (x2 : Int32) (x3 : Int32) (x4 : Int32) (x5 : Int32)  : Mi l D cy (mW cy a) yX11_feed (.code yX11_feed cX11_feed 8 (some .int)) (rmo 0 0) [.ref (a 0), .int x1, .int x2, .int x3, .int x4, .int x5] u (fun (r : Int32) (u' : St) => r = 20) := by
  refine Mi.of (own := RX11) rfl (by decide) (Nat.le_of_ble_eq_true rfl) ?_
  intro p e s m below meth c A Q ls C hret hO hl
  obtain ⟨hx, hb, hml, hown, ht, hK, hA⟩ := id C
  have hl : lv_has ls 8 [(0, .ref (a 0)), (1, .int x1), (2, .int x2), (3, .int x3), (4, .int x4), (5, .int x5)] := hl
  refine lv_aload_n hx hb dX11_feed_0 rfl (lv_at hl 0 rfl) ?_
  refine gf_RX11_252 (v := .int 0) C hO 0 mW_0 (congrArg (fun z : Int32 => some (Value.int z)) hI_0_2) dX11_feed_1 ?_
  refine lv_bipush (v := 20) hx hb dX11_feed_4 (by decide) ?_
  refine lv_iadd hx hb dX11_feed_6 ?_
  refine tE (y := 20) rfl ?_
  refine lv_sipush (v := 1600) hx hb dX11_feed_7 (by decide) ?_
  refine ct_le (tgt := 15) (X := 20) (Y := 1600) hx hb dX11_feed_10 (by decide) rfl rfl (by omega) ?_
  refine lv_iconst (v := 0) hx hb dX11_feed_15 (by decide) ?_
  refine lv_istore (lv' := [(6, .int 0), (0, .ref (a 0)), (1, .int x1), (2, .int x2), (3, .int x3), (4, .int x4), (5, .int x5)]) hx hb dX11_feed_16 hl (by decide) rfl (fun ls hl => ?_)
  have LP_18_u1 : ∀ (n : Nat) (u1 : St) (H : Heap) (locs : List Loc) (ls : Array Slot) (i_1 : Int32), Wo D A (mW cy a u1) s.heap H locs → lv_has ls 8 [(6, .int i_1), (0, .ref (a 0)), (1, .int x1), (2, .int x2), (3, .int x3), (4, .int x4), (5, .int x5)] → fI u1 0 2 = 0 → 0 ≤ i_1.toInt ∧ i_1.toInt ≤ 20 → 20 - i_1.toInt < (n : Int) → W p l e (rmo 0 0) s m [.ref (a 0), .int x1, .int x2, .int x3, .int x4, .int x5].toArray below meth c H locs 0 0 Q (F0 m 18 ls []) := by
    intro n
    induction n with
    | zero =>
      intro u1 H locs ls i_1 hO hl hI_0_2_u1 iv0_u1 hm_u1
      exact absurd hm_u1 (by omega)
    | succ n ih_u1 =>
      intro u1 H locs ls i_1 hO hl hI_0_2_u1 iv0_u1 hm_u1
      refine lv_iload hx hb dX11_feed_18 (lv_at hl 0 rfl) ?_
      refine lv_bipush (v := 20) hx hb dX11_feed_20 (by decide) ?_
      refine cs_ge (tgt := 105) (X := (i_1).toInt) (Y := 20) hx hb dX11_feed_22 (by decide) rfl rfl (fun c3 => ?_) (fun c3 => ?_)
      · refine lv_aload_n hx hb dX11_feed_105 rfl (lv_at hl 1 rfl) ?_
        refine lv_dup hx hb dX11_feed_106 rfl ?_
        refine gf_RX11_252 (v := .int 0) C hO 0 mW_0 (congrArg (fun z : Int32 => some (Value.int z)) hI_0_2_u1) dX11_feed_107 ?_
        refine lv_bipush (v := 20) hx hb dX11_feed_110 (by decide) ?_
        refine lv_iadd hx hb dX11_feed_112 ?_
        refine tE (y := 20) rfl ?_
        refine pf_RX11_252 C hO 0 mW_0 (Nat.le_of_ble_eq_true rfl) mW_s0_2 dX11_feed_113 (fun H locs hO => ?_)
        refine lv_aload_n hx hb dX11_feed_116 rfl (lv_at hl 1 rfl) ?_
        refine gf_RX11_252 (v := .int 20) C hO 0 mW_0 rfl dX11_feed_117 ?_
        refine hret _ _ _ _ _ _ dX11_feed_120 rfl ?_ hO
        exact rfl
      · refine lv_iload hx hb dX11_feed_25 (lv_at hl 0 rfl) ?_
        refine lv_iconst (v := 4) hx hb dX11_feed_27 (by decide) ?_
        refine cs_ge (tgt := 35) (X := (i_1).toInt) (Y := 4) hx hb dX11_feed_28 (by decide) rfl rfl (fun c4 => ?_) (fun c4 => ?_)
        · refine lv_iload hx hb dX11_feed_35 (lv_at hl 0 rfl) ?_
          refine lv_bipush (v := 8) hx hb dX11_feed_37 (by decide) ?_
          refine cs_ge (tgt := 46) (X := (i_1).toInt) (Y := 8) hx hb dX11_feed_39 (by decide) rfl rfl (fun c5 => ?_) (fun c5 => ?_)
          · refine lv_iload hx hb dX11_feed_46 (lv_at hl 0 rfl) ?_
            refine lv_bipush (v := 12) hx hb dX11_feed_48 (by decide) ?_
            refine cs_ge (tgt := 57) (X := (i_1).toInt) (Y := 12) hx hb dX11_feed_50 (by decide) rfl rfl (fun c6 => ?_) (fun c6 => ?_)
            · refine lv_iload hx hb dX11_feed_57 (lv_at hl 0 rfl) ?_
              refine lv_bipush (v := 16) hx hb dX11_feed_59 (by decide) ?_
              refine cs_ge (tgt := 69) (X := (i_1).toInt) (Y := 16) hx hb dX11_feed_61 (by decide) rfl rfl (fun c7 => ?_) (fun c7 => ?_)
              · refine lv_iload hx hb dX11_feed_69 (lv_at hl 6 rfl) ?_
                refine lv_istore (lv' := [(7, .int x5), (6, .int i_1), (0, .ref (a 0)), (1, .int x1), (2, .int x2), (3, .int x3), (4, .int x4), (5, .int x5)]) hx hb dX11_feed_71 hl (by decide) rfl (fun ls hl => ?_)
                refine lv_aload_n hx hb dX11_feed_73 rfl (lv_at hl 2 rfl) ?_
                refine gf_RX11_7 (v := .ref (a 1)) C hO 0 mW_0 rfl dX11_feed_74 ?_
                refine lv_aload_n hx hb dX11_feed_77 rfl (lv_at hl 2 rfl) ?_
                refine gf_RX11_252 (v := .int 0) C hO 0 mW_0 (congrArg (fun z : Int32 => some (Value.int z)) hI_0_2_u1) dX11_feed_78 ?_
                refine lv_iload hx hb dX11_feed_81 (lv_at hl 1 rfl) ?_
                have e8 : ((0 + i_1)).toInt = 0 + (i_1).toInt := i_add rfl rfl (by omega)
                refine lv_iadd hx hb dX11_feed_83 ?_
                refine lv_iload hx hb dX11_feed_84 (lv_at hl 0 rfl) ?_
                refine lv_bipush (v := 24) hx hb dX11_feed_86 (by decide) ?_
                refine lv_bipush (v := 8) hx hb dX11_feed_88 (by decide) ?_
                refine lv_iload hx hb dX11_feed_90 (lv_at hl 1 rfl) ?_
                refine lv_iconst (v := 3) hx hb dX11_feed_92 (by decide) ?_
                refine lv_iand hx hb dX11_feed_93 ?_
                refine lv_topi (fun z9 ez9 => ?_)
                refine lv_imul hx hb dX11_feed_94 ?_
                refine lv_isub hx hb dX11_feed_95 ?_
                refine lv_ishr hx hb dX11_feed_96 ?_
                refine lv_topi (fun z10 ez10 => ?_)
                refine lv_i2b hx hb dX11_feed_97 rfl ?_
                refine lv_topi (fun z11 ez11 => ?_)
                refine aBs C hO 1 mW_1 (i_in (X := (0 + (i_1).toInt)) e8 (by omega) (by omega)) mW_s1 dX11_feed_98 (fun H locs hO => ?_)
                have e12 : ((i_1 + 1)).toInt = (i_1).toInt + 1 := i_add rfl rfl (by omega)
                refine lv_iinc (v := (i_1 + 1)) (lv' := [(6, .int (i_1 + 1)), (7, .int x5), (0, .ref (a 0)), (1, .int x1), (2, .int x2), (3, .int x3), (4, .int x4), (5, .int x5)]) hx hb dX11_feed_99 hl (k := 1) rfl rfl (by decide) rfl (fun ls hl => ?_)
                refine lv_goto (tgt := 18) hx hb dX11_feed_102 (by decide) ?_
                exact ih_u1 _ _ _ _ ((i_1 + 1)) hO (lv_sub hl [0, 2, 3, 4, 5, 6, 7] rfl) (by exact hI_0_2_u1) (by first | decide | omega) (by first | decide | omega)
              · refine lv_iload hx hb dX11_feed_64 (lv_at hl 5 rfl) ?_
                refine lv_goto (tgt := 71) hx hb dX11_feed_66 (by decide) ?_
                refine lv_istore (lv' := [(7, .int x4), (6, .int i_1), (0, .ref (a 0)), (1, .int x1), (2, .int x2), (3, .int x3), (4, .int x4), (5, .int x5)]) hx hb dX11_feed_71 hl (by decide) rfl (fun ls hl => ?_)
                refine lv_aload_n hx hb dX11_feed_73 rfl (lv_at hl 2 rfl) ?_
                refine gf_RX11_7 (v := .ref (a 1)) C hO 0 mW_0 rfl dX11_feed_74 ?_
                refine lv_aload_n hx hb dX11_feed_77 rfl (lv_at hl 2 rfl) ?_
                refine gf_RX11_252 (v := .int 0) C hO 0 mW_0 (congrArg (fun z : Int32 => some (Value.int z)) hI_0_2_u1) dX11_feed_78 ?_
                refine lv_iload hx hb dX11_feed_81 (lv_at hl 1 rfl) ?_
                have e13 : ((0 + i_1)).toInt = 0 + (i_1).toInt := i_add rfl rfl (by omega)
                refine lv_iadd hx hb dX11_feed_83 ?_
                refine lv_iload hx hb dX11_feed_84 (lv_at hl 0 rfl) ?_
                refine lv_bipush (v := 24) hx hb dX11_feed_86 (by decide) ?_
                refine lv_bipush (v := 8) hx hb dX11_feed_88 (by decide) ?_
                refine lv_iload hx hb dX11_feed_90 (lv_at hl 1 rfl) ?_
                refine lv_iconst (v := 3) hx hb dX11_feed_92 (by decide) ?_
                refine lv_iand hx hb dX11_feed_93 ?_
                refine lv_topi (fun z14 ez14 => ?_)
                refine lv_imul hx hb dX11_feed_94 ?_
                refine lv_isub hx hb dX11_feed_95 ?_
                refine lv_ishr hx hb dX11_feed_96 ?_
                refine lv_topi (fun z15 ez15 => ?_)
                refine lv_i2b hx hb dX11_feed_97 rfl ?_
                refine lv_topi (fun z16 ez16 => ?_)
                refine aBs C hO 1 mW_1 (i_in (X := (0 + (i_1).toInt)) e13 (by omega) (by omega)) mW_s1 dX11_feed_98 (fun H locs hO => ?_)
                have e17 : ((i_1 + 1)).toInt = (i_1).toInt + 1 := i_add rfl rfl (by omega)
                refine lv_iinc (v := (i_1 + 1)) (lv' := [(6, .int (i_1 + 1)), (7, .int x4), (0, .ref (a 0)), (1, .int x1), (2, .int x2), (3, .int x3), (4, .int x4), (5, .int x5)]) hx hb dX11_feed_99 hl (k := 1) rfl rfl (by decide) rfl (fun ls hl => ?_)
                refine lv_goto (tgt := 18) hx hb dX11_feed_102 (by decide) ?_
                exact ih_u1 _ _ _ _ ((i_1 + 1)) hO (lv_sub hl [0, 2, 3, 4, 5, 6, 7] rfl) (by exact hI_0_2_u1) (by first | decide | omega) (by first | decide | omega)
            · refine lv_iload_n hx hb dX11_feed_53 rfl (lv_at hl 4 rfl) ?_
              refine lv_goto (tgt := 71) hx hb dX11_feed_54 (by decide) ?_
              refine lv_istore (lv' := [(7, .int x3), (6, .int i_1), (0, .ref (a 0)), (1, .int x1), (2, .int x2), (3, .int x3), (4, .int x4), (5, .int x5)]) hx hb dX11_feed_71 hl (by decide) rfl (fun ls hl => ?_)
              refine lv_aload_n hx hb dX11_feed_73 rfl (lv_at hl 2 rfl) ?_
              refine gf_RX11_7 (v := .ref (a 1)) C hO 0 mW_0 rfl dX11_feed_74 ?_
              refine lv_aload_n hx hb dX11_feed_77 rfl (lv_at hl 2 rfl) ?_
              refine gf_RX11_252 (v := .int 0) C hO 0 mW_0 (congrArg (fun z : Int32 => some (Value.int z)) hI_0_2_u1) dX11_feed_78 ?_
              refine lv_iload hx hb dX11_feed_81 (lv_at hl 1 rfl) ?_
              have e18 : ((0 + i_1)).toInt = 0 + (i_1).toInt := i_add rfl rfl (by omega)
              refine lv_iadd hx hb dX11_feed_83 ?_
              refine lv_iload hx hb dX11_feed_84 (lv_at hl 0 rfl) ?_
              refine lv_bipush (v := 24) hx hb dX11_feed_86 (by decide) ?_
              refine lv_bipush (v := 8) hx hb dX11_feed_88 (by decide) ?_
              refine lv_iload hx hb dX11_feed_90 (lv_at hl 1 rfl) ?_
              refine lv_iconst (v := 3) hx hb dX11_feed_92 (by decide) ?_
              refine lv_iand hx hb dX11_feed_93 ?_
              refine lv_topi (fun z19 ez19 => ?_)
              refine lv_imul hx hb dX11_feed_94 ?_
              refine lv_isub hx hb dX11_feed_95 ?_
              refine lv_ishr hx hb dX11_feed_96 ?_
              refine lv_topi (fun z20 ez20 => ?_)
              refine lv_i2b hx hb dX11_feed_97 rfl ?_
              refine lv_topi (fun z21 ez21 => ?_)
              refine aBs C hO 1 mW_1 (i_in (X := (0 + (i_1).toInt)) e18 (by omega) (by omega)) mW_s1 dX11_feed_98 (fun H locs hO => ?_)
              have e22 : ((i_1 + 1)).toInt = (i_1).toInt + 1 := i_add rfl rfl (by omega)
              refine lv_iinc (v := (i_1 + 1)) (lv' := [(6, .int (i_1 + 1)), (7, .int x3), (0, .ref (a 0)), (1, .int x1), (2, .int x2), (3, .int x3), (4, .int x4), (5, .int x5)]) hx hb dX11_feed_99 hl (k := 1) rfl rfl (by decide) rfl (fun ls hl => ?_)
              refine lv_goto (tgt := 18) hx hb dX11_feed_102 (by decide) ?_
              exact ih_u1 _ _ _ _ ((i_1 + 1)) hO (lv_sub hl [0, 2, 3, 4, 5, 6, 7] rfl) (by exact hI_0_2_u1) (by first | decide | omega) (by first | decide | omega)
          · refine lv_iload_n hx hb dX11_feed_42 rfl (lv_at hl 3 rfl) ?_
            refine lv_goto (tgt := 71) hx hb dX11_feed_43 (by decide) ?_
            refine lv_istore (lv' := [(7, .int x2), (6, .int i_1), (0, .ref (a 0)), (1, .int x1), (2, .int x2), (3, .int x3), (4, .int x4), (5, .int x5)]) hx hb dX11_feed_71 hl (by decide) rfl (fun ls hl => ?_)
            refine lv_aload_n hx hb dX11_feed_73 rfl (lv_at hl 2 rfl) ?_
            refine gf_RX11_7 (v := .ref (a 1)) C hO 0 mW_0 rfl dX11_feed_74 ?_
            refine lv_aload_n hx hb dX11_feed_77 rfl (lv_at hl 2 rfl) ?_
            refine gf_RX11_252 (v := .int 0) C hO 0 mW_0 (congrArg (fun z : Int32 => some (Value.int z)) hI_0_2_u1) dX11_feed_78 ?_
            refine lv_iload hx hb dX11_feed_81 (lv_at hl 1 rfl) ?_
            have e23 : ((0 + i_1)).toInt = 0 + (i_1).toInt := i_add rfl rfl (by omega)
            refine lv_iadd hx hb dX11_feed_83 ?_
            refine lv_iload hx hb dX11_feed_84 (lv_at hl 0 rfl) ?_
            refine lv_bipush (v := 24) hx hb dX11_feed_86 (by decide) ?_
            refine lv_bipush (v := 8) hx hb dX11_feed_88 (by decide) ?_
            refine lv_iload hx hb dX11_feed_90 (lv_at hl 1 rfl) ?_
            refine lv_iconst (v := 3) hx hb dX11_feed_92 (by decide) ?_
            refine lv_iand hx hb dX11_feed_93 ?_
            refine lv_topi (fun z24 ez24 => ?_)
            refine lv_imul hx hb dX11_feed_94 ?_
            refine lv_isub hx hb dX11_feed_95 ?_
            refine lv_ishr hx hb dX11_feed_96 ?_
            refine lv_topi (fun z25 ez25 => ?_)
            refine lv_i2b hx hb dX11_feed_97 rfl ?_
            refine lv_topi (fun z26 ez26 => ?_)
            refine aBs C hO 1 mW_1 (i_in (X := (0 + (i_1).toInt)) e23 (by omega) (by omega)) mW_s1 dX11_feed_98 (fun H locs hO => ?_)
            have e27 : ((i_1 + 1)).toInt = (i_1).toInt + 1 := i_add rfl rfl (by omega)
            refine lv_iinc (v := (i_1 + 1)) (lv' := [(6, .int (i_1 + 1)), (7, .int x2), (0, .ref (a 0)), (1, .int x1), (2, .int x2), (3, .int x3), (4, .int x4), (5, .int x5)]) hx hb dX11_feed_99 hl (k := 1) rfl rfl (by decide) rfl (fun ls hl => ?_)
            refine lv_goto (tgt := 18) hx hb dX11_feed_102 (by decide) ?_
            exact ih_u1 _ _ _ _ ((i_1 + 1)) hO (lv_sub hl [0, 2, 3, 4, 5, 6, 7] rfl) (by exact hI_0_2_u1) (by first | decide | omega) (by first | decide | omega)
        · refine lv_iload_n hx hb dX11_feed_31 rfl (lv_at hl 2 rfl) ?_
          refine lv_goto (tgt := 71) hx hb dX11_feed_32 (by decide) ?_
          refine lv_istore (lv' := [(7, .int x1), (6, .int i_1), (0, .ref (a 0)), (1, .int x1), (2, .int x2), (3, .int x3), (4, .int x4), (5, .int x5)]) hx hb dX11_feed_71 hl (by decide) rfl (fun ls hl => ?_)
          refine lv_aload_n hx hb dX11_feed_73 rfl (lv_at hl 2 rfl) ?_
          refine gf_RX11_7 (v := .ref (a 1)) C hO 0 mW_0 rfl dX11_feed_74 ?_
          refine lv_aload_n hx hb dX11_feed_77 rfl (lv_at hl 2 rfl) ?_
          refine gf_RX11_252 (v := .int 0) C hO 0 mW_0 (congrArg (fun z : Int32 => some (Value.int z)) hI_0_2_u1) dX11_feed_78 ?_
          refine lv_iload hx hb dX11_feed_81 (lv_at hl 1 rfl) ?_
          have e28 : ((0 + i_1)).toInt = 0 + (i_1).toInt := i_add rfl rfl (by omega)
          refine lv_iadd hx hb dX11_feed_83 ?_
          refine lv_iload hx hb dX11_feed_84 (lv_at hl 0 rfl) ?_
          refine lv_bipush (v := 24) hx hb dX11_feed_86 (by decide) ?_
          refine lv_bipush (v := 8) hx hb dX11_feed_88 (by decide) ?_
          refine lv_iload hx hb dX11_feed_90 (lv_at hl 1 rfl) ?_
          refine lv_iconst (v := 3) hx hb dX11_feed_92 (by decide) ?_
          refine lv_iand hx hb dX11_feed_93 ?_
          refine lv_topi (fun z29 ez29 => ?_)
          refine lv_imul hx hb dX11_feed_94 ?_
          refine lv_isub hx hb dX11_feed_95 ?_
          refine lv_ishr hx hb dX11_feed_96 ?_
          refine lv_topi (fun z30 ez30 => ?_)
          refine lv_i2b hx hb dX11_feed_97 rfl ?_
          refine lv_topi (fun z31 ez31 => ?_)
          refine aBs C hO 1 mW_1 (i_in (X := (0 + (i_1).toInt)) e28 (by omega) (by omega)) mW_s1 dX11_feed_98 (fun H locs hO => ?_)
          have e32 : ((i_1 + 1)).toInt = (i_1).toInt + 1 := i_add rfl rfl (by omega)
          refine lv_iinc (v := (i_1 + 1)) (lv' := [(6, .int (i_1 + 1)), (7, .int x1), (0, .ref (a 0)), (1, .int x1), (2, .int x2), (3, .int x3), (4, .int x4), (5, .int x5)]) hx hb dX11_feed_99 hl (k := 1) rfl rfl (by decide) rfl (fun ls hl => ?_)
          refine lv_goto (tgt := 18) hx hb dX11_feed_102 (by decide) ?_
          exact ih_u1 _ _ _ _ ((i_1 + 1)) hO (lv_sub hl [0, 2, 3, 4, 5, 6, 7] rfl) (by exact hI_0_2_u1) (by first | decide | omega) (by first | decide | omega)
  exact LP_18_u1 2000 _ _ _ _ (0) hO (lv_sub hl [0, 1, 2, 3, 4, 5, 6] rfl) (by exact hI_0_2) (by first | decide | omega) (by first | decide | omega)
theorem dX11_end_0 : decode cX11_end 0 = .ok (.iload_n 1, 1) := by decide +kernel
theorem dX11_end_1 : decode cX11_end 1 = .ok (.ifCond .lt 11, 3) := by decide +kernel
theorem dX11_end_4 : decode cX11_end 4 = .ok (.iload_n 1, 1) := by decide +kernel
theorem dX11_end_5 : decode cX11_end 5 = .ok (.aload_n 0, 1) := by decide +kernel
theorem dX11_end_6 : decode cX11_end 6 = .ok (.getfield 252, 3) := by decide +kernel
theorem dX11_end_9 : decode cX11_end 9 = .ok (.if_icmp .le 5, 3) := by decide +kernel
theorem dX11_end_12 : decode cX11_end 12 = .ok (.iconst (-1), 1) := by decide +kernel
theorem dX11_end_13 : decode cX11_end 13 = .ok (.ireturn, 1) := by decide +kernel
theorem dX11_end_14 : decode cX11_end 14 = .ok (.aload_n 0, 1) := by decide +kernel
theorem dX11_end_15 : decode cX11_end 15 = .ok (.iload_n 1, 1) := by decide +kernel
theorem dX11_end_16 : decode cX11_end 16 = .ok (.putfield 252, 3) := by decide +kernel
theorem dX11_end_19 : decode cX11_end 19 = .ok (.iload_n 1, 1) := by decide +kernel
theorem dX11_end_20 : decode cX11_end 20 = .ok (.ireturn, 1) := by decide +kernel
theorem wd_2035 : (Cond.code ⟨"WebCourtModel", "end", "(I)I"⟩ prog_13_method_124_code (2 : Nat) (Option.some FieldType.int)) ∈ gtb := gtb_c9 6 (by decide +kernel) rfl
set_option maxHeartbeats 4000000 in
set_option maxRecDepth 100000 in
theorem T_X11_end (l : Launch) (D : va_G) (cy : Nat → ClassId) (a : Nat → Nat) (u : St) (hI_0_2 : fI u 0 2 = 0) (x1 : Int32)  : Mi l D cy (mW cy a) yX11_end (.code yX11_end cX11_end 2 (some .int)) (rmo 0 0) [.ref (a 0), .int x1] u (fun (r : Int32) (u' : St) => r = q_end x1) := by
  refine Mi.of (own := RX11) rfl (by decide) (Nat.le_of_ble_eq_true rfl) ?_
  intro p e s m below meth c A Q ls C hret hO hl
  obtain ⟨hx, hb, hml, hown, ht, hK, hA⟩ := id C
  have hl : lv_has ls 2 [(0, .ref (a 0)), (1, .int x1)] := hl
  refine lv_iload_n hx hb dX11_end_0 rfl (lv_at hl 1 rfl) ?_
  refine bs_lt (tgt := 12) (X := (x1).toInt) hx hb dX11_end_1 (by decide) rfl (fun c1 => ?_) (fun c1 => ?_)
  · refine lv_iconst (v := (-1)) hx hb dX11_end_12 (by decide) ?_
    refine hret _ _ _ _ _ _ dX11_end_13 rfl ?_ hO
    exact (by unfold q_end; have z0 : (0 : Int32).toInt = 0 := rfl; have z1 : (-1 : Int32).toInt = -1 := rfl; split <;> first | rfl | (exact i32_eq.mpr (by omega)) | (exfalso; omega))
  · refine lv_iload_n hx hb dX11_end_4 rfl (lv_at hl 1 rfl) ?_
    refine lv_aload_n hx hb dX11_end_5 rfl (lv_at hl 0 rfl) ?_
    refine gf_RX11_252 (v := .int 0) C hO 0 mW_0 (congrArg (fun z : Int32 => some (Value.int z)) hI_0_2) dX11_end_6 ?_
    refine cs_le (tgt := 14) (X := (x1).toInt) (Y := 0) hx hb dX11_end_9 (by decide) rfl rfl (fun c2 => ?_) (fun c2 => ?_)
    · refine lv_aload_n hx hb dX11_end_14 rfl (lv_at hl 0 rfl) ?_
      refine lv_iload_n hx hb dX11_end_15 rfl (lv_at hl 1 rfl) ?_
      refine pf_RX11_252 C hO 0 mW_0 (Nat.le_of_ble_eq_true rfl) mW_s0_2 dX11_end_16 (fun H locs hO => ?_)
      refine lv_iload_n hx hb dX11_end_19 rfl (lv_at hl 1 rfl) ?_
      refine hret _ _ _ _ _ _ dX11_end_20 rfl ?_ hO
      exact (by unfold q_end; have z0 : (0 : Int32).toInt = 0 := rfl; have z1 : (-1 : Int32).toInt = -1 := rfl; split <;> first | rfl | (exact i32_eq.mpr (by omega)) | (exfalso; omega))
    · refine lv_iconst (v := (-1)) hx hb dX11_end_12 (by decide) ?_
      refine hret _ _ _ _ _ _ dX11_end_13 rfl ?_ hO
      exact (by unfold q_end; have z0 : (0 : Int32).toInt = 0 := rfl; have z1 : (-1 : Int32).toInt = -1 := rfl; split <;> first | rfl | (exact i32_eq.mpr (by omega)) | (exfalso; omega))
theorem dX11_fault_0 : decode cX11_fault 0 = .ok (.iload_n 1, 1) := by decide +kernel
theorem dX11_fault_1 : decode cX11_fault 1 = .ok (.ifCond .ne 10, 3) := by decide +kernel
theorem dX11_fault_4 : decode cX11_fault 4 = .ok (.aload_n 0, 1) := by decide +kernel
theorem dX11_fault_5 : decode cX11_fault 5 = .ok (.getfield 155, 3) := by decide +kernel
theorem dX11_fault_8 : decode cX11_fault 8 = .ok (.goto 16, 3) := by decide +kernel
theorem dX11_fault_11 : decode cX11_fault 11 = .ok (.iload_n 1, 1) := by decide +kernel
theorem dX11_fault_12 : decode cX11_fault 12 = .ok (.iconst 1, 1) := by decide +kernel
theorem dX11_fault_13 : decode cX11_fault 13 = .ok (.if_icmp .ne 10, 3) := by decide +kernel
theorem dX11_fault_16 : decode cX11_fault 16 = .ok (.aload_n 0, 1) := by decide +kernel
theorem dX11_fault_17 : decode cX11_fault 17 = .ok (.getfield 16, 3) := by decide +kernel
theorem dX11_fault_20 : decode cX11_fault 20 = .ok (.goto 4, 3) := by decide +kernel
theorem dX11_fault_23 : decode cX11_fault 23 = .ok (.iconst (-1), 1) := by decide +kernel
theorem dX11_fault_24 : decode cX11_fault 24 = .ok (.ireturn, 1) := by decide +kernel
theorem wd_1713 : (Cond.code ⟨"WebCourtModel", "fault", "(I)I"⟩ prog_13_method_40_code (2 : Nat) (Option.some FieldType.int)) ∈ gtb := gtb_c7 164 (by decide +kernel) rfl
theorem wd_1361 : (Cond.fieldLink "WebCourtModel" (16 : Nat) "WebCourtModel" "faultPlace" "I") ∈ gtb := gtb_c6 52 (by decide +kernel) rfl
theorem gf_RX11_16 {p : Program} {l : Launch} {e : Env} {R : Room} {s : State} {m : MethodId} {args : Array Value} {below : List Frame} {meth : Method} {c : Code} {H : Heap} {locs : List Loc} {cells slots : Nat} {Q : State → Prop} {cc : ByteArray} {pc nL : Nat} {ls : Array Slot} {rest : List Value} {D : va_G} {cy : Nat → ClassId} {A : Nat → Prop} {ws : va_W} {b : Nat} {fs : List Value} {v : Value} (C : Cx p s m args c cc nL RX11 D cy A) (hO : Wo D A ws s.heap H locs) (q0 : Nat) (he : ws[q0]? = some (b, .inr (11, fs))) (hv : fs[5]? = some v) (hdg : decode cc pc = .ok (.getfield 16, 3)) (kk : W p l e R s m args below meth c H locs cells slots Q (F0 m (pc + 3) ls (v :: rest))) : W p l e R s m args below meth c H locs cells slots Q (F0 m pc ls (.ref b :: rest)) := gF (k := 5) C hO q0 he rfl inFX11 (by decide) wd_1361 rfl hv hdg kk
theorem wd_1360 : (Cond.fieldLink "WebCourtModel" (155 : Nat) "WebCourtModel" "faultKind" "I") ∈ gtb := gtb_c6 51 (by decide +kernel) rfl
theorem gf_RX11_155 {p : Program} {l : Launch} {e : Env} {R : Room} {s : State} {m : MethodId} {args : Array Value} {below : List Frame} {meth : Method} {c : Code} {H : Heap} {locs : List Loc} {cells slots : Nat} {Q : State → Prop} {cc : ByteArray} {pc nL : Nat} {ls : Array Slot} {rest : List Value} {D : va_G} {cy : Nat → ClassId} {A : Nat → Prop} {ws : va_W} {b : Nat} {fs : List Value} {v : Value} (C : Cx p s m args c cc nL RX11 D cy A) (hO : Wo D A ws s.heap H locs) (q0 : Nat) (he : ws[q0]? = some (b, .inr (11, fs))) (hv : fs[4]? = some v) (hdg : decode cc pc = .ok (.getfield 155, 3)) (kk : W p l e R s m args below meth c H locs cells slots Q (F0 m (pc + 3) ls (v :: rest))) : W p l e R s m args below meth c H locs cells slots Q (F0 m pc ls (.ref b :: rest)) := gF (k := 4) C hO q0 he rfl inFX11 (by decide) wd_1360 rfl hv hdg kk
set_option maxHeartbeats 4000000 in
set_option maxRecDepth 100000 in
theorem T_X11_fault (l : Launch) (D : va_G) (cy : Nat → ClassId) (a : Nat → Nat) (u : St) (hI_0_4 : fI u 0 4 = 0) (hI_0_5 : fI u 0 5 = (-1)) (x1 : Int32)  : Mi l D cy (mW cy a) yX11_fault (.code yX11_fault cX11_fault 2 (some .int)) (rmo 0 0) [.ref (a 0), .int x1] u (fun (r : Int32) (u' : St) => (r = q_end x1) ∧ (u' = u)) := by
  refine Mi.of (own := RX11) rfl (by decide) (Nat.le_of_ble_eq_true rfl) ?_
  intro p e s m below meth c A Q ls C hret hO hl
  obtain ⟨hx, hb, hml, hown, ht, hK, hA⟩ := id C
  have hl : lv_has ls 2 [(0, .ref (a 0)), (1, .int x1)] := hl
  refine lv_iload_n hx hb dX11_fault_0 rfl (lv_at hl 1 rfl) ?_
  refine bs_ne (tgt := 11) (X := (x1).toInt) hx hb dX11_fault_1 (by decide) rfl (fun c1 => ?_) (fun c1 => ?_)
  · refine lv_iload_n hx hb dX11_fault_11 rfl (lv_at hl 1 rfl) ?_
    refine lv_iconst (v := 1) hx hb dX11_fault_12 (by decide) ?_
    refine cs_ne (tgt := 23) (X := (x1).toInt) (Y := 1) hx hb dX11_fault_13 (by decide) rfl rfl (fun c2 => ?_) (fun c2 => ?_)
    · refine lv_iconst (v := (-1)) hx hb dX11_fault_23 (by decide) ?_
      refine hret _ _ _ _ _ _ dX11_fault_24 rfl ?_ hO
      exact ⟨(by unfold q_end; have z0 : (0 : Int32).toInt = 0 := rfl; have z1 : (-1 : Int32).toInt = -1 := rfl; split <;> first | rfl | (exact i32_eq.mpr (by omega)) | (exfalso; omega)), rfl⟩
    · refine lv_aload_n hx hb dX11_fault_16 rfl (lv_at hl 0 rfl) ?_
      refine gf_RX11_16 (v := .int (-1)) C hO 0 mW_0 (congrArg (fun z : Int32 => some (Value.int z)) hI_0_5) dX11_fault_17 ?_
      refine lv_goto (tgt := 24) hx hb dX11_fault_20 (by decide) ?_
      refine hret _ _ _ _ _ _ dX11_fault_24 rfl ?_ hO
      exact ⟨(by unfold q_end; have z0 : (0 : Int32).toInt = 0 := rfl; have z1 : (-1 : Int32).toInt = -1 := rfl; split <;> first | rfl | (exact i32_eq.mpr (by omega)) | (exfalso; omega)), rfl⟩
  · refine lv_aload_n hx hb dX11_fault_4 rfl (lv_at hl 0 rfl) ?_
    refine gf_RX11_155 (v := .int 0) C hO 0 mW_0 (congrArg (fun z : Int32 => some (Value.int z)) hI_0_4) dX11_fault_5 ?_
    refine lv_goto (tgt := 24) hx hb dX11_fault_8 (by decide) ?_
    refine hret _ _ _ _ _ _ dX11_fault_24 rfl ?_ hO
    exact ⟨(by unfold q_end; have z0 : (0 : Int32).toInt = 0 := rfl; have z1 : (-1 : Int32).toInt = -1 := rfl; split <;> first | rfl | (exact i32_eq.mpr (by omega)) | (exfalso; omega)), rfl⟩
