theorem dX10_commonDivisor_0 : decode cX10_commonDivisor 0 = .ok (.iload_n 0, 1) := by decide +kernel
theorem dX10_commonDivisor_1 : decode cX10_commonDivisor 1 = .ok (.istore_n 2, 1) := by decide +kernel
theorem dX10_commonDivisor_2 : decode cX10_commonDivisor 2 = .ok (.iload_n 1, 1) := by decide +kernel
theorem dX10_commonDivisor_3 : decode cX10_commonDivisor 3 = .ok (.istore_n 3, 1) := by decide +kernel
theorem dX10_commonDivisor_4 : decode cX10_commonDivisor 4 = .ok (.iconst 0, 1) := by decide +kernel
theorem dX10_commonDivisor_5 : decode cX10_commonDivisor 5 = .ok (.istore 4, 2) := by decide +kernel
theorem dX10_commonDivisor_7 : decode cX10_commonDivisor 7 = .ok (.iload 4, 2) := by decide +kernel
theorem dX10_commonDivisor_9 : decode cX10_commonDivisor 9 = .ok (.bipush 64, 2) := by decide +kernel
theorem dX10_commonDivisor_11 : decode cX10_commonDivisor 11 = .ok (.if_icmp .ge 23, 3) := by decide +kernel
theorem dX10_commonDivisor_14 : decode cX10_commonDivisor 14 = .ok (.iload_n 3, 1) := by decide +kernel
theorem dX10_commonDivisor_15 : decode cX10_commonDivisor 15 = .ok (.ifCond .le 19, 3) := by decide +kernel
theorem dX10_commonDivisor_18 : decode cX10_commonDivisor 18 = .ok (.iload_n 2, 1) := by decide +kernel
theorem dX10_commonDivisor_19 : decode cX10_commonDivisor 19 = .ok (.iload_n 3, 1) := by decide +kernel
theorem dX10_commonDivisor_20 : decode cX10_commonDivisor 20 = .ok (.irem, 1) := by decide +kernel
theorem dX10_commonDivisor_21 : decode cX10_commonDivisor 21 = .ok (.istore 5, 2) := by decide +kernel
theorem dX10_commonDivisor_23 : decode cX10_commonDivisor 23 = .ok (.iload_n 3, 1) := by decide +kernel
theorem dX10_commonDivisor_24 : decode cX10_commonDivisor 24 = .ok (.istore_n 2, 1) := by decide +kernel
theorem dX10_commonDivisor_25 : decode cX10_commonDivisor 25 = .ok (.iload 5, 2) := by decide +kernel
theorem dX10_commonDivisor_27 : decode cX10_commonDivisor 27 = .ok (.istore_n 3, 1) := by decide +kernel
theorem dX10_commonDivisor_28 : decode cX10_commonDivisor 28 = .ok (.iinc 4 1, 3) := by decide +kernel
theorem dX10_commonDivisor_31 : decode cX10_commonDivisor 31 = .ok (.goto (-24), 3) := by decide +kernel
theorem dX10_commonDivisor_34 : decode cX10_commonDivisor 34 = .ok (.iload_n 2, 1) := by decide +kernel
theorem dX10_commonDivisor_35 : decode cX10_commonDivisor 35 = .ok (.ireturn, 1) := by decide +kernel
theorem wd_1229 : (Cond.code ⟨"WebCourt", "commonDivisor", "(II)I"⟩ prog_1_method_41_code (6 : Nat) (Option.some FieldType.int)) ∈ gtb := gtb_c5 160 (by decide +kernel) rfl
set_option maxHeartbeats 4000000 in
set_option maxRecDepth 100000 in
theorem T_X10_commonDivisor_100 (l : Launch) (D : va_G) (cy : Nat → ClassId) (a : Nat → Nat) (u : St)    : Mi l D cy (cW cy a) yX10_commonDivisor (.code yX10_commonDivisor cX10_commonDivisor 6 (some .int)) (rmo 0 0) [.int 100, .int 100] u (fun (r : Int32) (u' : St) => (r = 100) ∧ (u' = u)) := by
  refine Mi.of (own := RX10) rfl (by decide) (Nat.le_of_ble_eq_true rfl) ?_
  intro p e s m below meth c A Q ls C hret hO hl
  obtain ⟨hx, hb, hml, hown, ht, hK, hA⟩ := id C
  have hl : lv_has ls 6 [(0, .int 100), (1, .int 100)] := hl
  refine lv_iload_n hx hb dX10_commonDivisor_0 rfl (lv_at hl 0 rfl) ?_
  refine lv_istore_n (lv' := [(2, .int 100), (0, .int 100), (1, .int 100)]) hx hb dX10_commonDivisor_1 rfl hl (by decide) rfl (fun ls hl => ?_)
  refine lv_iload_n hx hb dX10_commonDivisor_2 rfl (lv_at hl 2 rfl) ?_
  refine lv_istore_n (lv' := [(3, .int 100), (2, .int 100), (0, .int 100), (1, .int 100)]) hx hb dX10_commonDivisor_3 rfl hl (by decide) rfl (fun ls hl => ?_)
  refine lv_iconst (v := 0) hx hb dX10_commonDivisor_4 (by decide) ?_
  refine lv_istore (lv' := [(4, .int 0), (3, .int 100), (2, .int 100), (0, .int 100), (1, .int 100)]) hx hb dX10_commonDivisor_5 hl (by decide) rfl (fun ls hl => ?_)
  refine lv_iload hx hb dX10_commonDivisor_7 (lv_at hl 0 rfl) ?_
  refine lv_bipush (v := 64) hx hb dX10_commonDivisor_9 (by decide) ?_
  refine cn_ge (X := 0) (Y := 64) hx hb dX10_commonDivisor_11 rfl rfl (by omega) ?_ (tgt := 34) (by decide)
  refine lv_iload_n hx hb dX10_commonDivisor_14 rfl (lv_at hl 1 rfl) ?_
  refine bn_le (X := 100) hx hb dX10_commonDivisor_15 rfl (by omega) ?_ (tgt := 34) (by decide)
  refine lv_iload_n hx hb dX10_commonDivisor_18 rfl (lv_at hl 2 rfl) ?_
  refine lv_iload_n hx hb dX10_commonDivisor_19 rfl (lv_at hl 1 rfl) ?_
  refine lv_irem hx hb dX10_commonDivisor_20 (i_ne0 (X := 100) rfl (by omega)) ?_
  refine tE (y := 0) (by decide) ?_
  refine lv_istore (lv' := [(5, .int 0), (4, .int 0), (3, .int 100), (2, .int 100), (0, .int 100), (1, .int 100)]) hx hb dX10_commonDivisor_21 hl (by decide) rfl (fun ls hl => ?_)
  refine lv_iload_n hx hb dX10_commonDivisor_23 rfl (lv_at hl 2 rfl) ?_
  refine lv_istore_n (lv' := [(2, .int 100), (5, .int 0), (4, .int 0), (3, .int 100), (0, .int 100), (1, .int 100)]) hx hb dX10_commonDivisor_24 rfl hl (by decide) rfl (fun ls hl => ?_)
  refine lv_iload hx hb dX10_commonDivisor_25 (lv_at hl 1 rfl) ?_
  refine lv_istore_n (lv' := [(3, .int 0), (2, .int 100), (5, .int 0), (4, .int 0), (0, .int 100), (1, .int 100)]) hx hb dX10_commonDivisor_27 rfl hl (by decide) rfl (fun ls hl => ?_)
  refine lv_iinc (v := 1) (lv' := [(4, .int 1), (3, .int 0), (2, .int 100), (5, .int 0), (0, .int 100), (1, .int 100)]) hx hb dX10_commonDivisor_28 hl (k := 3) rfl rfl (by decide) rfl (fun ls hl => ?_)
  refine lv_goto (tgt := 7) hx hb dX10_commonDivisor_31 (by decide) ?_
  refine lv_iload hx hb dX10_commonDivisor_7 (lv_at hl 0 rfl) ?_
  refine lv_bipush (v := 64) hx hb dX10_commonDivisor_9 (by decide) ?_
  refine cn_ge (X := 1) (Y := 64) hx hb dX10_commonDivisor_11 rfl rfl (by omega) ?_ (tgt := 34) (by decide)
  refine lv_iload_n hx hb dX10_commonDivisor_14 rfl (lv_at hl 1 rfl) ?_
  refine bt_le (tgt := 34) (X := 0) hx hb dX10_commonDivisor_15 (by decide) rfl (by omega) ?_
  refine lv_iload_n hx hb dX10_commonDivisor_34 rfl (lv_at hl 2 rfl) ?_
  refine hret _ _ _ _ _ _ dX10_commonDivisor_35 rfl ?_ hO
  exact ⟨rfl, rfl⟩
theorem dX10_power_0 : decode cX10_power 0 = .ok (.iconst 1, 1) := by decide +kernel
theorem dX10_power_1 : decode cX10_power 1 = .ok (.istore_n 2, 1) := by decide +kernel
theorem dX10_power_2 : decode cX10_power 2 = .ok (.iconst 0, 1) := by decide +kernel
theorem dX10_power_3 : decode cX10_power 3 = .ok (.istore_n 3, 1) := by decide +kernel
theorem dX10_power_4 : decode cX10_power 4 = .ok (.iload_n 3, 1) := by decide +kernel
theorem dX10_power_5 : decode cX10_power 5 = .ok (.iload_n 1, 1) := by decide +kernel
theorem dX10_power_6 : decode cX10_power 6 = .ok (.if_icmp .ge 13, 3) := by decide +kernel
theorem dX10_power_9 : decode cX10_power 9 = .ok (.iload_n 2, 1) := by decide +kernel
theorem dX10_power_10 : decode cX10_power 10 = .ok (.iload_n 0, 1) := by decide +kernel
theorem dX10_power_11 : decode cX10_power 11 = .ok (.imul, 1) := by decide +kernel
theorem dX10_power_12 : decode cX10_power 12 = .ok (.istore_n 2, 1) := by decide +kernel
theorem dX10_power_13 : decode cX10_power 13 = .ok (.iinc 3 1, 3) := by decide +kernel
theorem dX10_power_16 : decode cX10_power 16 = .ok (.goto (-12), 3) := by decide +kernel
theorem dX10_power_19 : decode cX10_power 19 = .ok (.iload_n 2, 1) := by decide +kernel
theorem dX10_power_20 : decode cX10_power 20 = .ok (.ireturn, 1) := by decide +kernel
theorem wd_1233 : (Cond.code ⟨"WebCourt", "power", "(II)I"⟩ prog_1_method_42_code (4 : Nat) (Option.some FieldType.int)) ∈ gtb := gtb_c5 164 (by decide +kernel) rfl
set_option maxHeartbeats 4000000 in
set_option maxRecDepth 100000 in
theorem T_X10_power_1_0 (l : Launch) (D : va_G) (cy : Nat → ClassId) (a : Nat → Nat) (u : St)    : Mi l D cy (cW cy a) yX10_power (.code yX10_power cX10_power 4 (some .int)) (rmo 0 0) [.int 1, .int 0] u (fun (r : Int32) (u' : St) => (r = 1) ∧ (u' = u)) := by
  refine Mi.of (own := RX10) rfl (by decide) (Nat.le_of_ble_eq_true rfl) ?_
  intro p e s m below meth c A Q ls C hret hO hl
  obtain ⟨hx, hb, hml, hown, ht, hK, hA⟩ := id C
  have hl : lv_has ls 4 [(0, .int 1), (1, .int 0)] := hl
  refine lv_iconst (v := 1) hx hb dX10_power_0 (by decide) ?_
  refine lv_istore_n (lv' := [(2, .int 1), (0, .int 1), (1, .int 0)]) hx hb dX10_power_1 rfl hl (by decide) rfl (fun ls hl => ?_)
  refine lv_iconst (v := 0) hx hb dX10_power_2 (by decide) ?_
  refine lv_istore_n (lv' := [(3, .int 0), (2, .int 1), (0, .int 1), (1, .int 0)]) hx hb dX10_power_3 rfl hl (by decide) rfl (fun ls hl => ?_)
  refine lv_iload_n hx hb dX10_power_4 rfl (lv_at hl 0 rfl) ?_
  refine lv_iload_n hx hb dX10_power_5 rfl (lv_at hl 3 rfl) ?_
  refine ct_ge (tgt := 19) (X := 0) (Y := 0) hx hb dX10_power_6 (by decide) rfl rfl (by omega) ?_
  refine lv_iload_n hx hb dX10_power_19 rfl (lv_at hl 1 rfl) ?_
  refine hret _ _ _ _ _ _ dX10_power_20 rfl ?_ hO
  exact ⟨rfl, rfl⟩
set_option maxHeartbeats 4000000 in
set_option maxRecDepth 100000 in
theorem T_X10_power_1_1 (l : Launch) (D : va_G) (cy : Nat → ClassId) (a : Nat → Nat) (u : St)    : Mi l D cy (cW cy a) yX10_power (.code yX10_power cX10_power 4 (some .int)) (rmo 0 0) [.int 1, .int 1] u (fun (r : Int32) (u' : St) => (r = 1) ∧ (u' = u)) := by
  refine Mi.of (own := RX10) rfl (by decide) (Nat.le_of_ble_eq_true rfl) ?_
  intro p e s m below meth c A Q ls C hret hO hl
  obtain ⟨hx, hb, hml, hown, ht, hK, hA⟩ := id C
  have hl : lv_has ls 4 [(0, .int 1), (1, .int 1)] := hl
  refine lv_iconst (v := 1) hx hb dX10_power_0 (by decide) ?_
  refine lv_istore_n (lv' := [(2, .int 1), (0, .int 1), (1, .int 1)]) hx hb dX10_power_1 rfl hl (by decide) rfl (fun ls hl => ?_)
  refine lv_iconst (v := 0) hx hb dX10_power_2 (by decide) ?_
  refine lv_istore_n (lv' := [(3, .int 0), (2, .int 1), (0, .int 1), (1, .int 1)]) hx hb dX10_power_3 rfl hl (by decide) rfl (fun ls hl => ?_)
  refine lv_iload_n hx hb dX10_power_4 rfl (lv_at hl 0 rfl) ?_
  refine lv_iload_n hx hb dX10_power_5 rfl (lv_at hl 3 rfl) ?_
  refine cn_ge (X := 0) (Y := 1) hx hb dX10_power_6 rfl rfl (by omega) ?_ (tgt := 19) (by decide)
  refine lv_iload_n hx hb dX10_power_9 rfl (lv_at hl 1 rfl) ?_
  refine lv_iload_n hx hb dX10_power_10 rfl (lv_at hl 2 rfl) ?_
  refine lv_imul hx hb dX10_power_11 ?_
  refine tE (y := 1) rfl ?_
  refine lv_istore_n (lv' := [(2, .int 1), (3, .int 0), (0, .int 1), (1, .int 1)]) hx hb dX10_power_12 rfl hl (by decide) rfl (fun ls hl => ?_)
  refine lv_iinc (v := 1) (lv' := [(3, .int 1), (2, .int 1), (0, .int 1), (1, .int 1)]) hx hb dX10_power_13 hl (k := 1) rfl rfl (by decide) rfl (fun ls hl => ?_)
  refine lv_goto (tgt := 4) hx hb dX10_power_16 (by decide) ?_
  refine lv_iload_n hx hb dX10_power_4 rfl (lv_at hl 0 rfl) ?_
  refine lv_iload_n hx hb dX10_power_5 rfl (lv_at hl 3 rfl) ?_
  refine ct_ge (tgt := 19) (X := 1) (Y := 1) hx hb dX10_power_6 (by decide) rfl rfl (by omega) ?_
  refine lv_iload_n hx hb dX10_power_19 rfl (lv_at hl 1 rfl) ?_
  refine hret _ _ _ _ _ _ dX10_power_20 rfl ?_ hO
  exact ⟨rfl, rfl⟩
set_option maxHeartbeats 4000000 in
set_option maxRecDepth 100000 in
theorem T_X10_power_1_2 (l : Launch) (D : va_G) (cy : Nat → ClassId) (a : Nat → Nat) (u : St)    : Mi l D cy (cW cy a) yX10_power (.code yX10_power cX10_power 4 (some .int)) (rmo 0 0) [.int 1, .int 2] u (fun (r : Int32) (u' : St) => (r = 1) ∧ (u' = u)) := by
  refine Mi.of (own := RX10) rfl (by decide) (Nat.le_of_ble_eq_true rfl) ?_
  intro p e s m below meth c A Q ls C hret hO hl
  obtain ⟨hx, hb, hml, hown, ht, hK, hA⟩ := id C
  have hl : lv_has ls 4 [(0, .int 1), (1, .int 2)] := hl
  refine lv_iconst (v := 1) hx hb dX10_power_0 (by decide) ?_
  refine lv_istore_n (lv' := [(2, .int 1), (0, .int 1), (1, .int 2)]) hx hb dX10_power_1 rfl hl (by decide) rfl (fun ls hl => ?_)
  refine lv_iconst (v := 0) hx hb dX10_power_2 (by decide) ?_
  refine lv_istore_n (lv' := [(3, .int 0), (2, .int 1), (0, .int 1), (1, .int 2)]) hx hb dX10_power_3 rfl hl (by decide) rfl (fun ls hl => ?_)
  refine lv_iload_n hx hb dX10_power_4 rfl (lv_at hl 0 rfl) ?_
  refine lv_iload_n hx hb dX10_power_5 rfl (lv_at hl 3 rfl) ?_
  refine cn_ge (X := 0) (Y := 2) hx hb dX10_power_6 rfl rfl (by omega) ?_ (tgt := 19) (by decide)
  refine lv_iload_n hx hb dX10_power_9 rfl (lv_at hl 1 rfl) ?_
  refine lv_iload_n hx hb dX10_power_10 rfl (lv_at hl 2 rfl) ?_
  refine lv_imul hx hb dX10_power_11 ?_
  refine tE (y := 1) rfl ?_
  refine lv_istore_n (lv' := [(2, .int 1), (3, .int 0), (0, .int 1), (1, .int 2)]) hx hb dX10_power_12 rfl hl (by decide) rfl (fun ls hl => ?_)
  refine lv_iinc (v := 1) (lv' := [(3, .int 1), (2, .int 1), (0, .int 1), (1, .int 2)]) hx hb dX10_power_13 hl (k := 1) rfl rfl (by decide) rfl (fun ls hl => ?_)
  refine lv_goto (tgt := 4) hx hb dX10_power_16 (by decide) ?_
  refine lv_iload_n hx hb dX10_power_4 rfl (lv_at hl 0 rfl) ?_
  refine lv_iload_n hx hb dX10_power_5 rfl (lv_at hl 3 rfl) ?_
  refine cn_ge (X := 1) (Y := 2) hx hb dX10_power_6 rfl rfl (by omega) ?_ (tgt := 19) (by decide)
  refine lv_iload_n hx hb dX10_power_9 rfl (lv_at hl 1 rfl) ?_
  refine lv_iload_n hx hb dX10_power_10 rfl (lv_at hl 2 rfl) ?_
  refine lv_imul hx hb dX10_power_11 ?_
  refine tE (y := 1) rfl ?_
  refine lv_istore_n (lv' := [(2, .int 1), (3, .int 1), (0, .int 1), (1, .int 2)]) hx hb dX10_power_12 rfl hl (by decide) rfl (fun ls hl => ?_)
  refine lv_iinc (v := 2) (lv' := [(3, .int 2), (2, .int 1), (0, .int 1), (1, .int 2)]) hx hb dX10_power_13 hl (k := 1) rfl rfl (by decide) rfl (fun ls hl => ?_)
  refine lv_goto (tgt := 4) hx hb dX10_power_16 (by decide) ?_
  refine lv_iload_n hx hb dX10_power_4 rfl (lv_at hl 0 rfl) ?_
  refine lv_iload_n hx hb dX10_power_5 rfl (lv_at hl 3 rfl) ?_
  refine ct_ge (tgt := 19) (X := 2) (Y := 2) hx hb dX10_power_6 (by decide) rfl rfl (by omega) ?_
  refine lv_iload_n hx hb dX10_power_19 rfl (lv_at hl 1 rfl) ?_
  refine hret _ _ _ _ _ _ dX10_power_20 rfl ?_ hO
  exact ⟨rfl, rfl⟩
set_option maxHeartbeats 4000000 in
set_option maxRecDepth 100000 in
theorem T_X10_power_1_3 (l : Launch) (D : va_G) (cy : Nat → ClassId) (a : Nat → Nat) (u : St)    : Mi l D cy (cW cy a) yX10_power (.code yX10_power cX10_power 4 (some .int)) (rmo 0 0) [.int 1, .int 3] u (fun (r : Int32) (u' : St) => (r = 1) ∧ (u' = u)) := by
  refine Mi.of (own := RX10) rfl (by decide) (Nat.le_of_ble_eq_true rfl) ?_
  intro p e s m below meth c A Q ls C hret hO hl
  obtain ⟨hx, hb, hml, hown, ht, hK, hA⟩ := id C
  have hl : lv_has ls 4 [(0, .int 1), (1, .int 3)] := hl
  refine lv_iconst (v := 1) hx hb dX10_power_0 (by decide) ?_
  refine lv_istore_n (lv' := [(2, .int 1), (0, .int 1), (1, .int 3)]) hx hb dX10_power_1 rfl hl (by decide) rfl (fun ls hl => ?_)
  refine lv_iconst (v := 0) hx hb dX10_power_2 (by decide) ?_
  refine lv_istore_n (lv' := [(3, .int 0), (2, .int 1), (0, .int 1), (1, .int 3)]) hx hb dX10_power_3 rfl hl (by decide) rfl (fun ls hl => ?_)
  refine lv_iload_n hx hb dX10_power_4 rfl (lv_at hl 0 rfl) ?_
  refine lv_iload_n hx hb dX10_power_5 rfl (lv_at hl 3 rfl) ?_
  refine cn_ge (X := 0) (Y := 3) hx hb dX10_power_6 rfl rfl (by omega) ?_ (tgt := 19) (by decide)
  refine lv_iload_n hx hb dX10_power_9 rfl (lv_at hl 1 rfl) ?_
  refine lv_iload_n hx hb dX10_power_10 rfl (lv_at hl 2 rfl) ?_
  refine lv_imul hx hb dX10_power_11 ?_
  refine tE (y := 1) rfl ?_
  refine lv_istore_n (lv' := [(2, .int 1), (3, .int 0), (0, .int 1), (1, .int 3)]) hx hb dX10_power_12 rfl hl (by decide) rfl (fun ls hl => ?_)
  refine lv_iinc (v := 1) (lv' := [(3, .int 1), (2, .int 1), (0, .int 1), (1, .int 3)]) hx hb dX10_power_13 hl (k := 1) rfl rfl (by decide) rfl (fun ls hl => ?_)
  refine lv_goto (tgt := 4) hx hb dX10_power_16 (by decide) ?_
  refine lv_iload_n hx hb dX10_power_4 rfl (lv_at hl 0 rfl) ?_
  refine lv_iload_n hx hb dX10_power_5 rfl (lv_at hl 3 rfl) ?_
  refine cn_ge (X := 1) (Y := 3) hx hb dX10_power_6 rfl rfl (by omega) ?_ (tgt := 19) (by decide)
  refine lv_iload_n hx hb dX10_power_9 rfl (lv_at hl 1 rfl) ?_
  refine lv_iload_n hx hb dX10_power_10 rfl (lv_at hl 2 rfl) ?_
  refine lv_imul hx hb dX10_power_11 ?_
  refine tE (y := 1) rfl ?_
  refine lv_istore_n (lv' := [(2, .int 1), (3, .int 1), (0, .int 1), (1, .int 3)]) hx hb dX10_power_12 rfl hl (by decide) rfl (fun ls hl => ?_)
  refine lv_iinc (v := 2) (lv' := [(3, .int 2), (2, .int 1), (0, .int 1), (1, .int 3)]) hx hb dX10_power_13 hl (k := 1) rfl rfl (by decide) rfl (fun ls hl => ?_)
  refine lv_goto (tgt := 4) hx hb dX10_power_16 (by decide) ?_
  refine lv_iload_n hx hb dX10_power_4 rfl (lv_at hl 0 rfl) ?_
  refine lv_iload_n hx hb dX10_power_5 rfl (lv_at hl 3 rfl) ?_
  refine cn_ge (X := 2) (Y := 3) hx hb dX10_power_6 rfl rfl (by omega) ?_ (tgt := 19) (by decide)
  refine lv_iload_n hx hb dX10_power_9 rfl (lv_at hl 1 rfl) ?_
  refine lv_iload_n hx hb dX10_power_10 rfl (lv_at hl 2 rfl) ?_
  refine lv_imul hx hb dX10_power_11 ?_
  refine tE (y := 1) rfl ?_
  refine lv_istore_n (lv' := [(2, .int 1), (3, .int 2), (0, .int 1), (1, .int 3)]) hx hb dX10_power_12 rfl hl (by decide) rfl (fun ls hl => ?_)
  refine lv_iinc (v := 3) (lv' := [(3, .int 3), (2, .int 1), (0, .int 1), (1, .int 3)]) hx hb dX10_power_13 hl (k := 1) rfl rfl (by decide) rfl (fun ls hl => ?_)
  refine lv_goto (tgt := 4) hx hb dX10_power_16 (by decide) ?_
  refine lv_iload_n hx hb dX10_power_4 rfl (lv_at hl 0 rfl) ?_
  refine lv_iload_n hx hb dX10_power_5 rfl (lv_at hl 3 rfl) ?_
  refine ct_ge (tgt := 19) (X := 3) (Y := 3) hx hb dX10_power_6 (by decide) rfl rfl (by omega) ?_
  refine lv_iload_n hx hb dX10_power_19 rfl (lv_at hl 1 rfl) ?_
  refine hret _ _ _ _ _ _ dX10_power_20 rfl ?_ hO
  exact ⟨rfl, rfl⟩
set_option maxHeartbeats 4000000 in
set_option maxRecDepth 100000 in
theorem T_X10_power_1_4 (l : Launch) (D : va_G) (cy : Nat → ClassId) (a : Nat → Nat) (u : St)    : Mi l D cy (cW cy a) yX10_power (.code yX10_power cX10_power 4 (some .int)) (rmo 0 0) [.int 1, .int 4] u (fun (r : Int32) (u' : St) => (r = 1) ∧ (u' = u)) := by
  refine Mi.of (own := RX10) rfl (by decide) (Nat.le_of_ble_eq_true rfl) ?_
  intro p e s m below meth c A Q ls C hret hO hl
  obtain ⟨hx, hb, hml, hown, ht, hK, hA⟩ := id C
  have hl : lv_has ls 4 [(0, .int 1), (1, .int 4)] := hl
  refine lv_iconst (v := 1) hx hb dX10_power_0 (by decide) ?_
  refine lv_istore_n (lv' := [(2, .int 1), (0, .int 1), (1, .int 4)]) hx hb dX10_power_1 rfl hl (by decide) rfl (fun ls hl => ?_)
  refine lv_iconst (v := 0) hx hb dX10_power_2 (by decide) ?_
  refine lv_istore_n (lv' := [(3, .int 0), (2, .int 1), (0, .int 1), (1, .int 4)]) hx hb dX10_power_3 rfl hl (by decide) rfl (fun ls hl => ?_)
  refine lv_iload_n hx hb dX10_power_4 rfl (lv_at hl 0 rfl) ?_
  refine lv_iload_n hx hb dX10_power_5 rfl (lv_at hl 3 rfl) ?_
  refine cn_ge (X := 0) (Y := 4) hx hb dX10_power_6 rfl rfl (by omega) ?_ (tgt := 19) (by decide)
  refine lv_iload_n hx hb dX10_power_9 rfl (lv_at hl 1 rfl) ?_
  refine lv_iload_n hx hb dX10_power_10 rfl (lv_at hl 2 rfl) ?_
  refine lv_imul hx hb dX10_power_11 ?_
  refine tE (y := 1) rfl ?_
  refine lv_istore_n (lv' := [(2, .int 1), (3, .int 0), (0, .int 1), (1, .int 4)]) hx hb dX10_power_12 rfl hl (by decide) rfl (fun ls hl => ?_)
  refine lv_iinc (v := 1) (lv' := [(3, .int 1), (2, .int 1), (0, .int 1), (1, .int 4)]) hx hb dX10_power_13 hl (k := 1) rfl rfl (by decide) rfl (fun ls hl => ?_)
  refine lv_goto (tgt := 4) hx hb dX10_power_16 (by decide) ?_
  refine lv_iload_n hx hb dX10_power_4 rfl (lv_at hl 0 rfl) ?_
  refine lv_iload_n hx hb dX10_power_5 rfl (lv_at hl 3 rfl) ?_
  refine cn_ge (X := 1) (Y := 4) hx hb dX10_power_6 rfl rfl (by omega) ?_ (tgt := 19) (by decide)
  refine lv_iload_n hx hb dX10_power_9 rfl (lv_at hl 1 rfl) ?_
  refine lv_iload_n hx hb dX10_power_10 rfl (lv_at hl 2 rfl) ?_
  refine lv_imul hx hb dX10_power_11 ?_
  refine tE (y := 1) rfl ?_
  refine lv_istore_n (lv' := [(2, .int 1), (3, .int 1), (0, .int 1), (1, .int 4)]) hx hb dX10_power_12 rfl hl (by decide) rfl (fun ls hl => ?_)
  refine lv_iinc (v := 2) (lv' := [(3, .int 2), (2, .int 1), (0, .int 1), (1, .int 4)]) hx hb dX10_power_13 hl (k := 1) rfl rfl (by decide) rfl (fun ls hl => ?_)
  refine lv_goto (tgt := 4) hx hb dX10_power_16 (by decide) ?_
  refine lv_iload_n hx hb dX10_power_4 rfl (lv_at hl 0 rfl) ?_
  refine lv_iload_n hx hb dX10_power_5 rfl (lv_at hl 3 rfl) ?_
  refine cn_ge (X := 2) (Y := 4) hx hb dX10_power_6 rfl rfl (by omega) ?_ (tgt := 19) (by decide)
  refine lv_iload_n hx hb dX10_power_9 rfl (lv_at hl 1 rfl) ?_
  refine lv_iload_n hx hb dX10_power_10 rfl (lv_at hl 2 rfl) ?_
  refine lv_imul hx hb dX10_power_11 ?_
  refine tE (y := 1) rfl ?_
  refine lv_istore_n (lv' := [(2, .int 1), (3, .int 2), (0, .int 1), (1, .int 4)]) hx hb dX10_power_12 rfl hl (by decide) rfl (fun ls hl => ?_)
  refine lv_iinc (v := 3) (lv' := [(3, .int 3), (2, .int 1), (0, .int 1), (1, .int 4)]) hx hb dX10_power_13 hl (k := 1) rfl rfl (by decide) rfl (fun ls hl => ?_)
  refine lv_goto (tgt := 4) hx hb dX10_power_16 (by decide) ?_
  refine lv_iload_n hx hb dX10_power_4 rfl (lv_at hl 0 rfl) ?_
  refine lv_iload_n hx hb dX10_power_5 rfl (lv_at hl 3 rfl) ?_
  refine cn_ge (X := 3) (Y := 4) hx hb dX10_power_6 rfl rfl (by omega) ?_ (tgt := 19) (by decide)
  refine lv_iload_n hx hb dX10_power_9 rfl (lv_at hl 1 rfl) ?_
  refine lv_iload_n hx hb dX10_power_10 rfl (lv_at hl 2 rfl) ?_
  refine lv_imul hx hb dX10_power_11 ?_
  refine tE (y := 1) rfl ?_
  refine lv_istore_n (lv' := [(2, .int 1), (3, .int 3), (0, .int 1), (1, .int 4)]) hx hb dX10_power_12 rfl hl (by decide) rfl (fun ls hl => ?_)
  refine lv_iinc (v := 4) (lv' := [(3, .int 4), (2, .int 1), (0, .int 1), (1, .int 4)]) hx hb dX10_power_13 hl (k := 1) rfl rfl (by decide) rfl (fun ls hl => ?_)
  refine lv_goto (tgt := 4) hx hb dX10_power_16 (by decide) ?_
  refine lv_iload_n hx hb dX10_power_4 rfl (lv_at hl 0 rfl) ?_
  refine lv_iload_n hx hb dX10_power_5 rfl (lv_at hl 3 rfl) ?_
  refine ct_ge (tgt := 19) (X := 4) (Y := 4) hx hb dX10_power_6 (by decide) rfl rfl (by omega) ?_
  refine lv_iload_n hx hb dX10_power_19 rfl (lv_at hl 1 rfl) ?_
  refine hret _ _ _ _ _ _ dX10_power_20 rfl ?_ hO
  exact ⟨rfl, rfl⟩
theorem dX10_odds_0 : decode cX10_odds 0 = .ok (.iload_n 1, 1) := by decide +kernel
theorem dX10_odds_1 : decode cX10_odds 1 = .ok (.ifCond .lt 17, 3) := by decide +kernel
theorem dX10_odds_4 : decode cX10_odds 4 = .ok (.iload_n 1, 1) := by decide +kernel
theorem dX10_odds_5 : decode cX10_odds 5 = .ok (.iconst 4, 1) := by decide +kernel
theorem dX10_odds_6 : decode cX10_odds 6 = .ok (.if_icmp .gt 12, 3) := by decide +kernel
theorem dX10_odds_9 : decode cX10_odds 9 = .ok (.iload_n 2, 1) := by decide +kernel
theorem dX10_odds_10 : decode cX10_odds 10 = .ok (.ifCond .lt 8, 3) := by decide +kernel
theorem dX10_odds_13 : decode cX10_odds 13 = .ok (.iload_n 2, 1) := by decide +kernel
theorem dX10_odds_14 : decode cX10_odds 14 = .ok (.iconst 1, 1) := by decide +kernel
theorem dX10_odds_15 : decode cX10_odds 15 = .ok (.if_icmp .le 5, 3) := by decide +kernel
theorem dX10_odds_18 : decode cX10_odds 18 = .ok (.iconst (-1), 1) := by decide +kernel
theorem dX10_odds_19 : decode cX10_odds 19 = .ok (.ireturn, 1) := by decide +kernel
theorem dX10_odds_20 : decode cX10_odds 20 = .ok (.bipush 100, 2) := by decide +kernel
theorem dX10_odds_22 : decode cX10_odds 22 = .ok (.aload_n 0, 1) := by decide +kernel
theorem dX10_odds_23 : decode cX10_odds 23 = .ok (.getfield 37, 3) := by decide +kernel
theorem dX10_odds_26 : decode cX10_odds 26 = .ok (.getfield 101, 3) := by decide +kernel
theorem dX10_odds_29 : decode cX10_odds 29 = .ok (.getfield 294, 3) := by decide +kernel
theorem dX10_odds_32 : decode cX10_odds 32 = .ok (.isub, 1) := by decide +kernel
theorem dX10_odds_33 : decode cX10_odds 33 = .ok (.istore_n 3, 1) := by decide +kernel
theorem dX10_odds_34 : decode cX10_odds 34 = .ok (.bipush 100, 2) := by decide +kernel
theorem dX10_odds_36 : decode cX10_odds 36 = .ok (.iload_n 3, 1) := by decide +kernel
theorem dX10_odds_37 : decode cX10_odds 37 = .ok (.invokestatic 297, 3) := by decide +kernel
theorem dX10_odds_40 : decode cX10_odds 40 = .ok (.istore 4, 2) := by decide +kernel
theorem dX10_odds_42 : decode cX10_odds 42 = .ok (.iload_n 2, 1) := by decide +kernel
theorem dX10_odds_43 : decode cX10_odds 43 = .ok (.ifCond .ne 7, 3) := by decide +kernel
theorem dX10_odds_46 : decode cX10_odds 46 = .ok (.iload_n 3, 1) := by decide +kernel
theorem dX10_odds_47 : decode cX10_odds 47 = .ok (.goto 5, 3) := by decide +kernel
theorem dX10_odds_50 : decode cX10_odds 50 = .ok (.bipush 100, 2) := by decide +kernel
theorem dX10_odds_52 : decode cX10_odds 52 = .ok (.iload 4, 2) := by decide +kernel
theorem dX10_odds_54 : decode cX10_odds 54 = .ok (.iconst 1, 1) := by decide +kernel
theorem dX10_odds_55 : decode cX10_odds 55 = .ok (.invokestatic 300, 3) := by decide +kernel
theorem dX10_odds_58 : decode cX10_odds 58 = .ok (.idiv, 1) := by decide +kernel
theorem dX10_odds_59 : decode cX10_odds 59 = .ok (.iload_n 1, 1) := by decide +kernel
theorem dX10_odds_60 : decode cX10_odds 60 = .ok (.invokestatic 305, 3) := by decide +kernel
theorem dX10_odds_63 : decode cX10_odds 63 = .ok (.ireturn, 1) := by decide +kernel
theorem wd_1226 : (Cond.code ⟨"WebCourt", "odds", "(II)I"⟩ prog_1_method_40_code (5 : Nat) (Option.some FieldType.int)) ∈ gtb := gtb_c5 157 (by decide +kernel) rfl
theorem wd_283 : (Cond.fieldLink "WebCourt" (294 : Nat) "WebCourt$Web" "back" "I") ∈ gtb := gtb_c1 174 (by decide +kernel) rfl
theorem gf_RX10_294 {p : Program} {l : Launch} {e : Env} {R : Room} {s : State} {m : MethodId} {args : Array Value} {below : List Frame} {meth : Method} {c : Code} {H : Heap} {locs : List Loc} {cells slots : Nat} {Q : State → Prop} {cc : ByteArray} {pc nL : Nat} {ls : Array Slot} {rest : List Value} {D : va_G} {cy : Nat → ClassId} {A : Nat → Prop} {ws : va_W} {b : Nat} {fs : List Value} {v : Value} (C : Cx p s m args c cc nL RX10 D cy A) (hO : Wo D A ws s.heap H locs) (q0 : Nat) (he : ws[q0]? = some (b, .inr (9, fs))) (hv : fs[15]? = some v) (hdg : decode cc pc = .ok (.getfield 294, 3)) (kk : W p l e R s m args below meth c H locs cells slots Q (F0 m (pc + 3) ls (v :: rest))) : W p l e R s m args below meth c H locs cells slots Q (F0 m pc ls (.ref b :: rest)) := gF (k := 15) C hO q0 he rfl inFX9 (by decide) wd_283 rfl hv hdg kk
theorem wd_1227 : (Cond.methodLink "WebCourt" (297 : Nat) ⟨"WebCourt", "commonDivisor", "(II)I"⟩) ∈ gtb := gtb_c5 158 (by decide +kernel) rfl
theorem wd_1228 : (Cond.static ⟨"WebCourt", "commonDivisor", "(II)I"⟩) ∈ gtb := gtb_c5 159 (by decide +kernel) rfl
theorem hd_yX10_commonDivisor : yX10_commonDivisor.cls ≠ "java/lang/invoke/MethodHandle" ∧ yX10_commonDivisor.cls ≠ "java/lang/invoke/VarHandle" ∧ (parseMethodDescriptor yX10_commonDivisor.desc).map (fun d => d.parameters.length) = some 2 := by decide +kernel
theorem wd_1230 : (Cond.methodLink "WebCourt" (300 : Nat) ⟨"java/lang/Math", "max", "(II)I"⟩) ∈ gtb := gtb_c5 161 (by decide +kernel) rfl
theorem wd_636 : (Cond.static ⟨"java/lang/Math", "max", "(II)I"⟩) ∈ gtb := gtb_c3 47 (by decide +kernel) rfl
theorem wd_126 : (Cond.initialized "java/lang/Math") ∈ gtb := gtb_c1 17 (by decide +kernel) rfl
theorem wd_637 : (Cond.code ⟨"java/lang/Math", "max", "(II)I"⟩ prog_16_method_65_code (2 : Nat) (Option.some FieldType.int)) ∈ gtb := gtb_c3 48 (by decide +kernel) rfl
theorem wd_1231 : (Cond.methodLink "WebCourt" (305 : Nat) ⟨"WebCourt", "power", "(II)I"⟩) ∈ gtb := gtb_c5 162 (by decide +kernel) rfl
theorem wd_1232 : (Cond.static ⟨"WebCourt", "power", "(II)I"⟩) ∈ gtb := gtb_c5 163 (by decide +kernel) rfl
theorem hd_yX10_power : yX10_power.cls ≠ "java/lang/invoke/MethodHandle" ∧ yX10_power.cls ≠ "java/lang/invoke/VarHandle" ∧ (parseMethodDescriptor yX10_power.desc).map (fun d => d.parameters.length) = some 2 := by decide +kernel
set_option maxHeartbeats 4000000 in
set_option maxRecDepth 100000 in
theorem T_X10_odds (l : Launch) (D : va_G) (cy : Nat → ClassId) (a : Nat → Nat) (u : St) (hI_3_15 : fI u 3 15 = 0) (hR_0 : fR u 0 = a 3) (x1 : Int32) (x2 : Int32)  : Mi l D cy (cW cy a) yX10_odds (.code yX10_odds cX10_odds 5 (some .int)) (rmo 1 25) [.ref (a 0), .int x1, .int x2] u (fun (r : Int32) (u' : St) => (r = q_odds x1 x2) ∧ (u' = u)) := by
  refine Mi.of (own := RX10) rfl (by decide) (Nat.le_of_ble_eq_true rfl) ?_
  intro p e s m below meth c A Q ls C hret hO hl
  obtain ⟨hx, hb, hml, hown, ht, hK, hA⟩ := id C
  have hl : lv_has ls 5 [(0, .ref (a 0)), (1, .int x1), (2, .int x2)] := hl
  refine lv_iload_n hx hb dX10_odds_0 rfl (lv_at hl 1 rfl) ?_
  refine bs_lt (tgt := 18) (X := (x1).toInt) hx hb dX10_odds_1 (by decide) rfl (fun c1 => ?_) (fun c1 => ?_)
  · refine lv_iconst (v := (-1)) hx hb dX10_odds_18 (by decide) ?_
    refine hret _ _ _ _ _ _ dX10_odds_19 rfl ?_ hO
    exact ⟨(by unfold q_odds; have z0 : (0 : Int32).toInt = 0 := rfl; have z1 : (-1 : Int32).toInt = -1 := rfl; split <;> first | rfl | (exact i32_eq.mpr (by omega)) | (exfalso; omega)), rfl⟩
  · refine lv_iload_n hx hb dX10_odds_4 rfl (lv_at hl 1 rfl) ?_
    refine lv_iconst (v := 4) hx hb dX10_odds_5 (by decide) ?_
    refine cs_gt (tgt := 18) (X := (x1).toInt) (Y := 4) hx hb dX10_odds_6 (by decide) rfl rfl (fun c2 => ?_) (fun c2 => ?_)
    · refine lv_iconst (v := (-1)) hx hb dX10_odds_18 (by decide) ?_
      refine hret _ _ _ _ _ _ dX10_odds_19 rfl ?_ hO
      exact ⟨(by unfold q_odds; have z0 : (0 : Int32).toInt = 0 := rfl; have z1 : (-1 : Int32).toInt = -1 := rfl; split <;> first | rfl | (exact i32_eq.mpr (by omega)) | (exfalso; omega)), rfl⟩
    · refine lv_iload_n hx hb dX10_odds_9 rfl (lv_at hl 2 rfl) ?_
      refine bs_lt (tgt := 18) (X := (x2).toInt) hx hb dX10_odds_10 (by decide) rfl (fun c3 => ?_) (fun c3 => ?_)
      · refine lv_iconst (v := (-1)) hx hb dX10_odds_18 (by decide) ?_
        refine hret _ _ _ _ _ _ dX10_odds_19 rfl ?_ hO
        exact ⟨(by unfold q_odds; have z0 : (0 : Int32).toInt = 0 := rfl; have z1 : (-1 : Int32).toInt = -1 := rfl; split <;> first | rfl | (exact i32_eq.mpr (by omega)) | (exfalso; omega)), rfl⟩
      · refine lv_iload_n hx hb dX10_odds_13 rfl (lv_at hl 2 rfl) ?_
        refine lv_iconst (v := 1) hx hb dX10_odds_14 (by decide) ?_
        refine cs_le (tgt := 20) (X := (x2).toInt) (Y := 1) hx hb dX10_odds_15 (by decide) rfl rfl (fun c4 => ?_) (fun c4 => ?_)
        · have c5 : (x1).toInt = 0 ∨ (x1).toInt = 1 ∨ (x1).toInt = 2 ∨ (x1).toInt = 3 ∨ (x1).toInt = 4 := by omega
          rcases c5 with c5 | c5 | c5 | c5 | c5
          · have ec5 : x1 = 0 := i32_eq.mpr (by rw [c5]; rfl)
            subst ec5
            refine lv_bipush (v := 100) hx hb dX10_odds_20 (by decide) ?_
            refine lv_aload_n hx hb dX10_odds_22 rfl (lv_at hl 0 rfl) ?_
            refine gf_RX10_37 (v := .ref (a 28)) C hO 0 cW_0 rfl dX10_odds_23 ?_
            refine gf_RX10_101 (v := .ref (a 3)) C hO 28 cW_28 (congrArg (fun z : Nat => some (Value.ref z)) hR_0) dX10_odds_26 ?_
            refine gf_RX10_294 (v := .int 0) C hO 3 cW_3 (congrArg (fun z : Int32 => some (Value.int z)) hI_3_15) dX10_odds_29 ?_
            refine lv_isub hx hb dX10_odds_32 ?_
            refine tE (y := 100) rfl ?_
            refine lv_istore_n (lv' := [(3, .int 100), (0, .ref (a 0)), (1, .int 0), (2, .int x2)]) hx hb dX10_odds_33 rfl hl (by decide) rfl (fun ls hl => ?_)
            refine lv_bipush (v := 100) hx hb dX10_odds_34 (by decide) ?_
            refine lv_iload_n hx hb dX10_odds_36 rfl (lv_at hl 0 rfl) ?_
            refine cSi (w := cW cy a) (As := [.int 100, .int 100]) (rest := []) C hO (T_X10_commonDivisor_100 l D cy a _ ) (va_cwS 2 ht (gSS wd_1227 wd_1228 wd_110 wd_1229) rfl rfl rfl hd_yX10_commonDivisor ⟨Nat.le_of_ble_eq_true rfl, Nat.le_of_ble_eq_true rfl⟩)  rfl hl.1 (Nat.le_of_ble_eq_true rfl) dX10_odds_37 rfl ⟨Nat.zero_le _, Nat.zero_le _⟩ (fun r6 u7 H locs hp8 hO => ?_)
            obtain ⟨hr6, hu7⟩ := hp8
            subst hr6
            rw [hu7] at hO
            refine lv_istore (lv' := [(4, .int 100), (3, .int 100), (0, .ref (a 0)), (1, .int 0), (2, .int x2)]) hx hb dX10_odds_40 hl (by decide) rfl (fun ls hl => ?_)
            refine lv_iload_n hx hb dX10_odds_42 rfl (lv_at hl 4 rfl) ?_
            refine bs_ne (tgt := 50) (X := (x2).toInt) hx hb dX10_odds_43 (by decide) rfl (fun c9 => ?_) (fun c9 => ?_)
            · refine lv_bipush (v := 100) hx hb dX10_odds_50 (by decide) ?_
              refine lv_iload hx hb dX10_odds_52 (lv_at hl 0 rfl) ?_
              refine lv_iconst (v := 1) hx hb dX10_odds_54 (by decide) ?_
              refine va_mmax hx hb (by rw [hml]; exact hl.1.symm) hown (ht _ wd_1230) (ht _ wd_636) (ht _ wd_126) (ht _ wd_637) (Nat.le_of_ble_eq_true rfl) (Nat.le_of_ble_eq_true rfl) (Nat.zero_le _) (Nat.zero_le _) dX10_odds_55 ?_
              refine tE (y := 100) (by decide) ?_
              refine lv_idiv hx hb dX10_odds_58 (i_ne0 (X := 100) rfl (by omega)) ?_
              refine tE (y := 1) (by decide) ?_
              refine lv_iload_n hx hb dX10_odds_59 rfl (lv_at hl 3 rfl) ?_
              refine cSi (w := cW cy a) (As := [.int 1, .int 0]) (rest := []) C hO (T_X10_power_1_0 l D cy a _ ) (va_cwS 2 ht (gSS wd_1231 wd_1232 wd_110 wd_1233) rfl rfl rfl hd_yX10_power ⟨Nat.le_of_ble_eq_true rfl, Nat.le_of_ble_eq_true rfl⟩)  rfl hl.1 (Nat.le_of_ble_eq_true rfl) dX10_odds_60 rfl ⟨Nat.zero_le _, Nat.zero_le _⟩ (fun r10 u11 H locs hp12 hO => ?_)
              obtain ⟨hr10, hu11⟩ := hp12
              subst hr10
              rw [hu11] at hO
              refine hret _ _ _ _ _ _ dX10_odds_63 rfl ?_ hO
              exact ⟨(by unfold q_odds; have z0 : (0 : Int32).toInt = 0 := rfl; have z1 : (-1 : Int32).toInt = -1 := rfl; split <;> first | rfl | (exact i32_eq.mpr (by omega)) | (exfalso; omega)), rfl⟩
            · refine lv_iload_n hx hb dX10_odds_46 rfl (lv_at hl 1 rfl) ?_
              refine lv_goto (tgt := 52) hx hb dX10_odds_47 (by decide) ?_
              refine lv_iload hx hb dX10_odds_52 (lv_at hl 0 rfl) ?_
              refine lv_iconst (v := 1) hx hb dX10_odds_54 (by decide) ?_
              refine va_mmax hx hb (by rw [hml]; exact hl.1.symm) hown (ht _ wd_1230) (ht _ wd_636) (ht _ wd_126) (ht _ wd_637) (Nat.le_of_ble_eq_true rfl) (Nat.le_of_ble_eq_true rfl) (Nat.zero_le _) (Nat.zero_le _) dX10_odds_55 ?_
              refine tE (y := 100) (by decide) ?_
              refine lv_idiv hx hb dX10_odds_58 (i_ne0 (X := 100) rfl (by omega)) ?_
              refine tE (y := 1) (by decide) ?_
              refine lv_iload_n hx hb dX10_odds_59 rfl (lv_at hl 3 rfl) ?_
              refine cSi (w := cW cy a) (As := [.int 1, .int 0]) (rest := []) C hO (T_X10_power_1_0 l D cy a _ ) (va_cwS 2 ht (gSS wd_1231 wd_1232 wd_110 wd_1233) rfl rfl rfl hd_yX10_power ⟨Nat.le_of_ble_eq_true rfl, Nat.le_of_ble_eq_true rfl⟩)  rfl hl.1 (Nat.le_of_ble_eq_true rfl) dX10_odds_60 rfl ⟨Nat.zero_le _, Nat.zero_le _⟩ (fun r13 u14 H locs hp15 hO => ?_)
              obtain ⟨hr13, hu14⟩ := hp15
              subst hr13
              rw [hu14] at hO
              refine hret _ _ _ _ _ _ dX10_odds_63 rfl ?_ hO
              exact ⟨(by unfold q_odds; have z0 : (0 : Int32).toInt = 0 := rfl; have z1 : (-1 : Int32).toInt = -1 := rfl; split <;> first | rfl | (exact i32_eq.mpr (by omega)) | (exfalso; omega)), rfl⟩
          · have ec5 : x1 = 1 := i32_eq.mpr (by rw [c5]; rfl)
            subst ec5
            refine lv_bipush (v := 100) hx hb dX10_odds_20 (by decide) ?_
            refine lv_aload_n hx hb dX10_odds_22 rfl (lv_at hl 0 rfl) ?_
            refine gf_RX10_37 (v := .ref (a 28)) C hO 0 cW_0 rfl dX10_odds_23 ?_
            refine gf_RX10_101 (v := .ref (a 3)) C hO 28 cW_28 (congrArg (fun z : Nat => some (Value.ref z)) hR_0) dX10_odds_26 ?_
            refine gf_RX10_294 (v := .int 0) C hO 3 cW_3 (congrArg (fun z : Int32 => some (Value.int z)) hI_3_15) dX10_odds_29 ?_
            refine lv_isub hx hb dX10_odds_32 ?_
            refine tE (y := 100) rfl ?_
            refine lv_istore_n (lv' := [(3, .int 100), (0, .ref (a 0)), (1, .int 1), (2, .int x2)]) hx hb dX10_odds_33 rfl hl (by decide) rfl (fun ls hl => ?_)
            refine lv_bipush (v := 100) hx hb dX10_odds_34 (by decide) ?_
            refine lv_iload_n hx hb dX10_odds_36 rfl (lv_at hl 0 rfl) ?_
            refine cSi (w := cW cy a) (As := [.int 100, .int 100]) (rest := []) C hO (T_X10_commonDivisor_100 l D cy a _ ) (va_cwS 2 ht (gSS wd_1227 wd_1228 wd_110 wd_1229) rfl rfl rfl hd_yX10_commonDivisor ⟨Nat.le_of_ble_eq_true rfl, Nat.le_of_ble_eq_true rfl⟩)  rfl hl.1 (Nat.le_of_ble_eq_true rfl) dX10_odds_37 rfl ⟨Nat.zero_le _, Nat.zero_le _⟩ (fun r16 u17 H locs hp18 hO => ?_)
            obtain ⟨hr16, hu17⟩ := hp18
            subst hr16
            rw [hu17] at hO
            refine lv_istore (lv' := [(4, .int 100), (3, .int 100), (0, .ref (a 0)), (1, .int 1), (2, .int x2)]) hx hb dX10_odds_40 hl (by decide) rfl (fun ls hl => ?_)
            refine lv_iload_n hx hb dX10_odds_42 rfl (lv_at hl 4 rfl) ?_
            refine bs_ne (tgt := 50) (X := (x2).toInt) hx hb dX10_odds_43 (by decide) rfl (fun c19 => ?_) (fun c19 => ?_)
            · refine lv_bipush (v := 100) hx hb dX10_odds_50 (by decide) ?_
              refine lv_iload hx hb dX10_odds_52 (lv_at hl 0 rfl) ?_
              refine lv_iconst (v := 1) hx hb dX10_odds_54 (by decide) ?_
              refine va_mmax hx hb (by rw [hml]; exact hl.1.symm) hown (ht _ wd_1230) (ht _ wd_636) (ht _ wd_126) (ht _ wd_637) (Nat.le_of_ble_eq_true rfl) (Nat.le_of_ble_eq_true rfl) (Nat.zero_le _) (Nat.zero_le _) dX10_odds_55 ?_
              refine tE (y := 100) (by decide) ?_
              refine lv_idiv hx hb dX10_odds_58 (i_ne0 (X := 100) rfl (by omega)) ?_
              refine tE (y := 1) (by decide) ?_
              refine lv_iload_n hx hb dX10_odds_59 rfl (lv_at hl 3 rfl) ?_
              refine cSi (w := cW cy a) (As := [.int 1, .int 1]) (rest := []) C hO (T_X10_power_1_1 l D cy a _ ) (va_cwS 2 ht (gSS wd_1231 wd_1232 wd_110 wd_1233) rfl rfl rfl hd_yX10_power ⟨Nat.le_of_ble_eq_true rfl, Nat.le_of_ble_eq_true rfl⟩)  rfl hl.1 (Nat.le_of_ble_eq_true rfl) dX10_odds_60 rfl ⟨Nat.zero_le _, Nat.zero_le _⟩ (fun r20 u21 H locs hp22 hO => ?_)
              obtain ⟨hr20, hu21⟩ := hp22
              subst hr20
              rw [hu21] at hO
              refine hret _ _ _ _ _ _ dX10_odds_63 rfl ?_ hO
              exact ⟨(by unfold q_odds; have z0 : (0 : Int32).toInt = 0 := rfl; have z1 : (-1 : Int32).toInt = -1 := rfl; split <;> first | rfl | (exact i32_eq.mpr (by omega)) | (exfalso; omega)), rfl⟩
            · refine lv_iload_n hx hb dX10_odds_46 rfl (lv_at hl 1 rfl) ?_
              refine lv_goto (tgt := 52) hx hb dX10_odds_47 (by decide) ?_
              refine lv_iload hx hb dX10_odds_52 (lv_at hl 0 rfl) ?_
              refine lv_iconst (v := 1) hx hb dX10_odds_54 (by decide) ?_
              refine va_mmax hx hb (by rw [hml]; exact hl.1.symm) hown (ht _ wd_1230) (ht _ wd_636) (ht _ wd_126) (ht _ wd_637) (Nat.le_of_ble_eq_true rfl) (Nat.le_of_ble_eq_true rfl) (Nat.zero_le _) (Nat.zero_le _) dX10_odds_55 ?_
              refine tE (y := 100) (by decide) ?_
              refine lv_idiv hx hb dX10_odds_58 (i_ne0 (X := 100) rfl (by omega)) ?_
              refine tE (y := 1) (by decide) ?_
              refine lv_iload_n hx hb dX10_odds_59 rfl (lv_at hl 3 rfl) ?_
              refine cSi (w := cW cy a) (As := [.int 1, .int 1]) (rest := []) C hO (T_X10_power_1_1 l D cy a _ ) (va_cwS 2 ht (gSS wd_1231 wd_1232 wd_110 wd_1233) rfl rfl rfl hd_yX10_power ⟨Nat.le_of_ble_eq_true rfl, Nat.le_of_ble_eq_true rfl⟩)  rfl hl.1 (Nat.le_of_ble_eq_true rfl) dX10_odds_60 rfl ⟨Nat.zero_le _, Nat.zero_le _⟩ (fun r23 u24 H locs hp25 hO => ?_)
              obtain ⟨hr23, hu24⟩ := hp25
              subst hr23
              rw [hu24] at hO
              refine hret _ _ _ _ _ _ dX10_odds_63 rfl ?_ hO
              exact ⟨(by unfold q_odds; have z0 : (0 : Int32).toInt = 0 := rfl; have z1 : (-1 : Int32).toInt = -1 := rfl; split <;> first | rfl | (exact i32_eq.mpr (by omega)) | (exfalso; omega)), rfl⟩
          · have ec5 : x1 = 2 := i32_eq.mpr (by rw [c5]; rfl)
            subst ec5
            refine lv_bipush (v := 100) hx hb dX10_odds_20 (by decide) ?_
            refine lv_aload_n hx hb dX10_odds_22 rfl (lv_at hl 0 rfl) ?_
            refine gf_RX10_37 (v := .ref (a 28)) C hO 0 cW_0 rfl dX10_odds_23 ?_
            refine gf_RX10_101 (v := .ref (a 3)) C hO 28 cW_28 (congrArg (fun z : Nat => some (Value.ref z)) hR_0) dX10_odds_26 ?_
            refine gf_RX10_294 (v := .int 0) C hO 3 cW_3 (congrArg (fun z : Int32 => some (Value.int z)) hI_3_15) dX10_odds_29 ?_
            refine lv_isub hx hb dX10_odds_32 ?_
            refine tE (y := 100) rfl ?_
            refine lv_istore_n (lv' := [(3, .int 100), (0, .ref (a 0)), (1, .int 2), (2, .int x2)]) hx hb dX10_odds_33 rfl hl (by decide) rfl (fun ls hl => ?_)
            refine lv_bipush (v := 100) hx hb dX10_odds_34 (by decide) ?_
            refine lv_iload_n hx hb dX10_odds_36 rfl (lv_at hl 0 rfl) ?_
            refine cSi (w := cW cy a) (As := [.int 100, .int 100]) (rest := []) C hO (T_X10_commonDivisor_100 l D cy a _ ) (va_cwS 2 ht (gSS wd_1227 wd_1228 wd_110 wd_1229) rfl rfl rfl hd_yX10_commonDivisor ⟨Nat.le_of_ble_eq_true rfl, Nat.le_of_ble_eq_true rfl⟩)  rfl hl.1 (Nat.le_of_ble_eq_true rfl) dX10_odds_37 rfl ⟨Nat.zero_le _, Nat.zero_le _⟩ (fun r26 u27 H locs hp28 hO => ?_)
            obtain ⟨hr26, hu27⟩ := hp28
            subst hr26
            rw [hu27] at hO
            refine lv_istore (lv' := [(4, .int 100), (3, .int 100), (0, .ref (a 0)), (1, .int 2), (2, .int x2)]) hx hb dX10_odds_40 hl (by decide) rfl (fun ls hl => ?_)
            refine lv_iload_n hx hb dX10_odds_42 rfl (lv_at hl 4 rfl) ?_
            refine bs_ne (tgt := 50) (X := (x2).toInt) hx hb dX10_odds_43 (by decide) rfl (fun c29 => ?_) (fun c29 => ?_)
            · refine lv_bipush (v := 100) hx hb dX10_odds_50 (by decide) ?_
              refine lv_iload hx hb dX10_odds_52 (lv_at hl 0 rfl) ?_
              refine lv_iconst (v := 1) hx hb dX10_odds_54 (by decide) ?_
              refine va_mmax hx hb (by rw [hml]; exact hl.1.symm) hown (ht _ wd_1230) (ht _ wd_636) (ht _ wd_126) (ht _ wd_637) (Nat.le_of_ble_eq_true rfl) (Nat.le_of_ble_eq_true rfl) (Nat.zero_le _) (Nat.zero_le _) dX10_odds_55 ?_
              refine tE (y := 100) (by decide) ?_
              refine lv_idiv hx hb dX10_odds_58 (i_ne0 (X := 100) rfl (by omega)) ?_
              refine tE (y := 1) (by decide) ?_
              refine lv_iload_n hx hb dX10_odds_59 rfl (lv_at hl 3 rfl) ?_
              refine cSi (w := cW cy a) (As := [.int 1, .int 2]) (rest := []) C hO (T_X10_power_1_2 l D cy a _ ) (va_cwS 2 ht (gSS wd_1231 wd_1232 wd_110 wd_1233) rfl rfl rfl hd_yX10_power ⟨Nat.le_of_ble_eq_true rfl, Nat.le_of_ble_eq_true rfl⟩)  rfl hl.1 (Nat.le_of_ble_eq_true rfl) dX10_odds_60 rfl ⟨Nat.zero_le _, Nat.zero_le _⟩ (fun r30 u31 H locs hp32 hO => ?_)
              obtain ⟨hr30, hu31⟩ := hp32
              subst hr30
              rw [hu31] at hO
              refine hret _ _ _ _ _ _ dX10_odds_63 rfl ?_ hO
              exact ⟨(by unfold q_odds; have z0 : (0 : Int32).toInt = 0 := rfl; have z1 : (-1 : Int32).toInt = -1 := rfl; split <;> first | rfl | (exact i32_eq.mpr (by omega)) | (exfalso; omega)), rfl⟩
            · refine lv_iload_n hx hb dX10_odds_46 rfl (lv_at hl 1 rfl) ?_
              refine lv_goto (tgt := 52) hx hb dX10_odds_47 (by decide) ?_
              refine lv_iload hx hb dX10_odds_52 (lv_at hl 0 rfl) ?_
              refine lv_iconst (v := 1) hx hb dX10_odds_54 (by decide) ?_
              refine va_mmax hx hb (by rw [hml]; exact hl.1.symm) hown (ht _ wd_1230) (ht _ wd_636) (ht _ wd_126) (ht _ wd_637) (Nat.le_of_ble_eq_true rfl) (Nat.le_of_ble_eq_true rfl) (Nat.zero_le _) (Nat.zero_le _) dX10_odds_55 ?_
              refine tE (y := 100) (by decide) ?_
              refine lv_idiv hx hb dX10_odds_58 (i_ne0 (X := 100) rfl (by omega)) ?_
              refine tE (y := 1) (by decide) ?_
              refine lv_iload_n hx hb dX10_odds_59 rfl (lv_at hl 3 rfl) ?_
              refine cSi (w := cW cy a) (As := [.int 1, .int 2]) (rest := []) C hO (T_X10_power_1_2 l D cy a _ ) (va_cwS 2 ht (gSS wd_1231 wd_1232 wd_110 wd_1233) rfl rfl rfl hd_yX10_power ⟨Nat.le_of_ble_eq_true rfl, Nat.le_of_ble_eq_true rfl⟩)  rfl hl.1 (Nat.le_of_ble_eq_true rfl) dX10_odds_60 rfl ⟨Nat.zero_le _, Nat.zero_le _⟩ (fun r33 u34 H locs hp35 hO => ?_)
              obtain ⟨hr33, hu34⟩ := hp35
              subst hr33
              rw [hu34] at hO
              refine hret _ _ _ _ _ _ dX10_odds_63 rfl ?_ hO
              exact ⟨(by unfold q_odds; have z0 : (0 : Int32).toInt = 0 := rfl; have z1 : (-1 : Int32).toInt = -1 := rfl; split <;> first | rfl | (exact i32_eq.mpr (by omega)) | (exfalso; omega)), rfl⟩
          · have ec5 : x1 = 3 := i32_eq.mpr (by rw [c5]; rfl)
            subst ec5
            refine lv_bipush (v := 100) hx hb dX10_odds_20 (by decide) ?_
            refine lv_aload_n hx hb dX10_odds_22 rfl (lv_at hl 0 rfl) ?_
            refine gf_RX10_37 (v := .ref (a 28)) C hO 0 cW_0 rfl dX10_odds_23 ?_
            refine gf_RX10_101 (v := .ref (a 3)) C hO 28 cW_28 (congrArg (fun z : Nat => some (Value.ref z)) hR_0) dX10_odds_26 ?_
            refine gf_RX10_294 (v := .int 0) C hO 3 cW_3 (congrArg (fun z : Int32 => some (Value.int z)) hI_3_15) dX10_odds_29 ?_
            refine lv_isub hx hb dX10_odds_32 ?_
            refine tE (y := 100) rfl ?_
            refine lv_istore_n (lv' := [(3, .int 100), (0, .ref (a 0)), (1, .int 3), (2, .int x2)]) hx hb dX10_odds_33 rfl hl (by decide) rfl (fun ls hl => ?_)
            refine lv_bipush (v := 100) hx hb dX10_odds_34 (by decide) ?_
            refine lv_iload_n hx hb dX10_odds_36 rfl (lv_at hl 0 rfl) ?_
            refine cSi (w := cW cy a) (As := [.int 100, .int 100]) (rest := []) C hO (T_X10_commonDivisor_100 l D cy a _ ) (va_cwS 2 ht (gSS wd_1227 wd_1228 wd_110 wd_1229) rfl rfl rfl hd_yX10_commonDivisor ⟨Nat.le_of_ble_eq_true rfl, Nat.le_of_ble_eq_true rfl⟩)  rfl hl.1 (Nat.le_of_ble_eq_true rfl) dX10_odds_37 rfl ⟨Nat.zero_le _, Nat.zero_le _⟩ (fun r36 u37 H locs hp38 hO => ?_)
            obtain ⟨hr36, hu37⟩ := hp38
            subst hr36
            rw [hu37] at hO
            refine lv_istore (lv' := [(4, .int 100), (3, .int 100), (0, .ref (a 0)), (1, .int 3), (2, .int x2)]) hx hb dX10_odds_40 hl (by decide) rfl (fun ls hl => ?_)
            refine lv_iload_n hx hb dX10_odds_42 rfl (lv_at hl 4 rfl) ?_
            refine bs_ne (tgt := 50) (X := (x2).toInt) hx hb dX10_odds_43 (by decide) rfl (fun c39 => ?_) (fun c39 => ?_)
            · refine lv_bipush (v := 100) hx hb dX10_odds_50 (by decide) ?_
              refine lv_iload hx hb dX10_odds_52 (lv_at hl 0 rfl) ?_
              refine lv_iconst (v := 1) hx hb dX10_odds_54 (by decide) ?_
              refine va_mmax hx hb (by rw [hml]; exact hl.1.symm) hown (ht _ wd_1230) (ht _ wd_636) (ht _ wd_126) (ht _ wd_637) (Nat.le_of_ble_eq_true rfl) (Nat.le_of_ble_eq_true rfl) (Nat.zero_le _) (Nat.zero_le _) dX10_odds_55 ?_
              refine tE (y := 100) (by decide) ?_
              refine lv_idiv hx hb dX10_odds_58 (i_ne0 (X := 100) rfl (by omega)) ?_
              refine tE (y := 1) (by decide) ?_
              refine lv_iload_n hx hb dX10_odds_59 rfl (lv_at hl 3 rfl) ?_
              refine cSi (w := cW cy a) (As := [.int 1, .int 3]) (rest := []) C hO (T_X10_power_1_3 l D cy a _ ) (va_cwS 2 ht (gSS wd_1231 wd_1232 wd_110 wd_1233) rfl rfl rfl hd_yX10_power ⟨Nat.le_of_ble_eq_true rfl, Nat.le_of_ble_eq_true rfl⟩)  rfl hl.1 (Nat.le_of_ble_eq_true rfl) dX10_odds_60 rfl ⟨Nat.zero_le _, Nat.zero_le _⟩ (fun r40 u41 H locs hp42 hO => ?_)
              obtain ⟨hr40, hu41⟩ := hp42
              subst hr40
              rw [hu41] at hO
              refine hret _ _ _ _ _ _ dX10_odds_63 rfl ?_ hO
              exact ⟨(by unfold q_odds; have z0 : (0 : Int32).toInt = 0 := rfl; have z1 : (-1 : Int32).toInt = -1 := rfl; split <;> first | rfl | (exact i32_eq.mpr (by omega)) | (exfalso; omega)), rfl⟩
            · refine lv_iload_n hx hb dX10_odds_46 rfl (lv_at hl 1 rfl) ?_
              refine lv_goto (tgt := 52) hx hb dX10_odds_47 (by decide) ?_
              refine lv_iload hx hb dX10_odds_52 (lv_at hl 0 rfl) ?_
              refine lv_iconst (v := 1) hx hb dX10_odds_54 (by decide) ?_
              refine va_mmax hx hb (by rw [hml]; exact hl.1.symm) hown (ht _ wd_1230) (ht _ wd_636) (ht _ wd_126) (ht _ wd_637) (Nat.le_of_ble_eq_true rfl) (Nat.le_of_ble_eq_true rfl) (Nat.zero_le _) (Nat.zero_le _) dX10_odds_55 ?_
              refine tE (y := 100) (by decide) ?_
              refine lv_idiv hx hb dX10_odds_58 (i_ne0 (X := 100) rfl (by omega)) ?_
              refine tE (y := 1) (by decide) ?_
              refine lv_iload_n hx hb dX10_odds_59 rfl (lv_at hl 3 rfl) ?_
              refine cSi (w := cW cy a) (As := [.int 1, .int 3]) (rest := []) C hO (T_X10_power_1_3 l D cy a _ ) (va_cwS 2 ht (gSS wd_1231 wd_1232 wd_110 wd_1233) rfl rfl rfl hd_yX10_power ⟨Nat.le_of_ble_eq_true rfl, Nat.le_of_ble_eq_true rfl⟩)  rfl hl.1 (Nat.le_of_ble_eq_true rfl) dX10_odds_60 rfl ⟨Nat.zero_le _, Nat.zero_le _⟩ (fun r43 u44 H locs hp45 hO => ?_)
              obtain ⟨hr43, hu44⟩ := hp45
              subst hr43
              rw [hu44] at hO
              refine hret _ _ _ _ _ _ dX10_odds_63 rfl ?_ hO
              exact ⟨(by unfold q_odds; have z0 : (0 : Int32).toInt = 0 := rfl; have z1 : (-1 : Int32).toInt = -1 := rfl; split <;> first | rfl | (exact i32_eq.mpr (by omega)) | (exfalso; omega)), rfl⟩
          · have ec5 : x1 = 4 := i32_eq.mpr (by rw [c5]; rfl)
            subst ec5
            refine lv_bipush (v := 100) hx hb dX10_odds_20 (by decide) ?_
            refine lv_aload_n hx hb dX10_odds_22 rfl (lv_at hl 0 rfl) ?_
            refine gf_RX10_37 (v := .ref (a 28)) C hO 0 cW_0 rfl dX10_odds_23 ?_
            refine gf_RX10_101 (v := .ref (a 3)) C hO 28 cW_28 (congrArg (fun z : Nat => some (Value.ref z)) hR_0) dX10_odds_26 ?_
            refine gf_RX10_294 (v := .int 0) C hO 3 cW_3 (congrArg (fun z : Int32 => some (Value.int z)) hI_3_15) dX10_odds_29 ?_
            refine lv_isub hx hb dX10_odds_32 ?_
            refine tE (y := 100) rfl ?_
            refine lv_istore_n (lv' := [(3, .int 100), (0, .ref (a 0)), (1, .int 4), (2, .int x2)]) hx hb dX10_odds_33 rfl hl (by decide) rfl (fun ls hl => ?_)
            refine lv_bipush (v := 100) hx hb dX10_odds_34 (by decide) ?_
            refine lv_iload_n hx hb dX10_odds_36 rfl (lv_at hl 0 rfl) ?_
            refine cSi (w := cW cy a) (As := [.int 100, .int 100]) (rest := []) C hO (T_X10_commonDivisor_100 l D cy a _ ) (va_cwS 2 ht (gSS wd_1227 wd_1228 wd_110 wd_1229) rfl rfl rfl hd_yX10_commonDivisor ⟨Nat.le_of_ble_eq_true rfl, Nat.le_of_ble_eq_true rfl⟩)  rfl hl.1 (Nat.le_of_ble_eq_true rfl) dX10_odds_37 rfl ⟨Nat.zero_le _, Nat.zero_le _⟩ (fun r46 u47 H locs hp48 hO => ?_)
            obtain ⟨hr46, hu47⟩ := hp48
            subst hr46
            rw [hu47] at hO
            refine lv_istore (lv' := [(4, .int 100), (3, .int 100), (0, .ref (a 0)), (1, .int 4), (2, .int x2)]) hx hb dX10_odds_40 hl (by decide) rfl (fun ls hl => ?_)
            refine lv_iload_n hx hb dX10_odds_42 rfl (lv_at hl 4 rfl) ?_
            refine bs_ne (tgt := 50) (X := (x2).toInt) hx hb dX10_odds_43 (by decide) rfl (fun c49 => ?_) (fun c49 => ?_)
            · refine lv_bipush (v := 100) hx hb dX10_odds_50 (by decide) ?_
              refine lv_iload hx hb dX10_odds_52 (lv_at hl 0 rfl) ?_
              refine lv_iconst (v := 1) hx hb dX10_odds_54 (by decide) ?_
              refine va_mmax hx hb (by rw [hml]; exact hl.1.symm) hown (ht _ wd_1230) (ht _ wd_636) (ht _ wd_126) (ht _ wd_637) (Nat.le_of_ble_eq_true rfl) (Nat.le_of_ble_eq_true rfl) (Nat.zero_le _) (Nat.zero_le _) dX10_odds_55 ?_
              refine tE (y := 100) (by decide) ?_
              refine lv_idiv hx hb dX10_odds_58 (i_ne0 (X := 100) rfl (by omega)) ?_
              refine tE (y := 1) (by decide) ?_
              refine lv_iload_n hx hb dX10_odds_59 rfl (lv_at hl 3 rfl) ?_
              refine cSi (w := cW cy a) (As := [.int 1, .int 4]) (rest := []) C hO (T_X10_power_1_4 l D cy a _ ) (va_cwS 2 ht (gSS wd_1231 wd_1232 wd_110 wd_1233) rfl rfl rfl hd_yX10_power ⟨Nat.le_of_ble_eq_true rfl, Nat.le_of_ble_eq_true rfl⟩)  rfl hl.1 (Nat.le_of_ble_eq_true rfl) dX10_odds_60 rfl ⟨Nat.zero_le _, Nat.zero_le _⟩ (fun r50 u51 H locs hp52 hO => ?_)
              obtain ⟨hr50, hu51⟩ := hp52
              subst hr50
              rw [hu51] at hO
              refine hret _ _ _ _ _ _ dX10_odds_63 rfl ?_ hO
              exact ⟨(by unfold q_odds; have z0 : (0 : Int32).toInt = 0 := rfl; have z1 : (-1 : Int32).toInt = -1 := rfl; split <;> first | rfl | (exact i32_eq.mpr (by omega)) | (exfalso; omega)), rfl⟩
            · refine lv_iload_n hx hb dX10_odds_46 rfl (lv_at hl 1 rfl) ?_
              refine lv_goto (tgt := 52) hx hb dX10_odds_47 (by decide) ?_
              refine lv_iload hx hb dX10_odds_52 (lv_at hl 0 rfl) ?_
              refine lv_iconst (v := 1) hx hb dX10_odds_54 (by decide) ?_
              refine va_mmax hx hb (by rw [hml]; exact hl.1.symm) hown (ht _ wd_1230) (ht _ wd_636) (ht _ wd_126) (ht _ wd_637) (Nat.le_of_ble_eq_true rfl) (Nat.le_of_ble_eq_true rfl) (Nat.zero_le _) (Nat.zero_le _) dX10_odds_55 ?_
              refine tE (y := 100) (by decide) ?_
              refine lv_idiv hx hb dX10_odds_58 (i_ne0 (X := 100) rfl (by omega)) ?_
              refine tE (y := 1) (by decide) ?_
              refine lv_iload_n hx hb dX10_odds_59 rfl (lv_at hl 3 rfl) ?_
              refine cSi (w := cW cy a) (As := [.int 1, .int 4]) (rest := []) C hO (T_X10_power_1_4 l D cy a _ ) (va_cwS 2 ht (gSS wd_1231 wd_1232 wd_110 wd_1233) rfl rfl rfl hd_yX10_power ⟨Nat.le_of_ble_eq_true rfl, Nat.le_of_ble_eq_true rfl⟩)  rfl hl.1 (Nat.le_of_ble_eq_true rfl) dX10_odds_60 rfl ⟨Nat.zero_le _, Nat.zero_le _⟩ (fun r53 u54 H locs hp55 hO => ?_)
              obtain ⟨hr53, hu54⟩ := hp55
              subst hr53
              rw [hu54] at hO
              refine hret _ _ _ _ _ _ dX10_odds_63 rfl ?_ hO
              exact ⟨(by unfold q_odds; have z0 : (0 : Int32).toInt = 0 := rfl; have z1 : (-1 : Int32).toInt = -1 := rfl; split <;> first | rfl | (exact i32_eq.mpr (by omega)) | (exfalso; omega)), rfl⟩
        · refine lv_iconst (v := (-1)) hx hb dX10_odds_18 (by decide) ?_
          refine hret _ _ _ _ _ _ dX10_odds_19 rfl ?_ hO
          exact ⟨(by unfold q_odds; have z0 : (0 : Int32).toInt = 0 := rfl; have z1 : (-1 : Int32).toInt = -1 := rfl; split <;> first | rfl | (exact i32_eq.mpr (by omega)) | (exfalso; omega)), rfl⟩
theorem dX10_lies_0 : decode cX10_lies 0 = .ok (.iload_n 1, 1) := by decide +kernel
theorem dX10_lies_1 : decode cX10_lies 1 = .ok (.ifCond .lt 11, 3) := by decide +kernel
theorem dX10_lies_4 : decode cX10_lies 4 = .ok (.iload_n 1, 1) := by decide +kernel
theorem dX10_lies_5 : decode cX10_lies 5 = .ok (.aload_n 0, 1) := by decide +kernel
theorem dX10_lies_6 : decode cX10_lies 6 = .ok (.getfield 111, 3) := by decide +kernel
theorem dX10_lies_9 : decode cX10_lies 9 = .ok (.if_icmp .lt 7, 3) := by decide +kernel
theorem dX10_lies_12 : decode cX10_lies 12 = .ok (.iconst (-1), 1) := by decide +kernel
theorem dX10_lies_13 : decode cX10_lies 13 = .ok (.goto 9, 3) := by decide +kernel
theorem dX10_lies_16 : decode cX10_lies 16 = .ok (.aload_n 0, 1) := by decide +kernel
theorem dX10_lies_17 : decode cX10_lies 17 = .ok (.getfield 85, 3) := by decide +kernel
theorem dX10_lies_20 : decode cX10_lies 20 = .ok (.iload_n 1, 1) := by decide +kernel
theorem dX10_lies_21 : decode cX10_lies 21 = .ok (.iaload, 1) := by decide +kernel
theorem dX10_lies_22 : decode cX10_lies 22 = .ok (.ireturn, 1) := by decide +kernel
theorem wd_1237 : (Cond.code ⟨"WebCourt", "lies", "(I)I"⟩ prog_1_method_43_code (2 : Nat) (Option.some FieldType.int)) ∈ gtb := gtb_c5 168 (by decide +kernel) rfl
theorem gf_RX10_111 {p : Program} {l : Launch} {e : Env} {R : Room} {s : State} {m : MethodId} {args : Array Value} {below : List Frame} {meth : Method} {c : Code} {H : Heap} {locs : List Loc} {cells slots : Nat} {Q : State → Prop} {cc : ByteArray} {pc nL : Nat} {ls : Array Slot} {rest : List Value} {D : va_G} {cy : Nat → ClassId} {A : Nat → Prop} {ws : va_W} {b : Nat} {fs : List Value} {v : Value} (C : Cx p s m args c cc nL RX10 D cy A) (hO : Wo D A ws s.heap H locs) (q0 : Nat) (he : ws[q0]? = some (b, .inr (10, fs))) (hv : fs[10]? = some v) (hdg : decode cc pc = .ok (.getfield 111, 3)) (kk : W p l e R s m args below meth c H locs cells slots Q (F0 m (pc + 3) ls (v :: rest))) : W p l e R s m args below meth c H locs cells slots Q (F0 m pc ls (.ref b :: rest)) := gF (k := 10) C hO q0 he rfl inFX10 (by decide) wd_478 rfl hv hdg kk
set_option maxHeartbeats 4000000 in
set_option maxRecDepth 100000 in
theorem T_X10_lies (l : Launch) (D : va_G) (cy : Nat → ClassId) (a : Nat → Nat) (u : St) (hI_0_10 : fI u 0 10 = 0) (x1 : Int32)  : Mi l D cy (cW cy a) yX10_lies (.code yX10_lies cX10_lies 2 (some .int)) (rmo 0 0) [.ref (a 0), .int x1] u (fun (r : Int32) (u' : St) => (r = (-1)) ∧ (u' = u)) := by
  refine Mi.of (own := RX10) rfl (by decide) (Nat.le_of_ble_eq_true rfl) ?_
  intro p e s m below meth c A Q ls C hret hO hl
  obtain ⟨hx, hb, hml, hown, ht, hK, hA⟩ := id C
  have hl : lv_has ls 2 [(0, .ref (a 0)), (1, .int x1)] := hl
  refine lv_iload_n hx hb dX10_lies_0 rfl (lv_at hl 1 rfl) ?_
  refine bs_lt (tgt := 12) (X := (x1).toInt) hx hb dX10_lies_1 (by decide) rfl (fun c1 => ?_) (fun c1 => ?_)
  · refine lv_iconst (v := (-1)) hx hb dX10_lies_12 (by decide) ?_
    refine lv_goto (tgt := 22) hx hb dX10_lies_13 (by decide) ?_
    refine hret _ _ _ _ _ _ dX10_lies_22 rfl ?_ hO
    exact ⟨rfl, rfl⟩
  · refine lv_iload_n hx hb dX10_lies_4 rfl (lv_at hl 1 rfl) ?_
    refine lv_aload_n hx hb dX10_lies_5 rfl (lv_at hl 0 rfl) ?_
    refine gf_RX10_111 (v := .int 0) C hO 0 cW_0 (congrArg (fun z : Int32 => some (Value.int z)) hI_0_10) dX10_lies_6 ?_
    refine cn_lt (X := (x1).toInt) (Y := 0) hx hb dX10_lies_9 rfl rfl (by omega) ?_ (tgt := 16) (by decide)
    refine lv_iconst (v := (-1)) hx hb dX10_lies_12 (by decide) ?_
    refine lv_goto (tgt := 22) hx hb dX10_lies_13 (by decide) ?_
    refine hret _ _ _ _ _ _ dX10_lies_22 rfl ?_ hO
    exact ⟨rfl, rfl⟩
theorem dX10_heard_0 : decode cX10_heard 0 = .ok (.aload_n 0, 1) := by decide +kernel
theorem dX10_heard_1 : decode cX10_heard 1 = .ok (.getfield 37, 3) := by decide +kernel
theorem dX10_heard_4 : decode cX10_heard 4 = .ok (.iload_n 1, 1) := by decide +kernel
theorem dX10_heard_5 : decode cX10_heard 5 = .ok (.invokevirtual 144, 3) := by decide +kernel
theorem dX10_heard_8 : decode cX10_heard 8 = .ok (.ifCond .eq 30, 3) := by decide +kernel
theorem dX10_heard_11 : decode cX10_heard 11 = .ok (.iload_n 2, 1) := by decide +kernel
theorem dX10_heard_12 : decode cX10_heard 12 = .ok (.sipush (-9999), 3) := by decide +kernel
theorem dX10_heard_15 : decode cX10_heard 15 = .ok (.if_icmp .lt 23, 3) := by decide +kernel
theorem dX10_heard_18 : decode cX10_heard 18 = .ok (.iload_n 2, 1) := by decide +kernel
theorem dX10_heard_19 : decode cX10_heard 19 = .ok (.sipush 9999, 3) := by decide +kernel
theorem dX10_heard_22 : decode cX10_heard 22 = .ok (.if_icmp .gt 16, 3) := by decide +kernel
theorem dX10_heard_25 : decode cX10_heard 25 = .ok (.aload_n 0, 1) := by decide +kernel
theorem dX10_heard_26 : decode cX10_heard 26 = .ok (.getfield 37, 3) := by decide +kernel
theorem dX10_heard_29 : decode cX10_heard 29 = .ok (.getfield 101, 3) := by decide +kernel
theorem dX10_heard_32 : decode cX10_heard 32 = .ok (.getfield 206, 3) := by decide +kernel
theorem dX10_heard_35 : decode cX10_heard 35 = .ok (.ifCond .ne 5, 3) := by decide +kernel
theorem dX10_heard_38 : decode cX10_heard 38 = .ok (.iconst (-1), 1) := by decide +kernel
theorem dX10_heard_39 : decode cX10_heard 39 = .ok (.ireturn, 1) := by decide +kernel
theorem dX10_heard_40 : decode cX10_heard 40 = .ok (.aload_n 0, 1) := by decide +kernel
theorem dX10_heard_41 : decode cX10_heard 41 = .ok (.getfield 76, 3) := by decide +kernel
theorem dX10_heard_44 : decode cX10_heard 44 = .ok (.iload_n 1, 1) := by decide +kernel
theorem dX10_heard_45 : decode cX10_heard 45 = .ok (.iload_n 2, 1) := by decide +kernel
theorem dX10_heard_46 : decode cX10_heard 46 = .ok (.iload_n 3, 1) := by decide +kernel
theorem dX10_heard_47 : decode cX10_heard 47 = .ok (.invokevirtual 308, 3) := by decide +kernel
theorem dX10_heard_50 : decode cX10_heard 50 = .ok (.ireturn, 1) := by decide +kernel
theorem wd_1241 : (Cond.code ⟨"WebCourt", "heard", "(IIZ)I"⟩ prog_1_method_44_code (4 : Nat) (Option.some FieldType.int)) ∈ gtb := gtb_c5 172 (by decide +kernel) rfl
set_option maxHeartbeats 4000000 in
set_option maxRecDepth 100000 in
theorem T_X10_heard (l : Launch) (D : va_G) (cy : Nat → ClassId) (a : Nat → Nat) (u : St) (hI_3_12 : fI u 3 12 = 0) (hR_0 : fR u 0 = a 3) (x1 : Int32) (x2 : Int32) (x3 : Int32)  : Mi l D cy (cW cy a) yX10_heard (.code yX10_heard cX10_heard 4 (some .int)) (rmo 1 21) [.ref (a 0), .int x1, .int x2, .int x3] u (fun (r : Int32) (u' : St) => (r = (-1)) ∧ (u' = u)) := by
  refine Mi.of (own := RX10) rfl (by decide) (Nat.le_of_ble_eq_true rfl) ?_
  intro p e s m below meth c A Q ls C hret hO hl
  obtain ⟨hx, hb, hml, hown, ht, hK, hA⟩ := id C
  have hl : lv_has ls 4 [(0, .ref (a 0)), (1, .int x1), (2, .int x2), (3, .int x3)] := hl
  refine lv_aload_n hx hb dX10_heard_0 rfl (lv_at hl 0 rfl) ?_
  refine gf_RX10_37 (v := .ref (a 28)) C hO 0 cW_0 rfl dX10_heard_1 ?_
  refine lv_iload_n hx hb dX10_heard_4 rfl (lv_at hl 1 rfl) ?_
  refine cVi (w := cW cy a) (As := [.int x1]) (rest := []) C hO (T_X2_hasCase l D cy a _ (by exact hI_3_12) (by exact hR_0) (x1)) (cwV 1 ht (gV wd_841 wd_842 wd_843 wd_115 wd_844) rfl rfl rfl hd_yX2_hasCase ⟨Nat.le_of_ble_eq_true rfl, Nat.le_of_ble_eq_true rfl⟩) 28 rfl cW_28 rfl rfl hl.1 (Nat.le_of_ble_eq_true rfl) dX10_heard_5 rfl ⟨Nat.zero_le _, Nat.zero_le _⟩ (fun r1 u2 H locs hp3 hO => ?_)
  obtain ⟨hr1, hu2⟩ := hp3
  subst hr1
  rw [hu2] at hO
  refine bt_eq (tgt := 38) (X := 0) hx hb dX10_heard_8 (by decide) rfl (by omega) ?_
  refine lv_iconst (v := (-1)) hx hb dX10_heard_38 (by decide) ?_
  refine hret _ _ _ _ _ _ dX10_heard_39 rfl ?_ hO
  exact ⟨rfl, rfl⟩
theorem dX3_takeBack_0 : decode cX3_takeBack 0 = .ok (.iload_n 1, 1) := by decide +kernel
theorem dX3_takeBack_1 : decode cX3_takeBack 1 = .ok (.ifCond .lt 21, 3) := by decide +kernel
theorem dX3_takeBack_4 : decode cX3_takeBack 4 = .ok (.iload_n 1, 1) := by decide +kernel
theorem dX3_takeBack_5 : decode cX3_takeBack 5 = .ok (.aload_n 0, 1) := by decide +kernel
theorem dX3_takeBack_6 : decode cX3_takeBack 6 = .ok (.getfield 28, 3) := by decide +kernel
theorem dX3_takeBack_9 : decode cX3_takeBack 9 = .ok (.if_icmp .ge 13, 3) := by decide +kernel
theorem dX3_takeBack_12 : decode cX3_takeBack 12 = .ok (.aload_n 0, 1) := by decide +kernel
theorem dX3_takeBack_13 : decode cX3_takeBack 13 = .ok (.getfield 25, 3) := by decide +kernel
theorem dX3_takeBack_16 : decode cX3_takeBack 16 = .ok (.iload_n 1, 1) := by decide +kernel
theorem dX3_takeBack_17 : decode cX3_takeBack 17 = .ok (.iaload, 1) := by decide +kernel
theorem dX3_takeBack_18 : decode cX3_takeBack 18 = .ok (.iconst (-1), 1) := by decide +kernel
theorem dX3_takeBack_19 : decode cX3_takeBack 19 = .ok (.if_icmp .eq 5, 3) := by decide +kernel
theorem dX3_takeBack_22 : decode cX3_takeBack 22 = .ok (.iconst 0, 1) := by decide +kernel
theorem dX3_takeBack_23 : decode cX3_takeBack 23 = .ok (.ireturn, 1) := by decide +kernel
theorem dX3_takeBack_24 : decode cX3_takeBack 24 = .ok (.aload_n 0, 1) := by decide +kernel
theorem dX3_takeBack_25 : decode cX3_takeBack 25 = .ok (.getfield 25, 3) := by decide +kernel
theorem dX3_takeBack_28 : decode cX3_takeBack 28 = .ok (.iload_n 1, 1) := by decide +kernel
theorem dX3_takeBack_29 : decode cX3_takeBack 29 = .ok (.aload_n 0, 1) := by decide +kernel
theorem dX3_takeBack_30 : decode cX3_takeBack 30 = .ok (.getfield 32, 3) := by decide +kernel
theorem dX3_takeBack_33 : decode cX3_takeBack 33 = .ok (.iastore, 1) := by decide +kernel
theorem dX3_takeBack_34 : decode cX3_takeBack 34 = .ok (.iconst 1, 1) := by decide +kernel
theorem dX3_takeBack_35 : decode cX3_takeBack 35 = .ok (.ireturn, 1) := by decide +kernel
theorem wd_1253 : (Cond.code ⟨"WebCourt$Hearsay", "takeBack", "(I)Z"⟩ prog_5_method_4_code (2 : Nat) (Option.some FieldType.boolean)) ∈ gtb := gtb_c5 184 (by decide +kernel) rfl
theorem wd_447 : (Cond.fieldLink "WebCourt$Hearsay" (28 : Nat) "WebCourt$Hearsay" "count" "I") ∈ gtb := gtb_c2 98 (by decide +kernel) rfl
theorem wd_451 : (Cond.laysFinal "WebCourt$Hearsay" "WebCourt$Hearsay" "items" "[I") ∈ gtb := gtb_c2 102 (by decide +kernel) rfl
theorem wd_453 : (Cond.laysFinal "WebCourt$Hearsay" "WebCourt$Hearsay" "verdicts" "[I") ∈ gtb := gtb_c2 104 (by decide +kernel) rfl
theorem wd_455 : (Cond.laysFinal "WebCourt$Hearsay" "WebCourt$Hearsay" "are" "[Z") ∈ gtb := gtb_c2 106 (by decide +kernel) rfl
theorem wd_457 : (Cond.laysFinal "WebCourt$Hearsay" "WebCourt$Hearsay" "told" "[I") ∈ gtb := gtb_c2 108 (by decide +kernel) rfl
theorem wd_459 : (Cond.laysFinal "WebCourt$Hearsay" "WebCourt$Hearsay" "untold" "[I") ∈ gtb := gtb_c2 110 (by decide +kernel) rfl
theorem wd_461 : (Cond.lays "WebCourt$Hearsay" "WebCourt$Hearsay" "count" "I") ∈ gtb := gtb_c2 112 (by decide +kernel) rfl
theorem wd_463 : (Cond.lays "WebCourt$Hearsay" "WebCourt$Hearsay" "time" "I") ∈ gtb := gtb_c2 114 (by decide +kernel) rfl
theorem inFX3 : ∀ w ∈ u_ws RX3 TX3 7, w ∈ gtb := by
  show ∀ w ∈ [u_lay RX3 TX3 0, u_lay RX3 TX3 1, u_lay RX3 TX3 2, u_lay RX3 TX3 3, u_lay RX3 TX3 4, u_lay RX3 TX3 5, u_lay RX3 TX3 6], w ∈ gtb
  exact List.forall_mem_cons.mpr ⟨wd_451, List.forall_mem_cons.mpr ⟨wd_453, List.forall_mem_cons.mpr ⟨wd_455, List.forall_mem_cons.mpr ⟨wd_457, List.forall_mem_cons.mpr ⟨wd_459, List.forall_mem_cons.mpr ⟨wd_461, List.forall_mem_cons.mpr ⟨wd_463, fun _ h => absurd h List.not_mem_nil⟩⟩⟩⟩⟩⟩⟩
theorem gf_RX3_28 {p : Program} {l : Launch} {e : Env} {R : Room} {s : State} {m : MethodId} {args : Array Value} {below : List Frame} {meth : Method} {c : Code} {H : Heap} {locs : List Loc} {cells slots : Nat} {Q : State → Prop} {cc : ByteArray} {pc nL : Nat} {ls : Array Slot} {rest : List Value} {D : va_G} {cy : Nat → ClassId} {A : Nat → Prop} {ws : va_W} {b : Nat} {fs : List Value} {v : Value} (C : Cx p s m args c cc nL RX3 D cy A) (hO : Wo D A ws s.heap H locs) (q0 : Nat) (he : ws[q0]? = some (b, .inr (3, fs))) (hv : fs[5]? = some v) (hdg : decode cc pc = .ok (.getfield 28, 3)) (kk : W p l e R s m args below meth c H locs cells slots Q (F0 m (pc + 3) ls (v :: rest))) : W p l e R s m args below meth c H locs cells slots Q (F0 m pc ls (.ref b :: rest)) := gF (k := 5) C hO q0 he rfl inFX3 (by decide) wd_447 rfl hv hdg kk
set_option maxHeartbeats 4000000 in
set_option maxRecDepth 100000 in
theorem T_X3_takeBack (l : Launch) (D : va_G) (cy : Nat → ClassId) (a : Nat → Nat) (u : St) (hI_39_5 : fI u 39 5 = 0) (x1 : Int32)  : Mi l D cy (cW cy a) yX3_takeBack (.code yX3_takeBack cX3_takeBack 2 (some .boolean)) (rmo 0 0) [.ref (a 39), .int x1] u (fun (r : Int32) (u' : St) => (r = 0) ∧ (u' = u)) := by
  refine Mi.of (own := RX3) rfl (by decide) (Nat.le_of_ble_eq_true rfl) ?_
  intro p e s m below meth c A Q ls C hret hO hl
  obtain ⟨hx, hb, hml, hown, ht, hK, hA⟩ := id C
  have hl : lv_has ls 2 [(0, .ref (a 39)), (1, .int x1)] := hl
  refine lv_iload_n hx hb dX3_takeBack_0 rfl (lv_at hl 1 rfl) ?_
  refine bs_lt (tgt := 22) (X := (x1).toInt) hx hb dX3_takeBack_1 (by decide) rfl (fun c1 => ?_) (fun c1 => ?_)
  · refine lv_iconst (v := 0) hx hb dX3_takeBack_22 (by decide) ?_
    refine hret _ _ _ _ _ _ dX3_takeBack_23 rfl ?_ hO
    exact ⟨rfl, rfl⟩
  · refine lv_iload_n hx hb dX3_takeBack_4 rfl (lv_at hl 1 rfl) ?_
    refine lv_aload_n hx hb dX3_takeBack_5 rfl (lv_at hl 0 rfl) ?_
    refine gf_RX3_28 (v := .int 0) C hO 39 cW_39 (congrArg (fun z : Int32 => some (Value.int z)) hI_39_5) dX3_takeBack_6 ?_
    refine ct_ge (tgt := 22) (X := (x1).toInt) (Y := 0) hx hb dX3_takeBack_9 (by decide) rfl rfl (by omega) ?_
    refine lv_iconst (v := 0) hx hb dX3_takeBack_22 (by decide) ?_
    refine hret _ _ _ _ _ _ dX3_takeBack_23 rfl ?_ hO
    exact ⟨rfl, rfl⟩
theorem dX10_untell_0 : decode cX10_untell 0 = .ok (.aload_n 0, 1) := by decide +kernel
theorem dX10_untell_1 : decode cX10_untell 1 = .ok (.getfield 76, 3) := by decide +kernel
theorem dX10_untell_4 : decode cX10_untell 4 = .ok (.iload_n 1, 1) := by decide +kernel
theorem dX10_untell_5 : decode cX10_untell 5 = .ok (.invokevirtual 312, 3) := by decide +kernel
theorem dX10_untell_8 : decode cX10_untell 8 = .ok (.ireturn, 1) := by decide +kernel
theorem wd_1249 : (Cond.code ⟨"WebCourt", "untell", "(I)Z"⟩ prog_1_method_45_code (2 : Nat) (Option.some FieldType.boolean)) ∈ gtb := gtb_c5 180 (by decide +kernel) rfl
theorem wd_475 : (Cond.fieldLink "WebCourt" (76 : Nat) "WebCourt" "hearsay" "LWebCourt$Hearsay;") ∈ gtb := gtb_c2 126 (by decide +kernel) rfl
theorem gf_RX10_76 {p : Program} {l : Launch} {e : Env} {R : Room} {s : State} {m : MethodId} {args : Array Value} {below : List Frame} {meth : Method} {c : Code} {H : Heap} {locs : List Loc} {cells slots : Nat} {Q : State → Prop} {cc : ByteArray} {pc nL : Nat} {ls : Array Slot} {rest : List Value} {D : va_G} {cy : Nat → ClassId} {A : Nat → Prop} {ws : va_W} {b : Nat} {fs : List Value} {v : Value} (C : Cx p s m args c cc nL RX10 D cy A) (hO : Wo D A ws s.heap H locs) (q0 : Nat) (he : ws[q0]? = some (b, .inr (10, fs))) (hv : fs[7]? = some v) (hdg : decode cc pc = .ok (.getfield 76, 3)) (kk : W p l e R s m args below meth c H locs cells slots Q (F0 m (pc + 3) ls (v :: rest))) : W p l e R s m args below meth c H locs cells slots Q (F0 m pc ls (.ref b :: rest)) := gF (k := 7) C hO q0 he rfl inFX10 (by decide) wd_475 rfl hv hdg kk
theorem wd_1250 : (Cond.methodLink "WebCourt" (312 : Nat) ⟨"WebCourt$Hearsay", "takeBack", "(I)Z"⟩) ∈ gtb := gtb_c5 181 (by decide +kernel) rfl
theorem wd_1251 : (Cond.instanceMethod ⟨"WebCourt$Hearsay", "takeBack", "(I)Z"⟩) ∈ gtb := gtb_c5 182 (by decide +kernel) rfl
theorem wd_1252 : (Cond.selects "WebCourt$Hearsay" ⟨"WebCourt$Hearsay", "takeBack", "(I)Z"⟩ ⟨"WebCourt$Hearsay", "takeBack", "(I)Z"⟩) ∈ gtb := gtb_c5 183 (by decide +kernel) rfl
theorem wd_120 : (Cond.initialized "WebCourt$Hearsay") ∈ gtb := gtb_c1 11 (by decide +kernel) rfl
theorem hd_yX3_takeBack : yX3_takeBack.cls = RX3 ∧ yX3_takeBack.cls ≠ "java/lang/invoke/MethodHandle" ∧ yX3_takeBack.cls ≠ "java/lang/invoke/VarHandle" ∧ (parseMethodDescriptor yX3_takeBack.desc).map (fun d => d.parameters.length) = some 1 := by decide +kernel
set_option maxHeartbeats 4000000 in
set_option maxRecDepth 100000 in
theorem T_X10_untell (l : Launch) (D : va_G) (cy : Nat → ClassId) (a : Nat → Nat) (u : St) (hI_39_5 : fI u 39 5 = 0) (x1 : Int32)  : Mi l D cy (cW cy a) yX10_untell (.code yX10_untell cX10_untell 2 (some .boolean)) (rmo 1 21) [.ref (a 0), .int x1] u (fun (r : Int32) (u' : St) => (r = 0) ∧ (u' = u)) := by
  refine Mi.of (own := RX10) rfl (by decide) (Nat.le_of_ble_eq_true rfl) ?_
  intro p e s m below meth c A Q ls C hret hO hl
  obtain ⟨hx, hb, hml, hown, ht, hK, hA⟩ := id C
  have hl : lv_has ls 2 [(0, .ref (a 0)), (1, .int x1)] := hl
  refine lv_aload_n hx hb dX10_untell_0 rfl (lv_at hl 0 rfl) ?_
  refine gf_RX10_76 (v := .ref (a 39)) C hO 0 cW_0 rfl dX10_untell_1 ?_
  refine lv_iload_n hx hb dX10_untell_4 rfl (lv_at hl 1 rfl) ?_
  refine cVi (w := cW cy a) (As := [.int x1]) (rest := []) C hO (T_X3_takeBack l D cy a _ (by exact hI_39_5) (x1)) (cwV 1 ht (gV wd_1250 wd_1251 wd_1252 wd_120 wd_1253) rfl rfl rfl hd_yX3_takeBack ⟨Nat.le_of_ble_eq_true rfl, Nat.le_of_ble_eq_true rfl⟩) 39 rfl cW_39 rfl rfl hl.1 (Nat.le_of_ble_eq_true rfl) dX10_untell_5 rfl ⟨Nat.zero_le _, Nat.zero_le _⟩ (fun r1 u2 H locs hp3 hO => ?_)
  obtain ⟨hr1, hu2⟩ := hp3
  subst hr1
  rw [hu2] at hO
  refine hret _ _ _ _ _ _ dX10_untell_8 rfl ?_ hO
  exact ⟨rfl, rfl⟩
theorem dX3_goOn_0 : decode cX3_goOn 0 = .ok (.iload_n 1, 1) := by decide +kernel
theorem dX3_goOn_1 : decode cX3_goOn 1 = .ok (.ifCond .lt 21, 3) := by decide +kernel
theorem dX3_goOn_4 : decode cX3_goOn 4 = .ok (.iload_n 1, 1) := by decide +kernel
theorem dX3_goOn_5 : decode cX3_goOn 5 = .ok (.sipush 1000, 3) := by decide +kernel
theorem dX3_goOn_8 : decode cX3_goOn 8 = .ok (.if_icmp .gt 14, 3) := by decide +kernel
theorem dX3_goOn_11 : decode cX3_goOn 11 = .ok (.aload_n 0, 1) := by decide +kernel
theorem dX3_goOn_12 : decode cX3_goOn 12 = .ok (.getfield 32, 3) := by decide +kernel
theorem dX3_goOn_15 : decode cX3_goOn 15 = .ok (.iload_n 1, 1) := by decide +kernel
theorem dX3_goOn_16 : decode cX3_goOn 16 = .ok (.iadd, 1) := by decide +kernel
theorem dX3_goOn_17 : decode cX3_goOn 17 = .ok (.ldc 35, 2) := by decide +kernel
theorem dX3_goOn_19 : decode cX3_goOn 19 = .ok (.if_icmp .le 5, 3) := by decide +kernel
theorem dX3_goOn_22 : decode cX3_goOn 22 = .ok (.iconst (-1), 1) := by decide +kernel
theorem dX3_goOn_23 : decode cX3_goOn 23 = .ok (.ireturn, 1) := by decide +kernel
theorem dX3_goOn_24 : decode cX3_goOn 24 = .ok (.aload_n 0, 1) := by decide +kernel
theorem dX3_goOn_25 : decode cX3_goOn 25 = .ok (.dup, 1) := by decide +kernel
theorem dX3_goOn_26 : decode cX3_goOn 26 = .ok (.getfield 32, 3) := by decide +kernel
theorem dX3_goOn_29 : decode cX3_goOn 29 = .ok (.iload_n 1, 1) := by decide +kernel
theorem dX3_goOn_30 : decode cX3_goOn 30 = .ok (.iadd, 1) := by decide +kernel
theorem dX3_goOn_31 : decode cX3_goOn 31 = .ok (.putfield 32, 3) := by decide +kernel
theorem dX3_goOn_34 : decode cX3_goOn 34 = .ok (.aload_n 0, 1) := by decide +kernel
theorem dX3_goOn_35 : decode cX3_goOn 35 = .ok (.getfield 32, 3) := by decide +kernel
theorem dX3_goOn_38 : decode cX3_goOn 38 = .ok (.ireturn, 1) := by decide +kernel
theorem wd_1261 : (Cond.code ⟨"WebCourt$Hearsay", "goOn", "(I)I"⟩ prog_5_method_5_code (2 : Nat) (Option.some FieldType.int)) ∈ gtb := gtb_c5 192 (by decide +kernel) rfl
theorem wd_449 : (Cond.fieldLink "WebCourt$Hearsay" (32 : Nat) "WebCourt$Hearsay" "time" "I") ∈ gtb := gtb_c2 100 (by decide +kernel) rfl
theorem gf_RX3_32 {p : Program} {l : Launch} {e : Env} {R : Room} {s : State} {m : MethodId} {args : Array Value} {below : List Frame} {meth : Method} {c : Code} {H : Heap} {locs : List Loc} {cells slots : Nat} {Q : State → Prop} {cc : ByteArray} {pc nL : Nat} {ls : Array Slot} {rest : List Value} {D : va_G} {cy : Nat → ClassId} {A : Nat → Prop} {ws : va_W} {b : Nat} {fs : List Value} {v : Value} (C : Cx p s m args c cc nL RX3 D cy A) (hO : Wo D A ws s.heap H locs) (q0 : Nat) (he : ws[q0]? = some (b, .inr (3, fs))) (hv : fs[6]? = some v) (hdg : decode cc pc = .ok (.getfield 32, 3)) (kk : W p l e R s m args below meth c H locs cells slots Q (F0 m (pc + 3) ls (v :: rest))) : W p l e R s m args below meth c H locs cells slots Q (F0 m pc ls (.ref b :: rest)) := gF (k := 6) C hO q0 he rfl inFX3 (by decide) wd_449 rfl hv hdg kk
theorem wd_1262 : (Cond.constant "WebCourt$Hearsay" (35 : Nat) (100000 : Int32)) ∈ gtb := gtb_c5 193 (by decide +kernel) rfl
theorem pf_RX3_32 {p : Program} {l : Launch} {e : Env} {R : Room} {s : State} {m : MethodId} {args : Array Value} {below : List Frame} {meth : Method} {c : Code} {H : Heap} {locs : List Loc} {cells slots : Nat} {Q : State → Prop} {cc : ByteArray} {pc nL : Nat} {ls : Array Slot} {rest : List Value} {D : va_G} {cy : Nat → ClassId} {A : Nat → Prop} {ws : va_W} {b : Nat} {fs : List Value} {v : Int32} {ws' : va_W} (C : Cx p s m args c cc nL RX3 D cy A) (hO : Wo D A ws s.heap H locs) (q0 : Nat) (he : ws[q0]? = some (b, .inr (3, fs))) (hlen : 6 < fs.length) (hw : ws.set q0 (b, .inr (3, fs.set 6 (.int v))) = ws') (hdg : decode cc pc = .ok (.putfield 32, 3)) (kk : ∀ (H : Heap) (locs : List Loc), Wo D A ws' s.heap H locs → W p l e R s m args below meth c H locs cells slots Q (F0 m (pc + 3) ls rest)) : W p l e R s m args below meth c H locs cells slots Q (F0 m pc ls (.int v :: .ref b :: rest)) := pF (k := 6) (ty := .int) C hO q0 he rfl inFX3 (by decide) wd_449 rfl tyX3 tyX3_ok nmX3 rfl (by decide +kernel) rfl rfl hlen hw hdg kk
set_option maxHeartbeats 4000000 in
set_option maxRecDepth 100000 in
theorem T_X3_goOn (l : Launch) (D : va_G) (cy : Nat → ClassId) (a : Nat → Nat) (u : St) (hI_39_6 : fI u 39 6 = 0) (x1 : Int32)  : Mi l D cy (cW cy a) yX3_goOn (.code yX3_goOn cX3_goOn 2 (some .int)) (rmo 0 0) [.ref (a 39), .int x1] u (fun (r : Int32) (u' : St) => r = q_later x1) := by
  refine Mi.of (own := RX3) rfl (by decide) (Nat.le_of_ble_eq_true rfl) ?_
  intro p e s m below meth c A Q ls C hret hO hl
  obtain ⟨hx, hb, hml, hown, ht, hK, hA⟩ := id C
  have hl : lv_has ls 2 [(0, .ref (a 39)), (1, .int x1)] := hl
  refine lv_iload_n hx hb dX3_goOn_0 rfl (lv_at hl 1 rfl) ?_
  refine bs_lt (tgt := 22) (X := (x1).toInt) hx hb dX3_goOn_1 (by decide) rfl (fun c1 => ?_) (fun c1 => ?_)
  · refine lv_iconst (v := (-1)) hx hb dX3_goOn_22 (by decide) ?_
    refine hret _ _ _ _ _ _ dX3_goOn_23 rfl ?_ hO
    exact (by unfold q_later; have z0 : (0 : Int32).toInt = 0 := rfl; have z1 : (-1 : Int32).toInt = -1 := rfl; split <;> first | rfl | (exact i32_eq.mpr (by omega)) | (exfalso; omega))
  · refine lv_iload_n hx hb dX3_goOn_4 rfl (lv_at hl 1 rfl) ?_
    refine lv_sipush (v := 1000) hx hb dX3_goOn_5 (by decide) ?_
    refine cs_gt (tgt := 22) (X := (x1).toInt) (Y := 1000) hx hb dX3_goOn_8 (by decide) rfl rfl (fun c2 => ?_) (fun c2 => ?_)
    · refine lv_iconst (v := (-1)) hx hb dX3_goOn_22 (by decide) ?_
      refine hret _ _ _ _ _ _ dX3_goOn_23 rfl ?_ hO
      exact (by unfold q_later; have z0 : (0 : Int32).toInt = 0 := rfl; have z1 : (-1 : Int32).toInt = -1 := rfl; split <;> first | rfl | (exact i32_eq.mpr (by omega)) | (exfalso; omega))
    · refine lv_aload_n hx hb dX3_goOn_11 rfl (lv_at hl 0 rfl) ?_
      refine gf_RX3_32 (v := .int 0) C hO 39 cW_39 (congrArg (fun z : Int32 => some (Value.int z)) hI_39_6) dX3_goOn_12 ?_
      refine lv_iload_n hx hb dX3_goOn_15 rfl (lv_at hl 1 rfl) ?_
      have e3 : ((0 + x1)).toInt = 0 + (x1).toInt := i_add rfl rfl (by omega)
      refine lv_iadd hx hb dX3_goOn_16 ?_
      refine lv_ldc (v := 100000) hx hb hown (ht _ wd_1262) dX3_goOn_17 ?_
      refine ct_le (tgt := 24) (X := (0 + (x1).toInt)) (Y := 100000) hx hb dX3_goOn_19 (by decide) e3 rfl (by omega) ?_
      refine lv_aload_n hx hb dX3_goOn_24 rfl (lv_at hl 0 rfl) ?_
      refine lv_dup hx hb dX3_goOn_25 rfl ?_
      refine gf_RX3_32 (v := .int 0) C hO 39 cW_39 (congrArg (fun z : Int32 => some (Value.int z)) hI_39_6) dX3_goOn_26 ?_
      refine lv_iload_n hx hb dX3_goOn_29 rfl (lv_at hl 1 rfl) ?_
      have e4 : ((0 + x1)).toInt = 0 + (x1).toInt := i_add rfl rfl (by omega)
      refine lv_iadd hx hb dX3_goOn_30 ?_
      refine pf_RX3_32 C hO 39 cW_39 (Nat.le_of_ble_eq_true rfl) cW_s39_6 dX3_goOn_31 (fun H locs hO => ?_)
      refine lv_aload_n hx hb dX3_goOn_34 rfl (lv_at hl 0 rfl) ?_
      refine gf_RX3_32 (v := .int (0 + x1)) C hO 39 cW_39 rfl dX3_goOn_35 ?_
      refine hret _ _ _ _ _ _ dX3_goOn_38 rfl ?_ hO
      exact (by unfold q_later; have z0 : (0 : Int32).toInt = 0 := rfl; have z1 : (-1 : Int32).toInt = -1 := rfl; split <;> first | rfl | (exact i32_eq.mpr (by omega)) | (exfalso; omega))
theorem dX10_later_0 : decode cX10_later 0 = .ok (.aload_n 0, 1) := by decide +kernel
theorem dX10_later_1 : decode cX10_later 1 = .ok (.getfield 76, 3) := by decide +kernel
theorem dX10_later_4 : decode cX10_later 4 = .ok (.iload_n 1, 1) := by decide +kernel
theorem dX10_later_5 : decode cX10_later 5 = .ok (.invokevirtual 314, 3) := by decide +kernel
theorem dX10_later_8 : decode cX10_later 8 = .ok (.ireturn, 1) := by decide +kernel
theorem wd_1257 : (Cond.code ⟨"WebCourt", "later", "(I)I"⟩ prog_1_method_46_code (2 : Nat) (Option.some FieldType.int)) ∈ gtb := gtb_c5 188 (by decide +kernel) rfl
theorem wd_1258 : (Cond.methodLink "WebCourt" (314 : Nat) ⟨"WebCourt$Hearsay", "goOn", "(I)I"⟩) ∈ gtb := gtb_c5 189 (by decide +kernel) rfl
theorem wd_1259 : (Cond.instanceMethod ⟨"WebCourt$Hearsay", "goOn", "(I)I"⟩) ∈ gtb := gtb_c5 190 (by decide +kernel) rfl
theorem wd_1260 : (Cond.selects "WebCourt$Hearsay" ⟨"WebCourt$Hearsay", "goOn", "(I)I"⟩ ⟨"WebCourt$Hearsay", "goOn", "(I)I"⟩) ∈ gtb := gtb_c5 191 (by decide +kernel) rfl
theorem hd_yX3_goOn : yX3_goOn.cls = RX3 ∧ yX3_goOn.cls ≠ "java/lang/invoke/MethodHandle" ∧ yX3_goOn.cls ≠ "java/lang/invoke/VarHandle" ∧ (parseMethodDescriptor yX3_goOn.desc).map (fun d => d.parameters.length) = some 1 := by decide +kernel
set_option maxHeartbeats 4000000 in
set_option maxRecDepth 100000 in
theorem T_X10_later (l : Launch) (D : va_G) (cy : Nat → ClassId) (a : Nat → Nat) (u : St) (hI_39_6 : fI u 39 6 = 0) (x1 : Int32)  : Mi l D cy (cW cy a) yX10_later (.code yX10_later cX10_later 2 (some .int)) (rmo 1 21) [.ref (a 0), .int x1] u (fun (r : Int32) (u' : St) => r = q_later x1) := by
  refine Mi.of (own := RX10) rfl (by decide) (Nat.le_of_ble_eq_true rfl) ?_
  intro p e s m below meth c A Q ls C hret hO hl
  obtain ⟨hx, hb, hml, hown, ht, hK, hA⟩ := id C
  have hl : lv_has ls 2 [(0, .ref (a 0)), (1, .int x1)] := hl
  refine lv_aload_n hx hb dX10_later_0 rfl (lv_at hl 0 rfl) ?_
  refine gf_RX10_76 (v := .ref (a 39)) C hO 0 cW_0 rfl dX10_later_1 ?_
  refine lv_iload_n hx hb dX10_later_4 rfl (lv_at hl 1 rfl) ?_
  refine cVi (w := cW cy a) (As := [.int x1]) (rest := []) C hO (T_X3_goOn l D cy a _ (by exact hI_39_6) (x1)) (cwV 1 ht (gV wd_1258 wd_1259 wd_1260 wd_120 wd_1261) rfl rfl rfl hd_yX3_goOn ⟨Nat.le_of_ble_eq_true rfl, Nat.le_of_ble_eq_true rfl⟩) 39 rfl cW_39 rfl rfl hl.1 (Nat.le_of_ble_eq_true rfl) dX10_later_5 rfl ⟨Nat.zero_le _, Nat.zero_le _⟩ (fun r1 u2 H locs hp3 hO => ?_)
  have hr1 := hp3
  refine hret _ _ _ _ _ _ dX10_later_8 rfl ?_ hO
  exact hr1
theorem dX3_fitting_0 : decode cX3_fitting 0 = .ok (.iconst 0, 1) := by decide +kernel
theorem dX3_fitting_1 : decode cX3_fitting 1 = .ok (.istore_n 3, 1) := by decide +kernel
theorem dX3_fitting_2 : decode cX3_fitting 2 = .ok (.iconst 0, 1) := by decide +kernel
theorem dX3_fitting_3 : decode cX3_fitting 3 = .ok (.istore 4, 2) := by decide +kernel
theorem dX3_fitting_5 : decode cX3_fitting 5 = .ok (.iload 4, 2) := by decide +kernel
theorem dX3_fitting_7 : decode cX3_fitting 7 = .ok (.bipush 30, 2) := by decide +kernel
theorem dX3_fitting_9 : decode cX3_fitting 9 = .ok (.if_icmp .gt 34, 3) := by decide +kernel
theorem dX3_fitting_12 : decode cX3_fitting 12 = .ok (.aload_n 1, 1) := by decide +kernel
theorem dX3_fitting_13 : decode cX3_fitting 13 = .ok (.getfield 36, 3) := by decide +kernel
theorem dX3_fitting_16 : decode cX3_fitting 16 = .ok (.ifCond .le 27, 3) := by decide +kernel
theorem dX3_fitting_19 : decode cX3_fitting 19 = .ok (.aload_n 0, 1) := by decide +kernel
theorem dX3_fitting_20 : decode cX3_fitting 20 = .ok (.aload_n 1, 1) := by decide +kernel
theorem dX3_fitting_21 : decode cX3_fitting 21 = .ok (.iload 4, 2) := by decide +kernel
theorem dX3_fitting_23 : decode cX3_fitting 23 = .ok (.iload_n 2, 1) := by decide +kernel
theorem dX3_fitting_24 : decode cX3_fitting 24 = .ok (.invokevirtual 41, 3) := by decide +kernel
theorem dX3_fitting_27 : decode cX3_fitting 27 = .ok (.ifCond .eq 10, 3) := by decide +kernel
theorem dX3_fitting_30 : decode cX3_fitting 30 = .ok (.iload_n 3, 1) := by decide +kernel
theorem dX3_fitting_31 : decode cX3_fitting 31 = .ok (.iconst 1, 1) := by decide +kernel
theorem dX3_fitting_32 : decode cX3_fitting 32 = .ok (.iload 4, 2) := by decide +kernel
theorem dX3_fitting_34 : decode cX3_fitting 34 = .ok (.ishl, 1) := by decide +kernel
theorem dX3_fitting_35 : decode cX3_fitting 35 = .ok (.ior, 1) := by decide +kernel
theorem dX3_fitting_36 : decode cX3_fitting 36 = .ok (.istore_n 3, 1) := by decide +kernel
theorem dX3_fitting_37 : decode cX3_fitting 37 = .ok (.iinc 4 1, 3) := by decide +kernel
theorem dX3_fitting_40 : decode cX3_fitting 40 = .ok (.goto (-35), 3) := by decide +kernel
theorem dX3_fitting_43 : decode cX3_fitting 43 = .ok (.iload_n 3, 1) := by decide +kernel
theorem dX3_fitting_44 : decode cX3_fitting 44 = .ok (.ireturn, 1) := by decide +kernel
theorem wd_1270 : (Cond.code ⟨"WebCourt$Hearsay", "fitting", "(LWebCourt$Web;I)I"⟩ prog_5_method_7_code (5 : Nat) (Option.some FieldType.int)) ∈ gtb := gtb_c5 201 (by decide +kernel) rfl
theorem wd_264 : (Cond.fieldLink "WebCourt$Hearsay" (36 : Nat) "WebCourt$Web" "pleas" "I") ∈ gtb := gtb_c1 155 (by decide +kernel) rfl
theorem gf_RX3_36 {p : Program} {l : Launch} {e : Env} {R : Room} {s : State} {m : MethodId} {args : Array Value} {below : List Frame} {meth : Method} {c : Code} {H : Heap} {locs : List Loc} {cells slots : Nat} {Q : State → Prop} {cc : ByteArray} {pc nL : Nat} {ls : Array Slot} {rest : List Value} {D : va_G} {cy : Nat → ClassId} {A : Nat → Prop} {ws : va_W} {b : Nat} {fs : List Value} {v : Value} (C : Cx p s m args c cc nL RX3 D cy A) (hO : Wo D A ws s.heap H locs) (q0 : Nat) (he : ws[q0]? = some (b, .inr (9, fs))) (hv : fs[11]? = some v) (hdg : decode cc pc = .ok (.getfield 36, 3)) (kk : W p l e R s m args below meth c H locs cells slots Q (F0 m (pc + 3) ls (v :: rest))) : W p l e R s m args below meth c H locs cells slots Q (F0 m pc ls (.ref b :: rest)) := gF (k := 11) C hO q0 he rfl inFX9 (by decide) wd_264 rfl hv hdg kk
set_option maxHeartbeats 4000000 in
set_option maxRecDepth 100000 in
theorem T_X3_fitting (l : Launch) (D : va_G) (cy : Nat → ClassId) (a : Nat → Nat) (u : St) (hI_3_11 : fI u 3 11 = 0) (x2 : Int32)  : Mi l D cy (cW cy a) yX3_fitting (.code yX3_fitting cX3_fitting 5 (some .int)) (rmo 0 0) [.ref (a 39), .ref (a 3), .int x2] u (fun (r : Int32) (u' : St) => (r = 0) ∧ (u' = u)) := by
  refine Mi.of (own := RX3) rfl (by decide) (Nat.le_of_ble_eq_true rfl) ?_
  intro p e s m below meth c A Q ls C hret hO hl
  obtain ⟨hx, hb, hml, hown, ht, hK, hA⟩ := id C
  have hl : lv_has ls 5 [(0, .ref (a 39)), (1, .ref (a 3)), (2, .int x2)] := hl
  refine lv_iconst (v := 0) hx hb dX3_fitting_0 (by decide) ?_
  refine lv_istore_n (lv' := [(3, .int 0), (0, .ref (a 39)), (1, .ref (a 3)), (2, .int x2)]) hx hb dX3_fitting_1 rfl hl (by decide) rfl (fun ls hl => ?_)
  refine lv_iconst (v := 0) hx hb dX3_fitting_2 (by decide) ?_
  refine lv_istore (lv' := [(4, .int 0), (3, .int 0), (0, .ref (a 39)), (1, .ref (a 3)), (2, .int x2)]) hx hb dX3_fitting_3 hl (by decide) rfl (fun ls hl => ?_)
  refine lv_iload hx hb dX3_fitting_5 (lv_at hl 0 rfl) ?_
  refine lv_bipush (v := 30) hx hb dX3_fitting_7 (by decide) ?_
  refine cn_gt (X := 0) (Y := 30) hx hb dX3_fitting_9 rfl rfl (by omega) ?_ (tgt := 43) (by decide)
  refine lv_aload_n hx hb dX3_fitting_12 rfl (lv_at hl 3 rfl) ?_
  refine gf_RX3_36 (v := .int 0) C hO 3 cW_3 (congrArg (fun z : Int32 => some (Value.int z)) hI_3_11) dX3_fitting_13 ?_
  refine bt_le (tgt := 43) (X := 0) hx hb dX3_fitting_16 (by decide) rfl (by omega) ?_
  refine lv_iload_n hx hb dX3_fitting_43 rfl (lv_at hl 1 rfl) ?_
  refine hret _ _ _ _ _ _ dX3_fitting_44 rfl ?_ hO
  exact ⟨rfl, rfl⟩
theorem dX10_fits_0 : decode cX10_fits 0 = .ok (.aload_n 0, 1) := by decide +kernel
theorem dX10_fits_1 : decode cX10_fits 1 = .ok (.getfield 76, 3) := by decide +kernel
theorem dX10_fits_4 : decode cX10_fits 4 = .ok (.aload_n 0, 1) := by decide +kernel
theorem dX10_fits_5 : decode cX10_fits 5 = .ok (.getfield 37, 3) := by decide +kernel
theorem dX10_fits_8 : decode cX10_fits 8 = .ok (.getfield 101, 3) := by decide +kernel
theorem dX10_fits_11 : decode cX10_fits 11 = .ok (.iload_n 1, 1) := by decide +kernel
theorem dX10_fits_12 : decode cX10_fits 12 = .ok (.invokevirtual 317, 3) := by decide +kernel
theorem dX10_fits_15 : decode cX10_fits 15 = .ok (.invokestatic 180, 3) := by decide +kernel
theorem dX10_fits_18 : decode cX10_fits 18 = .ok (.ireturn, 1) := by decide +kernel
theorem wd_1266 : (Cond.code ⟨"WebCourt", "fits", "(I)I"⟩ prog_1_method_47_code (2 : Nat) (Option.some FieldType.int)) ∈ gtb := gtb_c5 197 (by decide +kernel) rfl
theorem wd_1267 : (Cond.methodLink "WebCourt" (317 : Nat) ⟨"WebCourt$Hearsay", "fitting", "(LWebCourt$Web;I)I"⟩) ∈ gtb := gtb_c5 198 (by decide +kernel) rfl
theorem wd_1268 : (Cond.instanceMethod ⟨"WebCourt$Hearsay", "fitting", "(LWebCourt$Web;I)I"⟩) ∈ gtb := gtb_c5 199 (by decide +kernel) rfl
theorem wd_1269 : (Cond.selects "WebCourt$Hearsay" ⟨"WebCourt$Hearsay", "fitting", "(LWebCourt$Web;I)I"⟩ ⟨"WebCourt$Hearsay", "fitting", "(LWebCourt$Web;I)I"⟩) ∈ gtb := gtb_c5 200 (by decide +kernel) rfl
theorem hd_yX3_fitting : yX3_fitting.cls = RX3 ∧ yX3_fitting.cls ≠ "java/lang/invoke/MethodHandle" ∧ yX3_fitting.cls ≠ "java/lang/invoke/VarHandle" ∧ (parseMethodDescriptor yX3_fitting.desc).map (fun d => d.parameters.length) = some 2 := by decide +kernel
theorem wd_948 : (Cond.methodLink "WebCourt" (180 : Nat) ⟨"java/lang/Integer", "bitCount", "(I)I"⟩) ∈ gtb := gtb_c4 119 (by decide +kernel) rfl
theorem wd_870 : (Cond.static ⟨"java/lang/Integer", "bitCount", "(I)I"⟩) ∈ gtb := gtb_c4 41 (by decide +kernel) rfl
theorem wd_128 : (Cond.initialized "java/lang/Integer") ∈ gtb := gtb_c1 19 (by decide +kernel) rfl
theorem hd_yJ6_bitCount_0f7a4 : yJ6_bitCount_0f7a4.cls ≠ "java/lang/invoke/MethodHandle" ∧ yJ6_bitCount_0f7a4.cls ≠ "java/lang/invoke/VarHandle" ∧ (parseMethodDescriptor yJ6_bitCount_0f7a4.desc).map (fun d => d.parameters.length) = some 1 := by decide +kernel
set_option maxHeartbeats 4000000 in
set_option maxRecDepth 100000 in
theorem T_X10_fits (l : Launch) (D : va_G) (cy : Nat → ClassId) (a : Nat → Nat) (u : St) (hI_3_11 : fI u 3 11 = 0) (hR_0 : fR u 0 = a 3) (x1 : Int32)  : Mi l D cy (cW cy a) yX10_fits (.code yX10_fits cX10_fits 2 (some .int)) (rmo 1 24) [.ref (a 0), .int x1] u (fun (r : Int32) (u' : St) => (r = 0) ∧ (u' = u)) := by
  refine Mi.of (own := RX10) rfl (by decide) (Nat.le_of_ble_eq_true rfl) ?_
  intro p e s m below meth c A Q ls C hret hO hl
  obtain ⟨hx, hb, hml, hown, ht, hK, hA⟩ := id C
  have hl : lv_has ls 2 [(0, .ref (a 0)), (1, .int x1)] := hl
  refine lv_aload_n hx hb dX10_fits_0 rfl (lv_at hl 0 rfl) ?_
  refine gf_RX10_76 (v := .ref (a 39)) C hO 0 cW_0 rfl dX10_fits_1 ?_
  refine lv_aload_n hx hb dX10_fits_4 rfl (lv_at hl 0 rfl) ?_
  refine gf_RX10_37 (v := .ref (a 28)) C hO 0 cW_0 rfl dX10_fits_5 ?_
  refine gf_RX10_101 (v := .ref (a 3)) C hO 28 cW_28 (congrArg (fun z : Nat => some (Value.ref z)) hR_0) dX10_fits_8 ?_
  refine lv_iload_n hx hb dX10_fits_11 rfl (lv_at hl 1 rfl) ?_
  refine cVi (w := cW cy a) (As := [.ref (a 3), .int x1]) (rest := []) C hO (T_X3_fitting l D cy a _ (by exact hI_3_11) (x1)) (cwV 2 ht (gV wd_1267 wd_1268 wd_1269 wd_120 wd_1270) rfl rfl rfl hd_yX3_fitting ⟨Nat.le_of_ble_eq_true rfl, Nat.le_of_ble_eq_true rfl⟩) 39 rfl cW_39 rfl rfl hl.1 (Nat.le_of_ble_eq_true rfl) dX10_fits_12 rfl ⟨Nat.zero_le _, Nat.zero_le _⟩ (fun r1 u2 H locs hp3 hO => ?_)
  obtain ⟨hr1, hu2⟩ := hp3
  subst hr1
  rw [hu2] at hO
  refine cSi (w := cW cy a) (As := [.int 0]) (rest := []) C hO (T_J6_bitCount_0f7a4_c0 l D cy a _ ) (va_cwS 1 ht (gSS wd_948 wd_870 wd_128 wd_871) rfl rfl rfl hd_yJ6_bitCount_0f7a4 ⟨Nat.le_of_ble_eq_true rfl, Nat.le_of_ble_eq_true rfl⟩)  rfl hl.1 (Nat.le_of_ble_eq_true rfl) dX10_fits_15 rfl ⟨Nat.zero_le _, Nat.zero_le _⟩ (fun r4 u5 H locs hp6 hO => ?_)
  obtain ⟨hr4, hu5⟩ := hp6
  subst hr4
  rw [hu5] at hO
  refine hret _ _ _ _ _ _ dX10_fits_18 rfl ?_ hO
  exact ⟨rfl, rfl⟩
theorem dX10_sure_0 : decode cX10_sure 0 = .ok (.aload_n 0, 1) := by decide +kernel
theorem dX10_sure_1 : decode cX10_sure 1 = .ok (.getfield 76, 3) := by decide +kernel
theorem dX10_sure_4 : decode cX10_sure 4 = .ok (.aload_n 0, 1) := by decide +kernel
theorem dX10_sure_5 : decode cX10_sure 5 = .ok (.getfield 37, 3) := by decide +kernel
theorem dX10_sure_8 : decode cX10_sure 8 = .ok (.getfield 101, 3) := by decide +kernel
theorem dX10_sure_11 : decode cX10_sure 11 = .ok (.iload_n 2, 1) := by decide +kernel
theorem dX10_sure_12 : decode cX10_sure 12 = .ok (.invokevirtual 317, 3) := by decide +kernel
theorem dX10_sure_15 : decode cX10_sure 15 = .ok (.istore_n 3, 1) := by decide +kernel
theorem dX10_sure_16 : decode cX10_sure 16 = .ok (.iload_n 3, 1) := by decide +kernel
theorem dX10_sure_17 : decode cX10_sure 17 = .ok (.ifCond .eq 12, 3) := by decide +kernel
theorem dX10_sure_20 : decode cX10_sure 20 = .ok (.iload_n 1, 1) := by decide +kernel
theorem dX10_sure_21 : decode cX10_sure 21 = .ok (.ifCond .lt 8, 3) := by decide +kernel
theorem dX10_sure_24 : decode cX10_sure 24 = .ok (.iload_n 1, 1) := by decide +kernel
theorem dX10_sure_25 : decode cX10_sure 25 = .ok (.iconst 1, 1) := by decide +kernel
theorem dX10_sure_26 : decode cX10_sure 26 = .ok (.if_icmp .le 5, 3) := by decide +kernel
theorem dX10_sure_29 : decode cX10_sure 29 = .ok (.iconst (-1), 1) := by decide +kernel
theorem dX10_sure_30 : decode cX10_sure 30 = .ok (.ireturn, 1) := by decide +kernel
theorem dX10_sure_31 : decode cX10_sure 31 = .ok (.iload_n 1, 1) := by decide +kernel
theorem dX10_sure_32 : decode cX10_sure 32 = .ok (.ifCond .ne 14, 3) := by decide +kernel
theorem dX10_sure_35 : decode cX10_sure 35 = .ok (.aload_n 0, 1) := by decide +kernel
theorem dX10_sure_36 : decode cX10_sure 36 = .ok (.getfield 76, 3) := by decide +kernel
theorem dX10_sure_39 : decode cX10_sure 39 = .ok (.iload_n 3, 1) := by decide +kernel
theorem dX10_sure_40 : decode cX10_sure 40 = .ok (.invokevirtual 321, 3) := by decide +kernel
theorem dX10_sure_43 : decode cX10_sure 43 = .ok (.goto 11, 3) := by decide +kernel
theorem dX10_sure_46 : decode cX10_sure 46 = .ok (.aload_n 0, 1) := by decide +kernel
theorem dX10_sure_47 : decode cX10_sure 47 = .ok (.getfield 76, 3) := by decide +kernel
theorem dX10_sure_50 : decode cX10_sure 50 = .ok (.iload_n 3, 1) := by decide +kernel
theorem dX10_sure_51 : decode cX10_sure 51 = .ok (.invokevirtual 324, 3) := by decide +kernel
theorem dX10_sure_54 : decode cX10_sure 54 = .ok (.ireturn, 1) := by decide +kernel
theorem wd_1290 : (Cond.code ⟨"WebCourt", "sure", "(II)I"⟩ prog_1_method_48_code (4 : Nat) (Option.some FieldType.int)) ∈ gtb := gtb_c5 221 (by decide +kernel) rfl
set_option maxHeartbeats 4000000 in
set_option maxRecDepth 100000 in
theorem T_X10_sure (l : Launch) (D : va_G) (cy : Nat → ClassId) (a : Nat → Nat) (u : St) (hI_3_11 : fI u 3 11 = 0) (hR_0 : fR u 0 = a 3) (x1 : Int32) (x2 : Int32)  : Mi l D cy (cW cy a) yX10_sure (.code yX10_sure cX10_sure 4 (some .int)) (rmo 1 24) [.ref (a 0), .int x1, .int x2] u (fun (r : Int32) (u' : St) => (r = (-1)) ∧ (u' = u)) := by
  refine Mi.of (own := RX10) rfl (by decide) (Nat.le_of_ble_eq_true rfl) ?_
  intro p e s m below meth c A Q ls C hret hO hl
  obtain ⟨hx, hb, hml, hown, ht, hK, hA⟩ := id C
  have hl : lv_has ls 4 [(0, .ref (a 0)), (1, .int x1), (2, .int x2)] := hl
  refine lv_aload_n hx hb dX10_sure_0 rfl (lv_at hl 0 rfl) ?_
  refine gf_RX10_76 (v := .ref (a 39)) C hO 0 cW_0 rfl dX10_sure_1 ?_
  refine lv_aload_n hx hb dX10_sure_4 rfl (lv_at hl 0 rfl) ?_
  refine gf_RX10_37 (v := .ref (a 28)) C hO 0 cW_0 rfl dX10_sure_5 ?_
  refine gf_RX10_101 (v := .ref (a 3)) C hO 28 cW_28 (congrArg (fun z : Nat => some (Value.ref z)) hR_0) dX10_sure_8 ?_
  refine lv_iload_n hx hb dX10_sure_11 rfl (lv_at hl 2 rfl) ?_
  refine cVi (w := cW cy a) (As := [.ref (a 3), .int x2]) (rest := []) C hO (T_X3_fitting l D cy a _ (by exact hI_3_11) (x2)) (cwV 2 ht (gV wd_1267 wd_1268 wd_1269 wd_120 wd_1270) rfl rfl rfl hd_yX3_fitting ⟨Nat.le_of_ble_eq_true rfl, Nat.le_of_ble_eq_true rfl⟩) 39 rfl cW_39 rfl rfl hl.1 (Nat.le_of_ble_eq_true rfl) dX10_sure_12 rfl ⟨Nat.zero_le _, Nat.zero_le _⟩ (fun r1 u2 H locs hp3 hO => ?_)
  obtain ⟨hr1, hu2⟩ := hp3
  subst hr1
  rw [hu2] at hO
  refine lv_istore_n (lv' := [(3, .int 0), (0, .ref (a 0)), (1, .int x1), (2, .int x2)]) hx hb dX10_sure_15 rfl hl (by decide) rfl (fun ls hl => ?_)
  refine lv_iload_n hx hb dX10_sure_16 rfl (lv_at hl 0 rfl) ?_
  refine bt_eq (tgt := 29) (X := 0) hx hb dX10_sure_17 (by decide) rfl (by omega) ?_
  refine lv_iconst (v := (-1)) hx hb dX10_sure_29 (by decide) ?_
  refine hret _ _ _ _ _ _ dX10_sure_30 rfl ?_ hO
  exact ⟨rfl, rfl⟩
theorem dX10_ask_0 : decode cX10_ask 0 = .ok (.aload_n 0, 1) := by decide +kernel
theorem dX10_ask_1 : decode cX10_ask 1 = .ok (.getfield 76, 3) := by decide +kernel
theorem dX10_ask_4 : decode cX10_ask 4 = .ok (.aload_n 0, 1) := by decide +kernel
theorem dX10_ask_5 : decode cX10_ask 5 = .ok (.getfield 37, 3) := by decide +kernel
theorem dX10_ask_8 : decode cX10_ask 8 = .ok (.getfield 101, 3) := by decide +kernel
theorem dX10_ask_11 : decode cX10_ask 11 = .ok (.iload_n 2, 1) := by decide +kernel
theorem dX10_ask_12 : decode cX10_ask 12 = .ok (.invokevirtual 317, 3) := by decide +kernel
theorem dX10_ask_15 : decode cX10_ask 15 = .ok (.istore_n 3, 1) := by decide +kernel
theorem dX10_ask_16 : decode cX10_ask 16 = .ok (.iload_n 3, 1) := by decide +kernel
theorem dX10_ask_17 : decode cX10_ask 17 = .ok (.ifCond .eq 25, 3) := by decide +kernel
theorem dX10_ask_20 : decode cX10_ask 20 = .ok (.aload_n 0, 1) := by decide +kernel
theorem dX10_ask_21 : decode cX10_ask 21 = .ok (.getfield 37, 3) := by decide +kernel
theorem dX10_ask_24 : decode cX10_ask 24 = .ok (.getfield 101, 3) := by decide +kernel
theorem dX10_ask_27 : decode cX10_ask 27 = .ok (.getfield 117, 3) := by decide +kernel
theorem dX10_ask_30 : decode cX10_ask 30 = .ok (.ifCond .eq 12, 3) := by decide +kernel
theorem dX10_ask_33 : decode cX10_ask 33 = .ok (.iload_n 1, 1) := by decide +kernel
theorem dX10_ask_34 : decode cX10_ask 34 = .ok (.ifCond .lt 8, 3) := by decide +kernel
theorem dX10_ask_37 : decode cX10_ask 37 = .ok (.iload_n 1, 1) := by decide +kernel
theorem dX10_ask_38 : decode cX10_ask 38 = .ok (.iconst 1, 1) := by decide +kernel
theorem dX10_ask_39 : decode cX10_ask 39 = .ok (.if_icmp .le 5, 3) := by decide +kernel
theorem dX10_ask_42 : decode cX10_ask 42 = .ok (.iconst (-1), 1) := by decide +kernel
theorem dX10_ask_43 : decode cX10_ask 43 = .ok (.ireturn, 1) := by decide +kernel
theorem dX10_ask_44 : decode cX10_ask 44 = .ok (.aload_n 0, 1) := by decide +kernel
theorem dX10_ask_45 : decode cX10_ask 45 = .ok (.getfield 76, 3) := by decide +kernel
theorem dX10_ask_48 : decode cX10_ask 48 = .ok (.aload_n 0, 1) := by decide +kernel
theorem dX10_ask_49 : decode cX10_ask 49 = .ok (.getfield 37, 3) := by decide +kernel
theorem dX10_ask_52 : decode cX10_ask 52 = .ok (.getfield 101, 3) := by decide +kernel
theorem dX10_ask_55 : decode cX10_ask 55 = .ok (.iload_n 3, 1) := by decide +kernel
theorem dX10_ask_56 : decode cX10_ask 56 = .ok (.invokevirtual 327, 3) := by decide +kernel
theorem dX10_ask_59 : decode cX10_ask 59 = .ok (.istore 4, 2) := by decide +kernel
theorem dX10_ask_61 : decode cX10_ask 61 = .ok (.iload_n 1, 1) := by decide +kernel
theorem dX10_ask_62 : decode cX10_ask 62 = .ok (.ifCond .ne 8, 3) := by decide +kernel
theorem dX10_ask_65 : decode cX10_ask 65 = .ok (.iload 4, 2) := by decide +kernel
theorem dX10_ask_67 : decode cX10_ask 67 = .ok (.goto 20, 3) := by decide +kernel
theorem dX10_ask_70 : decode cX10_ask 70 = .ok (.aload_n 0, 1) := by decide +kernel
theorem dX10_ask_71 : decode cX10_ask 71 = .ok (.getfield 76, 3) := by decide +kernel
theorem dX10_ask_74 : decode cX10_ask 74 = .ok (.aload_n 0, 1) := by decide +kernel
theorem dX10_ask_75 : decode cX10_ask 75 = .ok (.getfield 37, 3) := by decide +kernel
theorem dX10_ask_78 : decode cX10_ask 78 = .ok (.getfield 101, 3) := by decide +kernel
theorem dX10_ask_81 : decode cX10_ask 81 = .ok (.iload 4, 2) := by decide +kernel
theorem dX10_ask_83 : decode cX10_ask 83 = .ok (.iload_n 3, 1) := by decide +kernel
theorem dX10_ask_84 : decode cX10_ask 84 = .ok (.invokevirtual 330, 3) := by decide +kernel
theorem dX10_ask_87 : decode cX10_ask 87 = .ok (.ireturn, 1) := by decide +kernel
theorem wd_1302 : (Cond.code ⟨"WebCourt", "ask", "(II)I"⟩ prog_1_method_49_code (5 : Nat) (Option.some FieldType.int)) ∈ gtb := gtb_c5 233 (by decide +kernel) rfl
set_option maxHeartbeats 4000000 in
set_option maxRecDepth 100000 in
theorem T_X10_ask (l : Launch) (D : va_G) (cy : Nat → ClassId) (a : Nat → Nat) (u : St) (hI_3_11 : fI u 3 11 = 0) (hR_0 : fR u 0 = a 3) (x1 : Int32) (x2 : Int32)  : Mi l D cy (cW cy a) yX10_ask (.code yX10_ask cX10_ask 5 (some .int)) (rmo 1 24) [.ref (a 0), .int x1, .int x2] u (fun (r : Int32) (u' : St) => (r = (-1)) ∧ (u' = u)) := by
  refine Mi.of (own := RX10) rfl (by decide) (Nat.le_of_ble_eq_true rfl) ?_
  intro p e s m below meth c A Q ls C hret hO hl
  obtain ⟨hx, hb, hml, hown, ht, hK, hA⟩ := id C
  have hl : lv_has ls 5 [(0, .ref (a 0)), (1, .int x1), (2, .int x2)] := hl
  refine lv_aload_n hx hb dX10_ask_0 rfl (lv_at hl 0 rfl) ?_
  refine gf_RX10_76 (v := .ref (a 39)) C hO 0 cW_0 rfl dX10_ask_1 ?_
  refine lv_aload_n hx hb dX10_ask_4 rfl (lv_at hl 0 rfl) ?_
  refine gf_RX10_37 (v := .ref (a 28)) C hO 0 cW_0 rfl dX10_ask_5 ?_
  refine gf_RX10_101 (v := .ref (a 3)) C hO 28 cW_28 (congrArg (fun z : Nat => some (Value.ref z)) hR_0) dX10_ask_8 ?_
  refine lv_iload_n hx hb dX10_ask_11 rfl (lv_at hl 2 rfl) ?_
  refine cVi (w := cW cy a) (As := [.ref (a 3), .int x2]) (rest := []) C hO (T_X3_fitting l D cy a _ (by exact hI_3_11) (x2)) (cwV 2 ht (gV wd_1267 wd_1268 wd_1269 wd_120 wd_1270) rfl rfl rfl hd_yX3_fitting ⟨Nat.le_of_ble_eq_true rfl, Nat.le_of_ble_eq_true rfl⟩) 39 rfl cW_39 rfl rfl hl.1 (Nat.le_of_ble_eq_true rfl) dX10_ask_12 rfl ⟨Nat.zero_le _, Nat.zero_le _⟩ (fun r1 u2 H locs hp3 hO => ?_)
  obtain ⟨hr1, hu2⟩ := hp3
  subst hr1
  rw [hu2] at hO
  refine lv_istore_n (lv' := [(3, .int 0), (0, .ref (a 0)), (1, .int x1), (2, .int x2)]) hx hb dX10_ask_15 rfl hl (by decide) rfl (fun ls hl => ?_)
  refine lv_iload_n hx hb dX10_ask_16 rfl (lv_at hl 0 rfl) ?_
  refine bt_eq (tgt := 42) (X := 0) hx hb dX10_ask_17 (by decide) rfl (by omega) ?_
  refine lv_iconst (v := (-1)) hx hb dX10_ask_42 (by decide) ?_
  refine hret _ _ _ _ _ _ dX10_ask_43 rfl ?_ hO
  exact ⟨rfl, rfl⟩
theorem dX10_copyRow_0 : decode cX10_copyRow 0 = .ok (.iconst 0, 1) := by decide +kernel
theorem dX10_copyRow_1 : decode cX10_copyRow 1 = .ok (.istore_n 2, 1) := by decide +kernel
theorem dX10_copyRow_2 : decode cX10_copyRow 2 = .ok (.iload_n 2, 1) := by decide +kernel
theorem dX10_copyRow_3 : decode cX10_copyRow 3 = .ok (.aload_n 0, 1) := by decide +kernel
theorem dX10_copyRow_4 : decode cX10_copyRow 4 = .ok (.arraylength, 1) := by decide +kernel
theorem dX10_copyRow_5 : decode cX10_copyRow 5 = .ok (.if_icmp .ge 21, 3) := by decide +kernel
theorem dX10_copyRow_8 : decode cX10_copyRow 8 = .ok (.iload_n 2, 1) := by decide +kernel
theorem dX10_copyRow_9 : decode cX10_copyRow 9 = .ok (.aload_n 1, 1) := by decide +kernel
theorem dX10_copyRow_10 : decode cX10_copyRow 10 = .ok (.arraylength, 1) := by decide +kernel
theorem dX10_copyRow_11 : decode cX10_copyRow 11 = .ok (.if_icmp .ge 15, 3) := by decide +kernel
theorem dX10_copyRow_14 : decode cX10_copyRow 14 = .ok (.aload_n 1, 1) := by decide +kernel
theorem dX10_copyRow_15 : decode cX10_copyRow 15 = .ok (.iload_n 2, 1) := by decide +kernel
theorem dX10_copyRow_16 : decode cX10_copyRow 16 = .ok (.aload_n 0, 1) := by decide +kernel
theorem dX10_copyRow_17 : decode cX10_copyRow 17 = .ok (.iload_n 2, 1) := by decide +kernel
theorem dX10_copyRow_18 : decode cX10_copyRow 18 = .ok (.iaload, 1) := by decide +kernel
theorem dX10_copyRow_19 : decode cX10_copyRow 19 = .ok (.iastore, 1) := by decide +kernel
theorem dX10_copyRow_20 : decode cX10_copyRow 20 = .ok (.iinc 2 1, 3) := by decide +kernel
theorem dX10_copyRow_23 : decode cX10_copyRow 23 = .ok (.goto (-21), 3) := by decide +kernel
theorem dX10_copyRow_26 : decode cX10_copyRow 26 = .ok (.return_, 1) := by decide +kernel
theorem wd_912 : (Cond.code ⟨"WebCourt", "copyRow", "([I[I)V"⟩ prog_1_method_54_code (3 : Nat) (Option.none : Option FieldType)) ∈ gtb := gtb_c4 83 (by decide +kernel) rfl
set_option maxHeartbeats 4000000 in
set_option maxRecDepth 100000 in
theorem T_X10_copyRow_out (l : Launch) (D : va_G) (cy : Nat → ClassId) (a : Nat → Nat) (u : St) (hA_29_1 : fA u 29 1 = 0) (k1 : Nat) (rk1 : k1 < 44) : Mv l D cy (cW cy a) yX10_copyRow (.code yX10_copyRow cX10_copyRow 3 none) (rmo 0 0) [.ref (a 29), .ref (a (47 + k1))] u (fun (u' : St) => fA u' 29 1 = 0) := by
  refine Mv.of (own := RX10) rfl (by decide) (Nat.le_of_ble_eq_true rfl) ?_
  intro p e s m below meth c A Q ls C hret hO hl
  obtain ⟨hx, hb, hml, hown, ht, hK, hA⟩ := id C
  have hl : lv_has ls 3 [(0, .ref (a 29)), (1, .ref (a (47 + k1)))] := hl
  refine lv_iconst (v := 0) hx hb dX10_copyRow_0 (by decide) ?_
  refine lv_istore_n (lv' := [(2, .int 0), (0, .ref (a 29)), (1, .ref (a (47 + k1)))]) hx hb dX10_copyRow_1 rfl hl (by decide) rfl (fun ls hl => ?_)
  have LP_2_u1 : ∀ (n : Nat) (u1 : St) (H : Heap) (locs : List Loc) (ls : Array Slot) (i_1 : Int32), Wo D A (cW cy a u1) s.heap H locs → lv_has ls 3 [(2, .int i_1), (0, .ref (a 29)), (1, .ref (a (47 + k1)))] → fA u1 29 1 = 0 → 0 ≤ i_1.toInt ∧ i_1.toInt ≤ 29 → 29 - i_1.toInt < (n : Int) → W p l e (rmo 0 0) s m [.ref (a 29), .ref (a (47 + k1))].toArray below meth c H locs 0 0 Q (F0 m 2 ls []) := by
    intro n
    induction n with
    | zero =>
      intro u1 H locs ls i_1 hO hl hA_29_1_u1 iv0_u1 hm_u1
      exact absurd hm_u1 (by omega)
    | succ n ih_u1 =>
      intro u1 H locs ls i_1 hO hl hA_29_1_u1 iv0_u1 hm_u1
      refine lv_iload_n hx hb dX10_copyRow_2 rfl (lv_at hl 0 rfl) ?_
      refine lv_aload_n hx hb dX10_copyRow_3 rfl (lv_at hl 1 rfl) ?_
      refine aLen (v := 29) C hO 29 1 cW_29 rfl rfl dX10_copyRow_4 ?_
      refine cs_ge (tgt := 26) (X := (i_1).toInt) (Y := 29) hx hb dX10_copyRow_5 (by decide) rfl rfl (fun c3 => ?_) (fun c3 => ?_)
      · refine hret _ _ _ _ _ dX10_copyRow_26 ?_ hO
        exact hA_29_1_u1
      · refine lv_iload_n hx hb dX10_copyRow_8 rfl (lv_at hl 0 rfl) ?_
        refine lv_aload_n hx hb dX10_copyRow_9 rfl (lv_at hl 2 rfl) ?_
        refine aLen (v := 29) C hO (47 + k1) 1 (cW_row rk1) rfl rfl dX10_copyRow_10 ?_
        refine cn_ge (X := (i_1).toInt) (Y := 29) hx hb dX10_copyRow_11 rfl rfl (by omega) ?_ (tgt := 26) (by decide)
        refine lv_aload_n hx hb dX10_copyRow_14 rfl (lv_at hl 2 rfl) ?_
        refine lv_iload_n hx hb dX10_copyRow_15 rfl (lv_at hl 0 rfl) ?_
        refine lv_aload_n hx hb dX10_copyRow_16 rfl (lv_at hl 1 rfl) ?_
        refine lv_iload_n hx hb dX10_copyRow_17 rfl (lv_at hl 0 rfl) ?_
        refine aI C hO 29 cW_29 (i_in (X := (i_1).toInt) rfl (by omega) (by omega)) dX10_copyRow_18 ?_
        refine lv_topi (fun w4 ew4 => ?_)
        refine aIs C hO (47 + k1) (cW_row rk1) (i_in (X := (i_1).toInt) rfl (by omega) (by omega)) (cW_srow rk1) dX10_copyRow_19 (fun H locs hO => ?_)
        have e5 : ((i_1 + 1)).toInt = (i_1).toInt + 1 := i_add rfl rfl (by omega)
        refine lv_iinc (v := (i_1 + 1)) (lv' := [(2, .int (i_1 + 1)), (0, .ref (a 29)), (1, .ref (a (47 + k1)))]) hx hb dX10_copyRow_20 hl (k := 0) rfl rfl (by decide) rfl (fun ls hl => ?_)
        refine lv_goto (tgt := 2) hx hb dX10_copyRow_23 (by decide) ?_
        exact ih_u1 _ _ _ _ ((i_1 + 1)) hO (lv_sub hl [0, 1, 2] rfl) (by exact hA_29_1_u1) (by first | decide | omega) (by first | decide | omega)
  exact LP_2_u1 2000 _ _ _ _ (0) hO (lv_sub hl [0, 1, 2] rfl) (by exact hA_29_1) (by first | decide | omega) (by first | decide | omega)
theorem dX10_image_0 : decode cX10_image 0 = .ok (.iload_n 1, 1) := by decide +kernel
theorem dX10_image_1 : decode cX10_image 1 = .ok (.ifCond .lt 8, 3) := by decide +kernel
theorem dX10_image_4 : decode cX10_image 4 = .ok (.iload_n 1, 1) := by decide +kernel
theorem dX10_image_5 : decode cX10_image 5 = .ok (.iconst 3, 1) := by decide +kernel
theorem dX10_image_6 : decode cX10_image 6 = .ok (.if_icmp .lt 5, 3) := by decide +kernel
theorem dX10_image_9 : decode cX10_image 9 = .ok (.iconst (-1), 1) := by decide +kernel
theorem dX10_image_10 : decode cX10_image 10 = .ok (.ireturn, 1) := by decide +kernel
theorem dX10_image_11 : decode cX10_image 11 = .ok (.aload_n 0, 1) := by decide +kernel
theorem dX10_image_12 : decode cX10_image 12 = .ok (.getfield 37, 3) := by decide +kernel
theorem dX10_image_15 : decode cX10_image 15 = .ok (.getfield 150, 3) := by decide +kernel
theorem dX10_image_18 : decode cX10_image 18 = .ok (.aload_n 0, 1) := by decide +kernel
theorem dX10_image_19 : decode cX10_image 19 = .ok (.getfield 82, 3) := by decide +kernel
theorem dX10_image_22 : decode cX10_image 22 = .ok (.iload_n 1, 1) := by decide +kernel
theorem dX10_image_23 : decode cX10_image 23 = .ok (.aaload, 1) := by decide +kernel
theorem dX10_image_24 : decode cX10_image 24 = .ok (.invokestatic 334, 3) := by decide +kernel
theorem dX10_image_27 : decode cX10_image 27 = .ok (.aload_n 0, 1) := by decide +kernel
theorem dX10_image_28 : decode cX10_image 28 = .ok (.dup, 1) := by decide +kernel
theorem dX10_image_29 : decode cX10_image 29 = .ok (.getfield 114, 3) := by decide +kernel
theorem dX10_image_32 : decode cX10_image 32 = .ok (.iconst 1, 1) := by decide +kernel
theorem dX10_image_33 : decode cX10_image 33 = .ok (.iload_n 1, 1) := by decide +kernel
theorem dX10_image_34 : decode cX10_image 34 = .ok (.ishl, 1) := by decide +kernel
theorem dX10_image_35 : decode cX10_image 35 = .ok (.ior, 1) := by decide +kernel
theorem dX10_image_36 : decode cX10_image 36 = .ok (.putfield 114, 3) := by decide +kernel
theorem dX10_image_39 : decode cX10_image 39 = .ok (.aload_n 0, 1) := by decide +kernel
theorem dX10_image_40 : decode cX10_image 40 = .ok (.getfield 37, 3) := by decide +kernel
theorem dX10_image_43 : decode cX10_image 43 = .ok (.getfield 150, 3) := by decide +kernel
theorem dX10_image_46 : decode cX10_image 46 = .ok (.iconst 1, 1) := by decide +kernel
theorem dX10_image_47 : decode cX10_image 47 = .ok (.iaload, 1) := by decide +kernel
theorem dX10_image_48 : decode cX10_image 48 = .ok (.ireturn, 1) := by decide +kernel
theorem wd_1316 : (Cond.code ⟨"WebCourt", "image", "(I)I"⟩ prog_1_method_50_code (2 : Nat) (Option.some FieldType.int)) ∈ gtb := gtb_c6 7 (by decide +kernel) rfl
theorem wd_476 : (Cond.fieldLink "WebCourt" (82 : Nat) "WebCourt" "boxes" "[[I") ∈ gtb := gtb_c2 127 (by decide +kernel) rfl
theorem gf_RX10_82 {p : Program} {l : Launch} {e : Env} {R : Room} {s : State} {m : MethodId} {args : Array Value} {below : List Frame} {meth : Method} {c : Code} {H : Heap} {locs : List Loc} {cells slots : Nat} {Q : State → Prop} {cc : ByteArray} {pc nL : Nat} {ls : Array Slot} {rest : List Value} {D : va_G} {cy : Nat → ClassId} {A : Nat → Prop} {ws : va_W} {b : Nat} {fs : List Value} {v : Value} (C : Cx p s m args c cc nL RX10 D cy A) (hO : Wo D A ws s.heap H locs) (q0 : Nat) (he : ws[q0]? = some (b, .inr (10, fs))) (hv : fs[8]? = some v) (hdg : decode cc pc = .ok (.getfield 82, 3)) (kk : W p l e R s m args below meth c H locs cells slots Q (F0 m (pc + 3) ls (v :: rest))) : W p l e R s m args below meth c H locs cells slots Q (F0 m pc ls (.ref b :: rest)) := gF (k := 8) C hO q0 he rfl inFX10 (by decide) wd_476 rfl hv hdg kk
theorem wd_1317 : (Cond.methodLink "WebCourt" (334 : Nat) ⟨"WebCourt", "copyRow", "([I[I)V"⟩) ∈ gtb := gtb_c6 8 (by decide +kernel) rfl
theorem wd_911 : (Cond.static ⟨"WebCourt", "copyRow", "([I[I)V"⟩) ∈ gtb := gtb_c4 82 (by decide +kernel) rfl
theorem hd_yX10_copyRow : yX10_copyRow.cls ≠ "java/lang/invoke/MethodHandle" ∧ yX10_copyRow.cls ≠ "java/lang/invoke/VarHandle" ∧ (parseMethodDescriptor yX10_copyRow.desc).map (fun d => d.parameters.length) = some 2 := by decide +kernel
theorem wd_479 : (Cond.fieldLink "WebCourt" (114 : Nat) "WebCourt" "boxesKept" "I") ∈ gtb := gtb_c2 130 (by decide +kernel) rfl
theorem gf_RX10_114 {p : Program} {l : Launch} {e : Env} {R : Room} {s : State} {m : MethodId} {args : Array Value} {below : List Frame} {meth : Method} {c : Code} {H : Heap} {locs : List Loc} {cells slots : Nat} {Q : State → Prop} {cc : ByteArray} {pc nL : Nat} {ls : Array Slot} {rest : List Value} {D : va_G} {cy : Nat → ClassId} {A : Nat → Prop} {ws : va_W} {b : Nat} {fs : List Value} {v : Value} (C : Cx p s m args c cc nL RX10 D cy A) (hO : Wo D A ws s.heap H locs) (q0 : Nat) (he : ws[q0]? = some (b, .inr (10, fs))) (hv : fs[11]? = some v) (hdg : decode cc pc = .ok (.getfield 114, 3)) (kk : W p l e R s m args below meth c H locs cells slots Q (F0 m (pc + 3) ls (v :: rest))) : W p l e R s m args below meth c H locs cells slots Q (F0 m pc ls (.ref b :: rest)) := gF (k := 11) C hO q0 he rfl inFX10 (by decide) wd_479 rfl hv hdg kk
theorem pf_RX10_114 {p : Program} {l : Launch} {e : Env} {R : Room} {s : State} {m : MethodId} {args : Array Value} {below : List Frame} {meth : Method} {c : Code} {H : Heap} {locs : List Loc} {cells slots : Nat} {Q : State → Prop} {cc : ByteArray} {pc nL : Nat} {ls : Array Slot} {rest : List Value} {D : va_G} {cy : Nat → ClassId} {A : Nat → Prop} {ws : va_W} {b : Nat} {fs : List Value} {v : Int32} {ws' : va_W} (C : Cx p s m args c cc nL RX10 D cy A) (hO : Wo D A ws s.heap H locs) (q0 : Nat) (he : ws[q0]? = some (b, .inr (10, fs))) (hlen : 11 < fs.length) (hw : ws.set q0 (b, .inr (10, fs.set 11 (.int v))) = ws') (hdg : decode cc pc = .ok (.putfield 114, 3)) (kk : ∀ (H : Heap) (locs : List Loc), Wo D A ws' s.heap H locs → W p l e R s m args below meth c H locs cells slots Q (F0 m (pc + 3) ls rest)) : W p l e R s m args below meth c H locs cells slots Q (F0 m pc ls (.int v :: .ref b :: rest)) := pF (k := 11) (ty := .int) C hO q0 he rfl inFX10 (by decide) wd_479 rfl tyX10 tyX10_ok nmX10 rfl (by decide +kernel) rfl rfl hlen hw hdg kk
set_option maxHeartbeats 4000000 in
set_option maxRecDepth 100000 in
theorem T_X10_image (l : Launch) (D : va_G) (cy : Nat → ClassId) (a : Nat → Nat) (u : St) (hA_29_1 : fA u 29 1 = 0) (x1 : Int32)  : Mi l D cy (cW cy a) yX10_image (.code yX10_image cX10_image 2 (some .int)) (rmo 1 22) [.ref (a 0), .int x1] u (fun (r : Int32) (u' : St) => r = q_image x1) := by
  refine Mi.of (own := RX10) rfl (by decide) (Nat.le_of_ble_eq_true rfl) ?_
  intro p e s m below meth c A Q ls C hret hO hl
  obtain ⟨hx, hb, hml, hown, ht, hK, hA⟩ := id C
  have hl : lv_has ls 2 [(0, .ref (a 0)), (1, .int x1)] := hl
  refine lv_iload_n hx hb dX10_image_0 rfl (lv_at hl 1 rfl) ?_
  refine bs_lt (tgt := 9) (X := (x1).toInt) hx hb dX10_image_1 (by decide) rfl (fun c1 => ?_) (fun c1 => ?_)
  · refine lv_iconst (v := (-1)) hx hb dX10_image_9 (by decide) ?_
    refine hret _ _ _ _ _ _ dX10_image_10 rfl ?_ hO
    exact (by unfold q_image; have z0 : (0 : Int32).toInt = 0 := rfl; have z1 : (-1 : Int32).toInt = -1 := rfl; split <;> first | rfl | (exact i32_eq.mpr (by omega)) | (exfalso; omega))
  · refine lv_iload_n hx hb dX10_image_4 rfl (lv_at hl 1 rfl) ?_
    refine lv_iconst (v := 3) hx hb dX10_image_5 (by decide) ?_
    refine cs_lt (tgt := 11) (X := (x1).toInt) (Y := 3) hx hb dX10_image_6 (by decide) rfl rfl (fun c2 => ?_) (fun c2 => ?_)
    · have c3 : (x1).toInt = 0 ∨ (x1).toInt = 1 ∨ (x1).toInt = 2 := by omega
      rcases c3 with c3 | c3 | c3
      · have ec3 : x1 = 0 := i32_eq.mpr (by rw [c3]; rfl)
        subst ec3
        refine lv_aload_n hx hb dX10_image_11 rfl (lv_at hl 0 rfl) ?_
        refine gf_RX10_37 (v := .ref (a 28)) C hO 0 cW_0 rfl dX10_image_12 ?_
        refine gf_RX10_150 (v := .ref (a 29)) C hO 28 cW_28 rfl dX10_image_15 ?_
        refine lv_aload_n hx hb dX10_image_18 rfl (lv_at hl 0 rfl) ?_
        refine gf_RX10_82 (v := .ref (a 45)) C hO 0 cW_0 rfl dX10_image_19 ?_
        refine lv_iload_n hx hb dX10_image_22 rfl (lv_at hl 1 rfl) ?_
        refine aII C hO 45 cW_45 (i_in (X := 0) rfl (by omega) (by omega)) dX10_image_23 ?_
        obtain ⟨k4, hk4⟩ : ∃ k : Nat, k = (0 : Int32).toNatClampNeg := ⟨_, rfl⟩
        have lk4 : k4 < 3 := by rw [hk4]; exact i_clt (X := 0) rfl (by omega) (by omega)
        refine tEv (y := .ref (a (47 + (41 + k4)))) (by rw [← hk4]; simp only [if_pos lk4, va_rf]; rw [show 88 + k4 = 47 + (41 + k4) by omega]) ?_
        have rk4 : (41 + k4) < 44 := by omega
        refine cSv (w := cW cy a) (As := [.ref (a 29), .ref (a (47 + (41 + k4)))]) (rest := []) C hO (T_X10_copyRow_out l D cy a _ (by exact hA_29_1) (41 + k4) rk4) (va_cwS 2 ht (gSS wd_1317 wd_911 wd_110 wd_912) rfl rfl rfl hd_yX10_copyRow ⟨Nat.le_of_ble_eq_true rfl, Nat.le_of_ble_eq_true rfl⟩)  rfl hl.1 (Nat.le_of_ble_eq_true rfl) dX10_image_24 rfl ⟨Nat.zero_le _, Nat.zero_le _⟩ (fun u6 H locs hp7 hO => ?_)
        have hA_29_1_u6 := hp7
        refine lv_aload_n hx hb dX10_image_27 rfl (lv_at hl 0 rfl) ?_
        refine lv_dup hx hb dX10_image_28 rfl ?_
        refine gf_RX10_114 (v := .int (fI u6 0 11)) C hO 0 cW_0 rfl dX10_image_29 ?_
        refine lv_iconst (v := 1) hx hb dX10_image_32 (by decide) ?_
        refine lv_iload_n hx hb dX10_image_33 rfl (lv_at hl 1 rfl) ?_
        refine lv_ishl hx hb dX10_image_34 ?_
        refine tE (y := 1) (by decide) ?_
        refine lv_ior hx hb dX10_image_35 ?_
        refine lv_topi (fun z8 ez8 => ?_)
        refine pf_RX10_114 C hO 0 cW_0 (Nat.le_of_ble_eq_true rfl) cW_s0_11 dX10_image_36 (fun H locs hO => ?_)
        refine lv_aload_n hx hb dX10_image_39 rfl (lv_at hl 0 rfl) ?_
        refine gf_RX10_37 (v := .ref (a 28)) C hO 0 cW_0 rfl dX10_image_40 ?_
        refine gf_RX10_150 (v := .ref (a 29)) C hO 28 cW_28 rfl dX10_image_43 ?_
        refine lv_iconst (v := 1) hx hb dX10_image_46 (by decide) ?_
        refine aI C hO 29 cW_29 (i_in (X := 1) rfl (by omega) (by omega)) dX10_image_47 ?_
        refine tE (y := 0) hA_29_1_u6 ?_
        refine hret _ _ _ _ _ _ dX10_image_48 rfl ?_ hO
        exact (by unfold q_image; have z0 : (0 : Int32).toInt = 0 := rfl; have z1 : (-1 : Int32).toInt = -1 := rfl; split <;> first | rfl | (exact i32_eq.mpr (by omega)) | (exfalso; omega))
      · have ec3 : x1 = 1 := i32_eq.mpr (by rw [c3]; rfl)
        subst ec3
        refine lv_aload_n hx hb dX10_image_11 rfl (lv_at hl 0 rfl) ?_
        refine gf_RX10_37 (v := .ref (a 28)) C hO 0 cW_0 rfl dX10_image_12 ?_
        refine gf_RX10_150 (v := .ref (a 29)) C hO 28 cW_28 rfl dX10_image_15 ?_
        refine lv_aload_n hx hb dX10_image_18 rfl (lv_at hl 0 rfl) ?_
        refine gf_RX10_82 (v := .ref (a 45)) C hO 0 cW_0 rfl dX10_image_19 ?_
        refine lv_iload_n hx hb dX10_image_22 rfl (lv_at hl 1 rfl) ?_
        refine aII C hO 45 cW_45 (i_in (X := 1) rfl (by omega) (by omega)) dX10_image_23 ?_
        obtain ⟨k9, hk9⟩ : ∃ k : Nat, k = (1 : Int32).toNatClampNeg := ⟨_, rfl⟩
        have lk9 : k9 < 3 := by rw [hk9]; exact i_clt (X := 1) rfl (by omega) (by omega)
        refine tEv (y := .ref (a (47 + (41 + k9)))) (by rw [← hk9]; simp only [if_pos lk9, va_rf]; rw [show 88 + k9 = 47 + (41 + k9) by omega]) ?_
        have rk9 : (41 + k9) < 44 := by omega
        refine cSv (w := cW cy a) (As := [.ref (a 29), .ref (a (47 + (41 + k9)))]) (rest := []) C hO (T_X10_copyRow_out l D cy a _ (by exact hA_29_1) (41 + k9) rk9) (va_cwS 2 ht (gSS wd_1317 wd_911 wd_110 wd_912) rfl rfl rfl hd_yX10_copyRow ⟨Nat.le_of_ble_eq_true rfl, Nat.le_of_ble_eq_true rfl⟩)  rfl hl.1 (Nat.le_of_ble_eq_true rfl) dX10_image_24 rfl ⟨Nat.zero_le _, Nat.zero_le _⟩ (fun u11 H locs hp12 hO => ?_)
        have hA_29_1_u11 := hp12
        refine lv_aload_n hx hb dX10_image_27 rfl (lv_at hl 0 rfl) ?_
        refine lv_dup hx hb dX10_image_28 rfl ?_
        refine gf_RX10_114 (v := .int (fI u11 0 11)) C hO 0 cW_0 rfl dX10_image_29 ?_
        refine lv_iconst (v := 1) hx hb dX10_image_32 (by decide) ?_
        refine lv_iload_n hx hb dX10_image_33 rfl (lv_at hl 1 rfl) ?_
        refine lv_ishl hx hb dX10_image_34 ?_
        refine tE (y := 2) (by decide) ?_
        refine lv_ior hx hb dX10_image_35 ?_
        refine lv_topi (fun z13 ez13 => ?_)
        refine pf_RX10_114 C hO 0 cW_0 (Nat.le_of_ble_eq_true rfl) cW_s0_11 dX10_image_36 (fun H locs hO => ?_)
        refine lv_aload_n hx hb dX10_image_39 rfl (lv_at hl 0 rfl) ?_
        refine gf_RX10_37 (v := .ref (a 28)) C hO 0 cW_0 rfl dX10_image_40 ?_
        refine gf_RX10_150 (v := .ref (a 29)) C hO 28 cW_28 rfl dX10_image_43 ?_
        refine lv_iconst (v := 1) hx hb dX10_image_46 (by decide) ?_
        refine aI C hO 29 cW_29 (i_in (X := 1) rfl (by omega) (by omega)) dX10_image_47 ?_
        refine tE (y := 0) hA_29_1_u11 ?_
        refine hret _ _ _ _ _ _ dX10_image_48 rfl ?_ hO
        exact (by unfold q_image; have z0 : (0 : Int32).toInt = 0 := rfl; have z1 : (-1 : Int32).toInt = -1 := rfl; split <;> first | rfl | (exact i32_eq.mpr (by omega)) | (exfalso; omega))
      · have ec3 : x1 = 2 := i32_eq.mpr (by rw [c3]; rfl)
        subst ec3
        refine lv_aload_n hx hb dX10_image_11 rfl (lv_at hl 0 rfl) ?_
        refine gf_RX10_37 (v := .ref (a 28)) C hO 0 cW_0 rfl dX10_image_12 ?_
        refine gf_RX10_150 (v := .ref (a 29)) C hO 28 cW_28 rfl dX10_image_15 ?_
        refine lv_aload_n hx hb dX10_image_18 rfl (lv_at hl 0 rfl) ?_
        refine gf_RX10_82 (v := .ref (a 45)) C hO 0 cW_0 rfl dX10_image_19 ?_
        refine lv_iload_n hx hb dX10_image_22 rfl (lv_at hl 1 rfl) ?_
        refine aII C hO 45 cW_45 (i_in (X := 2) rfl (by omega) (by omega)) dX10_image_23 ?_
        obtain ⟨k14, hk14⟩ : ∃ k : Nat, k = (2 : Int32).toNatClampNeg := ⟨_, rfl⟩
        have lk14 : k14 < 3 := by rw [hk14]; exact i_clt (X := 2) rfl (by omega) (by omega)
        refine tEv (y := .ref (a (47 + (41 + k14)))) (by rw [← hk14]; simp only [if_pos lk14, va_rf]; rw [show 88 + k14 = 47 + (41 + k14) by omega]) ?_
        have rk14 : (41 + k14) < 44 := by omega
        refine cSv (w := cW cy a) (As := [.ref (a 29), .ref (a (47 + (41 + k14)))]) (rest := []) C hO (T_X10_copyRow_out l D cy a _ (by exact hA_29_1) (41 + k14) rk14) (va_cwS 2 ht (gSS wd_1317 wd_911 wd_110 wd_912) rfl rfl rfl hd_yX10_copyRow ⟨Nat.le_of_ble_eq_true rfl, Nat.le_of_ble_eq_true rfl⟩)  rfl hl.1 (Nat.le_of_ble_eq_true rfl) dX10_image_24 rfl ⟨Nat.zero_le _, Nat.zero_le _⟩ (fun u16 H locs hp17 hO => ?_)
        have hA_29_1_u16 := hp17
        refine lv_aload_n hx hb dX10_image_27 rfl (lv_at hl 0 rfl) ?_
        refine lv_dup hx hb dX10_image_28 rfl ?_
        refine gf_RX10_114 (v := .int (fI u16 0 11)) C hO 0 cW_0 rfl dX10_image_29 ?_
        refine lv_iconst (v := 1) hx hb dX10_image_32 (by decide) ?_
        refine lv_iload_n hx hb dX10_image_33 rfl (lv_at hl 1 rfl) ?_
        refine lv_ishl hx hb dX10_image_34 ?_
        refine tE (y := 4) (by decide) ?_
        refine lv_ior hx hb dX10_image_35 ?_
        refine lv_topi (fun z18 ez18 => ?_)
        refine pf_RX10_114 C hO 0 cW_0 (Nat.le_of_ble_eq_true rfl) cW_s0_11 dX10_image_36 (fun H locs hO => ?_)
        refine lv_aload_n hx hb dX10_image_39 rfl (lv_at hl 0 rfl) ?_
        refine gf_RX10_37 (v := .ref (a 28)) C hO 0 cW_0 rfl dX10_image_40 ?_
        refine gf_RX10_150 (v := .ref (a 29)) C hO 28 cW_28 rfl dX10_image_43 ?_
        refine lv_iconst (v := 1) hx hb dX10_image_46 (by decide) ?_
        refine aI C hO 29 cW_29 (i_in (X := 1) rfl (by omega) (by omega)) dX10_image_47 ?_
        refine tE (y := 0) hA_29_1_u16 ?_
        refine hret _ _ _ _ _ _ dX10_image_48 rfl ?_ hO
        exact (by unfold q_image; have z0 : (0 : Int32).toInt = 0 := rfl; have z1 : (-1 : Int32).toInt = -1 := rfl; split <;> first | rfl | (exact i32_eq.mpr (by omega)) | (exfalso; omega))
    · refine lv_iconst (v := (-1)) hx hb dX10_image_9 (by decide) ?_
      refine hret _ _ _ _ _ _ dX10_image_10 rfl ?_ hO
      exact (by unfold q_image; have z0 : (0 : Int32).toInt = 0 := rfl; have z1 : (-1 : Int32).toInt = -1 := rfl; split <;> first | rfl | (exact i32_eq.mpr (by omega)) | (exfalso; omega))
theorem dX10_restore_0 : decode cX10_restore 0 = .ok (.iload_n 1, 1) := by decide +kernel
theorem dX10_restore_1 : decode cX10_restore 1 = .ok (.ifCond .lt 19, 3) := by decide +kernel
theorem dX10_restore_4 : decode cX10_restore 4 = .ok (.iload_n 1, 1) := by decide +kernel
theorem dX10_restore_5 : decode cX10_restore 5 = .ok (.iconst 3, 1) := by decide +kernel
theorem dX10_restore_6 : decode cX10_restore 6 = .ok (.if_icmp .ge 14, 3) := by decide +kernel
theorem dX10_restore_9 : decode cX10_restore 9 = .ok (.aload_n 0, 1) := by decide +kernel
theorem dX10_restore_10 : decode cX10_restore 10 = .ok (.getfield 114, 3) := by decide +kernel
theorem dX10_restore_13 : decode cX10_restore 13 = .ok (.iload_n 1, 1) := by decide +kernel
theorem dX10_restore_14 : decode cX10_restore 14 = .ok (.ishr, 1) := by decide +kernel
theorem dX10_restore_15 : decode cX10_restore 15 = .ok (.iconst 1, 1) := by decide +kernel
theorem dX10_restore_16 : decode cX10_restore 16 = .ok (.iand, 1) := by decide +kernel
theorem dX10_restore_17 : decode cX10_restore 17 = .ok (.ifCond .ne 5, 3) := by decide +kernel
theorem dX10_restore_20 : decode cX10_restore 20 = .ok (.iconst (-1), 1) := by decide +kernel
theorem dX10_restore_21 : decode cX10_restore 21 = .ok (.ireturn, 1) := by decide +kernel
theorem dX10_restore_22 : decode cX10_restore 22 = .ok (.aload_n 0, 1) := by decide +kernel
theorem dX10_restore_23 : decode cX10_restore 23 = .ok (.getfield 82, 3) := by decide +kernel
theorem dX10_restore_26 : decode cX10_restore 26 = .ok (.iload_n 1, 1) := by decide +kernel
theorem dX10_restore_27 : decode cX10_restore 27 = .ok (.aaload, 1) := by decide +kernel
theorem dX10_restore_28 : decode cX10_restore 28 = .ok (.aload_n 0, 1) := by decide +kernel
theorem dX10_restore_29 : decode cX10_restore 29 = .ok (.getfield 37, 3) := by decide +kernel
theorem dX10_restore_32 : decode cX10_restore 32 = .ok (.getfield 150, 3) := by decide +kernel
theorem dX10_restore_35 : decode cX10_restore 35 = .ok (.invokestatic 334, 3) := by decide +kernel
theorem dX10_restore_38 : decode cX10_restore 38 = .ok (.aload_n 0, 1) := by decide +kernel
theorem dX10_restore_39 : decode cX10_restore 39 = .ok (.getfield 44, 3) := by decide +kernel
theorem dX10_restore_42 : decode cX10_restore 42 = .ok (.invokevirtual 107, 3) := by decide +kernel
theorem dX10_restore_45 : decode cX10_restore 45 = .ok (.aload_n 0, 1) := by decide +kernel
theorem dX10_restore_46 : decode cX10_restore 46 = .ok (.getfield 37, 3) := by decide +kernel
theorem dX10_restore_49 : decode cX10_restore 49 = .ok (.getfield 150, 3) := by decide +kernel
theorem dX10_restore_52 : decode cX10_restore 52 = .ok (.iconst 1, 1) := by decide +kernel
theorem dX10_restore_53 : decode cX10_restore 53 = .ok (.iaload, 1) := by decide +kernel
theorem dX10_restore_54 : decode cX10_restore 54 = .ok (.ireturn, 1) := by decide +kernel
theorem wd_1321 : (Cond.code ⟨"WebCourt", "restore", "(I)I"⟩ prog_1_method_51_code (2 : Nat) (Option.some FieldType.int)) ∈ gtb := gtb_c6 12 (by decide +kernel) rfl
set_option maxHeartbeats 4000000 in
set_option maxRecDepth 100000 in
theorem T_X10_restore (l : Launch) (D : va_G) (cy : Nat → ClassId) (a : Nat → Nat) (u : St) (hI_0_11 : fI u 0 11 = 0) (x1 : Int32)  : Mi l D cy (cW cy a) yX10_restore (.code yX10_restore cX10_restore 2 (some .int)) (rmo 0 0) [.ref (a 0), .int x1] u (fun (r : Int32) (u' : St) => (r = (-1)) ∧ (u' = u)) := by
  refine Mi.of (own := RX10) rfl (by decide) (Nat.le_of_ble_eq_true rfl) ?_
  intro p e s m below meth c A Q ls C hret hO hl
  obtain ⟨hx, hb, hml, hown, ht, hK, hA⟩ := id C
  have hl : lv_has ls 2 [(0, .ref (a 0)), (1, .int x1)] := hl
  refine lv_iload_n hx hb dX10_restore_0 rfl (lv_at hl 1 rfl) ?_
  refine bs_lt (tgt := 20) (X := (x1).toInt) hx hb dX10_restore_1 (by decide) rfl (fun c1 => ?_) (fun c1 => ?_)
  · refine lv_iconst (v := (-1)) hx hb dX10_restore_20 (by decide) ?_
    refine hret _ _ _ _ _ _ dX10_restore_21 rfl ?_ hO
    exact ⟨rfl, rfl⟩
  · refine lv_iload_n hx hb dX10_restore_4 rfl (lv_at hl 1 rfl) ?_
    refine lv_iconst (v := 3) hx hb dX10_restore_5 (by decide) ?_
    refine cs_ge (tgt := 20) (X := (x1).toInt) (Y := 3) hx hb dX10_restore_6 (by decide) rfl rfl (fun c2 => ?_) (fun c2 => ?_)
    · refine lv_iconst (v := (-1)) hx hb dX10_restore_20 (by decide) ?_
      refine hret _ _ _ _ _ _ dX10_restore_21 rfl ?_ hO
      exact ⟨rfl, rfl⟩
    · have c3 : (x1).toInt = 0 ∨ (x1).toInt = 1 ∨ (x1).toInt = 2 := by omega
      rcases c3 with c3 | c3 | c3
      · have ec3 : x1 = 0 := i32_eq.mpr (by rw [c3]; rfl)
        subst ec3
        refine lv_aload_n hx hb dX10_restore_9 rfl (lv_at hl 0 rfl) ?_
        refine gf_RX10_114 (v := .int 0) C hO 0 cW_0 (congrArg (fun z : Int32 => some (Value.int z)) hI_0_11) dX10_restore_10 ?_
        refine lv_iload_n hx hb dX10_restore_13 rfl (lv_at hl 1 rfl) ?_
        refine lv_ishr hx hb dX10_restore_14 ?_
        refine tE (y := 0) (by decide) ?_
        refine lv_iconst (v := 1) hx hb dX10_restore_15 (by decide) ?_
        refine lv_iand hx hb dX10_restore_16 ?_
        refine tE (y := 0) (by decide) ?_
        refine bn_ne (X := 0) hx hb dX10_restore_17 rfl (by omega) ?_ (tgt := 22) (by decide)
        refine lv_iconst (v := (-1)) hx hb dX10_restore_20 (by decide) ?_
        refine hret _ _ _ _ _ _ dX10_restore_21 rfl ?_ hO
        exact ⟨rfl, rfl⟩
      · have ec3 : x1 = 1 := i32_eq.mpr (by rw [c3]; rfl)
        subst ec3
        refine lv_aload_n hx hb dX10_restore_9 rfl (lv_at hl 0 rfl) ?_
        refine gf_RX10_114 (v := .int 0) C hO 0 cW_0 (congrArg (fun z : Int32 => some (Value.int z)) hI_0_11) dX10_restore_10 ?_
        refine lv_iload_n hx hb dX10_restore_13 rfl (lv_at hl 1 rfl) ?_
        refine lv_ishr hx hb dX10_restore_14 ?_
        refine tE (y := 0) (by decide) ?_
        refine lv_iconst (v := 1) hx hb dX10_restore_15 (by decide) ?_
        refine lv_iand hx hb dX10_restore_16 ?_
        refine tE (y := 0) (by decide) ?_
        refine bn_ne (X := 0) hx hb dX10_restore_17 rfl (by omega) ?_ (tgt := 22) (by decide)
        refine lv_iconst (v := (-1)) hx hb dX10_restore_20 (by decide) ?_
        refine hret _ _ _ _ _ _ dX10_restore_21 rfl ?_ hO
        exact ⟨rfl, rfl⟩
      · have ec3 : x1 = 2 := i32_eq.mpr (by rw [c3]; rfl)
        subst ec3
        refine lv_aload_n hx hb dX10_restore_9 rfl (lv_at hl 0 rfl) ?_
        refine gf_RX10_114 (v := .int 0) C hO 0 cW_0 (congrArg (fun z : Int32 => some (Value.int z)) hI_0_11) dX10_restore_10 ?_
        refine lv_iload_n hx hb dX10_restore_13 rfl (lv_at hl 1 rfl) ?_
        refine lv_ishr hx hb dX10_restore_14 ?_
        refine tE (y := 0) (by decide) ?_
        refine lv_iconst (v := 1) hx hb dX10_restore_15 (by decide) ?_
        refine lv_iand hx hb dX10_restore_16 ?_
        refine tE (y := 0) (by decide) ?_
        refine bn_ne (X := 0) hx hb dX10_restore_17 rfl (by omega) ?_ (tgt := 22) (by decide)
        refine lv_iconst (v := (-1)) hx hb dX10_restore_20 (by decide) ?_
        refine hret _ _ _ _ _ _ dX10_restore_21 rfl ?_ hO
        exact ⟨rfl, rfl⟩
theorem dX10_aboutRest_0 : decode cX10_aboutRest 0 = .ok (.iload_n 1, 1) := by decide +kernel
theorem dX10_aboutRest_1 : decode cX10_aboutRest 1 = .ok (.tableswitch 102 8 14 #[43, 51, 59, 67, 75, 83, 97], 43) := by decide +kernel
theorem dX10_aboutRest_44 : decode cX10_aboutRest 44 = .ok (.aload_n 0, 1) := by decide +kernel
theorem dX10_aboutRest_45 : decode cX10_aboutRest 45 = .ok (.getfield 44, 3) := by decide +kernel
theorem dX10_aboutRest_48 : decode cX10_aboutRest 48 = .ok (.getfield 344, 3) := by decide +kernel
theorem dX10_aboutRest_51 : decode cX10_aboutRest 51 = .ok (.ireturn, 1) := by decide +kernel
theorem dX10_aboutRest_52 : decode cX10_aboutRest 52 = .ok (.aload_n 0, 1) := by decide +kernel
theorem dX10_aboutRest_53 : decode cX10_aboutRest 53 = .ok (.getfield 44, 3) := by decide +kernel
theorem dX10_aboutRest_56 : decode cX10_aboutRest 56 = .ok (.getfield 347, 3) := by decide +kernel
theorem dX10_aboutRest_59 : decode cX10_aboutRest 59 = .ok (.ireturn, 1) := by decide +kernel
theorem dX10_aboutRest_60 : decode cX10_aboutRest 60 = .ok (.aload_n 0, 1) := by decide +kernel
theorem dX10_aboutRest_61 : decode cX10_aboutRest 61 = .ok (.getfield 76, 3) := by decide +kernel
theorem dX10_aboutRest_64 : decode cX10_aboutRest 64 = .ok (.getfield 350, 3) := by decide +kernel
theorem dX10_aboutRest_67 : decode cX10_aboutRest 67 = .ok (.ireturn, 1) := by decide +kernel
theorem dX10_aboutRest_68 : decode cX10_aboutRest 68 = .ok (.aload_n 0, 1) := by decide +kernel
theorem dX10_aboutRest_69 : decode cX10_aboutRest 69 = .ok (.getfield 76, 3) := by decide +kernel
theorem dX10_aboutRest_72 : decode cX10_aboutRest 72 = .ok (.getfield 353, 3) := by decide +kernel
theorem dX10_aboutRest_75 : decode cX10_aboutRest 75 = .ok (.ireturn, 1) := by decide +kernel
theorem dX10_aboutRest_76 : decode cX10_aboutRest 76 = .ok (.aload_n 0, 1) := by decide +kernel
theorem dX10_aboutRest_77 : decode cX10_aboutRest 77 = .ok (.getfield 12, 3) := by decide +kernel
theorem dX10_aboutRest_80 : decode cX10_aboutRest 80 = .ok (.getfield 89, 3) := by decide +kernel
theorem dX10_aboutRest_83 : decode cX10_aboutRest 83 = .ok (.ireturn, 1) := by decide +kernel
theorem dX10_aboutRest_84 : decode cX10_aboutRest 84 = .ok (.aload_n 0, 1) := by decide +kernel
theorem dX10_aboutRest_85 : decode cX10_aboutRest 85 = .ok (.getfield 37, 3) := by decide +kernel
theorem dX10_aboutRest_88 : decode cX10_aboutRest 88 = .ok (.getfield 101, 3) := by decide +kernel
theorem dX10_aboutRest_91 : decode cX10_aboutRest 91 = .ok (.getfield 356, 3) := by decide +kernel
theorem dX10_aboutRest_94 : decode cX10_aboutRest 94 = .ok (.getfield 360, 3) := by decide +kernel
theorem dX10_aboutRest_97 : decode cX10_aboutRest 97 = .ok (.ireturn, 1) := by decide +kernel
theorem dX10_aboutRest_98 : decode cX10_aboutRest 98 = .ok (.aload_n 0, 1) := by decide +kernel
theorem dX10_aboutRest_99 : decode cX10_aboutRest 99 = .ok (.getfield 111, 3) := by decide +kernel
theorem dX10_aboutRest_102 : decode cX10_aboutRest 102 = .ok (.ireturn, 1) := by decide +kernel
theorem dX10_aboutRest_103 : decode cX10_aboutRest 103 = .ok (.iconst (-1), 1) := by decide +kernel
theorem dX10_aboutRest_104 : decode cX10_aboutRest 104 = .ok (.ireturn, 1) := by decide +kernel
theorem wd_1329 : (Cond.code ⟨"WebCourt", "aboutRest", "(I)I"⟩ prog_1_method_53_code (2 : Nat) (Option.some FieldType.int)) ∈ gtb := gtb_c6 20 (by decide +kernel) rfl
theorem wd_379 : (Cond.fieldLink "WebCourt" (344 : Nat) "WebCourt$Acts" "done" "I") ∈ gtb := gtb_c2 30 (by decide +kernel) rfl
theorem gf_RX10_344 {p : Program} {l : Launch} {e : Env} {R : Room} {s : State} {m : MethodId} {args : Array Value} {below : List Frame} {meth : Method} {c : Code} {H : Heap} {locs : List Loc} {cells slots : Nat} {Q : State → Prop} {cc : ByteArray} {pc nL : Nat} {ls : Array Slot} {rest : List Value} {D : va_G} {cy : Nat → ClassId} {A : Nat → Prop} {ws : va_W} {b : Nat} {fs : List Value} {v : Value} (C : Cx p s m args c cc nL RX10 D cy A) (hO : Wo D A ws s.heap H locs) (q0 : Nat) (he : ws[q0]? = some (b, .inr (0, fs))) (hv : fs[2]? = some v) (hdg : decode cc pc = .ok (.getfield 344, 3)) (kk : W p l e R s m args below meth c H locs cells slots Q (F0 m (pc + 3) ls (v :: rest))) : W p l e R s m args below meth c H locs cells slots Q (F0 m pc ls (.ref b :: rest)) := gF (k := 2) C hO q0 he rfl inFX0 (by decide) wd_379 rfl hv hdg kk
theorem wd_381 : (Cond.fieldLink "WebCourt" (347 : Nat) "WebCourt$Acts" "undone" "I") ∈ gtb := gtb_c2 32 (by decide +kernel) rfl
theorem gf_RX10_347 {p : Program} {l : Launch} {e : Env} {R : Room} {s : State} {m : MethodId} {args : Array Value} {below : List Frame} {meth : Method} {c : Code} {H : Heap} {locs : List Loc} {cells slots : Nat} {Q : State → Prop} {cc : ByteArray} {pc nL : Nat} {ls : Array Slot} {rest : List Value} {D : va_G} {cy : Nat → ClassId} {A : Nat → Prop} {ws : va_W} {b : Nat} {fs : List Value} {v : Value} (C : Cx p s m args c cc nL RX10 D cy A) (hO : Wo D A ws s.heap H locs) (q0 : Nat) (he : ws[q0]? = some (b, .inr (0, fs))) (hv : fs[3]? = some v) (hdg : decode cc pc = .ok (.getfield 347, 3)) (kk : W p l e R s m args below meth c H locs cells slots Q (F0 m (pc + 3) ls (v :: rest))) : W p l e R s m args below meth c H locs cells slots Q (F0 m pc ls (.ref b :: rest)) := gF (k := 3) C hO q0 he rfl inFX0 (by decide) wd_381 rfl hv hdg kk
theorem wd_448 : (Cond.fieldLink "WebCourt" (350 : Nat) "WebCourt$Hearsay" "count" "I") ∈ gtb := gtb_c2 99 (by decide +kernel) rfl
theorem gf_RX10_350 {p : Program} {l : Launch} {e : Env} {R : Room} {s : State} {m : MethodId} {args : Array Value} {below : List Frame} {meth : Method} {c : Code} {H : Heap} {locs : List Loc} {cells slots : Nat} {Q : State → Prop} {cc : ByteArray} {pc nL : Nat} {ls : Array Slot} {rest : List Value} {D : va_G} {cy : Nat → ClassId} {A : Nat → Prop} {ws : va_W} {b : Nat} {fs : List Value} {v : Value} (C : Cx p s m args c cc nL RX10 D cy A) (hO : Wo D A ws s.heap H locs) (q0 : Nat) (he : ws[q0]? = some (b, .inr (3, fs))) (hv : fs[5]? = some v) (hdg : decode cc pc = .ok (.getfield 350, 3)) (kk : W p l e R s m args below meth c H locs cells slots Q (F0 m (pc + 3) ls (v :: rest))) : W p l e R s m args below meth c H locs cells slots Q (F0 m pc ls (.ref b :: rest)) := gF (k := 5) C hO q0 he rfl inFX3 (by decide) wd_448 rfl hv hdg kk
theorem wd_450 : (Cond.fieldLink "WebCourt" (353 : Nat) "WebCourt$Hearsay" "time" "I") ∈ gtb := gtb_c2 101 (by decide +kernel) rfl
theorem gf_RX10_353 {p : Program} {l : Launch} {e : Env} {R : Room} {s : State} {m : MethodId} {args : Array Value} {below : List Frame} {meth : Method} {c : Code} {H : Heap} {locs : List Loc} {cells slots : Nat} {Q : State → Prop} {cc : ByteArray} {pc nL : Nat} {ls : Array Slot} {rest : List Value} {D : va_G} {cy : Nat → ClassId} {A : Nat → Prop} {ws : va_W} {b : Nat} {fs : List Value} {v : Value} (C : Cx p s m args c cc nL RX10 D cy A) (hO : Wo D A ws s.heap H locs) (q0 : Nat) (he : ws[q0]? = some (b, .inr (3, fs))) (hv : fs[6]? = some v) (hdg : decode cc pc = .ok (.getfield 353, 3)) (kk : W p l e R s m args below meth c H locs cells slots Q (F0 m (pc + 3) ls (v :: rest))) : W p l e R s m args below meth c H locs cells slots Q (F0 m pc ls (.ref b :: rest)) := gF (k := 6) C hO q0 he rfl inFX3 (by decide) wd_450 rfl hv hdg kk
theorem wd_468 : (Cond.fieldLink "WebCourt" (12 : Nat) "WebCourt" "tape" "LWebCourt$Tape;") ∈ gtb := gtb_c2 119 (by decide +kernel) rfl
theorem gf_RX10_12 {p : Program} {l : Launch} {e : Env} {R : Room} {s : State} {m : MethodId} {args : Array Value} {below : List Frame} {meth : Method} {c : Code} {H : Heap} {locs : List Loc} {cells slots : Nat} {Q : State → Prop} {cc : ByteArray} {pc nL : Nat} {ls : Array Slot} {rest : List Value} {D : va_G} {cy : Nat → ClassId} {A : Nat → Prop} {ws : va_W} {b : Nat} {fs : List Value} {v : Value} (C : Cx p s m args c cc nL RX10 D cy A) (hO : Wo D A ws s.heap H locs) (q0 : Nat) (he : ws[q0]? = some (b, .inr (10, fs))) (hv : fs[0]? = some v) (hdg : decode cc pc = .ok (.getfield 12, 3)) (kk : W p l e R s m args below meth c H locs cells slots Q (F0 m (pc + 3) ls (v :: rest))) : W p l e R s m args below meth c H locs cells slots Q (F0 m pc ls (.ref b :: rest)) := gF (k := 0) C hO q0 he rfl inFX10 (by decide) wd_468 rfl hv hdg kk
theorem wd_144 : (Cond.fieldLink "WebCourt" (89 : Nat) "WebCourt$Tape" "length" "I") ∈ gtb := gtb_c1 35 (by decide +kernel) rfl
theorem wd_155 : (Cond.laysFinal "WebCourt$Tape" "WebCourt$Tape" "bytes" "[B") ∈ gtb := gtb_c1 46 (by decide +kernel) rfl
theorem wd_157 : (Cond.lays "WebCourt$Tape" "WebCourt$Tape" "length" "I") ∈ gtb := gtb_c1 48 (by decide +kernel) rfl
theorem wd_159 : (Cond.lays "WebCourt$Tape" "WebCourt$Tape" "next" "I") ∈ gtb := gtb_c1 50 (by decide +kernel) rfl
theorem wd_161 : (Cond.lays "WebCourt$Tape" "WebCourt$Tape" "start" "I") ∈ gtb := gtb_c1 52 (by decide +kernel) rfl
theorem wd_163 : (Cond.lays "WebCourt$Tape" "WebCourt$Tape" "kind" "I") ∈ gtb := gtb_c1 54 (by decide +kernel) rfl
theorem wd_165 : (Cond.lays "WebCourt$Tape" "WebCourt$Tape" "word" "J") ∈ gtb := gtb_c1 56 (by decide +kernel) rfl
theorem wd_167 : (Cond.lays "WebCourt$Tape" "WebCourt$Tape" "number" "I") ∈ gtb := gtb_c1 58 (by decide +kernel) rfl
theorem inFX7 : ∀ w ∈ u_ws RX7 TX7 7, w ∈ gtb := by
  show ∀ w ∈ [u_lay RX7 TX7 0, u_lay RX7 TX7 1, u_lay RX7 TX7 2, u_lay RX7 TX7 3, u_lay RX7 TX7 4, u_lay RX7 TX7 5, u_lay RX7 TX7 6], w ∈ gtb
  exact List.forall_mem_cons.mpr ⟨wd_155, List.forall_mem_cons.mpr ⟨wd_157, List.forall_mem_cons.mpr ⟨wd_159, List.forall_mem_cons.mpr ⟨wd_161, List.forall_mem_cons.mpr ⟨wd_163, List.forall_mem_cons.mpr ⟨wd_165, List.forall_mem_cons.mpr ⟨wd_167, fun _ h => absurd h List.not_mem_nil⟩⟩⟩⟩⟩⟩⟩
theorem gf_RX10_89 {p : Program} {l : Launch} {e : Env} {R : Room} {s : State} {m : MethodId} {args : Array Value} {below : List Frame} {meth : Method} {c : Code} {H : Heap} {locs : List Loc} {cells slots : Nat} {Q : State → Prop} {cc : ByteArray} {pc nL : Nat} {ls : Array Slot} {rest : List Value} {D : va_G} {cy : Nat → ClassId} {A : Nat → Prop} {ws : va_W} {b : Nat} {fs : List Value} {v : Value} (C : Cx p s m args c cc nL RX10 D cy A) (hO : Wo D A ws s.heap H locs) (q0 : Nat) (he : ws[q0]? = some (b, .inr (7, fs))) (hv : fs[1]? = some v) (hdg : decode cc pc = .ok (.getfield 89, 3)) (kk : W p l e R s m args below meth c H locs cells slots Q (F0 m (pc + 3) ls (v :: rest))) : W p l e R s m args below meth c H locs cells slots Q (F0 m pc ls (.ref b :: rest)) := gF (k := 1) C hO q0 he rfl inFX7 (by decide) wd_144 rfl hv hdg kk
theorem wd_250 : (Cond.fieldLink "WebCourt" (356 : Nat) "WebCourt$Web" "law" "LWebCourt$Law;") ∈ gtb := gtb_c1 141 (by decide +kernel) rfl
theorem gf_RX10_356 {p : Program} {l : Launch} {e : Env} {R : Room} {s : State} {m : MethodId} {args : Array Value} {below : List Frame} {meth : Method} {c : Code} {H : Heap} {locs : List Loc} {cells slots : Nat} {Q : State → Prop} {cc : ByteArray} {pc nL : Nat} {ls : Array Slot} {rest : List Value} {D : va_G} {cy : Nat → ClassId} {A : Nat → Prop} {ws : va_W} {b : Nat} {fs : List Value} {v : Value} (C : Cx p s m args c cc nL RX10 D cy A) (hO : Wo D A ws s.heap H locs) (q0 : Nat) (he : ws[q0]? = some (b, .inr (9, fs))) (hv : fs[8]? = some v) (hdg : decode cc pc = .ok (.getfield 356, 3)) (kk : W p l e R s m args below meth c H locs cells slots Q (F0 m (pc + 3) ls (v :: rest))) : W p l e R s m args below meth c H locs cells slots Q (F0 m pc ls (.ref b :: rest)) := gF (k := 8) C hO q0 he rfl inFX9 (by decide) wd_250 rfl hv hdg kk
theorem wd_189 : (Cond.fieldLink "WebCourt" (360 : Nat) "WebCourt$Law" "units" "I") ∈ gtb := gtb_c1 80 (by decide +kernel) rfl
theorem wd_196 : (Cond.laysFinal "WebCourt$Law" "WebCourt$Law" "codes" "[I") ∈ gtb := gtb_c1 87 (by decide +kernel) rfl
theorem wd_198 : (Cond.laysFinal "WebCourt$Law" "WebCourt$Law" "stack" "[I") ∈ gtb := gtb_c1 89 (by decide +kernel) rfl
theorem wd_200 : (Cond.lays "WebCourt$Law" "WebCourt$Law" "length" "I") ∈ gtb := gtb_c1 91 (by decide +kernel) rfl
theorem wd_202 : (Cond.lays "WebCourt$Law" "WebCourt$Law" "top" "I") ∈ gtb := gtb_c1 93 (by decide +kernel) rfl
theorem wd_204 : (Cond.lays "WebCourt$Law" "WebCourt$Law" "units" "I") ∈ gtb := gtb_c1 95 (by decide +kernel) rfl
theorem wd_206 : (Cond.lays "WebCourt$Law" "WebCourt$Law" "pleads" "I") ∈ gtb := gtb_c1 97 (by decide +kernel) rfl
theorem wd_208 : (Cond.lays "WebCourt$Law" "WebCourt$Law" "many" "I") ∈ gtb := gtb_c1 99 (by decide +kernel) rfl
theorem wd_210 : (Cond.lays "WebCourt$Law" "WebCourt$Law" "before" "I") ∈ gtb := gtb_c1 101 (by decide +kernel) rfl
theorem wd_212 : (Cond.lays "WebCourt$Law" "WebCourt$Law" "stays" "I") ∈ gtb := gtb_c1 103 (by decide +kernel) rfl
theorem wd_214 : (Cond.lays "WebCourt$Law" "WebCourt$Law" "kin" "I") ∈ gtb := gtb_c1 105 (by decide +kernel) rfl
theorem wd_216 : (Cond.lays "WebCourt$Law" "WebCourt$Law" "hour" "I") ∈ gtb := gtb_c1 107 (by decide +kernel) rfl
theorem inFX4 : ∀ w ∈ u_ws RX4 TX4 11, w ∈ gtb := by
  show ∀ w ∈ [u_lay RX4 TX4 0, u_lay RX4 TX4 1, u_lay RX4 TX4 2, u_lay RX4 TX4 3, u_lay RX4 TX4 4, u_lay RX4 TX4 5, u_lay RX4 TX4 6, u_lay RX4 TX4 7, u_lay RX4 TX4 8, u_lay RX4 TX4 9, u_lay RX4 TX4 10], w ∈ gtb
  exact List.forall_mem_cons.mpr ⟨wd_196, List.forall_mem_cons.mpr ⟨wd_198, List.forall_mem_cons.mpr ⟨wd_200, List.forall_mem_cons.mpr ⟨wd_202, List.forall_mem_cons.mpr ⟨wd_204, List.forall_mem_cons.mpr ⟨wd_206, List.forall_mem_cons.mpr ⟨wd_208, List.forall_mem_cons.mpr ⟨wd_210, List.forall_mem_cons.mpr ⟨wd_212, List.forall_mem_cons.mpr ⟨wd_214, List.forall_mem_cons.mpr ⟨wd_216, fun _ h => absurd h List.not_mem_nil⟩⟩⟩⟩⟩⟩⟩⟩⟩⟩⟩
theorem gf_RX10_360 {p : Program} {l : Launch} {e : Env} {R : Room} {s : State} {m : MethodId} {args : Array Value} {below : List Frame} {meth : Method} {c : Code} {H : Heap} {locs : List Loc} {cells slots : Nat} {Q : State → Prop} {cc : ByteArray} {pc nL : Nat} {ls : Array Slot} {rest : List Value} {D : va_G} {cy : Nat → ClassId} {A : Nat → Prop} {ws : va_W} {b : Nat} {fs : List Value} {v : Value} (C : Cx p s m args c cc nL RX10 D cy A) (hO : Wo D A ws s.heap H locs) (q0 : Nat) (he : ws[q0]? = some (b, .inr (4, fs))) (hv : fs[4]? = some v) (hdg : decode cc pc = .ok (.getfield 360, 3)) (kk : W p l e R s m args below meth c H locs cells slots Q (F0 m (pc + 3) ls (v :: rest))) : W p l e R s m args below meth c H locs cells slots Q (F0 m pc ls (.ref b :: rest)) := gF (k := 4) C hO q0 he rfl inFX4 (by decide) wd_189 rfl hv hdg kk
set_option maxHeartbeats 4000000 in
set_option maxRecDepth 100000 in
theorem T_X10_aboutRest (l : Launch) (D : va_G) (cy : Nat → ClassId) (a : Nat → Nat) (u : St) (hI_0_10 : fI u 0 10 = 0) (hI_1_1 : fI u 1 1 = 0) (hI_12_4 : fI u 12 4 = 0) (hI_30_2 : fI u 30 2 = 0) (hI_30_3 : fI u 30 3 = 0) (hI_39_5 : fI u 39 5 = 0) (hI_39_6 : fI u 39 6 = 0) (hR_0 : fR u 0 = a 3) (x1 : Int32)  : Mi l D cy (cW cy a) yX10_aboutRest (.code yX10_aboutRest cX10_aboutRest 2 (some .int)) (rmo 0 0) [.ref (a 0), .int x1] u (fun (r : Int32) (u' : St) => (r = q_rest x1) ∧ (u' = u)) := by
  refine Mi.of (own := RX10) rfl (by decide) (Nat.le_of_ble_eq_true rfl) ?_
  intro p e s m below meth c A Q ls C hret hO hl
  obtain ⟨hx, hb, hml, hown, ht, hK, hA⟩ := id C
  have hl : lv_has ls 2 [(0, .ref (a 0)), (1, .int x1)] := hl
  refine lv_iload_n hx hb dX10_aboutRest_0 rfl (lv_at hl 1 rfl) ?_
  have c1 : ((x1).toInt < 8 ∨ 14 < (x1).toInt) ∨ (x1).toInt = 8 ∨ (x1).toInt = 9 ∨ (x1).toInt = 10 ∨ (x1).toInt = 11 ∨ (x1).toInt = 12 ∨ (x1).toInt = 13 ∨ (x1).toInt = 14 := by omega
  rcases c1 with c1 | c1 | c1 | c1 | c1 | c1 | c1 | c1
  · refine lv_tableOut (tgt := 103) hx hb dX10_aboutRest_1 (by rw [show x1.toInt = (x1).toInt from rfl]; exact c1) (by decide) ?_
    refine lv_iconst (v := (-1)) hx hb dX10_aboutRest_103 (by decide) ?_
    refine hret _ _ _ _ _ _ dX10_aboutRest_104 rfl ?_ hO
    exact ⟨(by unfold q_rest; have z0 : (0 : Int32).toInt = 0 := rfl; have z1 : (-1 : Int32).toInt = -1 := rfl; split <;> first | rfl | (exact i32_eq.mpr (by omega)) | (exfalso; omega)), rfl⟩
  · refine lv_tableIn (tgt := 44) hx hb dX10_aboutRest_1 (by rw [c1]; decide) (by rw [c1]; decide) (by rw [c1]; rfl) (by decide) ?_
    refine lv_aload_n hx hb dX10_aboutRest_44 rfl (lv_at hl 0 rfl) ?_
    refine gf_RX10_44 (v := .ref (a 30)) C hO 0 cW_0 rfl dX10_aboutRest_45 ?_
    refine gf_RX10_344 (v := .int 0) C hO 30 cW_30 (congrArg (fun z : Int32 => some (Value.int z)) hI_30_2) dX10_aboutRest_48 ?_
    refine hret _ _ _ _ _ _ dX10_aboutRest_51 rfl ?_ hO
    exact ⟨(by unfold q_rest; have z0 : (0 : Int32).toInt = 0 := rfl; have z1 : (-1 : Int32).toInt = -1 := rfl; split <;> first | rfl | (exact i32_eq.mpr (by omega)) | (exfalso; omega)), rfl⟩
  · refine lv_tableIn (tgt := 52) hx hb dX10_aboutRest_1 (by rw [c1]; decide) (by rw [c1]; decide) (by rw [c1]; rfl) (by decide) ?_
    refine lv_aload_n hx hb dX10_aboutRest_52 rfl (lv_at hl 0 rfl) ?_
    refine gf_RX10_44 (v := .ref (a 30)) C hO 0 cW_0 rfl dX10_aboutRest_53 ?_
    refine gf_RX10_347 (v := .int 0) C hO 30 cW_30 (congrArg (fun z : Int32 => some (Value.int z)) hI_30_3) dX10_aboutRest_56 ?_
    refine hret _ _ _ _ _ _ dX10_aboutRest_59 rfl ?_ hO
    exact ⟨(by unfold q_rest; have z0 : (0 : Int32).toInt = 0 := rfl; have z1 : (-1 : Int32).toInt = -1 := rfl; split <;> first | rfl | (exact i32_eq.mpr (by omega)) | (exfalso; omega)), rfl⟩
  · refine lv_tableIn (tgt := 60) hx hb dX10_aboutRest_1 (by rw [c1]; decide) (by rw [c1]; decide) (by rw [c1]; rfl) (by decide) ?_
    refine lv_aload_n hx hb dX10_aboutRest_60 rfl (lv_at hl 0 rfl) ?_
    refine gf_RX10_76 (v := .ref (a 39)) C hO 0 cW_0 rfl dX10_aboutRest_61 ?_
    refine gf_RX10_350 (v := .int 0) C hO 39 cW_39 (congrArg (fun z : Int32 => some (Value.int z)) hI_39_5) dX10_aboutRest_64 ?_
    refine hret _ _ _ _ _ _ dX10_aboutRest_67 rfl ?_ hO
    exact ⟨(by unfold q_rest; have z0 : (0 : Int32).toInt = 0 := rfl; have z1 : (-1 : Int32).toInt = -1 := rfl; split <;> first | rfl | (exact i32_eq.mpr (by omega)) | (exfalso; omega)), rfl⟩
  · refine lv_tableIn (tgt := 68) hx hb dX10_aboutRest_1 (by rw [c1]; decide) (by rw [c1]; decide) (by rw [c1]; rfl) (by decide) ?_
    refine lv_aload_n hx hb dX10_aboutRest_68 rfl (lv_at hl 0 rfl) ?_
    refine gf_RX10_76 (v := .ref (a 39)) C hO 0 cW_0 rfl dX10_aboutRest_69 ?_
    refine gf_RX10_353 (v := .int 0) C hO 39 cW_39 (congrArg (fun z : Int32 => some (Value.int z)) hI_39_6) dX10_aboutRest_72 ?_
    refine hret _ _ _ _ _ _ dX10_aboutRest_75 rfl ?_ hO
    exact ⟨(by unfold q_rest; have z0 : (0 : Int32).toInt = 0 := rfl; have z1 : (-1 : Int32).toInt = -1 := rfl; split <;> first | rfl | (exact i32_eq.mpr (by omega)) | (exfalso; omega)), rfl⟩
  · refine lv_tableIn (tgt := 76) hx hb dX10_aboutRest_1 (by rw [c1]; decide) (by rw [c1]; decide) (by rw [c1]; rfl) (by decide) ?_
    refine lv_aload_n hx hb dX10_aboutRest_76 rfl (lv_at hl 0 rfl) ?_
    refine gf_RX10_12 (v := .ref (a 1)) C hO 0 cW_0 rfl dX10_aboutRest_77 ?_
    refine gf_RX10_89 (v := .int 0) C hO 1 cW_1 (congrArg (fun z : Int32 => some (Value.int z)) hI_1_1) dX10_aboutRest_80 ?_
    refine hret _ _ _ _ _ _ dX10_aboutRest_83 rfl ?_ hO
    exact ⟨(by unfold q_rest; have z0 : (0 : Int32).toInt = 0 := rfl; have z1 : (-1 : Int32).toInt = -1 := rfl; split <;> first | rfl | (exact i32_eq.mpr (by omega)) | (exfalso; omega)), rfl⟩
  · refine lv_tableIn (tgt := 84) hx hb dX10_aboutRest_1 (by rw [c1]; decide) (by rw [c1]; decide) (by rw [c1]; rfl) (by decide) ?_
    refine lv_aload_n hx hb dX10_aboutRest_84 rfl (lv_at hl 0 rfl) ?_
    refine gf_RX10_37 (v := .ref (a 28)) C hO 0 cW_0 rfl dX10_aboutRest_85 ?_
    refine gf_RX10_101 (v := .ref (a 3)) C hO 28 cW_28 (congrArg (fun z : Nat => some (Value.ref z)) hR_0) dX10_aboutRest_88 ?_
    refine gf_RX10_356 (v := .ref (a 12)) C hO 3 cW_3 rfl dX10_aboutRest_91 ?_
    refine gf_RX10_360 (v := .int 0) C hO 12 cW_12 (congrArg (fun z : Int32 => some (Value.int z)) hI_12_4) dX10_aboutRest_94 ?_
    refine hret _ _ _ _ _ _ dX10_aboutRest_97 rfl ?_ hO
    exact ⟨(by unfold q_rest; have z0 : (0 : Int32).toInt = 0 := rfl; have z1 : (-1 : Int32).toInt = -1 := rfl; split <;> first | rfl | (exact i32_eq.mpr (by omega)) | (exfalso; omega)), rfl⟩
  · refine lv_tableIn (tgt := 98) hx hb dX10_aboutRest_1 (by rw [c1]; decide) (by rw [c1]; decide) (by rw [c1]; rfl) (by decide) ?_
    refine lv_aload_n hx hb dX10_aboutRest_98 rfl (lv_at hl 0 rfl) ?_
    refine gf_RX10_111 (v := .int 0) C hO 0 cW_0 (congrArg (fun z : Int32 => some (Value.int z)) hI_0_10) dX10_aboutRest_99 ?_
    refine hret _ _ _ _ _ _ dX10_aboutRest_102 rfl ?_ hO
    exact ⟨(by unfold q_rest; have z0 : (0 : Int32).toInt = 0 := rfl; have z1 : (-1 : Int32).toInt = -1 := rfl; split <;> first | rfl | (exact i32_eq.mpr (by omega)) | (exfalso; omega)), rfl⟩
theorem dX10_about_0 : decode cX10_about 0 = .ok (.iload_n 1, 1) := by decide +kernel
theorem dX10_about_1 : decode cX10_about 1 = .ok (.tableswitch 173 0 15 #[79, 90, 101, 112, 123, 133, 143, 153, 173, 173, 173, 173, 173, 173, 173, 163], 79) := by decide +kernel
theorem dX10_about_80 : decode cX10_about 80 = .ok (.aload_n 0, 1) := by decide +kernel
theorem dX10_about_81 : decode cX10_about 81 = .ok (.getfield 37, 3) := by decide +kernel
theorem dX10_about_84 : decode cX10_about 84 = .ok (.getfield 101, 3) := by decide +kernel
theorem dX10_about_87 : decode cX10_about 87 = .ok (.getfield 117, 3) := by decide +kernel
theorem dX10_about_90 : decode cX10_about 90 = .ok (.ireturn, 1) := by decide +kernel
theorem dX10_about_91 : decode cX10_about 91 = .ok (.aload_n 0, 1) := by decide +kernel
theorem dX10_about_92 : decode cX10_about 92 = .ok (.getfield 37, 3) := by decide +kernel
theorem dX10_about_95 : decode cX10_about 95 = .ok (.getfield 101, 3) := by decide +kernel
theorem dX10_about_98 : decode cX10_about 98 = .ok (.getfield 338, 3) := by decide +kernel
theorem dX10_about_101 : decode cX10_about 101 = .ok (.ireturn, 1) := by decide +kernel
theorem dX10_about_102 : decode cX10_about 102 = .ok (.aload_n 0, 1) := by decide +kernel
theorem dX10_about_103 : decode cX10_about 103 = .ok (.getfield 37, 3) := by decide +kernel
theorem dX10_about_106 : decode cX10_about 106 = .ok (.getfield 101, 3) := by decide +kernel
theorem dX10_about_109 : decode cX10_about 109 = .ok (.getfield 196, 3) := by decide +kernel
theorem dX10_about_112 : decode cX10_about 112 = .ok (.ireturn, 1) := by decide +kernel
theorem dX10_about_113 : decode cX10_about 113 = .ok (.aload_n 0, 1) := by decide +kernel
theorem dX10_about_114 : decode cX10_about 114 = .ok (.getfield 37, 3) := by decide +kernel
theorem dX10_about_117 : decode cX10_about 117 = .ok (.getfield 101, 3) := by decide +kernel
theorem dX10_about_120 : decode cX10_about 120 = .ok (.getfield 206, 3) := by decide +kernel
theorem dX10_about_123 : decode cX10_about 123 = .ok (.ireturn, 1) := by decide +kernel
theorem dX10_about_124 : decode cX10_about 124 = .ok (.aload_n 0, 1) := by decide +kernel
theorem dX10_about_125 : decode cX10_about 125 = .ok (.getfield 37, 3) := by decide +kernel
theorem dX10_about_128 : decode cX10_about 128 = .ok (.getfield 150, 3) := by decide +kernel
theorem dX10_about_131 : decode cX10_about 131 = .ok (.iconst 0, 1) := by decide +kernel
theorem dX10_about_132 : decode cX10_about 132 = .ok (.iaload, 1) := by decide +kernel
theorem dX10_about_133 : decode cX10_about 133 = .ok (.ireturn, 1) := by decide +kernel
theorem dX10_about_134 : decode cX10_about 134 = .ok (.aload_n 0, 1) := by decide +kernel
theorem dX10_about_135 : decode cX10_about 135 = .ok (.getfield 37, 3) := by decide +kernel
theorem dX10_about_138 : decode cX10_about 138 = .ok (.getfield 150, 3) := by decide +kernel
theorem dX10_about_141 : decode cX10_about 141 = .ok (.iconst 1, 1) := by decide +kernel
theorem dX10_about_142 : decode cX10_about 142 = .ok (.iaload, 1) := by decide +kernel
theorem dX10_about_143 : decode cX10_about 143 = .ok (.ireturn, 1) := by decide +kernel
theorem dX10_about_144 : decode cX10_about 144 = .ok (.aload_n 0, 1) := by decide +kernel
theorem dX10_about_145 : decode cX10_about 145 = .ok (.getfield 37, 3) := by decide +kernel
theorem dX10_about_148 : decode cX10_about 148 = .ok (.getfield 150, 3) := by decide +kernel
theorem dX10_about_151 : decode cX10_about 151 = .ok (.iconst 2, 1) := by decide +kernel
theorem dX10_about_152 : decode cX10_about 152 = .ok (.iaload, 1) := by decide +kernel
theorem dX10_about_153 : decode cX10_about 153 = .ok (.ireturn, 1) := by decide +kernel
theorem dX10_about_154 : decode cX10_about 154 = .ok (.aload_n 0, 1) := by decide +kernel
theorem dX10_about_155 : decode cX10_about 155 = .ok (.getfield 37, 3) := by decide +kernel
theorem dX10_about_158 : decode cX10_about 158 = .ok (.getfield 150, 3) := by decide +kernel
theorem dX10_about_161 : decode cX10_about 161 = .ok (.iconst 3, 1) := by decide +kernel
theorem dX10_about_162 : decode cX10_about 162 = .ok (.iaload, 1) := by decide +kernel
theorem dX10_about_163 : decode cX10_about 163 = .ok (.ireturn, 1) := by decide +kernel
theorem dX10_about_164 : decode cX10_about 164 = .ok (.aload_n 0, 1) := by decide +kernel
theorem dX10_about_165 : decode cX10_about 165 = .ok (.getfield 37, 3) := by decide +kernel
theorem dX10_about_168 : decode cX10_about 168 = .ok (.getfield 150, 3) := by decide +kernel
theorem dX10_about_171 : decode cX10_about 171 = .ok (.iconst 4, 1) := by decide +kernel
theorem dX10_about_172 : decode cX10_about 172 = .ok (.iaload, 1) := by decide +kernel
theorem dX10_about_173 : decode cX10_about 173 = .ok (.ireturn, 1) := by decide +kernel
theorem dX10_about_174 : decode cX10_about 174 = .ok (.aload_n 0, 1) := by decide +kernel
theorem dX10_about_175 : decode cX10_about 175 = .ok (.iload_n 1, 1) := by decide +kernel
theorem dX10_about_176 : decode cX10_about 176 = .ok (.invokevirtual 341, 3) := by decide +kernel
theorem dX10_about_179 : decode cX10_about 179 = .ok (.ireturn, 1) := by decide +kernel
theorem wd_1325 : (Cond.code ⟨"WebCourt", "about", "(I)I"⟩ prog_1_method_52_code (2 : Nat) (Option.some FieldType.int)) ∈ gtb := gtb_c6 16 (by decide +kernel) rfl
theorem wd_1326 : (Cond.methodLink "WebCourt" (341 : Nat) ⟨"WebCourt", "aboutRest", "(I)I"⟩) ∈ gtb := gtb_c6 17 (by decide +kernel) rfl
theorem wd_1328 : (Cond.instanceMethod ⟨"WebCourt", "aboutRest", "(I)I"⟩) ∈ gtb := gtb_c6 19 (by decide +kernel) rfl
theorem wd_42 : (Cond.selects "WebCourt" ⟨"WebCourt", "aboutRest", "(I)I"⟩ ⟨"WebCourt", "aboutRest", "(I)I"⟩) ∈ gtb := gtb_p 42 (by decide +kernel) rfl
theorem hd_yX10_aboutRest : yX10_aboutRest.cls = RX10 ∧ yX10_aboutRest.cls ≠ "java/lang/invoke/MethodHandle" ∧ yX10_aboutRest.cls ≠ "java/lang/invoke/VarHandle" ∧ (parseMethodDescriptor yX10_aboutRest.desc).map (fun d => d.parameters.length) = some 1 := by decide +kernel
theorem wd_271 : (Cond.fieldLink "WebCourt" (117 : Nat) "WebCourt$Web" "cases" "I") ∈ gtb := gtb_c1 162 (by decide +kernel) rfl
theorem gf_RX10_117 {p : Program} {l : Launch} {e : Env} {R : Room} {s : State} {m : MethodId} {args : Array Value} {below : List Frame} {meth : Method} {c : Code} {H : Heap} {locs : List Loc} {cells slots : Nat} {Q : State → Prop} {cc : ByteArray} {pc nL : Nat} {ls : Array Slot} {rest : List Value} {D : va_G} {cy : Nat → ClassId} {A : Nat → Prop} {ws : va_W} {b : Nat} {fs : List Value} {v : Value} (C : Cx p s m args c cc nL RX10 D cy A) (hO : Wo D A ws s.heap H locs) (q0 : Nat) (he : ws[q0]? = some (b, .inr (9, fs))) (hv : fs[12]? = some v) (hdg : decode cc pc = .ok (.getfield 117, 3)) (kk : W p l e R s m args below meth c H locs cells slots Q (F0 m (pc + 3) ls (v :: rest))) : W p l e R s m args below meth c H locs cells slots Q (F0 m pc ls (.ref b :: rest)) := gF (k := 12) C hO q0 he rfl inFX9 (by decide) wd_271 rfl hv hdg kk
theorem wd_255 : (Cond.fieldLink "WebCourt" (338 : Nat) "WebCourt$Web" "knots" "I") ∈ gtb := gtb_c1 146 (by decide +kernel) rfl
theorem gf_RX10_338 {p : Program} {l : Launch} {e : Env} {R : Room} {s : State} {m : MethodId} {args : Array Value} {below : List Frame} {meth : Method} {c : Code} {H : Heap} {locs : List Loc} {cells slots : Nat} {Q : State → Prop} {cc : ByteArray} {pc nL : Nat} {ls : Array Slot} {rest : List Value} {D : va_G} {cy : Nat → ClassId} {A : Nat → Prop} {ws : va_W} {b : Nat} {fs : List Value} {v : Value} (C : Cx p s m args c cc nL RX10 D cy A) (hO : Wo D A ws s.heap H locs) (q0 : Nat) (he : ws[q0]? = some (b, .inr (9, fs))) (hv : fs[9]? = some v) (hdg : decode cc pc = .ok (.getfield 338, 3)) (kk : W p l e R s m args below meth c H locs cells slots Q (F0 m (pc + 3) ls (v :: rest))) : W p l e R s m args below meth c H locs cells slots Q (F0 m pc ls (.ref b :: rest)) := gF (k := 9) C hO q0 he rfl inFX9 (by decide) wd_255 rfl hv hdg kk
set_option maxHeartbeats 4000000 in
set_option maxRecDepth 100000 in
theorem T_X10_about (l : Launch) (D : va_G) (cy : Nat → ClassId) (a : Nat → Nat) (u : St) (hA_29_0 : fA u 29 0 = (-1)) (hA_29_1 : fA u 29 1 = 0) (hA_29_2 : fA u 29 2 = 0) (hA_29_3 : fA u 29 3 = 0) (hA_29_4 : fA u 29 4 = 0) (hI_0_10 : fI u 0 10 = 0) (hI_1_1 : fI u 1 1 = 0) (hI_12_4 : fI u 12 4 = 0) (hI_3_10 : fI u 3 10 = 0) (hI_3_11 : fI u 3 11 = 0) (hI_3_12 : fI u 3 12 = 0) (hI_3_9 : fI u 3 9 = 0) (hI_30_2 : fI u 30 2 = 0) (hI_30_3 : fI u 30 3 = 0) (hI_39_5 : fI u 39 5 = 0) (hI_39_6 : fI u 39 6 = 0) (hR_0 : fR u 0 = a 3) (x1 : Int32)  : Mi l D cy (cW cy a) yX10_about (.code yX10_about cX10_about 2 (some .int)) (rmo 1 21) [.ref (a 0), .int x1] u (fun (r : Int32) (u' : St) => (r = q_about x1) ∧ (u' = u)) := by
  refine Mi.of (own := RX10) rfl (by decide) (Nat.le_of_ble_eq_true rfl) ?_
  intro p e s m below meth c A Q ls C hret hO hl
  obtain ⟨hx, hb, hml, hown, ht, hK, hA⟩ := id C
  have hl : lv_has ls 2 [(0, .ref (a 0)), (1, .int x1)] := hl
  refine lv_iload_n hx hb dX10_about_0 rfl (lv_at hl 1 rfl) ?_
  have c1 : ((x1).toInt < 0 ∨ 15 < (x1).toInt) ∨ (x1).toInt = 0 ∨ (x1).toInt = 1 ∨ (x1).toInt = 2 ∨ (x1).toInt = 3 ∨ (x1).toInt = 4 ∨ (x1).toInt = 5 ∨ (x1).toInt = 6 ∨ (x1).toInt = 7 ∨ (x1).toInt = 8 ∨ (x1).toInt = 9 ∨ (x1).toInt = 10 ∨ (x1).toInt = 11 ∨ (x1).toInt = 12 ∨ (x1).toInt = 13 ∨ (x1).toInt = 14 ∨ (x1).toInt = 15 := by omega
  rcases c1 with c1 | c1 | c1 | c1 | c1 | c1 | c1 | c1 | c1 | c1 | c1 | c1 | c1 | c1 | c1 | c1 | c1
  · refine lv_tableOut (tgt := 174) hx hb dX10_about_1 (by rw [show x1.toInt = (x1).toInt from rfl]; exact c1) (by decide) ?_
    refine lv_aload_n hx hb dX10_about_174 rfl (lv_at hl 0 rfl) ?_
    refine lv_iload_n hx hb dX10_about_175 rfl (lv_at hl 1 rfl) ?_
    refine cVi (w := cW cy a) (As := [.int x1]) (rest := []) C hO (T_X10_aboutRest l D cy a _ (by exact hI_0_10) (by exact hI_1_1) (by exact hI_12_4) (by exact hI_30_2) (by exact hI_30_3) (by exact hI_39_5) (by exact hI_39_6) (by exact hR_0) (x1)) (cwV 1 ht (gV wd_1326 wd_1328 wd_42 wd_110 wd_1329) rfl rfl rfl hd_yX10_aboutRest ⟨Nat.le_of_ble_eq_true rfl, Nat.le_of_ble_eq_true rfl⟩) 0 rfl cW_0 rfl rfl hl.1 (Nat.le_of_ble_eq_true rfl) dX10_about_176 rfl ⟨Nat.zero_le _, Nat.zero_le _⟩ (fun r2 u3 H locs hp4 hO => ?_)
    obtain ⟨hr2, hu3⟩ := hp4
    rw [hu3] at hO
    refine hret _ _ _ _ _ _ dX10_about_179 rfl ?_ hO
    exact ⟨(by rw [hr2]; unfold q_rest q_about; split <;> split <;> first | rfl | (exfalso; omega)), rfl⟩
  · refine lv_tableIn (tgt := 80) hx hb dX10_about_1 (by rw [c1]; decide) (by rw [c1]; decide) (by rw [c1]; rfl) (by decide) ?_
    refine lv_aload_n hx hb dX10_about_80 rfl (lv_at hl 0 rfl) ?_
    refine gf_RX10_37 (v := .ref (a 28)) C hO 0 cW_0 rfl dX10_about_81 ?_
    refine gf_RX10_101 (v := .ref (a 3)) C hO 28 cW_28 (congrArg (fun z : Nat => some (Value.ref z)) hR_0) dX10_about_84 ?_
    refine gf_RX10_117 (v := .int 0) C hO 3 cW_3 (congrArg (fun z : Int32 => some (Value.int z)) hI_3_12) dX10_about_87 ?_
    refine hret _ _ _ _ _ _ dX10_about_90 rfl ?_ hO
    exact ⟨(by unfold q_about; have z0 : (0 : Int32).toInt = 0 := rfl; have z1 : (-1 : Int32).toInt = -1 := rfl; split <;> first | rfl | (exact i32_eq.mpr (by omega)) | (exfalso; omega)), rfl⟩
  · refine lv_tableIn (tgt := 91) hx hb dX10_about_1 (by rw [c1]; decide) (by rw [c1]; decide) (by rw [c1]; rfl) (by decide) ?_
    refine lv_aload_n hx hb dX10_about_91 rfl (lv_at hl 0 rfl) ?_
    refine gf_RX10_37 (v := .ref (a 28)) C hO 0 cW_0 rfl dX10_about_92 ?_
    refine gf_RX10_101 (v := .ref (a 3)) C hO 28 cW_28 (congrArg (fun z : Nat => some (Value.ref z)) hR_0) dX10_about_95 ?_
    refine gf_RX10_338 (v := .int 0) C hO 3 cW_3 (congrArg (fun z : Int32 => some (Value.int z)) hI_3_9) dX10_about_98 ?_
    refine hret _ _ _ _ _ _ dX10_about_101 rfl ?_ hO
    exact ⟨(by unfold q_about; have z0 : (0 : Int32).toInt = 0 := rfl; have z1 : (-1 : Int32).toInt = -1 := rfl; split <;> first | rfl | (exact i32_eq.mpr (by omega)) | (exfalso; omega)), rfl⟩
  · refine lv_tableIn (tgt := 102) hx hb dX10_about_1 (by rw [c1]; decide) (by rw [c1]; decide) (by rw [c1]; rfl) (by decide) ?_
    refine lv_aload_n hx hb dX10_about_102 rfl (lv_at hl 0 rfl) ?_
    refine gf_RX10_37 (v := .ref (a 28)) C hO 0 cW_0 rfl dX10_about_103 ?_
    refine gf_RX10_101 (v := .ref (a 3)) C hO 28 cW_28 (congrArg (fun z : Nat => some (Value.ref z)) hR_0) dX10_about_106 ?_
    refine gf_RX10_196 (v := .int 0) C hO 3 cW_3 (congrArg (fun z : Int32 => some (Value.int z)) hI_3_10) dX10_about_109 ?_
    refine hret _ _ _ _ _ _ dX10_about_112 rfl ?_ hO
    exact ⟨(by unfold q_about; have z0 : (0 : Int32).toInt = 0 := rfl; have z1 : (-1 : Int32).toInt = -1 := rfl; split <;> first | rfl | (exact i32_eq.mpr (by omega)) | (exfalso; omega)), rfl⟩
  · refine lv_tableIn (tgt := 113) hx hb dX10_about_1 (by rw [c1]; decide) (by rw [c1]; decide) (by rw [c1]; rfl) (by decide) ?_
    refine lv_aload_n hx hb dX10_about_113 rfl (lv_at hl 0 rfl) ?_
    refine gf_RX10_37 (v := .ref (a 28)) C hO 0 cW_0 rfl dX10_about_114 ?_
    refine gf_RX10_101 (v := .ref (a 3)) C hO 28 cW_28 (congrArg (fun z : Nat => some (Value.ref z)) hR_0) dX10_about_117 ?_
    refine gf_RX10_206 (v := .int 0) C hO 3 cW_3 (congrArg (fun z : Int32 => some (Value.int z)) hI_3_11) dX10_about_120 ?_
    refine hret _ _ _ _ _ _ dX10_about_123 rfl ?_ hO
    exact ⟨(by unfold q_about; have z0 : (0 : Int32).toInt = 0 := rfl; have z1 : (-1 : Int32).toInt = -1 := rfl; split <;> first | rfl | (exact i32_eq.mpr (by omega)) | (exfalso; omega)), rfl⟩
  · refine lv_tableIn (tgt := 124) hx hb dX10_about_1 (by rw [c1]; decide) (by rw [c1]; decide) (by rw [c1]; rfl) (by decide) ?_
    refine lv_aload_n hx hb dX10_about_124 rfl (lv_at hl 0 rfl) ?_
    refine gf_RX10_37 (v := .ref (a 28)) C hO 0 cW_0 rfl dX10_about_125 ?_
    refine gf_RX10_150 (v := .ref (a 29)) C hO 28 cW_28 rfl dX10_about_128 ?_
    refine lv_iconst (v := 0) hx hb dX10_about_131 (by decide) ?_
    refine aI C hO 29 cW_29 (i_in (X := 0) rfl (by omega) (by omega)) dX10_about_132 ?_
    refine tE (y := (-1)) hA_29_0 ?_
    refine hret _ _ _ _ _ _ dX10_about_133 rfl ?_ hO
    exact ⟨(by unfold q_about; have z0 : (0 : Int32).toInt = 0 := rfl; have z1 : (-1 : Int32).toInt = -1 := rfl; split <;> first | rfl | (exact i32_eq.mpr (by omega)) | (exfalso; omega)), rfl⟩
  · refine lv_tableIn (tgt := 134) hx hb dX10_about_1 (by rw [c1]; decide) (by rw [c1]; decide) (by rw [c1]; rfl) (by decide) ?_
    refine lv_aload_n hx hb dX10_about_134 rfl (lv_at hl 0 rfl) ?_
    refine gf_RX10_37 (v := .ref (a 28)) C hO 0 cW_0 rfl dX10_about_135 ?_
    refine gf_RX10_150 (v := .ref (a 29)) C hO 28 cW_28 rfl dX10_about_138 ?_
    refine lv_iconst (v := 1) hx hb dX10_about_141 (by decide) ?_
    refine aI C hO 29 cW_29 (i_in (X := 1) rfl (by omega) (by omega)) dX10_about_142 ?_
    refine tE (y := 0) hA_29_1 ?_
    refine hret _ _ _ _ _ _ dX10_about_143 rfl ?_ hO
    exact ⟨(by unfold q_about; have z0 : (0 : Int32).toInt = 0 := rfl; have z1 : (-1 : Int32).toInt = -1 := rfl; split <;> first | rfl | (exact i32_eq.mpr (by omega)) | (exfalso; omega)), rfl⟩
  · refine lv_tableIn (tgt := 144) hx hb dX10_about_1 (by rw [c1]; decide) (by rw [c1]; decide) (by rw [c1]; rfl) (by decide) ?_
    refine lv_aload_n hx hb dX10_about_144 rfl (lv_at hl 0 rfl) ?_
    refine gf_RX10_37 (v := .ref (a 28)) C hO 0 cW_0 rfl dX10_about_145 ?_
    refine gf_RX10_150 (v := .ref (a 29)) C hO 28 cW_28 rfl dX10_about_148 ?_
    refine lv_iconst (v := 2) hx hb dX10_about_151 (by decide) ?_
    refine aI C hO 29 cW_29 (i_in (X := 2) rfl (by omega) (by omega)) dX10_about_152 ?_
    refine tE (y := 0) hA_29_2 ?_
    refine hret _ _ _ _ _ _ dX10_about_153 rfl ?_ hO
    exact ⟨(by unfold q_about; have z0 : (0 : Int32).toInt = 0 := rfl; have z1 : (-1 : Int32).toInt = -1 := rfl; split <;> first | rfl | (exact i32_eq.mpr (by omega)) | (exfalso; omega)), rfl⟩
  · refine lv_tableIn (tgt := 154) hx hb dX10_about_1 (by rw [c1]; decide) (by rw [c1]; decide) (by rw [c1]; rfl) (by decide) ?_
    refine lv_aload_n hx hb dX10_about_154 rfl (lv_at hl 0 rfl) ?_
    refine gf_RX10_37 (v := .ref (a 28)) C hO 0 cW_0 rfl dX10_about_155 ?_
    refine gf_RX10_150 (v := .ref (a 29)) C hO 28 cW_28 rfl dX10_about_158 ?_
    refine lv_iconst (v := 3) hx hb dX10_about_161 (by decide) ?_
    refine aI C hO 29 cW_29 (i_in (X := 3) rfl (by omega) (by omega)) dX10_about_162 ?_
    refine tE (y := 0) hA_29_3 ?_
    refine hret _ _ _ _ _ _ dX10_about_163 rfl ?_ hO
    exact ⟨(by unfold q_about; have z0 : (0 : Int32).toInt = 0 := rfl; have z1 : (-1 : Int32).toInt = -1 := rfl; split <;> first | rfl | (exact i32_eq.mpr (by omega)) | (exfalso; omega)), rfl⟩
  · refine lv_tableIn (tgt := 174) hx hb dX10_about_1 (by rw [c1]; decide) (by rw [c1]; decide) (by rw [c1]; rfl) (by decide) ?_
    refine lv_aload_n hx hb dX10_about_174 rfl (lv_at hl 0 rfl) ?_
    refine lv_iload_n hx hb dX10_about_175 rfl (lv_at hl 1 rfl) ?_
    refine cVi (w := cW cy a) (As := [.int x1]) (rest := []) C hO (T_X10_aboutRest l D cy a _ (by exact hI_0_10) (by exact hI_1_1) (by exact hI_12_4) (by exact hI_30_2) (by exact hI_30_3) (by exact hI_39_5) (by exact hI_39_6) (by exact hR_0) (x1)) (cwV 1 ht (gV wd_1326 wd_1328 wd_42 wd_110 wd_1329) rfl rfl rfl hd_yX10_aboutRest ⟨Nat.le_of_ble_eq_true rfl, Nat.le_of_ble_eq_true rfl⟩) 0 rfl cW_0 rfl rfl hl.1 (Nat.le_of_ble_eq_true rfl) dX10_about_176 rfl ⟨Nat.zero_le _, Nat.zero_le _⟩ (fun r5 u6 H locs hp7 hO => ?_)
    obtain ⟨hr5, hu6⟩ := hp7
    rw [hu6] at hO
    refine hret _ _ _ _ _ _ dX10_about_179 rfl ?_ hO
    exact ⟨(by rw [hr5]; unfold q_rest q_about; split <;> split <;> first | rfl | (exfalso; omega)), rfl⟩
  · refine lv_tableIn (tgt := 174) hx hb dX10_about_1 (by rw [c1]; decide) (by rw [c1]; decide) (by rw [c1]; rfl) (by decide) ?_
    refine lv_aload_n hx hb dX10_about_174 rfl (lv_at hl 0 rfl) ?_
    refine lv_iload_n hx hb dX10_about_175 rfl (lv_at hl 1 rfl) ?_
    refine cVi (w := cW cy a) (As := [.int x1]) (rest := []) C hO (T_X10_aboutRest l D cy a _ (by exact hI_0_10) (by exact hI_1_1) (by exact hI_12_4) (by exact hI_30_2) (by exact hI_30_3) (by exact hI_39_5) (by exact hI_39_6) (by exact hR_0) (x1)) (cwV 1 ht (gV wd_1326 wd_1328 wd_42 wd_110 wd_1329) rfl rfl rfl hd_yX10_aboutRest ⟨Nat.le_of_ble_eq_true rfl, Nat.le_of_ble_eq_true rfl⟩) 0 rfl cW_0 rfl rfl hl.1 (Nat.le_of_ble_eq_true rfl) dX10_about_176 rfl ⟨Nat.zero_le _, Nat.zero_le _⟩ (fun r8 u9 H locs hp10 hO => ?_)
    obtain ⟨hr8, hu9⟩ := hp10
    rw [hu9] at hO
    refine hret _ _ _ _ _ _ dX10_about_179 rfl ?_ hO
    exact ⟨(by rw [hr8]; unfold q_rest q_about; split <;> split <;> first | rfl | (exfalso; omega)), rfl⟩
  · refine lv_tableIn (tgt := 174) hx hb dX10_about_1 (by rw [c1]; decide) (by rw [c1]; decide) (by rw [c1]; rfl) (by decide) ?_
    refine lv_aload_n hx hb dX10_about_174 rfl (lv_at hl 0 rfl) ?_
    refine lv_iload_n hx hb dX10_about_175 rfl (lv_at hl 1 rfl) ?_
    refine cVi (w := cW cy a) (As := [.int x1]) (rest := []) C hO (T_X10_aboutRest l D cy a _ (by exact hI_0_10) (by exact hI_1_1) (by exact hI_12_4) (by exact hI_30_2) (by exact hI_30_3) (by exact hI_39_5) (by exact hI_39_6) (by exact hR_0) (x1)) (cwV 1 ht (gV wd_1326 wd_1328 wd_42 wd_110 wd_1329) rfl rfl rfl hd_yX10_aboutRest ⟨Nat.le_of_ble_eq_true rfl, Nat.le_of_ble_eq_true rfl⟩) 0 rfl cW_0 rfl rfl hl.1 (Nat.le_of_ble_eq_true rfl) dX10_about_176 rfl ⟨Nat.zero_le _, Nat.zero_le _⟩ (fun r11 u12 H locs hp13 hO => ?_)
    obtain ⟨hr11, hu12⟩ := hp13
    rw [hu12] at hO
    refine hret _ _ _ _ _ _ dX10_about_179 rfl ?_ hO
    exact ⟨(by rw [hr11]; unfold q_rest q_about; split <;> split <;> first | rfl | (exfalso; omega)), rfl⟩
  · refine lv_tableIn (tgt := 174) hx hb dX10_about_1 (by rw [c1]; decide) (by rw [c1]; decide) (by rw [c1]; rfl) (by decide) ?_
    refine lv_aload_n hx hb dX10_about_174 rfl (lv_at hl 0 rfl) ?_
    refine lv_iload_n hx hb dX10_about_175 rfl (lv_at hl 1 rfl) ?_
    refine cVi (w := cW cy a) (As := [.int x1]) (rest := []) C hO (T_X10_aboutRest l D cy a _ (by exact hI_0_10) (by exact hI_1_1) (by exact hI_12_4) (by exact hI_30_2) (by exact hI_30_3) (by exact hI_39_5) (by exact hI_39_6) (by exact hR_0) (x1)) (cwV 1 ht (gV wd_1326 wd_1328 wd_42 wd_110 wd_1329) rfl rfl rfl hd_yX10_aboutRest ⟨Nat.le_of_ble_eq_true rfl, Nat.le_of_ble_eq_true rfl⟩) 0 rfl cW_0 rfl rfl hl.1 (Nat.le_of_ble_eq_true rfl) dX10_about_176 rfl ⟨Nat.zero_le _, Nat.zero_le _⟩ (fun r14 u15 H locs hp16 hO => ?_)
    obtain ⟨hr14, hu15⟩ := hp16
    rw [hu15] at hO
    refine hret _ _ _ _ _ _ dX10_about_179 rfl ?_ hO
    exact ⟨(by rw [hr14]; unfold q_rest q_about; split <;> split <;> first | rfl | (exfalso; omega)), rfl⟩
  · refine lv_tableIn (tgt := 174) hx hb dX10_about_1 (by rw [c1]; decide) (by rw [c1]; decide) (by rw [c1]; rfl) (by decide) ?_
    refine lv_aload_n hx hb dX10_about_174 rfl (lv_at hl 0 rfl) ?_
    refine lv_iload_n hx hb dX10_about_175 rfl (lv_at hl 1 rfl) ?_
    refine cVi (w := cW cy a) (As := [.int x1]) (rest := []) C hO (T_X10_aboutRest l D cy a _ (by exact hI_0_10) (by exact hI_1_1) (by exact hI_12_4) (by exact hI_30_2) (by exact hI_30_3) (by exact hI_39_5) (by exact hI_39_6) (by exact hR_0) (x1)) (cwV 1 ht (gV wd_1326 wd_1328 wd_42 wd_110 wd_1329) rfl rfl rfl hd_yX10_aboutRest ⟨Nat.le_of_ble_eq_true rfl, Nat.le_of_ble_eq_true rfl⟩) 0 rfl cW_0 rfl rfl hl.1 (Nat.le_of_ble_eq_true rfl) dX10_about_176 rfl ⟨Nat.zero_le _, Nat.zero_le _⟩ (fun r17 u18 H locs hp19 hO => ?_)
    obtain ⟨hr17, hu18⟩ := hp19
    rw [hu18] at hO
    refine hret _ _ _ _ _ _ dX10_about_179 rfl ?_ hO
    exact ⟨(by rw [hr17]; unfold q_rest q_about; split <;> split <;> first | rfl | (exfalso; omega)), rfl⟩
  · refine lv_tableIn (tgt := 174) hx hb dX10_about_1 (by rw [c1]; decide) (by rw [c1]; decide) (by rw [c1]; rfl) (by decide) ?_
    refine lv_aload_n hx hb dX10_about_174 rfl (lv_at hl 0 rfl) ?_
    refine lv_iload_n hx hb dX10_about_175 rfl (lv_at hl 1 rfl) ?_
    refine cVi (w := cW cy a) (As := [.int x1]) (rest := []) C hO (T_X10_aboutRest l D cy a _ (by exact hI_0_10) (by exact hI_1_1) (by exact hI_12_4) (by exact hI_30_2) (by exact hI_30_3) (by exact hI_39_5) (by exact hI_39_6) (by exact hR_0) (x1)) (cwV 1 ht (gV wd_1326 wd_1328 wd_42 wd_110 wd_1329) rfl rfl rfl hd_yX10_aboutRest ⟨Nat.le_of_ble_eq_true rfl, Nat.le_of_ble_eq_true rfl⟩) 0 rfl cW_0 rfl rfl hl.1 (Nat.le_of_ble_eq_true rfl) dX10_about_176 rfl ⟨Nat.zero_le _, Nat.zero_le _⟩ (fun r20 u21 H locs hp22 hO => ?_)
    obtain ⟨hr20, hu21⟩ := hp22
    rw [hu21] at hO
    refine hret _ _ _ _ _ _ dX10_about_179 rfl ?_ hO
    exact ⟨(by rw [hr20]; unfold q_rest q_about; split <;> split <;> first | rfl | (exfalso; omega)), rfl⟩
  · refine lv_tableIn (tgt := 174) hx hb dX10_about_1 (by rw [c1]; decide) (by rw [c1]; decide) (by rw [c1]; rfl) (by decide) ?_
    refine lv_aload_n hx hb dX10_about_174 rfl (lv_at hl 0 rfl) ?_
    refine lv_iload_n hx hb dX10_about_175 rfl (lv_at hl 1 rfl) ?_
    refine cVi (w := cW cy a) (As := [.int x1]) (rest := []) C hO (T_X10_aboutRest l D cy a _ (by exact hI_0_10) (by exact hI_1_1) (by exact hI_12_4) (by exact hI_30_2) (by exact hI_30_3) (by exact hI_39_5) (by exact hI_39_6) (by exact hR_0) (x1)) (cwV 1 ht (gV wd_1326 wd_1328 wd_42 wd_110 wd_1329) rfl rfl rfl hd_yX10_aboutRest ⟨Nat.le_of_ble_eq_true rfl, Nat.le_of_ble_eq_true rfl⟩) 0 rfl cW_0 rfl rfl hl.1 (Nat.le_of_ble_eq_true rfl) dX10_about_176 rfl ⟨Nat.zero_le _, Nat.zero_le _⟩ (fun r23 u24 H locs hp25 hO => ?_)
    obtain ⟨hr23, hu24⟩ := hp25
    rw [hu24] at hO
    refine hret _ _ _ _ _ _ dX10_about_179 rfl ?_ hO
    exact ⟨(by rw [hr23]; unfold q_rest q_about; split <;> split <;> first | rfl | (exfalso; omega)), rfl⟩
  · refine lv_tableIn (tgt := 164) hx hb dX10_about_1 (by rw [c1]; decide) (by rw [c1]; decide) (by rw [c1]; rfl) (by decide) ?_
    refine lv_aload_n hx hb dX10_about_164 rfl (lv_at hl 0 rfl) ?_
    refine gf_RX10_37 (v := .ref (a 28)) C hO 0 cW_0 rfl dX10_about_165 ?_
    refine gf_RX10_150 (v := .ref (a 29)) C hO 28 cW_28 rfl dX10_about_168 ?_
    refine lv_iconst (v := 4) hx hb dX10_about_171 (by decide) ?_
    refine aI C hO 29 cW_29 (i_in (X := 4) rfl (by omega) (by omega)) dX10_about_172 ?_
    refine tE (y := 0) hA_29_4 ?_
    refine hret _ _ _ _ _ _ dX10_about_173 rfl ?_ hO
    exact ⟨(by unfold q_about; have z0 : (0 : Int32).toInt = 0 := rfl; have z1 : (-1 : Int32).toInt = -1 := rfl; split <;> first | rfl | (exact i32_eq.mpr (by omega)) | (exfalso; omega)), rfl⟩
