theorem dX11_freeNow_0 : decode cX11_freeNow 0 = .ok (.iconst 0, 1) := by decide +kernel
theorem dX11_freeNow_1 : decode cX11_freeNow 1 = .ok (.istore_n 1, 1) := by decide +kernel
theorem dX11_freeNow_2 : decode cX11_freeNow 2 = .ok (.iconst 0, 1) := by decide +kernel
theorem dX11_freeNow_3 : decode cX11_freeNow 3 = .ok (.istore_n 2, 1) := by decide +kernel
theorem dX11_freeNow_4 : decode cX11_freeNow 4 = .ok (.iload_n 2, 1) := by decide +kernel
theorem dX11_freeNow_5 : decode cX11_freeNow 5 = .ok (.aload_n 0, 1) := by decide +kernel
theorem dX11_freeNow_6 : decode cX11_freeNow 6 = .ok (.invokevirtual 371, 3) := by decide +kernel
theorem dX11_freeNow_9 : decode cX11_freeNow 9 = .ok (.if_icmp .ge 31, 3) := by decide +kernel
theorem dX11_freeNow_12 : decode cX11_freeNow 12 = .ok (.aload_n 0, 1) := by decide +kernel
theorem dX11_freeNow_13 : decode cX11_freeNow 13 = .ok (.iload_n 2, 1) := by decide +kernel
theorem dX11_freeNow_14 : decode cX11_freeNow 14 = .ok (.invokevirtual 413, 3) := by decide +kernel
theorem dX11_freeNow_17 : decode cX11_freeNow 17 = .ok (.ifCond .eq 17, 3) := by decide +kernel
theorem dX11_freeNow_20 : decode cX11_freeNow 20 = .ok (.aload_n 0, 1) := by decide +kernel
theorem dX11_freeNow_21 : decode cX11_freeNow 21 = .ok (.iload_n 2, 1) := by decide +kernel
theorem dX11_freeNow_22 : decode cX11_freeNow 22 = .ok (.invokevirtual 416, 3) := by decide +kernel
theorem dX11_freeNow_25 : decode cX11_freeNow 25 = .ok (.ifCond .le 9, 3) := by decide +kernel
theorem dX11_freeNow_28 : decode cX11_freeNow 28 = .ok (.iload_n 1, 1) := by decide +kernel
theorem dX11_freeNow_29 : decode cX11_freeNow 29 = .ok (.iconst 1, 1) := by decide +kernel
theorem dX11_freeNow_30 : decode cX11_freeNow 30 = .ok (.iload_n 2, 1) := by decide +kernel
theorem dX11_freeNow_31 : decode cX11_freeNow 31 = .ok (.ishl, 1) := by decide +kernel
theorem dX11_freeNow_32 : decode cX11_freeNow 32 = .ok (.ior, 1) := by decide +kernel
theorem dX11_freeNow_33 : decode cX11_freeNow 33 = .ok (.istore_n 1, 1) := by decide +kernel
theorem dX11_freeNow_34 : decode cX11_freeNow 34 = .ok (.iinc 2 1, 3) := by decide +kernel
theorem dX11_freeNow_37 : decode cX11_freeNow 37 = .ok (.goto (-33), 3) := by decide +kernel
theorem dX11_freeNow_40 : decode cX11_freeNow 40 = .ok (.iload_n 1, 1) := by decide +kernel
theorem dX11_freeNow_41 : decode cX11_freeNow 41 = .ok (.ireturn, 1) := by decide +kernel
theorem wd_1796 : (Cond.code ⟨"WebCourtModel", "freeNow", "()I"⟩ prog_13_method_63_code (3 : Nat) (Option.some FieldType.int)) ∈ gtb := gtb_c8 7 (by decide +kernel) rfl
set_option maxHeartbeats 4000000 in
set_option maxRecDepth 100000 in
theorem T_X11_freeNow (l : Launch) (D : va_G) (cy : Nat → ClassId) (a : Nat → Nat) (u : St) (hA_6_0 : fA u 6 0 = 0) (hI_0_36 : fI u 0 36 = 0)   : Mi l D cy (mW cy a) yX11_freeNow (.code yX11_freeNow cX11_freeNow 3 (some .int)) (rmo 1 20) [.ref (a 0)] u (fun (r : Int32) (u' : St) => (r = 0) ∧ (u' = u)) := by
  refine Mi.of (own := RX11) rfl (by decide) (Nat.le_of_ble_eq_true rfl) ?_
  intro p e s m below meth c A Q ls C hret hO hl
  obtain ⟨hx, hb, hml, hown, ht, hK, hA⟩ := id C
  have hl : lv_has ls 3 [(0, .ref (a 0))] := hl
  refine lv_iconst (v := 0) hx hb dX11_freeNow_0 (by decide) ?_
  refine lv_istore_n (lv' := [(1, .int 0), (0, .ref (a 0))]) hx hb dX11_freeNow_1 rfl hl (by decide) rfl (fun ls hl => ?_)
  refine lv_iconst (v := 0) hx hb dX11_freeNow_2 (by decide) ?_
  refine lv_istore_n (lv' := [(2, .int 0), (1, .int 0), (0, .ref (a 0))]) hx hb dX11_freeNow_3 rfl hl (by decide) rfl (fun ls hl => ?_)
  refine lv_iload_n hx hb dX11_freeNow_4 rfl (lv_at hl 0 rfl) ?_
  refine lv_aload_n hx hb dX11_freeNow_5 rfl (lv_at hl 2 rfl) ?_
  refine cVi (w := mW cy a) (As := []) (rest := [.int 0]) C hO (T_X11_many l D cy a _ (by exact hA_6_0) (by exact hI_0_36)) (cwV 0 ht (gV wd_1348 wd_1350 wd_46 wd_121 wd_1351) rfl rfl rfl hd_yX11_many ⟨Nat.le_of_ble_eq_true rfl, Nat.le_of_ble_eq_true rfl⟩) 0 rfl mW_0 rfl rfl hl.1 (Nat.le_of_ble_eq_true rfl) dX11_freeNow_6 rfl ⟨Nat.zero_le _, Nat.zero_le _⟩ (fun r1 u2 H locs hp3 hO => ?_)
  obtain ⟨hr1, hu2⟩ := hp3
  subst hr1
  rw [hu2] at hO
  refine ct_ge (tgt := 40) (X := 0) (Y := 0) hx hb dX11_freeNow_9 (by decide) rfl rfl (by omega) ?_
  refine lv_iload_n hx hb dX11_freeNow_40 rfl (lv_at hl 1 rfl) ?_
  refine hret _ _ _ _ _ _ dX11_freeNow_41 rfl ?_ hO
  exact ⟨rfl, rfl⟩
theorem dX11_free_0 : decode cX11_free 0 = .ok (.aload_n 0, 1) := by decide +kernel
theorem dX11_free_1 : decode cX11_free 1 = .ok (.invokevirtual 430, 3) := by decide +kernel
theorem dX11_free_4 : decode cX11_free 4 = .ok (.ireturn, 1) := by decide +kernel
theorem wd_1792 : (Cond.code ⟨"WebCourtModel", "free", "()I"⟩ prog_13_method_69_code (1 : Nat) (Option.some FieldType.int)) ∈ gtb := gtb_c8 3 (by decide +kernel) rfl
theorem wd_1793 : (Cond.methodLink "WebCourtModel" (430 : Nat) ⟨"WebCourtModel", "freeNow", "()I"⟩) ∈ gtb := gtb_c8 4 (by decide +kernel) rfl
theorem wd_1795 : (Cond.instanceMethod ⟨"WebCourtModel", "freeNow", "()I"⟩) ∈ gtb := gtb_c8 6 (by decide +kernel) rfl
theorem wd_90 : (Cond.selects "WebCourtModel" ⟨"WebCourtModel", "freeNow", "()I"⟩ ⟨"WebCourtModel", "freeNow", "()I"⟩) ∈ gtb := gtb_p 90 (by decide +kernel) rfl
theorem hd_yX11_freeNow : yX11_freeNow.cls = RX11 ∧ yX11_freeNow.cls ≠ "java/lang/invoke/MethodHandle" ∧ yX11_freeNow.cls ≠ "java/lang/invoke/VarHandle" ∧ (parseMethodDescriptor yX11_freeNow.desc).map (fun d => d.parameters.length) = some 0 := by decide +kernel
set_option maxHeartbeats 4000000 in
set_option maxRecDepth 100000 in
theorem T_X11_free (l : Launch) (D : va_G) (cy : Nat → ClassId) (a : Nat → Nat) (u : St) (hA_6_0 : fA u 6 0 = 0) (hI_0_36 : fI u 0 36 = 0)   : Mi l D cy (mW cy a) yX11_free (.code yX11_free cX11_free 1 (some .int)) (rmo 2 42) [.ref (a 0)] u (fun (r : Int32) (u' : St) => (r = 0) ∧ (u' = u)) := by
  refine Mi.of (own := RX11) rfl (by decide) (Nat.le_of_ble_eq_true rfl) ?_
  intro p e s m below meth c A Q ls C hret hO hl
  obtain ⟨hx, hb, hml, hown, ht, hK, hA⟩ := id C
  have hl : lv_has ls 1 [(0, .ref (a 0))] := hl
  refine lv_aload_n hx hb dX11_free_0 rfl (lv_at hl 0 rfl) ?_
  refine cVi (w := mW cy a) (As := []) (rest := []) C hO (T_X11_freeNow l D cy a _ (by exact hA_6_0) (by exact hI_0_36)) (cwV 0 ht (gV wd_1793 wd_1795 wd_90 wd_121 wd_1796) rfl rfl rfl hd_yX11_freeNow ⟨Nat.le_of_ble_eq_true rfl, Nat.le_of_ble_eq_true rfl⟩) 0 rfl mW_0 rfl rfl hl.1 (Nat.le_of_ble_eq_true rfl) dX11_free_1 rfl ⟨Nat.zero_le _, Nat.zero_le _⟩ (fun r1 u2 H locs hp3 hO => ?_)
  obtain ⟨hr1, hu2⟩ := hp3
  subst hr1
  rw [hu2] at hO
  refine hret _ _ _ _ _ _ dX11_free_4 rfl ?_ hO
  exact ⟨rfl, rfl⟩
theorem dX11_likeliest_0 : decode cX11_likeliest 0 = .ok (.iconst (-1), 1) := by decide +kernel
theorem dX11_likeliest_1 : decode cX11_likeliest 1 = .ok (.istore_n 1, 1) := by decide +kernel
theorem dX11_likeliest_2 : decode cX11_likeliest 2 = .ok (.iconst 0, 1) := by decide +kernel
theorem dX11_likeliest_3 : decode cX11_likeliest 3 = .ok (.istore_n 2, 1) := by decide +kernel
theorem dX11_likeliest_4 : decode cX11_likeliest 4 = .ok (.iload_n 2, 1) := by decide +kernel
theorem dX11_likeliest_5 : decode cX11_likeliest 5 = .ok (.aload_n 0, 1) := by decide +kernel
theorem dX11_likeliest_6 : decode cX11_likeliest 6 = .ok (.invokevirtual 371, 3) := by decide +kernel
theorem dX11_likeliest_9 : decode cX11_likeliest 9 = .ok (.if_icmp .ge 36, 3) := by decide +kernel
theorem dX11_likeliest_12 : decode cX11_likeliest 12 = .ok (.aload_n 0, 1) := by decide +kernel
theorem dX11_likeliest_13 : decode cX11_likeliest 13 = .ok (.iload_n 2, 1) := by decide +kernel
theorem dX11_likeliest_14 : decode cX11_likeliest 14 = .ok (.invokevirtual 413, 3) := by decide +kernel
theorem dX11_likeliest_17 : decode cX11_likeliest 17 = .ok (.ifCond .eq 22, 3) := by decide +kernel
theorem dX11_likeliest_20 : decode cX11_likeliest 20 = .ok (.iload_n 1, 1) := by decide +kernel
theorem dX11_likeliest_21 : decode cX11_likeliest 21 = .ok (.ifCond .lt 16, 3) := by decide +kernel
theorem dX11_likeliest_24 : decode cX11_likeliest 24 = .ok (.aload_n 0, 1) := by decide +kernel
theorem dX11_likeliest_25 : decode cX11_likeliest 25 = .ok (.iload_n 2, 1) := by decide +kernel
theorem dX11_likeliest_26 : decode cX11_likeliest 26 = .ok (.invokevirtual 416, 3) := by decide +kernel
theorem dX11_likeliest_29 : decode cX11_likeliest 29 = .ok (.aload_n 0, 1) := by decide +kernel
theorem dX11_likeliest_30 : decode cX11_likeliest 30 = .ok (.iload_n 1, 1) := by decide +kernel
theorem dX11_likeliest_31 : decode cX11_likeliest 31 = .ok (.invokevirtual 416, 3) := by decide +kernel
theorem dX11_likeliest_34 : decode cX11_likeliest 34 = .ok (.if_icmp .le 5, 3) := by decide +kernel
theorem dX11_likeliest_37 : decode cX11_likeliest 37 = .ok (.iload_n 2, 1) := by decide +kernel
theorem dX11_likeliest_38 : decode cX11_likeliest 38 = .ok (.istore_n 1, 1) := by decide +kernel
theorem dX11_likeliest_39 : decode cX11_likeliest 39 = .ok (.iinc 2 1, 3) := by decide +kernel
theorem dX11_likeliest_42 : decode cX11_likeliest 42 = .ok (.goto (-38), 3) := by decide +kernel
theorem dX11_likeliest_45 : decode cX11_likeliest 45 = .ok (.iload_n 1, 1) := by decide +kernel
theorem dX11_likeliest_46 : decode cX11_likeliest 46 = .ok (.ireturn, 1) := by decide +kernel
theorem wd_1804 : (Cond.code ⟨"WebCourtModel", "likeliest", "()I"⟩ prog_13_method_70_code (3 : Nat) (Option.some FieldType.int)) ∈ gtb := gtb_c8 15 (by decide +kernel) rfl
set_option maxHeartbeats 4000000 in
set_option maxRecDepth 100000 in
theorem T_X11_likeliest (l : Launch) (D : va_G) (cy : Nat → ClassId) (a : Nat → Nat) (u : St) (hA_6_0 : fA u 6 0 = 0) (hI_0_36 : fI u 0 36 = 0)   : Mi l D cy (mW cy a) yX11_likeliest (.code yX11_likeliest cX11_likeliest 3 (some .int)) (rmo 1 20) [.ref (a 0)] u (fun (r : Int32) (u' : St) => (r = (-1)) ∧ (u' = u)) := by
  refine Mi.of (own := RX11) rfl (by decide) (Nat.le_of_ble_eq_true rfl) ?_
  intro p e s m below meth c A Q ls C hret hO hl
  obtain ⟨hx, hb, hml, hown, ht, hK, hA⟩ := id C
  have hl : lv_has ls 3 [(0, .ref (a 0))] := hl
  refine lv_iconst (v := (-1)) hx hb dX11_likeliest_0 (by decide) ?_
  refine lv_istore_n (lv' := [(1, .int (-1)), (0, .ref (a 0))]) hx hb dX11_likeliest_1 rfl hl (by decide) rfl (fun ls hl => ?_)
  refine lv_iconst (v := 0) hx hb dX11_likeliest_2 (by decide) ?_
  refine lv_istore_n (lv' := [(2, .int 0), (1, .int (-1)), (0, .ref (a 0))]) hx hb dX11_likeliest_3 rfl hl (by decide) rfl (fun ls hl => ?_)
  refine lv_iload_n hx hb dX11_likeliest_4 rfl (lv_at hl 0 rfl) ?_
  refine lv_aload_n hx hb dX11_likeliest_5 rfl (lv_at hl 2 rfl) ?_
  refine cVi (w := mW cy a) (As := []) (rest := [.int 0]) C hO (T_X11_many l D cy a _ (by exact hA_6_0) (by exact hI_0_36)) (cwV 0 ht (gV wd_1348 wd_1350 wd_46 wd_121 wd_1351) rfl rfl rfl hd_yX11_many ⟨Nat.le_of_ble_eq_true rfl, Nat.le_of_ble_eq_true rfl⟩) 0 rfl mW_0 rfl rfl hl.1 (Nat.le_of_ble_eq_true rfl) dX11_likeliest_6 rfl ⟨Nat.zero_le _, Nat.zero_le _⟩ (fun r1 u2 H locs hp3 hO => ?_)
  obtain ⟨hr1, hu2⟩ := hp3
  subst hr1
  rw [hu2] at hO
  refine ct_ge (tgt := 45) (X := 0) (Y := 0) hx hb dX11_likeliest_9 (by decide) rfl rfl (by omega) ?_
  refine lv_iload_n hx hb dX11_likeliest_45 rfl (lv_at hl 1 rfl) ?_
  refine hret _ _ _ _ _ _ dX11_likeliest_46 rfl ?_ hO
  exact ⟨rfl, rfl⟩
theorem dX11_fashion_0 : decode cX11_fashion 0 = .ok (.iconst (-1), 1) := by decide +kernel
theorem dX11_fashion_1 : decode cX11_fashion 1 = .ok (.istore_n 1, 1) := by decide +kernel
theorem dX11_fashion_2 : decode cX11_fashion 2 = .ok (.iconst 0, 1) := by decide +kernel
theorem dX11_fashion_3 : decode cX11_fashion 3 = .ok (.istore_n 2, 1) := by decide +kernel
theorem dX11_fashion_4 : decode cX11_fashion 4 = .ok (.iload_n 2, 1) := by decide +kernel
theorem dX11_fashion_5 : decode cX11_fashion 5 = .ok (.aload_n 0, 1) := by decide +kernel
theorem dX11_fashion_6 : decode cX11_fashion 6 = .ok (.invokevirtual 377, 3) := by decide +kernel
theorem dX11_fashion_9 : decode cX11_fashion 9 = .ok (.if_icmp .ge 28, 3) := by decide +kernel
theorem dX11_fashion_12 : decode cX11_fashion 12 = .ok (.iload_n 1, 1) := by decide +kernel
theorem dX11_fashion_13 : decode cX11_fashion 13 = .ok (.ifCond .lt 16, 3) := by decide +kernel
theorem dX11_fashion_16 : decode cX11_fashion 16 = .ok (.aload_n 0, 1) := by decide +kernel
theorem dX11_fashion_17 : decode cX11_fashion 17 = .ok (.iload_n 2, 1) := by decide +kernel
theorem dX11_fashion_18 : decode cX11_fashion 18 = .ok (.invokevirtual 433, 3) := by decide +kernel
theorem dX11_fashion_21 : decode cX11_fashion 21 = .ok (.aload_n 0, 1) := by decide +kernel
theorem dX11_fashion_22 : decode cX11_fashion 22 = .ok (.iload_n 1, 1) := by decide +kernel
theorem dX11_fashion_23 : decode cX11_fashion 23 = .ok (.invokevirtual 433, 3) := by decide +kernel
theorem dX11_fashion_26 : decode cX11_fashion 26 = .ok (.if_icmp .le 5, 3) := by decide +kernel
theorem dX11_fashion_29 : decode cX11_fashion 29 = .ok (.iload_n 2, 1) := by decide +kernel
theorem dX11_fashion_30 : decode cX11_fashion 30 = .ok (.istore_n 1, 1) := by decide +kernel
theorem dX11_fashion_31 : decode cX11_fashion 31 = .ok (.iinc 2 1, 3) := by decide +kernel
theorem dX11_fashion_34 : decode cX11_fashion 34 = .ok (.goto (-30), 3) := by decide +kernel
theorem dX11_fashion_37 : decode cX11_fashion 37 = .ok (.iload_n 1, 1) := by decide +kernel
theorem dX11_fashion_38 : decode cX11_fashion 38 = .ok (.ireturn, 1) := by decide +kernel
theorem wd_1808 : (Cond.code ⟨"WebCourtModel", "fashion", "()I"⟩ prog_13_method_72_code (3 : Nat) (Option.some FieldType.int)) ∈ gtb := gtb_c8 19 (by decide +kernel) rfl
set_option maxHeartbeats 4000000 in
set_option maxRecDepth 100000 in
theorem T_X11_fashion (l : Launch) (D : va_G) (cy : Nat → ClassId) (a : Nat → Nat) (u : St) (hA_5_0 : fA u 5 0 = 0) (hI_0_36 : fI u 0 36 = 0)   : Mi l D cy (mW cy a) yX11_fashion (.code yX11_fashion cX11_fashion 3 (some .int)) (rmo 1 20) [.ref (a 0)] u (fun (r : Int32) (u' : St) => (r = (-1)) ∧ (u' = u)) := by
  refine Mi.of (own := RX11) rfl (by decide) (Nat.le_of_ble_eq_true rfl) ?_
  intro p e s m below meth c A Q ls C hret hO hl
  obtain ⟨hx, hb, hml, hown, ht, hK, hA⟩ := id C
  have hl : lv_has ls 3 [(0, .ref (a 0))] := hl
  refine lv_iconst (v := (-1)) hx hb dX11_fashion_0 (by decide) ?_
  refine lv_istore_n (lv' := [(1, .int (-1)), (0, .ref (a 0))]) hx hb dX11_fashion_1 rfl hl (by decide) rfl (fun ls hl => ?_)
  refine lv_iconst (v := 0) hx hb dX11_fashion_2 (by decide) ?_
  refine lv_istore_n (lv' := [(2, .int 0), (1, .int (-1)), (0, .ref (a 0))]) hx hb dX11_fashion_3 rfl hl (by decide) rfl (fun ls hl => ?_)
  refine lv_iload_n hx hb dX11_fashion_4 rfl (lv_at hl 0 rfl) ?_
  refine lv_aload_n hx hb dX11_fashion_5 rfl (lv_at hl 2 rfl) ?_
  refine cVi (w := mW cy a) (As := []) (rest := [.int 0]) C hO (T_X11_pleads l D cy a _ (by exact hA_5_0) (by exact hI_0_36)) (cwV 0 ht (gV wd_1745 wd_1747 wd_82 wd_121 wd_1748) rfl rfl rfl hd_yX11_pleads ⟨Nat.le_of_ble_eq_true rfl, Nat.le_of_ble_eq_true rfl⟩) 0 rfl mW_0 rfl rfl hl.1 (Nat.le_of_ble_eq_true rfl) dX11_fashion_6 rfl ⟨Nat.zero_le _, Nat.zero_le _⟩ (fun r1 u2 H locs hp3 hO => ?_)
  obtain ⟨hr1, hu2⟩ := hp3
  subst hr1
  rw [hu2] at hO
  refine ct_ge (tgt := 37) (X := 0) (Y := 0) hx hb dX11_fashion_9 (by decide) rfl rfl (by omega) ?_
  refine lv_iload_n hx hb dX11_fashion_37 rfl (lv_at hl 1 rfl) ?_
  refine hret _ _ _ _ _ _ dX11_fashion_38 rfl ?_ hO
  exact ⟨rfl, rfl⟩
theorem dX11_swap_0 : decode cX11_swap 0 = .ok (.iload_n 1, 1) := by decide +kernel
theorem dX11_swap_1 : decode cX11_swap 1 = .ok (.iconst 0, 1) := by decide +kernel
theorem dX11_swap_2 : decode cX11_swap 2 = .ok (.iconst 2, 1) := by decide +kernel
theorem dX11_swap_3 : decode cX11_swap 3 = .ok (.invokestatic 374, 3) := by decide +kernel
theorem dX11_swap_6 : decode cX11_swap 6 = .ok (.ifCond .ne 5, 3) := by decide +kernel
theorem dX11_swap_9 : decode cX11_swap 9 = .ok (.iconst (-1), 1) := by decide +kernel
theorem dX11_swap_10 : decode cX11_swap 10 = .ok (.ireturn, 1) := by decide +kernel
theorem dX11_swap_11 : decode cX11_swap 11 = .ok (.iconst (-1), 1) := by decide +kernel
theorem dX11_swap_12 : decode cX11_swap 12 = .ok (.istore_n 2, 1) := by decide +kernel
theorem dX11_swap_13 : decode cX11_swap 13 = .ok (.aload_n 0, 1) := by decide +kernel
theorem dX11_swap_14 : decode cX11_swap 14 = .ok (.invokevirtual 430, 3) := by decide +kernel
theorem dX11_swap_17 : decode cX11_swap 17 = .ok (.invokestatic 316, 3) := by decide +kernel
theorem dX11_swap_20 : decode cX11_swap 20 = .ok (.istore_n 3, 1) := by decide +kernel
theorem dX11_swap_21 : decode cX11_swap 21 = .ok (.iconst 0, 1) := by decide +kernel
theorem dX11_swap_22 : decode cX11_swap 22 = .ok (.istore 4, 2) := by decide +kernel
theorem dX11_swap_24 : decode cX11_swap 24 = .ok (.iload 4, 2) := by decide +kernel
theorem dX11_swap_26 : decode cX11_swap 26 = .ok (.bipush 36, 2) := by decide +kernel
theorem dX11_swap_28 : decode cX11_swap 28 = .ok (.if_icmp .ge 76, 3) := by decide +kernel
theorem dX11_swap_31 : decode cX11_swap 31 = .ok (.iload 4, 2) := by decide +kernel
theorem dX11_swap_33 : decode cX11_swap 33 = .ok (.bipush 6, 2) := by decide +kernel
theorem dX11_swap_35 : decode cX11_swap 35 = .ok (.idiv, 1) := by decide +kernel
theorem dX11_swap_36 : decode cX11_swap 36 = .ok (.istore 5, 2) := by decide +kernel
theorem dX11_swap_38 : decode cX11_swap 38 = .ok (.iload 4, 2) := by decide +kernel
theorem dX11_swap_40 : decode cX11_swap 40 = .ok (.bipush 6, 2) := by decide +kernel
theorem dX11_swap_42 : decode cX11_swap 42 = .ok (.irem, 1) := by decide +kernel
theorem dX11_swap_43 : decode cX11_swap 43 = .ok (.istore 6, 2) := by decide +kernel
theorem dX11_swap_45 : decode cX11_swap 45 = .ok (.iload 5, 2) := by decide +kernel
theorem dX11_swap_47 : decode cX11_swap 47 = .ok (.iload 6, 2) := by decide +kernel
theorem dX11_swap_49 : decode cX11_swap 49 = .ok (.if_icmp .ge 49, 3) := by decide +kernel
theorem dX11_swap_52 : decode cX11_swap 52 = .ok (.aload_n 0, 1) := by decide +kernel
theorem dX11_swap_53 : decode cX11_swap 53 = .ok (.iload 5, 2) := by decide +kernel
theorem dX11_swap_55 : decode cX11_swap 55 = .ok (.invokevirtual 413, 3) := by decide +kernel
theorem dX11_swap_58 : decode cX11_swap 58 = .ok (.ifCond .eq 40, 3) := by decide +kernel
theorem dX11_swap_61 : decode cX11_swap 61 = .ok (.aload_n 0, 1) := by decide +kernel
theorem dX11_swap_62 : decode cX11_swap 62 = .ok (.iload 6, 2) := by decide +kernel
theorem dX11_swap_64 : decode cX11_swap 64 = .ok (.invokevirtual 413, 3) := by decide +kernel
theorem dX11_swap_67 : decode cX11_swap 67 = .ok (.ifCond .ne 6, 3) := by decide +kernel
theorem dX11_swap_70 : decode cX11_swap 70 = .ok (.goto 28, 3) := by decide +kernel
theorem dX11_swap_73 : decode cX11_swap 73 = .ok (.aload_n 0, 1) := by decide +kernel
theorem dX11_swap_74 : decode cX11_swap 74 = .ok (.iload 5, 2) := by decide +kernel
theorem dX11_swap_76 : decode cX11_swap 76 = .ok (.iload 6, 2) := by decide +kernel
theorem dX11_swap_78 : decode cX11_swap 78 = .ok (.invokevirtual 457, 3) := by decide +kernel
theorem dX11_swap_81 : decode cX11_swap 81 = .ok (.istore 7, 2) := by decide +kernel
theorem dX11_swap_83 : decode cX11_swap 83 = .ok (.iload 7, 2) := by decide +kernel
theorem dX11_swap_85 : decode cX11_swap 85 = .ok (.iload_n 3, 1) := by decide +kernel
theorem dX11_swap_86 : decode cX11_swap 86 = .ok (.if_icmp .gt 6, 3) := by decide +kernel
theorem dX11_swap_89 : decode cX11_swap 89 = .ok (.goto 9, 3) := by decide +kernel
theorem dX11_swap_92 : decode cX11_swap 92 = .ok (.iload 4, 2) := by decide +kernel
theorem dX11_swap_94 : decode cX11_swap 94 = .ok (.istore_n 2, 1) := by decide +kernel
theorem dX11_swap_95 : decode cX11_swap 95 = .ok (.iload 7, 2) := by decide +kernel
theorem dX11_swap_97 : decode cX11_swap 97 = .ok (.istore_n 3, 1) := by decide +kernel
theorem dX11_swap_98 : decode cX11_swap 98 = .ok (.iinc 4 1, 3) := by decide +kernel
theorem dX11_swap_101 : decode cX11_swap 101 = .ok (.goto (-77), 3) := by decide +kernel
theorem dX11_swap_104 : decode cX11_swap 104 = .ok (.iload_n 2, 1) := by decide +kernel
theorem dX11_swap_105 : decode cX11_swap 105 = .ok (.ifCond .ge 7, 3) := by decide +kernel
theorem dX11_swap_108 : decode cX11_swap 108 = .ok (.iconst (-1), 1) := by decide +kernel
theorem dX11_swap_109 : decode cX11_swap 109 = .ok (.goto 27, 3) := by decide +kernel
theorem dX11_swap_112 : decode cX11_swap 112 = .ok (.iload_n 1, 1) := by decide +kernel
theorem dX11_swap_113 : decode cX11_swap 113 = .ok (.ifCond .ne 10, 3) := by decide +kernel
theorem dX11_swap_116 : decode cX11_swap 116 = .ok (.iload_n 2, 1) := by decide +kernel
theorem dX11_swap_117 : decode cX11_swap 117 = .ok (.bipush 6, 2) := by decide +kernel
theorem dX11_swap_119 : decode cX11_swap 119 = .ok (.idiv, 1) := by decide +kernel
theorem dX11_swap_120 : decode cX11_swap 120 = .ok (.goto 16, 3) := by decide +kernel
theorem dX11_swap_123 : decode cX11_swap 123 = .ok (.iload_n 1, 1) := by decide +kernel
theorem dX11_swap_124 : decode cX11_swap 124 = .ok (.iconst 1, 1) := by decide +kernel
theorem dX11_swap_125 : decode cX11_swap 125 = .ok (.if_icmp .ne 10, 3) := by decide +kernel
theorem dX11_swap_128 : decode cX11_swap 128 = .ok (.iload_n 2, 1) := by decide +kernel
theorem dX11_swap_129 : decode cX11_swap 129 = .ok (.bipush 6, 2) := by decide +kernel
theorem dX11_swap_131 : decode cX11_swap 131 = .ok (.irem, 1) := by decide +kernel
theorem dX11_swap_132 : decode cX11_swap 132 = .ok (.goto 4, 3) := by decide +kernel
theorem dX11_swap_135 : decode cX11_swap 135 = .ok (.iload_n 3, 1) := by decide +kernel
theorem dX11_swap_136 : decode cX11_swap 136 = .ok (.ireturn, 1) := by decide +kernel
theorem wd_1899 : (Cond.code ⟨"WebCourtModel", "swap", "(I)I"⟩ prog_13_method_93_code (8 : Nat) (Option.some FieldType.int)) ∈ gtb := gtb_c8 110 (by decide +kernel) rfl
theorem wd_1663 : (Cond.methodLink "WebCourtModel" (316 : Nat) ⟨"WebCourtModel", "bitsOf", "(I)I"⟩) ∈ gtb := gtb_c7 114 (by decide +kernel) rfl
theorem wd_1664 : (Cond.static ⟨"WebCourtModel", "bitsOf", "(I)I"⟩) ∈ gtb := gtb_c7 115 (by decide +kernel) rfl
theorem hd_yX11_bitsOf : yX11_bitsOf.cls ≠ "java/lang/invoke/MethodHandle" ∧ yX11_bitsOf.cls ≠ "java/lang/invoke/VarHandle" ∧ (parseMethodDescriptor yX11_bitsOf.desc).map (fun d => d.parameters.length) = some 1 := by decide +kernel
set_option maxHeartbeats 4000000 in
set_option maxRecDepth 100000 in
theorem T_X11_swap (l : Launch) (D : va_G) (cy : Nat → ClassId) (a : Nat → Nat) (u : St) (hA_6_0 : fA u 6 0 = 0) (hI_0_36 : fI u 0 36 = 0) (x1 : Int32)  : Mi l D cy (mW cy a) yX11_swap (.code yX11_swap cX11_swap 8 (some .int)) (rmo 3 64) [.ref (a 0), .int x1] u (fun (r : Int32) (u' : St) => (r = (-1)) ∧ (u' = u)) := by
  refine Mi.of (own := RX11) rfl (by decide) (Nat.le_of_ble_eq_true rfl) ?_
  intro p e s m below meth c A Q ls C hret hO hl
  obtain ⟨hx, hb, hml, hown, ht, hK, hA⟩ := id C
  have hl : lv_has ls 8 [(0, .ref (a 0)), (1, .int x1)] := hl
  refine lv_iload_n hx hb dX11_swap_0 rfl (lv_at hl 1 rfl) ?_
  refine lv_iconst (v := 0) hx hb dX11_swap_1 (by decide) ?_
  refine lv_iconst (v := 2) hx hb dX11_swap_2 (by decide) ?_
  refine cSi (w := mW cy a) (As := [.int x1, .int 0, .int 2]) (rest := []) C hO (T_X11_isIn l D cy a _ (x1) (0) (2)) (va_cwS 3 ht (gSS wd_1722 wd_1723 wd_121 wd_1724) rfl rfl rfl hd_yX11_isIn ⟨Nat.le_of_ble_eq_true rfl, Nat.le_of_ble_eq_true rfl⟩)  rfl hl.1 (Nat.le_of_ble_eq_true rfl) dX11_swap_3 rfl ⟨Nat.zero_le _, Nat.zero_le _⟩ (fun r1 u2 H locs hp3 hO => ?_)
  obtain ⟨hr1, hu2⟩ := hp3
  rw [hu2] at hO
  have zz4 : (0 : Int32).toInt = 0 := rfl
  have zz5 : (2 : Int32).toInt = 2 := rfl
  rcases hr1 with ⟨hcr1, hvr1⟩ | ⟨hcr1, hvr1⟩
  · subst hvr1
    refine bt_ne (tgt := 11) (X := 1) hx hb dX11_swap_6 (by decide) rfl (by omega) ?_
    refine lv_iconst (v := (-1)) hx hb dX11_swap_11 (by decide) ?_
    refine lv_istore_n (lv' := [(2, .int (-1)), (0, .ref (a 0)), (1, .int x1)]) hx hb dX11_swap_12 rfl hl (by decide) rfl (fun ls hl => ?_)
    refine lv_aload_n hx hb dX11_swap_13 rfl (lv_at hl 1 rfl) ?_
    refine cVi (w := mW cy a) (As := []) (rest := []) C hO (T_X11_freeNow l D cy a _ (by exact hA_6_0) (by exact hI_0_36)) (cwV 0 ht (gV wd_1793 wd_1795 wd_90 wd_121 wd_1796) rfl rfl rfl hd_yX11_freeNow ⟨Nat.le_of_ble_eq_true rfl, Nat.le_of_ble_eq_true rfl⟩) 0 rfl mW_0 rfl rfl hl.1 (Nat.le_of_ble_eq_true rfl) dX11_swap_14 rfl ⟨Nat.zero_le _, Nat.zero_le _⟩ (fun r6 u7 H locs hp8 hO => ?_)
    obtain ⟨hr6, hu7⟩ := hp8
    subst hr6
    rw [hu7] at hO
    refine cSi (w := mW cy a) (As := [.int 0]) (rest := []) C hO (T_X11_bitsOf_0 l D cy a _ ) (va_cwS 1 ht (gSS wd_1663 wd_1664 wd_121 wd_1665) rfl rfl rfl hd_yX11_bitsOf ⟨Nat.le_of_ble_eq_true rfl, Nat.le_of_ble_eq_true rfl⟩)  rfl hl.1 (Nat.le_of_ble_eq_true rfl) dX11_swap_17 rfl ⟨Nat.zero_le _, Nat.zero_le _⟩ (fun r9 u10 H locs hp11 hO => ?_)
    obtain ⟨hr9, hu10⟩ := hp11
    subst hr9
    rw [hu10] at hO
    refine lv_istore_n (lv' := [(3, .int 0), (2, .int (-1)), (0, .ref (a 0)), (1, .int x1)]) hx hb dX11_swap_20 rfl hl (by decide) rfl (fun ls hl => ?_)
    refine lv_iconst (v := 0) hx hb dX11_swap_21 (by decide) ?_
    refine lv_istore (lv' := [(4, .int 0), (3, .int 0), (2, .int (-1)), (0, .ref (a 0)), (1, .int x1)]) hx hb dX11_swap_22 hl (by decide) rfl (fun ls hl => ?_)
    refine lv_iload hx hb dX11_swap_24 (lv_at hl 0 rfl) ?_
    refine lv_bipush (v := 36) hx hb dX11_swap_26 (by decide) ?_
    refine cn_ge (X := 0) (Y := 36) hx hb dX11_swap_28 rfl rfl (by omega) ?_ (tgt := 104) (by decide)
    refine lv_iload hx hb dX11_swap_31 (lv_at hl 0 rfl) ?_
    refine lv_bipush (v := 6) hx hb dX11_swap_33 (by decide) ?_
    refine lv_idiv hx hb dX11_swap_35 (i_ne0 (X := 6) rfl (by omega)) ?_
    refine tE (y := 0) (by decide) ?_
    refine lv_istore (lv' := [(5, .int 0), (4, .int 0), (3, .int 0), (2, .int (-1)), (0, .ref (a 0)), (1, .int x1)]) hx hb dX11_swap_36 hl (by decide) rfl (fun ls hl => ?_)
    refine lv_iload hx hb dX11_swap_38 (lv_at hl 1 rfl) ?_
    refine lv_bipush (v := 6) hx hb dX11_swap_40 (by decide) ?_
    refine lv_irem hx hb dX11_swap_42 (i_ne0 (X := 6) rfl (by omega)) ?_
    refine tE (y := 0) (by decide) ?_
    refine lv_istore (lv' := [(6, .int 0), (5, .int 0), (4, .int 0), (3, .int 0), (2, .int (-1)), (0, .ref (a 0)), (1, .int x1)]) hx hb dX11_swap_43 hl (by decide) rfl (fun ls hl => ?_)
    refine lv_iload hx hb dX11_swap_45 (lv_at hl 1 rfl) ?_
    refine lv_iload hx hb dX11_swap_47 (lv_at hl 0 rfl) ?_
    refine ct_ge (tgt := 98) (X := 0) (Y := 0) hx hb dX11_swap_49 (by decide) rfl rfl (by omega) ?_
    refine lv_iinc (v := 1) (lv' := [(4, .int 1), (6, .int 0), (5, .int 0), (3, .int 0), (2, .int (-1)), (0, .ref (a 0)), (1, .int x1)]) hx hb dX11_swap_98 hl (k := 2) rfl rfl (by decide) rfl (fun ls hl => ?_)
    refine lv_goto (tgt := 24) hx hb dX11_swap_101 (by decide) ?_
    refine lv_iload hx hb dX11_swap_24 (lv_at hl 0 rfl) ?_
    refine lv_bipush (v := 36) hx hb dX11_swap_26 (by decide) ?_
    refine cn_ge (X := 1) (Y := 36) hx hb dX11_swap_28 rfl rfl (by omega) ?_ (tgt := 104) (by decide)
    refine lv_iload hx hb dX11_swap_31 (lv_at hl 0 rfl) ?_
    refine lv_bipush (v := 6) hx hb dX11_swap_33 (by decide) ?_
    refine lv_idiv hx hb dX11_swap_35 (i_ne0 (X := 6) rfl (by omega)) ?_
    refine tE (y := 0) (by decide) ?_
    refine lv_istore (lv' := [(5, .int 0), (4, .int 1), (6, .int 0), (3, .int 0), (2, .int (-1)), (0, .ref (a 0)), (1, .int x1)]) hx hb dX11_swap_36 hl (by decide) rfl (fun ls hl => ?_)
    refine lv_iload hx hb dX11_swap_38 (lv_at hl 1 rfl) ?_
    refine lv_bipush (v := 6) hx hb dX11_swap_40 (by decide) ?_
    refine lv_irem hx hb dX11_swap_42 (i_ne0 (X := 6) rfl (by omega)) ?_
    refine tE (y := 1) (by decide) ?_
    refine lv_istore (lv' := [(6, .int 1), (5, .int 0), (4, .int 1), (3, .int 0), (2, .int (-1)), (0, .ref (a 0)), (1, .int x1)]) hx hb dX11_swap_43 hl (by decide) rfl (fun ls hl => ?_)
    refine lv_iload hx hb dX11_swap_45 (lv_at hl 1 rfl) ?_
    refine lv_iload hx hb dX11_swap_47 (lv_at hl 0 rfl) ?_
    refine cn_ge (X := 0) (Y := 1) hx hb dX11_swap_49 rfl rfl (by omega) ?_ (tgt := 98) (by decide)
    refine lv_aload_n hx hb dX11_swap_52 rfl (lv_at hl 5 rfl) ?_
    refine lv_iload hx hb dX11_swap_53 (lv_at hl 1 rfl) ?_
    refine cVi (w := mW cy a) (As := [.int 0]) (rest := []) C hO (T_X11_isHeld l D cy a _ (by exact hA_6_0) (by exact hI_0_36) (0)) (cwV 1 ht (gV wd_1797 wd_1799 wd_91 wd_121 wd_1800) rfl rfl rfl hd_yX11_isHeld ⟨Nat.le_of_ble_eq_true rfl, Nat.le_of_ble_eq_true rfl⟩) 0 rfl mW_0 rfl rfl hl.1 (Nat.le_of_ble_eq_true rfl) dX11_swap_55 rfl ⟨Nat.zero_le _, Nat.zero_le _⟩ (fun r12 u13 H locs hp14 hO => ?_)
    obtain ⟨hr12, hu13⟩ := hp14
    subst hr12
    rw [hu13] at hO
    refine bt_eq (tgt := 98) (X := 0) hx hb dX11_swap_58 (by decide) rfl (by omega) ?_
    refine lv_iinc (v := 2) (lv' := [(4, .int 2), (6, .int 1), (5, .int 0), (3, .int 0), (2, .int (-1)), (0, .ref (a 0)), (1, .int x1)]) hx hb dX11_swap_98 hl (k := 2) rfl rfl (by decide) rfl (fun ls hl => ?_)
    refine lv_goto (tgt := 24) hx hb dX11_swap_101 (by decide) ?_
    refine lv_iload hx hb dX11_swap_24 (lv_at hl 0 rfl) ?_
    refine lv_bipush (v := 36) hx hb dX11_swap_26 (by decide) ?_
    refine cn_ge (X := 2) (Y := 36) hx hb dX11_swap_28 rfl rfl (by omega) ?_ (tgt := 104) (by decide)
    refine lv_iload hx hb dX11_swap_31 (lv_at hl 0 rfl) ?_
    refine lv_bipush (v := 6) hx hb dX11_swap_33 (by decide) ?_
    refine lv_idiv hx hb dX11_swap_35 (i_ne0 (X := 6) rfl (by omega)) ?_
    refine tE (y := 0) (by decide) ?_
    refine lv_istore (lv' := [(5, .int 0), (4, .int 2), (6, .int 1), (3, .int 0), (2, .int (-1)), (0, .ref (a 0)), (1, .int x1)]) hx hb dX11_swap_36 hl (by decide) rfl (fun ls hl => ?_)
    refine lv_iload hx hb dX11_swap_38 (lv_at hl 1 rfl) ?_
    refine lv_bipush (v := 6) hx hb dX11_swap_40 (by decide) ?_
    refine lv_irem hx hb dX11_swap_42 (i_ne0 (X := 6) rfl (by omega)) ?_
    refine tE (y := 2) (by decide) ?_
    refine lv_istore (lv' := [(6, .int 2), (5, .int 0), (4, .int 2), (3, .int 0), (2, .int (-1)), (0, .ref (a 0)), (1, .int x1)]) hx hb dX11_swap_43 hl (by decide) rfl (fun ls hl => ?_)
    refine lv_iload hx hb dX11_swap_45 (lv_at hl 1 rfl) ?_
    refine lv_iload hx hb dX11_swap_47 (lv_at hl 0 rfl) ?_
    refine cn_ge (X := 0) (Y := 2) hx hb dX11_swap_49 rfl rfl (by omega) ?_ (tgt := 98) (by decide)
    refine lv_aload_n hx hb dX11_swap_52 rfl (lv_at hl 5 rfl) ?_
    refine lv_iload hx hb dX11_swap_53 (lv_at hl 1 rfl) ?_
    refine cVi (w := mW cy a) (As := [.int 0]) (rest := []) C hO (T_X11_isHeld l D cy a _ (by exact hA_6_0) (by exact hI_0_36) (0)) (cwV 1 ht (gV wd_1797 wd_1799 wd_91 wd_121 wd_1800) rfl rfl rfl hd_yX11_isHeld ⟨Nat.le_of_ble_eq_true rfl, Nat.le_of_ble_eq_true rfl⟩) 0 rfl mW_0 rfl rfl hl.1 (Nat.le_of_ble_eq_true rfl) dX11_swap_55 rfl ⟨Nat.zero_le _, Nat.zero_le _⟩ (fun r15 u16 H locs hp17 hO => ?_)
    obtain ⟨hr15, hu16⟩ := hp17
    subst hr15
    rw [hu16] at hO
    refine bt_eq (tgt := 98) (X := 0) hx hb dX11_swap_58 (by decide) rfl (by omega) ?_
    refine lv_iinc (v := 3) (lv' := [(4, .int 3), (6, .int 2), (5, .int 0), (3, .int 0), (2, .int (-1)), (0, .ref (a 0)), (1, .int x1)]) hx hb dX11_swap_98 hl (k := 2) rfl rfl (by decide) rfl (fun ls hl => ?_)
    refine lv_goto (tgt := 24) hx hb dX11_swap_101 (by decide) ?_
    refine lv_iload hx hb dX11_swap_24 (lv_at hl 0 rfl) ?_
    refine lv_bipush (v := 36) hx hb dX11_swap_26 (by decide) ?_
    refine cn_ge (X := 3) (Y := 36) hx hb dX11_swap_28 rfl rfl (by omega) ?_ (tgt := 104) (by decide)
    refine lv_iload hx hb dX11_swap_31 (lv_at hl 0 rfl) ?_
    refine lv_bipush (v := 6) hx hb dX11_swap_33 (by decide) ?_
    refine lv_idiv hx hb dX11_swap_35 (i_ne0 (X := 6) rfl (by omega)) ?_
    refine tE (y := 0) (by decide) ?_
    refine lv_istore (lv' := [(5, .int 0), (4, .int 3), (6, .int 2), (3, .int 0), (2, .int (-1)), (0, .ref (a 0)), (1, .int x1)]) hx hb dX11_swap_36 hl (by decide) rfl (fun ls hl => ?_)
    refine lv_iload hx hb dX11_swap_38 (lv_at hl 1 rfl) ?_
    refine lv_bipush (v := 6) hx hb dX11_swap_40 (by decide) ?_
    refine lv_irem hx hb dX11_swap_42 (i_ne0 (X := 6) rfl (by omega)) ?_
    refine tE (y := 3) (by decide) ?_
    refine lv_istore (lv' := [(6, .int 3), (5, .int 0), (4, .int 3), (3, .int 0), (2, .int (-1)), (0, .ref (a 0)), (1, .int x1)]) hx hb dX11_swap_43 hl (by decide) rfl (fun ls hl => ?_)
    refine lv_iload hx hb dX11_swap_45 (lv_at hl 1 rfl) ?_
    refine lv_iload hx hb dX11_swap_47 (lv_at hl 0 rfl) ?_
    refine cn_ge (X := 0) (Y := 3) hx hb dX11_swap_49 rfl rfl (by omega) ?_ (tgt := 98) (by decide)
    refine lv_aload_n hx hb dX11_swap_52 rfl (lv_at hl 5 rfl) ?_
    refine lv_iload hx hb dX11_swap_53 (lv_at hl 1 rfl) ?_
    refine cVi (w := mW cy a) (As := [.int 0]) (rest := []) C hO (T_X11_isHeld l D cy a _ (by exact hA_6_0) (by exact hI_0_36) (0)) (cwV 1 ht (gV wd_1797 wd_1799 wd_91 wd_121 wd_1800) rfl rfl rfl hd_yX11_isHeld ⟨Nat.le_of_ble_eq_true rfl, Nat.le_of_ble_eq_true rfl⟩) 0 rfl mW_0 rfl rfl hl.1 (Nat.le_of_ble_eq_true rfl) dX11_swap_55 rfl ⟨Nat.zero_le _, Nat.zero_le _⟩ (fun r18 u19 H locs hp20 hO => ?_)
    obtain ⟨hr18, hu19⟩ := hp20
    subst hr18
    rw [hu19] at hO
    refine bt_eq (tgt := 98) (X := 0) hx hb dX11_swap_58 (by decide) rfl (by omega) ?_
    refine lv_iinc (v := 4) (lv' := [(4, .int 4), (6, .int 3), (5, .int 0), (3, .int 0), (2, .int (-1)), (0, .ref (a 0)), (1, .int x1)]) hx hb dX11_swap_98 hl (k := 2) rfl rfl (by decide) rfl (fun ls hl => ?_)
    refine lv_goto (tgt := 24) hx hb dX11_swap_101 (by decide) ?_
    refine lv_iload hx hb dX11_swap_24 (lv_at hl 0 rfl) ?_
    refine lv_bipush (v := 36) hx hb dX11_swap_26 (by decide) ?_
    refine cn_ge (X := 4) (Y := 36) hx hb dX11_swap_28 rfl rfl (by omega) ?_ (tgt := 104) (by decide)
    refine lv_iload hx hb dX11_swap_31 (lv_at hl 0 rfl) ?_
    refine lv_bipush (v := 6) hx hb dX11_swap_33 (by decide) ?_
    refine lv_idiv hx hb dX11_swap_35 (i_ne0 (X := 6) rfl (by omega)) ?_
    refine tE (y := 0) (by decide) ?_
    refine lv_istore (lv' := [(5, .int 0), (4, .int 4), (6, .int 3), (3, .int 0), (2, .int (-1)), (0, .ref (a 0)), (1, .int x1)]) hx hb dX11_swap_36 hl (by decide) rfl (fun ls hl => ?_)
    refine lv_iload hx hb dX11_swap_38 (lv_at hl 1 rfl) ?_
    refine lv_bipush (v := 6) hx hb dX11_swap_40 (by decide) ?_
    refine lv_irem hx hb dX11_swap_42 (i_ne0 (X := 6) rfl (by omega)) ?_
    refine tE (y := 4) (by decide) ?_
    refine lv_istore (lv' := [(6, .int 4), (5, .int 0), (4, .int 4), (3, .int 0), (2, .int (-1)), (0, .ref (a 0)), (1, .int x1)]) hx hb dX11_swap_43 hl (by decide) rfl (fun ls hl => ?_)
    refine lv_iload hx hb dX11_swap_45 (lv_at hl 1 rfl) ?_
    refine lv_iload hx hb dX11_swap_47 (lv_at hl 0 rfl) ?_
    refine cn_ge (X := 0) (Y := 4) hx hb dX11_swap_49 rfl rfl (by omega) ?_ (tgt := 98) (by decide)
    refine lv_aload_n hx hb dX11_swap_52 rfl (lv_at hl 5 rfl) ?_
    refine lv_iload hx hb dX11_swap_53 (lv_at hl 1 rfl) ?_
    refine cVi (w := mW cy a) (As := [.int 0]) (rest := []) C hO (T_X11_isHeld l D cy a _ (by exact hA_6_0) (by exact hI_0_36) (0)) (cwV 1 ht (gV wd_1797 wd_1799 wd_91 wd_121 wd_1800) rfl rfl rfl hd_yX11_isHeld ⟨Nat.le_of_ble_eq_true rfl, Nat.le_of_ble_eq_true rfl⟩) 0 rfl mW_0 rfl rfl hl.1 (Nat.le_of_ble_eq_true rfl) dX11_swap_55 rfl ⟨Nat.zero_le _, Nat.zero_le _⟩ (fun r21 u22 H locs hp23 hO => ?_)
    obtain ⟨hr21, hu22⟩ := hp23
    subst hr21
    rw [hu22] at hO
    refine bt_eq (tgt := 98) (X := 0) hx hb dX11_swap_58 (by decide) rfl (by omega) ?_
    refine lv_iinc (v := 5) (lv' := [(4, .int 5), (6, .int 4), (5, .int 0), (3, .int 0), (2, .int (-1)), (0, .ref (a 0)), (1, .int x1)]) hx hb dX11_swap_98 hl (k := 2) rfl rfl (by decide) rfl (fun ls hl => ?_)
    refine lv_goto (tgt := 24) hx hb dX11_swap_101 (by decide) ?_
    refine lv_iload hx hb dX11_swap_24 (lv_at hl 0 rfl) ?_
    refine lv_bipush (v := 36) hx hb dX11_swap_26 (by decide) ?_
    refine cn_ge (X := 5) (Y := 36) hx hb dX11_swap_28 rfl rfl (by omega) ?_ (tgt := 104) (by decide)
    refine lv_iload hx hb dX11_swap_31 (lv_at hl 0 rfl) ?_
    refine lv_bipush (v := 6) hx hb dX11_swap_33 (by decide) ?_
    refine lv_idiv hx hb dX11_swap_35 (i_ne0 (X := 6) rfl (by omega)) ?_
    refine tE (y := 0) (by decide) ?_
    refine lv_istore (lv' := [(5, .int 0), (4, .int 5), (6, .int 4), (3, .int 0), (2, .int (-1)), (0, .ref (a 0)), (1, .int x1)]) hx hb dX11_swap_36 hl (by decide) rfl (fun ls hl => ?_)
    refine lv_iload hx hb dX11_swap_38 (lv_at hl 1 rfl) ?_
    refine lv_bipush (v := 6) hx hb dX11_swap_40 (by decide) ?_
    refine lv_irem hx hb dX11_swap_42 (i_ne0 (X := 6) rfl (by omega)) ?_
    refine tE (y := 5) (by decide) ?_
    refine lv_istore (lv' := [(6, .int 5), (5, .int 0), (4, .int 5), (3, .int 0), (2, .int (-1)), (0, .ref (a 0)), (1, .int x1)]) hx hb dX11_swap_43 hl (by decide) rfl (fun ls hl => ?_)
    refine lv_iload hx hb dX11_swap_45 (lv_at hl 1 rfl) ?_
    refine lv_iload hx hb dX11_swap_47 (lv_at hl 0 rfl) ?_
    refine cn_ge (X := 0) (Y := 5) hx hb dX11_swap_49 rfl rfl (by omega) ?_ (tgt := 98) (by decide)
    refine lv_aload_n hx hb dX11_swap_52 rfl (lv_at hl 5 rfl) ?_
    refine lv_iload hx hb dX11_swap_53 (lv_at hl 1 rfl) ?_
    refine cVi (w := mW cy a) (As := [.int 0]) (rest := []) C hO (T_X11_isHeld l D cy a _ (by exact hA_6_0) (by exact hI_0_36) (0)) (cwV 1 ht (gV wd_1797 wd_1799 wd_91 wd_121 wd_1800) rfl rfl rfl hd_yX11_isHeld ⟨Nat.le_of_ble_eq_true rfl, Nat.le_of_ble_eq_true rfl⟩) 0 rfl mW_0 rfl rfl hl.1 (Nat.le_of_ble_eq_true rfl) dX11_swap_55 rfl ⟨Nat.zero_le _, Nat.zero_le _⟩ (fun r24 u25 H locs hp26 hO => ?_)
    obtain ⟨hr24, hu25⟩ := hp26
    subst hr24
    rw [hu25] at hO
    refine bt_eq (tgt := 98) (X := 0) hx hb dX11_swap_58 (by decide) rfl (by omega) ?_
    refine lv_iinc (v := 6) (lv' := [(4, .int 6), (6, .int 5), (5, .int 0), (3, .int 0), (2, .int (-1)), (0, .ref (a 0)), (1, .int x1)]) hx hb dX11_swap_98 hl (k := 2) rfl rfl (by decide) rfl (fun ls hl => ?_)
    refine lv_goto (tgt := 24) hx hb dX11_swap_101 (by decide) ?_
    refine lv_iload hx hb dX11_swap_24 (lv_at hl 0 rfl) ?_
    refine lv_bipush (v := 36) hx hb dX11_swap_26 (by decide) ?_
    refine cn_ge (X := 6) (Y := 36) hx hb dX11_swap_28 rfl rfl (by omega) ?_ (tgt := 104) (by decide)
    refine lv_iload hx hb dX11_swap_31 (lv_at hl 0 rfl) ?_
    refine lv_bipush (v := 6) hx hb dX11_swap_33 (by decide) ?_
    refine lv_idiv hx hb dX11_swap_35 (i_ne0 (X := 6) rfl (by omega)) ?_
    refine tE (y := 1) (by decide) ?_
    refine lv_istore (lv' := [(5, .int 1), (4, .int 6), (6, .int 5), (3, .int 0), (2, .int (-1)), (0, .ref (a 0)), (1, .int x1)]) hx hb dX11_swap_36 hl (by decide) rfl (fun ls hl => ?_)
    refine lv_iload hx hb dX11_swap_38 (lv_at hl 1 rfl) ?_
    refine lv_bipush (v := 6) hx hb dX11_swap_40 (by decide) ?_
    refine lv_irem hx hb dX11_swap_42 (i_ne0 (X := 6) rfl (by omega)) ?_
    refine tE (y := 0) (by decide) ?_
    refine lv_istore (lv' := [(6, .int 0), (5, .int 1), (4, .int 6), (3, .int 0), (2, .int (-1)), (0, .ref (a 0)), (1, .int x1)]) hx hb dX11_swap_43 hl (by decide) rfl (fun ls hl => ?_)
    refine lv_iload hx hb dX11_swap_45 (lv_at hl 1 rfl) ?_
    refine lv_iload hx hb dX11_swap_47 (lv_at hl 0 rfl) ?_
    refine ct_ge (tgt := 98) (X := 1) (Y := 0) hx hb dX11_swap_49 (by decide) rfl rfl (by omega) ?_
    refine lv_iinc (v := 7) (lv' := [(4, .int 7), (6, .int 0), (5, .int 1), (3, .int 0), (2, .int (-1)), (0, .ref (a 0)), (1, .int x1)]) hx hb dX11_swap_98 hl (k := 2) rfl rfl (by decide) rfl (fun ls hl => ?_)
    refine lv_goto (tgt := 24) hx hb dX11_swap_101 (by decide) ?_
    refine lv_iload hx hb dX11_swap_24 (lv_at hl 0 rfl) ?_
    refine lv_bipush (v := 36) hx hb dX11_swap_26 (by decide) ?_
    refine cn_ge (X := 7) (Y := 36) hx hb dX11_swap_28 rfl rfl (by omega) ?_ (tgt := 104) (by decide)
    refine lv_iload hx hb dX11_swap_31 (lv_at hl 0 rfl) ?_
    refine lv_bipush (v := 6) hx hb dX11_swap_33 (by decide) ?_
    refine lv_idiv hx hb dX11_swap_35 (i_ne0 (X := 6) rfl (by omega)) ?_
    refine tE (y := 1) (by decide) ?_
    refine lv_istore (lv' := [(5, .int 1), (4, .int 7), (6, .int 0), (3, .int 0), (2, .int (-1)), (0, .ref (a 0)), (1, .int x1)]) hx hb dX11_swap_36 hl (by decide) rfl (fun ls hl => ?_)
    refine lv_iload hx hb dX11_swap_38 (lv_at hl 1 rfl) ?_
    refine lv_bipush (v := 6) hx hb dX11_swap_40 (by decide) ?_
    refine lv_irem hx hb dX11_swap_42 (i_ne0 (X := 6) rfl (by omega)) ?_
    refine tE (y := 1) (by decide) ?_
    refine lv_istore (lv' := [(6, .int 1), (5, .int 1), (4, .int 7), (3, .int 0), (2, .int (-1)), (0, .ref (a 0)), (1, .int x1)]) hx hb dX11_swap_43 hl (by decide) rfl (fun ls hl => ?_)
    refine lv_iload hx hb dX11_swap_45 (lv_at hl 1 rfl) ?_
    refine lv_iload hx hb dX11_swap_47 (lv_at hl 0 rfl) ?_
    refine ct_ge (tgt := 98) (X := 1) (Y := 1) hx hb dX11_swap_49 (by decide) rfl rfl (by omega) ?_
    refine lv_iinc (v := 8) (lv' := [(4, .int 8), (6, .int 1), (5, .int 1), (3, .int 0), (2, .int (-1)), (0, .ref (a 0)), (1, .int x1)]) hx hb dX11_swap_98 hl (k := 2) rfl rfl (by decide) rfl (fun ls hl => ?_)
    refine lv_goto (tgt := 24) hx hb dX11_swap_101 (by decide) ?_
    refine lv_iload hx hb dX11_swap_24 (lv_at hl 0 rfl) ?_
    refine lv_bipush (v := 36) hx hb dX11_swap_26 (by decide) ?_
    refine cn_ge (X := 8) (Y := 36) hx hb dX11_swap_28 rfl rfl (by omega) ?_ (tgt := 104) (by decide)
    refine lv_iload hx hb dX11_swap_31 (lv_at hl 0 rfl) ?_
    refine lv_bipush (v := 6) hx hb dX11_swap_33 (by decide) ?_
    refine lv_idiv hx hb dX11_swap_35 (i_ne0 (X := 6) rfl (by omega)) ?_
    refine tE (y := 1) (by decide) ?_
    refine lv_istore (lv' := [(5, .int 1), (4, .int 8), (6, .int 1), (3, .int 0), (2, .int (-1)), (0, .ref (a 0)), (1, .int x1)]) hx hb dX11_swap_36 hl (by decide) rfl (fun ls hl => ?_)
    refine lv_iload hx hb dX11_swap_38 (lv_at hl 1 rfl) ?_
    refine lv_bipush (v := 6) hx hb dX11_swap_40 (by decide) ?_
    refine lv_irem hx hb dX11_swap_42 (i_ne0 (X := 6) rfl (by omega)) ?_
    refine tE (y := 2) (by decide) ?_
    refine lv_istore (lv' := [(6, .int 2), (5, .int 1), (4, .int 8), (3, .int 0), (2, .int (-1)), (0, .ref (a 0)), (1, .int x1)]) hx hb dX11_swap_43 hl (by decide) rfl (fun ls hl => ?_)
    refine lv_iload hx hb dX11_swap_45 (lv_at hl 1 rfl) ?_
    refine lv_iload hx hb dX11_swap_47 (lv_at hl 0 rfl) ?_
    refine cn_ge (X := 1) (Y := 2) hx hb dX11_swap_49 rfl rfl (by omega) ?_ (tgt := 98) (by decide)
    refine lv_aload_n hx hb dX11_swap_52 rfl (lv_at hl 5 rfl) ?_
    refine lv_iload hx hb dX11_swap_53 (lv_at hl 1 rfl) ?_
    refine cVi (w := mW cy a) (As := [.int 1]) (rest := []) C hO (T_X11_isHeld l D cy a _ (by exact hA_6_0) (by exact hI_0_36) (1)) (cwV 1 ht (gV wd_1797 wd_1799 wd_91 wd_121 wd_1800) rfl rfl rfl hd_yX11_isHeld ⟨Nat.le_of_ble_eq_true rfl, Nat.le_of_ble_eq_true rfl⟩) 0 rfl mW_0 rfl rfl hl.1 (Nat.le_of_ble_eq_true rfl) dX11_swap_55 rfl ⟨Nat.zero_le _, Nat.zero_le _⟩ (fun r27 u28 H locs hp29 hO => ?_)
    obtain ⟨hr27, hu28⟩ := hp29
    subst hr27
    rw [hu28] at hO
    refine bt_eq (tgt := 98) (X := 0) hx hb dX11_swap_58 (by decide) rfl (by omega) ?_
    refine lv_iinc (v := 9) (lv' := [(4, .int 9), (6, .int 2), (5, .int 1), (3, .int 0), (2, .int (-1)), (0, .ref (a 0)), (1, .int x1)]) hx hb dX11_swap_98 hl (k := 2) rfl rfl (by decide) rfl (fun ls hl => ?_)
    refine lv_goto (tgt := 24) hx hb dX11_swap_101 (by decide) ?_
    refine lv_iload hx hb dX11_swap_24 (lv_at hl 0 rfl) ?_
    refine lv_bipush (v := 36) hx hb dX11_swap_26 (by decide) ?_
    refine cn_ge (X := 9) (Y := 36) hx hb dX11_swap_28 rfl rfl (by omega) ?_ (tgt := 104) (by decide)
    refine lv_iload hx hb dX11_swap_31 (lv_at hl 0 rfl) ?_
    refine lv_bipush (v := 6) hx hb dX11_swap_33 (by decide) ?_
    refine lv_idiv hx hb dX11_swap_35 (i_ne0 (X := 6) rfl (by omega)) ?_
    refine tE (y := 1) (by decide) ?_
    refine lv_istore (lv' := [(5, .int 1), (4, .int 9), (6, .int 2), (3, .int 0), (2, .int (-1)), (0, .ref (a 0)), (1, .int x1)]) hx hb dX11_swap_36 hl (by decide) rfl (fun ls hl => ?_)
    refine lv_iload hx hb dX11_swap_38 (lv_at hl 1 rfl) ?_
    refine lv_bipush (v := 6) hx hb dX11_swap_40 (by decide) ?_
    refine lv_irem hx hb dX11_swap_42 (i_ne0 (X := 6) rfl (by omega)) ?_
    refine tE (y := 3) (by decide) ?_
    refine lv_istore (lv' := [(6, .int 3), (5, .int 1), (4, .int 9), (3, .int 0), (2, .int (-1)), (0, .ref (a 0)), (1, .int x1)]) hx hb dX11_swap_43 hl (by decide) rfl (fun ls hl => ?_)
    refine lv_iload hx hb dX11_swap_45 (lv_at hl 1 rfl) ?_
    refine lv_iload hx hb dX11_swap_47 (lv_at hl 0 rfl) ?_
    refine cn_ge (X := 1) (Y := 3) hx hb dX11_swap_49 rfl rfl (by omega) ?_ (tgt := 98) (by decide)
    refine lv_aload_n hx hb dX11_swap_52 rfl (lv_at hl 5 rfl) ?_
    refine lv_iload hx hb dX11_swap_53 (lv_at hl 1 rfl) ?_
    refine cVi (w := mW cy a) (As := [.int 1]) (rest := []) C hO (T_X11_isHeld l D cy a _ (by exact hA_6_0) (by exact hI_0_36) (1)) (cwV 1 ht (gV wd_1797 wd_1799 wd_91 wd_121 wd_1800) rfl rfl rfl hd_yX11_isHeld ⟨Nat.le_of_ble_eq_true rfl, Nat.le_of_ble_eq_true rfl⟩) 0 rfl mW_0 rfl rfl hl.1 (Nat.le_of_ble_eq_true rfl) dX11_swap_55 rfl ⟨Nat.zero_le _, Nat.zero_le _⟩ (fun r30 u31 H locs hp32 hO => ?_)
    obtain ⟨hr30, hu31⟩ := hp32
    subst hr30
    rw [hu31] at hO
    refine bt_eq (tgt := 98) (X := 0) hx hb dX11_swap_58 (by decide) rfl (by omega) ?_
    refine lv_iinc (v := 10) (lv' := [(4, .int 10), (6, .int 3), (5, .int 1), (3, .int 0), (2, .int (-1)), (0, .ref (a 0)), (1, .int x1)]) hx hb dX11_swap_98 hl (k := 2) rfl rfl (by decide) rfl (fun ls hl => ?_)
    refine lv_goto (tgt := 24) hx hb dX11_swap_101 (by decide) ?_
    refine lv_iload hx hb dX11_swap_24 (lv_at hl 0 rfl) ?_
    refine lv_bipush (v := 36) hx hb dX11_swap_26 (by decide) ?_
    refine cn_ge (X := 10) (Y := 36) hx hb dX11_swap_28 rfl rfl (by omega) ?_ (tgt := 104) (by decide)
    refine lv_iload hx hb dX11_swap_31 (lv_at hl 0 rfl) ?_
    refine lv_bipush (v := 6) hx hb dX11_swap_33 (by decide) ?_
    refine lv_idiv hx hb dX11_swap_35 (i_ne0 (X := 6) rfl (by omega)) ?_
    refine tE (y := 1) (by decide) ?_
    refine lv_istore (lv' := [(5, .int 1), (4, .int 10), (6, .int 3), (3, .int 0), (2, .int (-1)), (0, .ref (a 0)), (1, .int x1)]) hx hb dX11_swap_36 hl (by decide) rfl (fun ls hl => ?_)
    refine lv_iload hx hb dX11_swap_38 (lv_at hl 1 rfl) ?_
    refine lv_bipush (v := 6) hx hb dX11_swap_40 (by decide) ?_
    refine lv_irem hx hb dX11_swap_42 (i_ne0 (X := 6) rfl (by omega)) ?_
    refine tE (y := 4) (by decide) ?_
    refine lv_istore (lv' := [(6, .int 4), (5, .int 1), (4, .int 10), (3, .int 0), (2, .int (-1)), (0, .ref (a 0)), (1, .int x1)]) hx hb dX11_swap_43 hl (by decide) rfl (fun ls hl => ?_)
    refine lv_iload hx hb dX11_swap_45 (lv_at hl 1 rfl) ?_
    refine lv_iload hx hb dX11_swap_47 (lv_at hl 0 rfl) ?_
    refine cn_ge (X := 1) (Y := 4) hx hb dX11_swap_49 rfl rfl (by omega) ?_ (tgt := 98) (by decide)
    refine lv_aload_n hx hb dX11_swap_52 rfl (lv_at hl 5 rfl) ?_
    refine lv_iload hx hb dX11_swap_53 (lv_at hl 1 rfl) ?_
    refine cVi (w := mW cy a) (As := [.int 1]) (rest := []) C hO (T_X11_isHeld l D cy a _ (by exact hA_6_0) (by exact hI_0_36) (1)) (cwV 1 ht (gV wd_1797 wd_1799 wd_91 wd_121 wd_1800) rfl rfl rfl hd_yX11_isHeld ⟨Nat.le_of_ble_eq_true rfl, Nat.le_of_ble_eq_true rfl⟩) 0 rfl mW_0 rfl rfl hl.1 (Nat.le_of_ble_eq_true rfl) dX11_swap_55 rfl ⟨Nat.zero_le _, Nat.zero_le _⟩ (fun r33 u34 H locs hp35 hO => ?_)
    obtain ⟨hr33, hu34⟩ := hp35
    subst hr33
    rw [hu34] at hO
    refine bt_eq (tgt := 98) (X := 0) hx hb dX11_swap_58 (by decide) rfl (by omega) ?_
    refine lv_iinc (v := 11) (lv' := [(4, .int 11), (6, .int 4), (5, .int 1), (3, .int 0), (2, .int (-1)), (0, .ref (a 0)), (1, .int x1)]) hx hb dX11_swap_98 hl (k := 2) rfl rfl (by decide) rfl (fun ls hl => ?_)
    refine lv_goto (tgt := 24) hx hb dX11_swap_101 (by decide) ?_
    refine lv_iload hx hb dX11_swap_24 (lv_at hl 0 rfl) ?_
    refine lv_bipush (v := 36) hx hb dX11_swap_26 (by decide) ?_
    refine cn_ge (X := 11) (Y := 36) hx hb dX11_swap_28 rfl rfl (by omega) ?_ (tgt := 104) (by decide)
    refine lv_iload hx hb dX11_swap_31 (lv_at hl 0 rfl) ?_
    refine lv_bipush (v := 6) hx hb dX11_swap_33 (by decide) ?_
    refine lv_idiv hx hb dX11_swap_35 (i_ne0 (X := 6) rfl (by omega)) ?_
    refine tE (y := 1) (by decide) ?_
    refine lv_istore (lv' := [(5, .int 1), (4, .int 11), (6, .int 4), (3, .int 0), (2, .int (-1)), (0, .ref (a 0)), (1, .int x1)]) hx hb dX11_swap_36 hl (by decide) rfl (fun ls hl => ?_)
    refine lv_iload hx hb dX11_swap_38 (lv_at hl 1 rfl) ?_
    refine lv_bipush (v := 6) hx hb dX11_swap_40 (by decide) ?_
    refine lv_irem hx hb dX11_swap_42 (i_ne0 (X := 6) rfl (by omega)) ?_
    refine tE (y := 5) (by decide) ?_
    refine lv_istore (lv' := [(6, .int 5), (5, .int 1), (4, .int 11), (3, .int 0), (2, .int (-1)), (0, .ref (a 0)), (1, .int x1)]) hx hb dX11_swap_43 hl (by decide) rfl (fun ls hl => ?_)
    refine lv_iload hx hb dX11_swap_45 (lv_at hl 1 rfl) ?_
    refine lv_iload hx hb dX11_swap_47 (lv_at hl 0 rfl) ?_
    refine cn_ge (X := 1) (Y := 5) hx hb dX11_swap_49 rfl rfl (by omega) ?_ (tgt := 98) (by decide)
    refine lv_aload_n hx hb dX11_swap_52 rfl (lv_at hl 5 rfl) ?_
    refine lv_iload hx hb dX11_swap_53 (lv_at hl 1 rfl) ?_
    refine cVi (w := mW cy a) (As := [.int 1]) (rest := []) C hO (T_X11_isHeld l D cy a _ (by exact hA_6_0) (by exact hI_0_36) (1)) (cwV 1 ht (gV wd_1797 wd_1799 wd_91 wd_121 wd_1800) rfl rfl rfl hd_yX11_isHeld ⟨Nat.le_of_ble_eq_true rfl, Nat.le_of_ble_eq_true rfl⟩) 0 rfl mW_0 rfl rfl hl.1 (Nat.le_of_ble_eq_true rfl) dX11_swap_55 rfl ⟨Nat.zero_le _, Nat.zero_le _⟩ (fun r36 u37 H locs hp38 hO => ?_)
    obtain ⟨hr36, hu37⟩ := hp38
    subst hr36
    rw [hu37] at hO
    refine bt_eq (tgt := 98) (X := 0) hx hb dX11_swap_58 (by decide) rfl (by omega) ?_
    refine lv_iinc (v := 12) (lv' := [(4, .int 12), (6, .int 5), (5, .int 1), (3, .int 0), (2, .int (-1)), (0, .ref (a 0)), (1, .int x1)]) hx hb dX11_swap_98 hl (k := 2) rfl rfl (by decide) rfl (fun ls hl => ?_)
    refine lv_goto (tgt := 24) hx hb dX11_swap_101 (by decide) ?_
    refine lv_iload hx hb dX11_swap_24 (lv_at hl 0 rfl) ?_
    refine lv_bipush (v := 36) hx hb dX11_swap_26 (by decide) ?_
    refine cn_ge (X := 12) (Y := 36) hx hb dX11_swap_28 rfl rfl (by omega) ?_ (tgt := 104) (by decide)
    refine lv_iload hx hb dX11_swap_31 (lv_at hl 0 rfl) ?_
    refine lv_bipush (v := 6) hx hb dX11_swap_33 (by decide) ?_
    refine lv_idiv hx hb dX11_swap_35 (i_ne0 (X := 6) rfl (by omega)) ?_
    refine tE (y := 2) (by decide) ?_
    refine lv_istore (lv' := [(5, .int 2), (4, .int 12), (6, .int 5), (3, .int 0), (2, .int (-1)), (0, .ref (a 0)), (1, .int x1)]) hx hb dX11_swap_36 hl (by decide) rfl (fun ls hl => ?_)
    refine lv_iload hx hb dX11_swap_38 (lv_at hl 1 rfl) ?_
    refine lv_bipush (v := 6) hx hb dX11_swap_40 (by decide) ?_
    refine lv_irem hx hb dX11_swap_42 (i_ne0 (X := 6) rfl (by omega)) ?_
    refine tE (y := 0) (by decide) ?_
    refine lv_istore (lv' := [(6, .int 0), (5, .int 2), (4, .int 12), (3, .int 0), (2, .int (-1)), (0, .ref (a 0)), (1, .int x1)]) hx hb dX11_swap_43 hl (by decide) rfl (fun ls hl => ?_)
    refine lv_iload hx hb dX11_swap_45 (lv_at hl 1 rfl) ?_
    refine lv_iload hx hb dX11_swap_47 (lv_at hl 0 rfl) ?_
    refine ct_ge (tgt := 98) (X := 2) (Y := 0) hx hb dX11_swap_49 (by decide) rfl rfl (by omega) ?_
    refine lv_iinc (v := 13) (lv' := [(4, .int 13), (6, .int 0), (5, .int 2), (3, .int 0), (2, .int (-1)), (0, .ref (a 0)), (1, .int x1)]) hx hb dX11_swap_98 hl (k := 2) rfl rfl (by decide) rfl (fun ls hl => ?_)
    refine lv_goto (tgt := 24) hx hb dX11_swap_101 (by decide) ?_
    refine lv_iload hx hb dX11_swap_24 (lv_at hl 0 rfl) ?_
    refine lv_bipush (v := 36) hx hb dX11_swap_26 (by decide) ?_
    refine cn_ge (X := 13) (Y := 36) hx hb dX11_swap_28 rfl rfl (by omega) ?_ (tgt := 104) (by decide)
    refine lv_iload hx hb dX11_swap_31 (lv_at hl 0 rfl) ?_
    refine lv_bipush (v := 6) hx hb dX11_swap_33 (by decide) ?_
    refine lv_idiv hx hb dX11_swap_35 (i_ne0 (X := 6) rfl (by omega)) ?_
    refine tE (y := 2) (by decide) ?_
    refine lv_istore (lv' := [(5, .int 2), (4, .int 13), (6, .int 0), (3, .int 0), (2, .int (-1)), (0, .ref (a 0)), (1, .int x1)]) hx hb dX11_swap_36 hl (by decide) rfl (fun ls hl => ?_)
    refine lv_iload hx hb dX11_swap_38 (lv_at hl 1 rfl) ?_
    refine lv_bipush (v := 6) hx hb dX11_swap_40 (by decide) ?_
    refine lv_irem hx hb dX11_swap_42 (i_ne0 (X := 6) rfl (by omega)) ?_
    refine tE (y := 1) (by decide) ?_
    refine lv_istore (lv' := [(6, .int 1), (5, .int 2), (4, .int 13), (3, .int 0), (2, .int (-1)), (0, .ref (a 0)), (1, .int x1)]) hx hb dX11_swap_43 hl (by decide) rfl (fun ls hl => ?_)
    refine lv_iload hx hb dX11_swap_45 (lv_at hl 1 rfl) ?_
    refine lv_iload hx hb dX11_swap_47 (lv_at hl 0 rfl) ?_
    refine ct_ge (tgt := 98) (X := 2) (Y := 1) hx hb dX11_swap_49 (by decide) rfl rfl (by omega) ?_
    refine lv_iinc (v := 14) (lv' := [(4, .int 14), (6, .int 1), (5, .int 2), (3, .int 0), (2, .int (-1)), (0, .ref (a 0)), (1, .int x1)]) hx hb dX11_swap_98 hl (k := 2) rfl rfl (by decide) rfl (fun ls hl => ?_)
    refine lv_goto (tgt := 24) hx hb dX11_swap_101 (by decide) ?_
    refine lv_iload hx hb dX11_swap_24 (lv_at hl 0 rfl) ?_
    refine lv_bipush (v := 36) hx hb dX11_swap_26 (by decide) ?_
    refine cn_ge (X := 14) (Y := 36) hx hb dX11_swap_28 rfl rfl (by omega) ?_ (tgt := 104) (by decide)
    refine lv_iload hx hb dX11_swap_31 (lv_at hl 0 rfl) ?_
    refine lv_bipush (v := 6) hx hb dX11_swap_33 (by decide) ?_
    refine lv_idiv hx hb dX11_swap_35 (i_ne0 (X := 6) rfl (by omega)) ?_
    refine tE (y := 2) (by decide) ?_
    refine lv_istore (lv' := [(5, .int 2), (4, .int 14), (6, .int 1), (3, .int 0), (2, .int (-1)), (0, .ref (a 0)), (1, .int x1)]) hx hb dX11_swap_36 hl (by decide) rfl (fun ls hl => ?_)
    refine lv_iload hx hb dX11_swap_38 (lv_at hl 1 rfl) ?_
    refine lv_bipush (v := 6) hx hb dX11_swap_40 (by decide) ?_
    refine lv_irem hx hb dX11_swap_42 (i_ne0 (X := 6) rfl (by omega)) ?_
    refine tE (y := 2) (by decide) ?_
    refine lv_istore (lv' := [(6, .int 2), (5, .int 2), (4, .int 14), (3, .int 0), (2, .int (-1)), (0, .ref (a 0)), (1, .int x1)]) hx hb dX11_swap_43 hl (by decide) rfl (fun ls hl => ?_)
    refine lv_iload hx hb dX11_swap_45 (lv_at hl 1 rfl) ?_
    refine lv_iload hx hb dX11_swap_47 (lv_at hl 0 rfl) ?_
    refine ct_ge (tgt := 98) (X := 2) (Y := 2) hx hb dX11_swap_49 (by decide) rfl rfl (by omega) ?_
    refine lv_iinc (v := 15) (lv' := [(4, .int 15), (6, .int 2), (5, .int 2), (3, .int 0), (2, .int (-1)), (0, .ref (a 0)), (1, .int x1)]) hx hb dX11_swap_98 hl (k := 2) rfl rfl (by decide) rfl (fun ls hl => ?_)
    refine lv_goto (tgt := 24) hx hb dX11_swap_101 (by decide) ?_
    refine lv_iload hx hb dX11_swap_24 (lv_at hl 0 rfl) ?_
    refine lv_bipush (v := 36) hx hb dX11_swap_26 (by decide) ?_
    refine cn_ge (X := 15) (Y := 36) hx hb dX11_swap_28 rfl rfl (by omega) ?_ (tgt := 104) (by decide)
    refine lv_iload hx hb dX11_swap_31 (lv_at hl 0 rfl) ?_
    refine lv_bipush (v := 6) hx hb dX11_swap_33 (by decide) ?_
    refine lv_idiv hx hb dX11_swap_35 (i_ne0 (X := 6) rfl (by omega)) ?_
    refine tE (y := 2) (by decide) ?_
    refine lv_istore (lv' := [(5, .int 2), (4, .int 15), (6, .int 2), (3, .int 0), (2, .int (-1)), (0, .ref (a 0)), (1, .int x1)]) hx hb dX11_swap_36 hl (by decide) rfl (fun ls hl => ?_)
    refine lv_iload hx hb dX11_swap_38 (lv_at hl 1 rfl) ?_
    refine lv_bipush (v := 6) hx hb dX11_swap_40 (by decide) ?_
    refine lv_irem hx hb dX11_swap_42 (i_ne0 (X := 6) rfl (by omega)) ?_
    refine tE (y := 3) (by decide) ?_
    refine lv_istore (lv' := [(6, .int 3), (5, .int 2), (4, .int 15), (3, .int 0), (2, .int (-1)), (0, .ref (a 0)), (1, .int x1)]) hx hb dX11_swap_43 hl (by decide) rfl (fun ls hl => ?_)
    refine lv_iload hx hb dX11_swap_45 (lv_at hl 1 rfl) ?_
    refine lv_iload hx hb dX11_swap_47 (lv_at hl 0 rfl) ?_
    refine cn_ge (X := 2) (Y := 3) hx hb dX11_swap_49 rfl rfl (by omega) ?_ (tgt := 98) (by decide)
    refine lv_aload_n hx hb dX11_swap_52 rfl (lv_at hl 5 rfl) ?_
    refine lv_iload hx hb dX11_swap_53 (lv_at hl 1 rfl) ?_
    refine cVi (w := mW cy a) (As := [.int 2]) (rest := []) C hO (T_X11_isHeld l D cy a _ (by exact hA_6_0) (by exact hI_0_36) (2)) (cwV 1 ht (gV wd_1797 wd_1799 wd_91 wd_121 wd_1800) rfl rfl rfl hd_yX11_isHeld ⟨Nat.le_of_ble_eq_true rfl, Nat.le_of_ble_eq_true rfl⟩) 0 rfl mW_0 rfl rfl hl.1 (Nat.le_of_ble_eq_true rfl) dX11_swap_55 rfl ⟨Nat.zero_le _, Nat.zero_le _⟩ (fun r39 u40 H locs hp41 hO => ?_)
    obtain ⟨hr39, hu40⟩ := hp41
    subst hr39
    rw [hu40] at hO
    refine bt_eq (tgt := 98) (X := 0) hx hb dX11_swap_58 (by decide) rfl (by omega) ?_
    refine lv_iinc (v := 16) (lv' := [(4, .int 16), (6, .int 3), (5, .int 2), (3, .int 0), (2, .int (-1)), (0, .ref (a 0)), (1, .int x1)]) hx hb dX11_swap_98 hl (k := 2) rfl rfl (by decide) rfl (fun ls hl => ?_)
    refine lv_goto (tgt := 24) hx hb dX11_swap_101 (by decide) ?_
    refine lv_iload hx hb dX11_swap_24 (lv_at hl 0 rfl) ?_
    refine lv_bipush (v := 36) hx hb dX11_swap_26 (by decide) ?_
    refine cn_ge (X := 16) (Y := 36) hx hb dX11_swap_28 rfl rfl (by omega) ?_ (tgt := 104) (by decide)
    refine lv_iload hx hb dX11_swap_31 (lv_at hl 0 rfl) ?_
    refine lv_bipush (v := 6) hx hb dX11_swap_33 (by decide) ?_
    refine lv_idiv hx hb dX11_swap_35 (i_ne0 (X := 6) rfl (by omega)) ?_
    refine tE (y := 2) (by decide) ?_
    refine lv_istore (lv' := [(5, .int 2), (4, .int 16), (6, .int 3), (3, .int 0), (2, .int (-1)), (0, .ref (a 0)), (1, .int x1)]) hx hb dX11_swap_36 hl (by decide) rfl (fun ls hl => ?_)
    refine lv_iload hx hb dX11_swap_38 (lv_at hl 1 rfl) ?_
    refine lv_bipush (v := 6) hx hb dX11_swap_40 (by decide) ?_
    refine lv_irem hx hb dX11_swap_42 (i_ne0 (X := 6) rfl (by omega)) ?_
    refine tE (y := 4) (by decide) ?_
    refine lv_istore (lv' := [(6, .int 4), (5, .int 2), (4, .int 16), (3, .int 0), (2, .int (-1)), (0, .ref (a 0)), (1, .int x1)]) hx hb dX11_swap_43 hl (by decide) rfl (fun ls hl => ?_)
    refine lv_iload hx hb dX11_swap_45 (lv_at hl 1 rfl) ?_
    refine lv_iload hx hb dX11_swap_47 (lv_at hl 0 rfl) ?_
    refine cn_ge (X := 2) (Y := 4) hx hb dX11_swap_49 rfl rfl (by omega) ?_ (tgt := 98) (by decide)
    refine lv_aload_n hx hb dX11_swap_52 rfl (lv_at hl 5 rfl) ?_
    refine lv_iload hx hb dX11_swap_53 (lv_at hl 1 rfl) ?_
    refine cVi (w := mW cy a) (As := [.int 2]) (rest := []) C hO (T_X11_isHeld l D cy a _ (by exact hA_6_0) (by exact hI_0_36) (2)) (cwV 1 ht (gV wd_1797 wd_1799 wd_91 wd_121 wd_1800) rfl rfl rfl hd_yX11_isHeld ⟨Nat.le_of_ble_eq_true rfl, Nat.le_of_ble_eq_true rfl⟩) 0 rfl mW_0 rfl rfl hl.1 (Nat.le_of_ble_eq_true rfl) dX11_swap_55 rfl ⟨Nat.zero_le _, Nat.zero_le _⟩ (fun r42 u43 H locs hp44 hO => ?_)
    obtain ⟨hr42, hu43⟩ := hp44
    subst hr42
    rw [hu43] at hO
    refine bt_eq (tgt := 98) (X := 0) hx hb dX11_swap_58 (by decide) rfl (by omega) ?_
    refine lv_iinc (v := 17) (lv' := [(4, .int 17), (6, .int 4), (5, .int 2), (3, .int 0), (2, .int (-1)), (0, .ref (a 0)), (1, .int x1)]) hx hb dX11_swap_98 hl (k := 2) rfl rfl (by decide) rfl (fun ls hl => ?_)
    refine lv_goto (tgt := 24) hx hb dX11_swap_101 (by decide) ?_
    refine lv_iload hx hb dX11_swap_24 (lv_at hl 0 rfl) ?_
    refine lv_bipush (v := 36) hx hb dX11_swap_26 (by decide) ?_
    refine cn_ge (X := 17) (Y := 36) hx hb dX11_swap_28 rfl rfl (by omega) ?_ (tgt := 104) (by decide)
    refine lv_iload hx hb dX11_swap_31 (lv_at hl 0 rfl) ?_
    refine lv_bipush (v := 6) hx hb dX11_swap_33 (by decide) ?_
    refine lv_idiv hx hb dX11_swap_35 (i_ne0 (X := 6) rfl (by omega)) ?_
    refine tE (y := 2) (by decide) ?_
    refine lv_istore (lv' := [(5, .int 2), (4, .int 17), (6, .int 4), (3, .int 0), (2, .int (-1)), (0, .ref (a 0)), (1, .int x1)]) hx hb dX11_swap_36 hl (by decide) rfl (fun ls hl => ?_)
    refine lv_iload hx hb dX11_swap_38 (lv_at hl 1 rfl) ?_
    refine lv_bipush (v := 6) hx hb dX11_swap_40 (by decide) ?_
    refine lv_irem hx hb dX11_swap_42 (i_ne0 (X := 6) rfl (by omega)) ?_
    refine tE (y := 5) (by decide) ?_
    refine lv_istore (lv' := [(6, .int 5), (5, .int 2), (4, .int 17), (3, .int 0), (2, .int (-1)), (0, .ref (a 0)), (1, .int x1)]) hx hb dX11_swap_43 hl (by decide) rfl (fun ls hl => ?_)
    refine lv_iload hx hb dX11_swap_45 (lv_at hl 1 rfl) ?_
    refine lv_iload hx hb dX11_swap_47 (lv_at hl 0 rfl) ?_
    refine cn_ge (X := 2) (Y := 5) hx hb dX11_swap_49 rfl rfl (by omega) ?_ (tgt := 98) (by decide)
    refine lv_aload_n hx hb dX11_swap_52 rfl (lv_at hl 5 rfl) ?_
    refine lv_iload hx hb dX11_swap_53 (lv_at hl 1 rfl) ?_
    refine cVi (w := mW cy a) (As := [.int 2]) (rest := []) C hO (T_X11_isHeld l D cy a _ (by exact hA_6_0) (by exact hI_0_36) (2)) (cwV 1 ht (gV wd_1797 wd_1799 wd_91 wd_121 wd_1800) rfl rfl rfl hd_yX11_isHeld ⟨Nat.le_of_ble_eq_true rfl, Nat.le_of_ble_eq_true rfl⟩) 0 rfl mW_0 rfl rfl hl.1 (Nat.le_of_ble_eq_true rfl) dX11_swap_55 rfl ⟨Nat.zero_le _, Nat.zero_le _⟩ (fun r45 u46 H locs hp47 hO => ?_)
    obtain ⟨hr45, hu46⟩ := hp47
    subst hr45
    rw [hu46] at hO
    refine bt_eq (tgt := 98) (X := 0) hx hb dX11_swap_58 (by decide) rfl (by omega) ?_
    refine lv_iinc (v := 18) (lv' := [(4, .int 18), (6, .int 5), (5, .int 2), (3, .int 0), (2, .int (-1)), (0, .ref (a 0)), (1, .int x1)]) hx hb dX11_swap_98 hl (k := 2) rfl rfl (by decide) rfl (fun ls hl => ?_)
    refine lv_goto (tgt := 24) hx hb dX11_swap_101 (by decide) ?_
    refine lv_iload hx hb dX11_swap_24 (lv_at hl 0 rfl) ?_
    refine lv_bipush (v := 36) hx hb dX11_swap_26 (by decide) ?_
    refine cn_ge (X := 18) (Y := 36) hx hb dX11_swap_28 rfl rfl (by omega) ?_ (tgt := 104) (by decide)
    refine lv_iload hx hb dX11_swap_31 (lv_at hl 0 rfl) ?_
    refine lv_bipush (v := 6) hx hb dX11_swap_33 (by decide) ?_
    refine lv_idiv hx hb dX11_swap_35 (i_ne0 (X := 6) rfl (by omega)) ?_
    refine tE (y := 3) (by decide) ?_
    refine lv_istore (lv' := [(5, .int 3), (4, .int 18), (6, .int 5), (3, .int 0), (2, .int (-1)), (0, .ref (a 0)), (1, .int x1)]) hx hb dX11_swap_36 hl (by decide) rfl (fun ls hl => ?_)
    refine lv_iload hx hb dX11_swap_38 (lv_at hl 1 rfl) ?_
    refine lv_bipush (v := 6) hx hb dX11_swap_40 (by decide) ?_
    refine lv_irem hx hb dX11_swap_42 (i_ne0 (X := 6) rfl (by omega)) ?_
    refine tE (y := 0) (by decide) ?_
    refine lv_istore (lv' := [(6, .int 0), (5, .int 3), (4, .int 18), (3, .int 0), (2, .int (-1)), (0, .ref (a 0)), (1, .int x1)]) hx hb dX11_swap_43 hl (by decide) rfl (fun ls hl => ?_)
    refine lv_iload hx hb dX11_swap_45 (lv_at hl 1 rfl) ?_
    refine lv_iload hx hb dX11_swap_47 (lv_at hl 0 rfl) ?_
    refine ct_ge (tgt := 98) (X := 3) (Y := 0) hx hb dX11_swap_49 (by decide) rfl rfl (by omega) ?_
    refine lv_iinc (v := 19) (lv' := [(4, .int 19), (6, .int 0), (5, .int 3), (3, .int 0), (2, .int (-1)), (0, .ref (a 0)), (1, .int x1)]) hx hb dX11_swap_98 hl (k := 2) rfl rfl (by decide) rfl (fun ls hl => ?_)
    refine lv_goto (tgt := 24) hx hb dX11_swap_101 (by decide) ?_
    refine lv_iload hx hb dX11_swap_24 (lv_at hl 0 rfl) ?_
    refine lv_bipush (v := 36) hx hb dX11_swap_26 (by decide) ?_
    refine cn_ge (X := 19) (Y := 36) hx hb dX11_swap_28 rfl rfl (by omega) ?_ (tgt := 104) (by decide)
    refine lv_iload hx hb dX11_swap_31 (lv_at hl 0 rfl) ?_
    refine lv_bipush (v := 6) hx hb dX11_swap_33 (by decide) ?_
    refine lv_idiv hx hb dX11_swap_35 (i_ne0 (X := 6) rfl (by omega)) ?_
    refine tE (y := 3) (by decide) ?_
    refine lv_istore (lv' := [(5, .int 3), (4, .int 19), (6, .int 0), (3, .int 0), (2, .int (-1)), (0, .ref (a 0)), (1, .int x1)]) hx hb dX11_swap_36 hl (by decide) rfl (fun ls hl => ?_)
    refine lv_iload hx hb dX11_swap_38 (lv_at hl 1 rfl) ?_
    refine lv_bipush (v := 6) hx hb dX11_swap_40 (by decide) ?_
    refine lv_irem hx hb dX11_swap_42 (i_ne0 (X := 6) rfl (by omega)) ?_
    refine tE (y := 1) (by decide) ?_
    refine lv_istore (lv' := [(6, .int 1), (5, .int 3), (4, .int 19), (3, .int 0), (2, .int (-1)), (0, .ref (a 0)), (1, .int x1)]) hx hb dX11_swap_43 hl (by decide) rfl (fun ls hl => ?_)
    refine lv_iload hx hb dX11_swap_45 (lv_at hl 1 rfl) ?_
    refine lv_iload hx hb dX11_swap_47 (lv_at hl 0 rfl) ?_
    refine ct_ge (tgt := 98) (X := 3) (Y := 1) hx hb dX11_swap_49 (by decide) rfl rfl (by omega) ?_
    refine lv_iinc (v := 20) (lv' := [(4, .int 20), (6, .int 1), (5, .int 3), (3, .int 0), (2, .int (-1)), (0, .ref (a 0)), (1, .int x1)]) hx hb dX11_swap_98 hl (k := 2) rfl rfl (by decide) rfl (fun ls hl => ?_)
    refine lv_goto (tgt := 24) hx hb dX11_swap_101 (by decide) ?_
    refine lv_iload hx hb dX11_swap_24 (lv_at hl 0 rfl) ?_
    refine lv_bipush (v := 36) hx hb dX11_swap_26 (by decide) ?_
    refine cn_ge (X := 20) (Y := 36) hx hb dX11_swap_28 rfl rfl (by omega) ?_ (tgt := 104) (by decide)
    refine lv_iload hx hb dX11_swap_31 (lv_at hl 0 rfl) ?_
    refine lv_bipush (v := 6) hx hb dX11_swap_33 (by decide) ?_
    refine lv_idiv hx hb dX11_swap_35 (i_ne0 (X := 6) rfl (by omega)) ?_
    refine tE (y := 3) (by decide) ?_
    refine lv_istore (lv' := [(5, .int 3), (4, .int 20), (6, .int 1), (3, .int 0), (2, .int (-1)), (0, .ref (a 0)), (1, .int x1)]) hx hb dX11_swap_36 hl (by decide) rfl (fun ls hl => ?_)
    refine lv_iload hx hb dX11_swap_38 (lv_at hl 1 rfl) ?_
    refine lv_bipush (v := 6) hx hb dX11_swap_40 (by decide) ?_
    refine lv_irem hx hb dX11_swap_42 (i_ne0 (X := 6) rfl (by omega)) ?_
    refine tE (y := 2) (by decide) ?_
    refine lv_istore (lv' := [(6, .int 2), (5, .int 3), (4, .int 20), (3, .int 0), (2, .int (-1)), (0, .ref (a 0)), (1, .int x1)]) hx hb dX11_swap_43 hl (by decide) rfl (fun ls hl => ?_)
    refine lv_iload hx hb dX11_swap_45 (lv_at hl 1 rfl) ?_
    refine lv_iload hx hb dX11_swap_47 (lv_at hl 0 rfl) ?_
    refine ct_ge (tgt := 98) (X := 3) (Y := 2) hx hb dX11_swap_49 (by decide) rfl rfl (by omega) ?_
    refine lv_iinc (v := 21) (lv' := [(4, .int 21), (6, .int 2), (5, .int 3), (3, .int 0), (2, .int (-1)), (0, .ref (a 0)), (1, .int x1)]) hx hb dX11_swap_98 hl (k := 2) rfl rfl (by decide) rfl (fun ls hl => ?_)
    refine lv_goto (tgt := 24) hx hb dX11_swap_101 (by decide) ?_
    refine lv_iload hx hb dX11_swap_24 (lv_at hl 0 rfl) ?_
    refine lv_bipush (v := 36) hx hb dX11_swap_26 (by decide) ?_
    refine cn_ge (X := 21) (Y := 36) hx hb dX11_swap_28 rfl rfl (by omega) ?_ (tgt := 104) (by decide)
    refine lv_iload hx hb dX11_swap_31 (lv_at hl 0 rfl) ?_
    refine lv_bipush (v := 6) hx hb dX11_swap_33 (by decide) ?_
    refine lv_idiv hx hb dX11_swap_35 (i_ne0 (X := 6) rfl (by omega)) ?_
    refine tE (y := 3) (by decide) ?_
    refine lv_istore (lv' := [(5, .int 3), (4, .int 21), (6, .int 2), (3, .int 0), (2, .int (-1)), (0, .ref (a 0)), (1, .int x1)]) hx hb dX11_swap_36 hl (by decide) rfl (fun ls hl => ?_)
    refine lv_iload hx hb dX11_swap_38 (lv_at hl 1 rfl) ?_
    refine lv_bipush (v := 6) hx hb dX11_swap_40 (by decide) ?_
    refine lv_irem hx hb dX11_swap_42 (i_ne0 (X := 6) rfl (by omega)) ?_
    refine tE (y := 3) (by decide) ?_
    refine lv_istore (lv' := [(6, .int 3), (5, .int 3), (4, .int 21), (3, .int 0), (2, .int (-1)), (0, .ref (a 0)), (1, .int x1)]) hx hb dX11_swap_43 hl (by decide) rfl (fun ls hl => ?_)
    refine lv_iload hx hb dX11_swap_45 (lv_at hl 1 rfl) ?_
    refine lv_iload hx hb dX11_swap_47 (lv_at hl 0 rfl) ?_
    refine ct_ge (tgt := 98) (X := 3) (Y := 3) hx hb dX11_swap_49 (by decide) rfl rfl (by omega) ?_
    refine lv_iinc (v := 22) (lv' := [(4, .int 22), (6, .int 3), (5, .int 3), (3, .int 0), (2, .int (-1)), (0, .ref (a 0)), (1, .int x1)]) hx hb dX11_swap_98 hl (k := 2) rfl rfl (by decide) rfl (fun ls hl => ?_)
    refine lv_goto (tgt := 24) hx hb dX11_swap_101 (by decide) ?_
    refine lv_iload hx hb dX11_swap_24 (lv_at hl 0 rfl) ?_
    refine lv_bipush (v := 36) hx hb dX11_swap_26 (by decide) ?_
    refine cn_ge (X := 22) (Y := 36) hx hb dX11_swap_28 rfl rfl (by omega) ?_ (tgt := 104) (by decide)
    refine lv_iload hx hb dX11_swap_31 (lv_at hl 0 rfl) ?_
    refine lv_bipush (v := 6) hx hb dX11_swap_33 (by decide) ?_
    refine lv_idiv hx hb dX11_swap_35 (i_ne0 (X := 6) rfl (by omega)) ?_
    refine tE (y := 3) (by decide) ?_
    refine lv_istore (lv' := [(5, .int 3), (4, .int 22), (6, .int 3), (3, .int 0), (2, .int (-1)), (0, .ref (a 0)), (1, .int x1)]) hx hb dX11_swap_36 hl (by decide) rfl (fun ls hl => ?_)
    refine lv_iload hx hb dX11_swap_38 (lv_at hl 1 rfl) ?_
    refine lv_bipush (v := 6) hx hb dX11_swap_40 (by decide) ?_
    refine lv_irem hx hb dX11_swap_42 (i_ne0 (X := 6) rfl (by omega)) ?_
    refine tE (y := 4) (by decide) ?_
    refine lv_istore (lv' := [(6, .int 4), (5, .int 3), (4, .int 22), (3, .int 0), (2, .int (-1)), (0, .ref (a 0)), (1, .int x1)]) hx hb dX11_swap_43 hl (by decide) rfl (fun ls hl => ?_)
    refine lv_iload hx hb dX11_swap_45 (lv_at hl 1 rfl) ?_
    refine lv_iload hx hb dX11_swap_47 (lv_at hl 0 rfl) ?_
    refine cn_ge (X := 3) (Y := 4) hx hb dX11_swap_49 rfl rfl (by omega) ?_ (tgt := 98) (by decide)
    refine lv_aload_n hx hb dX11_swap_52 rfl (lv_at hl 5 rfl) ?_
    refine lv_iload hx hb dX11_swap_53 (lv_at hl 1 rfl) ?_
    refine cVi (w := mW cy a) (As := [.int 3]) (rest := []) C hO (T_X11_isHeld l D cy a _ (by exact hA_6_0) (by exact hI_0_36) (3)) (cwV 1 ht (gV wd_1797 wd_1799 wd_91 wd_121 wd_1800) rfl rfl rfl hd_yX11_isHeld ⟨Nat.le_of_ble_eq_true rfl, Nat.le_of_ble_eq_true rfl⟩) 0 rfl mW_0 rfl rfl hl.1 (Nat.le_of_ble_eq_true rfl) dX11_swap_55 rfl ⟨Nat.zero_le _, Nat.zero_le _⟩ (fun r48 u49 H locs hp50 hO => ?_)
    obtain ⟨hr48, hu49⟩ := hp50
    subst hr48
    rw [hu49] at hO
    refine bt_eq (tgt := 98) (X := 0) hx hb dX11_swap_58 (by decide) rfl (by omega) ?_
    refine lv_iinc (v := 23) (lv' := [(4, .int 23), (6, .int 4), (5, .int 3), (3, .int 0), (2, .int (-1)), (0, .ref (a 0)), (1, .int x1)]) hx hb dX11_swap_98 hl (k := 2) rfl rfl (by decide) rfl (fun ls hl => ?_)
    refine lv_goto (tgt := 24) hx hb dX11_swap_101 (by decide) ?_
    refine lv_iload hx hb dX11_swap_24 (lv_at hl 0 rfl) ?_
    refine lv_bipush (v := 36) hx hb dX11_swap_26 (by decide) ?_
    refine cn_ge (X := 23) (Y := 36) hx hb dX11_swap_28 rfl rfl (by omega) ?_ (tgt := 104) (by decide)
    refine lv_iload hx hb dX11_swap_31 (lv_at hl 0 rfl) ?_
    refine lv_bipush (v := 6) hx hb dX11_swap_33 (by decide) ?_
    refine lv_idiv hx hb dX11_swap_35 (i_ne0 (X := 6) rfl (by omega)) ?_
    refine tE (y := 3) (by decide) ?_
    refine lv_istore (lv' := [(5, .int 3), (4, .int 23), (6, .int 4), (3, .int 0), (2, .int (-1)), (0, .ref (a 0)), (1, .int x1)]) hx hb dX11_swap_36 hl (by decide) rfl (fun ls hl => ?_)
    refine lv_iload hx hb dX11_swap_38 (lv_at hl 1 rfl) ?_
    refine lv_bipush (v := 6) hx hb dX11_swap_40 (by decide) ?_
    refine lv_irem hx hb dX11_swap_42 (i_ne0 (X := 6) rfl (by omega)) ?_
    refine tE (y := 5) (by decide) ?_
    refine lv_istore (lv' := [(6, .int 5), (5, .int 3), (4, .int 23), (3, .int 0), (2, .int (-1)), (0, .ref (a 0)), (1, .int x1)]) hx hb dX11_swap_43 hl (by decide) rfl (fun ls hl => ?_)
    refine lv_iload hx hb dX11_swap_45 (lv_at hl 1 rfl) ?_
    refine lv_iload hx hb dX11_swap_47 (lv_at hl 0 rfl) ?_
    refine cn_ge (X := 3) (Y := 5) hx hb dX11_swap_49 rfl rfl (by omega) ?_ (tgt := 98) (by decide)
    refine lv_aload_n hx hb dX11_swap_52 rfl (lv_at hl 5 rfl) ?_
    refine lv_iload hx hb dX11_swap_53 (lv_at hl 1 rfl) ?_
    refine cVi (w := mW cy a) (As := [.int 3]) (rest := []) C hO (T_X11_isHeld l D cy a _ (by exact hA_6_0) (by exact hI_0_36) (3)) (cwV 1 ht (gV wd_1797 wd_1799 wd_91 wd_121 wd_1800) rfl rfl rfl hd_yX11_isHeld ⟨Nat.le_of_ble_eq_true rfl, Nat.le_of_ble_eq_true rfl⟩) 0 rfl mW_0 rfl rfl hl.1 (Nat.le_of_ble_eq_true rfl) dX11_swap_55 rfl ⟨Nat.zero_le _, Nat.zero_le _⟩ (fun r51 u52 H locs hp53 hO => ?_)
    obtain ⟨hr51, hu52⟩ := hp53
    subst hr51
    rw [hu52] at hO
    refine bt_eq (tgt := 98) (X := 0) hx hb dX11_swap_58 (by decide) rfl (by omega) ?_
    refine lv_iinc (v := 24) (lv' := [(4, .int 24), (6, .int 5), (5, .int 3), (3, .int 0), (2, .int (-1)), (0, .ref (a 0)), (1, .int x1)]) hx hb dX11_swap_98 hl (k := 2) rfl rfl (by decide) rfl (fun ls hl => ?_)
    refine lv_goto (tgt := 24) hx hb dX11_swap_101 (by decide) ?_
    refine lv_iload hx hb dX11_swap_24 (lv_at hl 0 rfl) ?_
    refine lv_bipush (v := 36) hx hb dX11_swap_26 (by decide) ?_
    refine cn_ge (X := 24) (Y := 36) hx hb dX11_swap_28 rfl rfl (by omega) ?_ (tgt := 104) (by decide)
    refine lv_iload hx hb dX11_swap_31 (lv_at hl 0 rfl) ?_
    refine lv_bipush (v := 6) hx hb dX11_swap_33 (by decide) ?_
    refine lv_idiv hx hb dX11_swap_35 (i_ne0 (X := 6) rfl (by omega)) ?_
    refine tE (y := 4) (by decide) ?_
    refine lv_istore (lv' := [(5, .int 4), (4, .int 24), (6, .int 5), (3, .int 0), (2, .int (-1)), (0, .ref (a 0)), (1, .int x1)]) hx hb dX11_swap_36 hl (by decide) rfl (fun ls hl => ?_)
    refine lv_iload hx hb dX11_swap_38 (lv_at hl 1 rfl) ?_
    refine lv_bipush (v := 6) hx hb dX11_swap_40 (by decide) ?_
    refine lv_irem hx hb dX11_swap_42 (i_ne0 (X := 6) rfl (by omega)) ?_
    refine tE (y := 0) (by decide) ?_
    refine lv_istore (lv' := [(6, .int 0), (5, .int 4), (4, .int 24), (3, .int 0), (2, .int (-1)), (0, .ref (a 0)), (1, .int x1)]) hx hb dX11_swap_43 hl (by decide) rfl (fun ls hl => ?_)
    refine lv_iload hx hb dX11_swap_45 (lv_at hl 1 rfl) ?_
    refine lv_iload hx hb dX11_swap_47 (lv_at hl 0 rfl) ?_
    refine ct_ge (tgt := 98) (X := 4) (Y := 0) hx hb dX11_swap_49 (by decide) rfl rfl (by omega) ?_
    refine lv_iinc (v := 25) (lv' := [(4, .int 25), (6, .int 0), (5, .int 4), (3, .int 0), (2, .int (-1)), (0, .ref (a 0)), (1, .int x1)]) hx hb dX11_swap_98 hl (k := 2) rfl rfl (by decide) rfl (fun ls hl => ?_)
    refine lv_goto (tgt := 24) hx hb dX11_swap_101 (by decide) ?_
    refine lv_iload hx hb dX11_swap_24 (lv_at hl 0 rfl) ?_
    refine lv_bipush (v := 36) hx hb dX11_swap_26 (by decide) ?_
    refine cn_ge (X := 25) (Y := 36) hx hb dX11_swap_28 rfl rfl (by omega) ?_ (tgt := 104) (by decide)
    refine lv_iload hx hb dX11_swap_31 (lv_at hl 0 rfl) ?_
    refine lv_bipush (v := 6) hx hb dX11_swap_33 (by decide) ?_
    refine lv_idiv hx hb dX11_swap_35 (i_ne0 (X := 6) rfl (by omega)) ?_
    refine tE (y := 4) (by decide) ?_
    refine lv_istore (lv' := [(5, .int 4), (4, .int 25), (6, .int 0), (3, .int 0), (2, .int (-1)), (0, .ref (a 0)), (1, .int x1)]) hx hb dX11_swap_36 hl (by decide) rfl (fun ls hl => ?_)
    refine lv_iload hx hb dX11_swap_38 (lv_at hl 1 rfl) ?_
    refine lv_bipush (v := 6) hx hb dX11_swap_40 (by decide) ?_
    refine lv_irem hx hb dX11_swap_42 (i_ne0 (X := 6) rfl (by omega)) ?_
    refine tE (y := 1) (by decide) ?_
    refine lv_istore (lv' := [(6, .int 1), (5, .int 4), (4, .int 25), (3, .int 0), (2, .int (-1)), (0, .ref (a 0)), (1, .int x1)]) hx hb dX11_swap_43 hl (by decide) rfl (fun ls hl => ?_)
    refine lv_iload hx hb dX11_swap_45 (lv_at hl 1 rfl) ?_
    refine lv_iload hx hb dX11_swap_47 (lv_at hl 0 rfl) ?_
    refine ct_ge (tgt := 98) (X := 4) (Y := 1) hx hb dX11_swap_49 (by decide) rfl rfl (by omega) ?_
    refine lv_iinc (v := 26) (lv' := [(4, .int 26), (6, .int 1), (5, .int 4), (3, .int 0), (2, .int (-1)), (0, .ref (a 0)), (1, .int x1)]) hx hb dX11_swap_98 hl (k := 2) rfl rfl (by decide) rfl (fun ls hl => ?_)
    refine lv_goto (tgt := 24) hx hb dX11_swap_101 (by decide) ?_
    refine lv_iload hx hb dX11_swap_24 (lv_at hl 0 rfl) ?_
    refine lv_bipush (v := 36) hx hb dX11_swap_26 (by decide) ?_
    refine cn_ge (X := 26) (Y := 36) hx hb dX11_swap_28 rfl rfl (by omega) ?_ (tgt := 104) (by decide)
    refine lv_iload hx hb dX11_swap_31 (lv_at hl 0 rfl) ?_
    refine lv_bipush (v := 6) hx hb dX11_swap_33 (by decide) ?_
    refine lv_idiv hx hb dX11_swap_35 (i_ne0 (X := 6) rfl (by omega)) ?_
    refine tE (y := 4) (by decide) ?_
    refine lv_istore (lv' := [(5, .int 4), (4, .int 26), (6, .int 1), (3, .int 0), (2, .int (-1)), (0, .ref (a 0)), (1, .int x1)]) hx hb dX11_swap_36 hl (by decide) rfl (fun ls hl => ?_)
    refine lv_iload hx hb dX11_swap_38 (lv_at hl 1 rfl) ?_
    refine lv_bipush (v := 6) hx hb dX11_swap_40 (by decide) ?_
    refine lv_irem hx hb dX11_swap_42 (i_ne0 (X := 6) rfl (by omega)) ?_
    refine tE (y := 2) (by decide) ?_
    refine lv_istore (lv' := [(6, .int 2), (5, .int 4), (4, .int 26), (3, .int 0), (2, .int (-1)), (0, .ref (a 0)), (1, .int x1)]) hx hb dX11_swap_43 hl (by decide) rfl (fun ls hl => ?_)
    refine lv_iload hx hb dX11_swap_45 (lv_at hl 1 rfl) ?_
    refine lv_iload hx hb dX11_swap_47 (lv_at hl 0 rfl) ?_
    refine ct_ge (tgt := 98) (X := 4) (Y := 2) hx hb dX11_swap_49 (by decide) rfl rfl (by omega) ?_
    refine lv_iinc (v := 27) (lv' := [(4, .int 27), (6, .int 2), (5, .int 4), (3, .int 0), (2, .int (-1)), (0, .ref (a 0)), (1, .int x1)]) hx hb dX11_swap_98 hl (k := 2) rfl rfl (by decide) rfl (fun ls hl => ?_)
    refine lv_goto (tgt := 24) hx hb dX11_swap_101 (by decide) ?_
    refine lv_iload hx hb dX11_swap_24 (lv_at hl 0 rfl) ?_
    refine lv_bipush (v := 36) hx hb dX11_swap_26 (by decide) ?_
    refine cn_ge (X := 27) (Y := 36) hx hb dX11_swap_28 rfl rfl (by omega) ?_ (tgt := 104) (by decide)
    refine lv_iload hx hb dX11_swap_31 (lv_at hl 0 rfl) ?_
    refine lv_bipush (v := 6) hx hb dX11_swap_33 (by decide) ?_
    refine lv_idiv hx hb dX11_swap_35 (i_ne0 (X := 6) rfl (by omega)) ?_
    refine tE (y := 4) (by decide) ?_
    refine lv_istore (lv' := [(5, .int 4), (4, .int 27), (6, .int 2), (3, .int 0), (2, .int (-1)), (0, .ref (a 0)), (1, .int x1)]) hx hb dX11_swap_36 hl (by decide) rfl (fun ls hl => ?_)
    refine lv_iload hx hb dX11_swap_38 (lv_at hl 1 rfl) ?_
    refine lv_bipush (v := 6) hx hb dX11_swap_40 (by decide) ?_
    refine lv_irem hx hb dX11_swap_42 (i_ne0 (X := 6) rfl (by omega)) ?_
    refine tE (y := 3) (by decide) ?_
    refine lv_istore (lv' := [(6, .int 3), (5, .int 4), (4, .int 27), (3, .int 0), (2, .int (-1)), (0, .ref (a 0)), (1, .int x1)]) hx hb dX11_swap_43 hl (by decide) rfl (fun ls hl => ?_)
    refine lv_iload hx hb dX11_swap_45 (lv_at hl 1 rfl) ?_
    refine lv_iload hx hb dX11_swap_47 (lv_at hl 0 rfl) ?_
    refine ct_ge (tgt := 98) (X := 4) (Y := 3) hx hb dX11_swap_49 (by decide) rfl rfl (by omega) ?_
    refine lv_iinc (v := 28) (lv' := [(4, .int 28), (6, .int 3), (5, .int 4), (3, .int 0), (2, .int (-1)), (0, .ref (a 0)), (1, .int x1)]) hx hb dX11_swap_98 hl (k := 2) rfl rfl (by decide) rfl (fun ls hl => ?_)
    refine lv_goto (tgt := 24) hx hb dX11_swap_101 (by decide) ?_
    refine lv_iload hx hb dX11_swap_24 (lv_at hl 0 rfl) ?_
    refine lv_bipush (v := 36) hx hb dX11_swap_26 (by decide) ?_
    refine cn_ge (X := 28) (Y := 36) hx hb dX11_swap_28 rfl rfl (by omega) ?_ (tgt := 104) (by decide)
    refine lv_iload hx hb dX11_swap_31 (lv_at hl 0 rfl) ?_
    refine lv_bipush (v := 6) hx hb dX11_swap_33 (by decide) ?_
    refine lv_idiv hx hb dX11_swap_35 (i_ne0 (X := 6) rfl (by omega)) ?_
    refine tE (y := 4) (by decide) ?_
    refine lv_istore (lv' := [(5, .int 4), (4, .int 28), (6, .int 3), (3, .int 0), (2, .int (-1)), (0, .ref (a 0)), (1, .int x1)]) hx hb dX11_swap_36 hl (by decide) rfl (fun ls hl => ?_)
    refine lv_iload hx hb dX11_swap_38 (lv_at hl 1 rfl) ?_
    refine lv_bipush (v := 6) hx hb dX11_swap_40 (by decide) ?_
    refine lv_irem hx hb dX11_swap_42 (i_ne0 (X := 6) rfl (by omega)) ?_
    refine tE (y := 4) (by decide) ?_
    refine lv_istore (lv' := [(6, .int 4), (5, .int 4), (4, .int 28), (3, .int 0), (2, .int (-1)), (0, .ref (a 0)), (1, .int x1)]) hx hb dX11_swap_43 hl (by decide) rfl (fun ls hl => ?_)
    refine lv_iload hx hb dX11_swap_45 (lv_at hl 1 rfl) ?_
    refine lv_iload hx hb dX11_swap_47 (lv_at hl 0 rfl) ?_
    refine ct_ge (tgt := 98) (X := 4) (Y := 4) hx hb dX11_swap_49 (by decide) rfl rfl (by omega) ?_
    refine lv_iinc (v := 29) (lv' := [(4, .int 29), (6, .int 4), (5, .int 4), (3, .int 0), (2, .int (-1)), (0, .ref (a 0)), (1, .int x1)]) hx hb dX11_swap_98 hl (k := 2) rfl rfl (by decide) rfl (fun ls hl => ?_)
    refine lv_goto (tgt := 24) hx hb dX11_swap_101 (by decide) ?_
    refine lv_iload hx hb dX11_swap_24 (lv_at hl 0 rfl) ?_
    refine lv_bipush (v := 36) hx hb dX11_swap_26 (by decide) ?_
    refine cn_ge (X := 29) (Y := 36) hx hb dX11_swap_28 rfl rfl (by omega) ?_ (tgt := 104) (by decide)
    refine lv_iload hx hb dX11_swap_31 (lv_at hl 0 rfl) ?_
    refine lv_bipush (v := 6) hx hb dX11_swap_33 (by decide) ?_
    refine lv_idiv hx hb dX11_swap_35 (i_ne0 (X := 6) rfl (by omega)) ?_
    refine tE (y := 4) (by decide) ?_
    refine lv_istore (lv' := [(5, .int 4), (4, .int 29), (6, .int 4), (3, .int 0), (2, .int (-1)), (0, .ref (a 0)), (1, .int x1)]) hx hb dX11_swap_36 hl (by decide) rfl (fun ls hl => ?_)
    refine lv_iload hx hb dX11_swap_38 (lv_at hl 1 rfl) ?_
    refine lv_bipush (v := 6) hx hb dX11_swap_40 (by decide) ?_
    refine lv_irem hx hb dX11_swap_42 (i_ne0 (X := 6) rfl (by omega)) ?_
    refine tE (y := 5) (by decide) ?_
    refine lv_istore (lv' := [(6, .int 5), (5, .int 4), (4, .int 29), (3, .int 0), (2, .int (-1)), (0, .ref (a 0)), (1, .int x1)]) hx hb dX11_swap_43 hl (by decide) rfl (fun ls hl => ?_)
    refine lv_iload hx hb dX11_swap_45 (lv_at hl 1 rfl) ?_
    refine lv_iload hx hb dX11_swap_47 (lv_at hl 0 rfl) ?_
    refine cn_ge (X := 4) (Y := 5) hx hb dX11_swap_49 rfl rfl (by omega) ?_ (tgt := 98) (by decide)
    refine lv_aload_n hx hb dX11_swap_52 rfl (lv_at hl 5 rfl) ?_
    refine lv_iload hx hb dX11_swap_53 (lv_at hl 1 rfl) ?_
    refine cVi (w := mW cy a) (As := [.int 4]) (rest := []) C hO (T_X11_isHeld l D cy a _ (by exact hA_6_0) (by exact hI_0_36) (4)) (cwV 1 ht (gV wd_1797 wd_1799 wd_91 wd_121 wd_1800) rfl rfl rfl hd_yX11_isHeld ⟨Nat.le_of_ble_eq_true rfl, Nat.le_of_ble_eq_true rfl⟩) 0 rfl mW_0 rfl rfl hl.1 (Nat.le_of_ble_eq_true rfl) dX11_swap_55 rfl ⟨Nat.zero_le _, Nat.zero_le _⟩ (fun r54 u55 H locs hp56 hO => ?_)
    obtain ⟨hr54, hu55⟩ := hp56
    subst hr54
    rw [hu55] at hO
    refine bt_eq (tgt := 98) (X := 0) hx hb dX11_swap_58 (by decide) rfl (by omega) ?_
    refine lv_iinc (v := 30) (lv' := [(4, .int 30), (6, .int 5), (5, .int 4), (3, .int 0), (2, .int (-1)), (0, .ref (a 0)), (1, .int x1)]) hx hb dX11_swap_98 hl (k := 2) rfl rfl (by decide) rfl (fun ls hl => ?_)
    refine lv_goto (tgt := 24) hx hb dX11_swap_101 (by decide) ?_
    refine lv_iload hx hb dX11_swap_24 (lv_at hl 0 rfl) ?_
    refine lv_bipush (v := 36) hx hb dX11_swap_26 (by decide) ?_
    refine cn_ge (X := 30) (Y := 36) hx hb dX11_swap_28 rfl rfl (by omega) ?_ (tgt := 104) (by decide)
    refine lv_iload hx hb dX11_swap_31 (lv_at hl 0 rfl) ?_
    refine lv_bipush (v := 6) hx hb dX11_swap_33 (by decide) ?_
    refine lv_idiv hx hb dX11_swap_35 (i_ne0 (X := 6) rfl (by omega)) ?_
    refine tE (y := 5) (by decide) ?_
    refine lv_istore (lv' := [(5, .int 5), (4, .int 30), (6, .int 5), (3, .int 0), (2, .int (-1)), (0, .ref (a 0)), (1, .int x1)]) hx hb dX11_swap_36 hl (by decide) rfl (fun ls hl => ?_)
    refine lv_iload hx hb dX11_swap_38 (lv_at hl 1 rfl) ?_
    refine lv_bipush (v := 6) hx hb dX11_swap_40 (by decide) ?_
    refine lv_irem hx hb dX11_swap_42 (i_ne0 (X := 6) rfl (by omega)) ?_
    refine tE (y := 0) (by decide) ?_
    refine lv_istore (lv' := [(6, .int 0), (5, .int 5), (4, .int 30), (3, .int 0), (2, .int (-1)), (0, .ref (a 0)), (1, .int x1)]) hx hb dX11_swap_43 hl (by decide) rfl (fun ls hl => ?_)
    refine lv_iload hx hb dX11_swap_45 (lv_at hl 1 rfl) ?_
    refine lv_iload hx hb dX11_swap_47 (lv_at hl 0 rfl) ?_
    refine ct_ge (tgt := 98) (X := 5) (Y := 0) hx hb dX11_swap_49 (by decide) rfl rfl (by omega) ?_
    refine lv_iinc (v := 31) (lv' := [(4, .int 31), (6, .int 0), (5, .int 5), (3, .int 0), (2, .int (-1)), (0, .ref (a 0)), (1, .int x1)]) hx hb dX11_swap_98 hl (k := 2) rfl rfl (by decide) rfl (fun ls hl => ?_)
    refine lv_goto (tgt := 24) hx hb dX11_swap_101 (by decide) ?_
    refine lv_iload hx hb dX11_swap_24 (lv_at hl 0 rfl) ?_
    refine lv_bipush (v := 36) hx hb dX11_swap_26 (by decide) ?_
    refine cn_ge (X := 31) (Y := 36) hx hb dX11_swap_28 rfl rfl (by omega) ?_ (tgt := 104) (by decide)
    refine lv_iload hx hb dX11_swap_31 (lv_at hl 0 rfl) ?_
    refine lv_bipush (v := 6) hx hb dX11_swap_33 (by decide) ?_
    refine lv_idiv hx hb dX11_swap_35 (i_ne0 (X := 6) rfl (by omega)) ?_
    refine tE (y := 5) (by decide) ?_
    refine lv_istore (lv' := [(5, .int 5), (4, .int 31), (6, .int 0), (3, .int 0), (2, .int (-1)), (0, .ref (a 0)), (1, .int x1)]) hx hb dX11_swap_36 hl (by decide) rfl (fun ls hl => ?_)
    refine lv_iload hx hb dX11_swap_38 (lv_at hl 1 rfl) ?_
    refine lv_bipush (v := 6) hx hb dX11_swap_40 (by decide) ?_
    refine lv_irem hx hb dX11_swap_42 (i_ne0 (X := 6) rfl (by omega)) ?_
    refine tE (y := 1) (by decide) ?_
    refine lv_istore (lv' := [(6, .int 1), (5, .int 5), (4, .int 31), (3, .int 0), (2, .int (-1)), (0, .ref (a 0)), (1, .int x1)]) hx hb dX11_swap_43 hl (by decide) rfl (fun ls hl => ?_)
    refine lv_iload hx hb dX11_swap_45 (lv_at hl 1 rfl) ?_
    refine lv_iload hx hb dX11_swap_47 (lv_at hl 0 rfl) ?_
    refine ct_ge (tgt := 98) (X := 5) (Y := 1) hx hb dX11_swap_49 (by decide) rfl rfl (by omega) ?_
    refine lv_iinc (v := 32) (lv' := [(4, .int 32), (6, .int 1), (5, .int 5), (3, .int 0), (2, .int (-1)), (0, .ref (a 0)), (1, .int x1)]) hx hb dX11_swap_98 hl (k := 2) rfl rfl (by decide) rfl (fun ls hl => ?_)
    refine lv_goto (tgt := 24) hx hb dX11_swap_101 (by decide) ?_
    refine lv_iload hx hb dX11_swap_24 (lv_at hl 0 rfl) ?_
    refine lv_bipush (v := 36) hx hb dX11_swap_26 (by decide) ?_
    refine cn_ge (X := 32) (Y := 36) hx hb dX11_swap_28 rfl rfl (by omega) ?_ (tgt := 104) (by decide)
    refine lv_iload hx hb dX11_swap_31 (lv_at hl 0 rfl) ?_
    refine lv_bipush (v := 6) hx hb dX11_swap_33 (by decide) ?_
    refine lv_idiv hx hb dX11_swap_35 (i_ne0 (X := 6) rfl (by omega)) ?_
    refine tE (y := 5) (by decide) ?_
    refine lv_istore (lv' := [(5, .int 5), (4, .int 32), (6, .int 1), (3, .int 0), (2, .int (-1)), (0, .ref (a 0)), (1, .int x1)]) hx hb dX11_swap_36 hl (by decide) rfl (fun ls hl => ?_)
    refine lv_iload hx hb dX11_swap_38 (lv_at hl 1 rfl) ?_
    refine lv_bipush (v := 6) hx hb dX11_swap_40 (by decide) ?_
    refine lv_irem hx hb dX11_swap_42 (i_ne0 (X := 6) rfl (by omega)) ?_
    refine tE (y := 2) (by decide) ?_
    refine lv_istore (lv' := [(6, .int 2), (5, .int 5), (4, .int 32), (3, .int 0), (2, .int (-1)), (0, .ref (a 0)), (1, .int x1)]) hx hb dX11_swap_43 hl (by decide) rfl (fun ls hl => ?_)
    refine lv_iload hx hb dX11_swap_45 (lv_at hl 1 rfl) ?_
    refine lv_iload hx hb dX11_swap_47 (lv_at hl 0 rfl) ?_
    refine ct_ge (tgt := 98) (X := 5) (Y := 2) hx hb dX11_swap_49 (by decide) rfl rfl (by omega) ?_
    refine lv_iinc (v := 33) (lv' := [(4, .int 33), (6, .int 2), (5, .int 5), (3, .int 0), (2, .int (-1)), (0, .ref (a 0)), (1, .int x1)]) hx hb dX11_swap_98 hl (k := 2) rfl rfl (by decide) rfl (fun ls hl => ?_)
    refine lv_goto (tgt := 24) hx hb dX11_swap_101 (by decide) ?_
    refine lv_iload hx hb dX11_swap_24 (lv_at hl 0 rfl) ?_
    refine lv_bipush (v := 36) hx hb dX11_swap_26 (by decide) ?_
    refine cn_ge (X := 33) (Y := 36) hx hb dX11_swap_28 rfl rfl (by omega) ?_ (tgt := 104) (by decide)
    refine lv_iload hx hb dX11_swap_31 (lv_at hl 0 rfl) ?_
    refine lv_bipush (v := 6) hx hb dX11_swap_33 (by decide) ?_
    refine lv_idiv hx hb dX11_swap_35 (i_ne0 (X := 6) rfl (by omega)) ?_
    refine tE (y := 5) (by decide) ?_
    refine lv_istore (lv' := [(5, .int 5), (4, .int 33), (6, .int 2), (3, .int 0), (2, .int (-1)), (0, .ref (a 0)), (1, .int x1)]) hx hb dX11_swap_36 hl (by decide) rfl (fun ls hl => ?_)
    refine lv_iload hx hb dX11_swap_38 (lv_at hl 1 rfl) ?_
    refine lv_bipush (v := 6) hx hb dX11_swap_40 (by decide) ?_
    refine lv_irem hx hb dX11_swap_42 (i_ne0 (X := 6) rfl (by omega)) ?_
    refine tE (y := 3) (by decide) ?_
    refine lv_istore (lv' := [(6, .int 3), (5, .int 5), (4, .int 33), (3, .int 0), (2, .int (-1)), (0, .ref (a 0)), (1, .int x1)]) hx hb dX11_swap_43 hl (by decide) rfl (fun ls hl => ?_)
    refine lv_iload hx hb dX11_swap_45 (lv_at hl 1 rfl) ?_
    refine lv_iload hx hb dX11_swap_47 (lv_at hl 0 rfl) ?_
    refine ct_ge (tgt := 98) (X := 5) (Y := 3) hx hb dX11_swap_49 (by decide) rfl rfl (by omega) ?_
    refine lv_iinc (v := 34) (lv' := [(4, .int 34), (6, .int 3), (5, .int 5), (3, .int 0), (2, .int (-1)), (0, .ref (a 0)), (1, .int x1)]) hx hb dX11_swap_98 hl (k := 2) rfl rfl (by decide) rfl (fun ls hl => ?_)
    refine lv_goto (tgt := 24) hx hb dX11_swap_101 (by decide) ?_
    refine lv_iload hx hb dX11_swap_24 (lv_at hl 0 rfl) ?_
    refine lv_bipush (v := 36) hx hb dX11_swap_26 (by decide) ?_
    refine cn_ge (X := 34) (Y := 36) hx hb dX11_swap_28 rfl rfl (by omega) ?_ (tgt := 104) (by decide)
    refine lv_iload hx hb dX11_swap_31 (lv_at hl 0 rfl) ?_
    refine lv_bipush (v := 6) hx hb dX11_swap_33 (by decide) ?_
    refine lv_idiv hx hb dX11_swap_35 (i_ne0 (X := 6) rfl (by omega)) ?_
    refine tE (y := 5) (by decide) ?_
    refine lv_istore (lv' := [(5, .int 5), (4, .int 34), (6, .int 3), (3, .int 0), (2, .int (-1)), (0, .ref (a 0)), (1, .int x1)]) hx hb dX11_swap_36 hl (by decide) rfl (fun ls hl => ?_)
    refine lv_iload hx hb dX11_swap_38 (lv_at hl 1 rfl) ?_
    refine lv_bipush (v := 6) hx hb dX11_swap_40 (by decide) ?_
    refine lv_irem hx hb dX11_swap_42 (i_ne0 (X := 6) rfl (by omega)) ?_
    refine tE (y := 4) (by decide) ?_
    refine lv_istore (lv' := [(6, .int 4), (5, .int 5), (4, .int 34), (3, .int 0), (2, .int (-1)), (0, .ref (a 0)), (1, .int x1)]) hx hb dX11_swap_43 hl (by decide) rfl (fun ls hl => ?_)
    refine lv_iload hx hb dX11_swap_45 (lv_at hl 1 rfl) ?_
    refine lv_iload hx hb dX11_swap_47 (lv_at hl 0 rfl) ?_
    refine ct_ge (tgt := 98) (X := 5) (Y := 4) hx hb dX11_swap_49 (by decide) rfl rfl (by omega) ?_
    refine lv_iinc (v := 35) (lv' := [(4, .int 35), (6, .int 4), (5, .int 5), (3, .int 0), (2, .int (-1)), (0, .ref (a 0)), (1, .int x1)]) hx hb dX11_swap_98 hl (k := 2) rfl rfl (by decide) rfl (fun ls hl => ?_)
    refine lv_goto (tgt := 24) hx hb dX11_swap_101 (by decide) ?_
    refine lv_iload hx hb dX11_swap_24 (lv_at hl 0 rfl) ?_
    refine lv_bipush (v := 36) hx hb dX11_swap_26 (by decide) ?_
    refine cn_ge (X := 35) (Y := 36) hx hb dX11_swap_28 rfl rfl (by omega) ?_ (tgt := 104) (by decide)
    refine lv_iload hx hb dX11_swap_31 (lv_at hl 0 rfl) ?_
    refine lv_bipush (v := 6) hx hb dX11_swap_33 (by decide) ?_
    refine lv_idiv hx hb dX11_swap_35 (i_ne0 (X := 6) rfl (by omega)) ?_
    refine tE (y := 5) (by decide) ?_
    refine lv_istore (lv' := [(5, .int 5), (4, .int 35), (6, .int 4), (3, .int 0), (2, .int (-1)), (0, .ref (a 0)), (1, .int x1)]) hx hb dX11_swap_36 hl (by decide) rfl (fun ls hl => ?_)
    refine lv_iload hx hb dX11_swap_38 (lv_at hl 1 rfl) ?_
    refine lv_bipush (v := 6) hx hb dX11_swap_40 (by decide) ?_
    refine lv_irem hx hb dX11_swap_42 (i_ne0 (X := 6) rfl (by omega)) ?_
    refine tE (y := 5) (by decide) ?_
    refine lv_istore (lv' := [(6, .int 5), (5, .int 5), (4, .int 35), (3, .int 0), (2, .int (-1)), (0, .ref (a 0)), (1, .int x1)]) hx hb dX11_swap_43 hl (by decide) rfl (fun ls hl => ?_)
    refine lv_iload hx hb dX11_swap_45 (lv_at hl 1 rfl) ?_
    refine lv_iload hx hb dX11_swap_47 (lv_at hl 0 rfl) ?_
    refine ct_ge (tgt := 98) (X := 5) (Y := 5) hx hb dX11_swap_49 (by decide) rfl rfl (by omega) ?_
    refine lv_iinc (v := 36) (lv' := [(4, .int 36), (6, .int 5), (5, .int 5), (3, .int 0), (2, .int (-1)), (0, .ref (a 0)), (1, .int x1)]) hx hb dX11_swap_98 hl (k := 2) rfl rfl (by decide) rfl (fun ls hl => ?_)
    refine lv_goto (tgt := 24) hx hb dX11_swap_101 (by decide) ?_
    refine lv_iload hx hb dX11_swap_24 (lv_at hl 0 rfl) ?_
    refine lv_bipush (v := 36) hx hb dX11_swap_26 (by decide) ?_
    refine ct_ge (tgt := 104) (X := 36) (Y := 36) hx hb dX11_swap_28 (by decide) rfl rfl (by omega) ?_
    refine lv_iload_n hx hb dX11_swap_104 rfl (lv_at hl 4 rfl) ?_
    refine bn_ge (X := (-1)) hx hb dX11_swap_105 rfl (by omega) ?_ (tgt := 112) (by decide)
    refine lv_iconst (v := (-1)) hx hb dX11_swap_108 (by decide) ?_
    refine lv_goto (tgt := 136) hx hb dX11_swap_109 (by decide) ?_
    refine hret _ _ _ _ _ _ dX11_swap_136 rfl ?_ hO
    exact ⟨rfl, rfl⟩
  · subst hvr1
    refine bn_ne (X := 0) hx hb dX11_swap_6 rfl (by omega) ?_ (tgt := 11) (by decide)
    refine lv_iconst (v := (-1)) hx hb dX11_swap_9 (by decide) ?_
    refine hret _ _ _ _ _ _ dX11_swap_10 rfl ?_ hO
    exact ⟨rfl, rfl⟩
theorem dX11_contrary_0 : decode cX11_contrary 0 = .ok (.iload_n 1, 1) := by decide +kernel
theorem dX11_contrary_1 : decode cX11_contrary 1 = .ok (.iconst 0, 1) := by decide +kernel
theorem dX11_contrary_2 : decode cX11_contrary 2 = .ok (.iconst 1, 1) := by decide +kernel
theorem dX11_contrary_3 : decode cX11_contrary 3 = .ok (.invokestatic 374, 3) := by decide +kernel
theorem dX11_contrary_6 : decode cX11_contrary 6 = .ok (.ifCond .ne 5, 3) := by decide +kernel
theorem dX11_contrary_9 : decode cX11_contrary 9 = .ok (.iconst (-1), 1) := by decide +kernel
theorem dX11_contrary_10 : decode cX11_contrary 10 = .ok (.ireturn, 1) := by decide +kernel
theorem dX11_contrary_11 : decode cX11_contrary 11 = .ok (.iconst 0, 1) := by decide +kernel
theorem dX11_contrary_12 : decode cX11_contrary 12 = .ok (.istore_n 2, 1) := by decide +kernel
theorem dX11_contrary_13 : decode cX11_contrary 13 = .ok (.iload_n 2, 1) := by decide +kernel
theorem dX11_contrary_14 : decode cX11_contrary 14 = .ok (.bipush 36, 2) := by decide +kernel
theorem dX11_contrary_16 : decode cX11_contrary 16 = .ok (.if_icmp .ge 99, 3) := by decide +kernel
theorem dX11_contrary_19 : decode cX11_contrary 19 = .ok (.iload_n 2, 1) := by decide +kernel
theorem dX11_contrary_20 : decode cX11_contrary 20 = .ok (.bipush 6, 2) := by decide +kernel
theorem dX11_contrary_22 : decode cX11_contrary 22 = .ok (.idiv, 1) := by decide +kernel
theorem dX11_contrary_23 : decode cX11_contrary 23 = .ok (.istore_n 3, 1) := by decide +kernel
theorem dX11_contrary_24 : decode cX11_contrary 24 = .ok (.iload_n 2, 1) := by decide +kernel
theorem dX11_contrary_25 : decode cX11_contrary 25 = .ok (.bipush 6, 2) := by decide +kernel
theorem dX11_contrary_27 : decode cX11_contrary 27 = .ok (.irem, 1) := by decide +kernel
theorem dX11_contrary_28 : decode cX11_contrary 28 = .ok (.istore 4, 2) := by decide +kernel
theorem dX11_contrary_30 : decode cX11_contrary 30 = .ok (.iload_n 3, 1) := by decide +kernel
theorem dX11_contrary_31 : decode cX11_contrary 31 = .ok (.iload 4, 2) := by decide +kernel
theorem dX11_contrary_33 : decode cX11_contrary 33 = .ok (.if_icmp .ge 76, 3) := by decide +kernel
theorem dX11_contrary_36 : decode cX11_contrary 36 = .ok (.aload_n 0, 1) := by decide +kernel
theorem dX11_contrary_37 : decode cX11_contrary 37 = .ok (.iload_n 3, 1) := by decide +kernel
theorem dX11_contrary_38 : decode cX11_contrary 38 = .ok (.invokevirtual 413, 3) := by decide +kernel
theorem dX11_contrary_41 : decode cX11_contrary 41 = .ok (.ifCond .eq 68, 3) := by decide +kernel
theorem dX11_contrary_44 : decode cX11_contrary 44 = .ok (.aload_n 0, 1) := by decide +kernel
theorem dX11_contrary_45 : decode cX11_contrary 45 = .ok (.iload 4, 2) := by decide +kernel
theorem dX11_contrary_47 : decode cX11_contrary 47 = .ok (.invokevirtual 413, 3) := by decide +kernel
theorem dX11_contrary_50 : decode cX11_contrary 50 = .ok (.ifCond .eq 59, 3) := by decide +kernel
theorem dX11_contrary_53 : decode cX11_contrary 53 = .ok (.aload_n 0, 1) := by decide +kernel
theorem dX11_contrary_54 : decode cX11_contrary 54 = .ok (.getfield 97, 3) := by decide +kernel
theorem dX11_contrary_57 : decode cX11_contrary 57 = .ok (.bipush 6, 2) := by decide +kernel
theorem dX11_contrary_59 : decode cX11_contrary 59 = .ok (.iload_n 3, 1) := by decide +kernel
theorem dX11_contrary_60 : decode cX11_contrary 60 = .ok (.iadd, 1) := by decide +kernel
theorem dX11_contrary_61 : decode cX11_contrary 61 = .ok (.iaload, 1) := by decide +kernel
theorem dX11_contrary_62 : decode cX11_contrary 62 = .ok (.aload_n 0, 1) := by decide +kernel
theorem dX11_contrary_63 : decode cX11_contrary 63 = .ok (.getfield 97, 3) := by decide +kernel
theorem dX11_contrary_66 : decode cX11_contrary 66 = .ok (.bipush 6, 2) := by decide +kernel
theorem dX11_contrary_68 : decode cX11_contrary 68 = .ok (.iload 4, 2) := by decide +kernel
theorem dX11_contrary_70 : decode cX11_contrary 70 = .ok (.iadd, 1) := by decide +kernel
theorem dX11_contrary_71 : decode cX11_contrary 71 = .ok (.iaload, 1) := by decide +kernel
theorem dX11_contrary_72 : decode cX11_contrary 72 = .ok (.if_icmp .eq 6, 3) := by decide +kernel
theorem dX11_contrary_75 : decode cX11_contrary 75 = .ok (.goto 34, 3) := by decide +kernel
theorem dX11_contrary_78 : decode cX11_contrary 78 = .ok (.aload_n 0, 1) := by decide +kernel
theorem dX11_contrary_79 : decode cX11_contrary 79 = .ok (.iload_n 3, 1) := by decide +kernel
theorem dX11_contrary_80 : decode cX11_contrary 80 = .ok (.invokevirtual 416, 3) := by decide +kernel
theorem dX11_contrary_83 : decode cX11_contrary 83 = .ok (.invokestatic 439, 3) := by decide +kernel
theorem dX11_contrary_86 : decode cX11_contrary 86 = .ok (.aload_n 0, 1) := by decide +kernel
theorem dX11_contrary_87 : decode cX11_contrary 87 = .ok (.iload 4, 2) := by decide +kernel
theorem dX11_contrary_89 : decode cX11_contrary 89 = .ok (.invokevirtual 416, 3) := by decide +kernel
theorem dX11_contrary_92 : decode cX11_contrary 92 = .ok (.invokestatic 439, 3) := by decide +kernel
theorem dX11_contrary_95 : decode cX11_contrary 95 = .ok (.if_icmp .eq 14, 3) := by decide +kernel
theorem dX11_contrary_98 : decode cX11_contrary 98 = .ok (.iload_n 1, 1) := by decide +kernel
theorem dX11_contrary_99 : decode cX11_contrary 99 = .ok (.ifCond .ne 7, 3) := by decide +kernel
theorem dX11_contrary_102 : decode cX11_contrary 102 = .ok (.iload_n 3, 1) := by decide +kernel
theorem dX11_contrary_103 : decode cX11_contrary 103 = .ok (.goto 5, 3) := by decide +kernel
theorem dX11_contrary_106 : decode cX11_contrary 106 = .ok (.iload 4, 2) := by decide +kernel
theorem dX11_contrary_108 : decode cX11_contrary 108 = .ok (.ireturn, 1) := by decide +kernel
theorem dX11_contrary_109 : decode cX11_contrary 109 = .ok (.iinc 2 1, 3) := by decide +kernel
theorem dX11_contrary_112 : decode cX11_contrary 112 = .ok (.goto (-99), 3) := by decide +kernel
theorem dX11_contrary_115 : decode cX11_contrary 115 = .ok (.iconst (-1), 1) := by decide +kernel
theorem dX11_contrary_116 : decode cX11_contrary 116 = .ok (.ireturn, 1) := by decide +kernel
theorem wd_1907 : (Cond.code ⟨"WebCourtModel", "contrary", "(I)I"⟩ prog_13_method_94_code (5 : Nat) (Option.some FieldType.int)) ∈ gtb := gtb_c8 118 (by decide +kernel) rfl
set_option maxHeartbeats 4000000 in
set_option maxRecDepth 100000 in
theorem T_X11_contrary (l : Launch) (D : va_G) (cy : Nat → ClassId) (a : Nat → Nat) (u : St) (hA_6_0 : fA u 6 0 = 0) (hI_0_36 : fI u 0 36 = 0) (x1 : Int32)  : Mi l D cy (mW cy a) yX11_contrary (.code yX11_contrary cX11_contrary 5 (some .int)) (rmo 3 64) [.ref (a 0), .int x1] u (fun (r : Int32) (u' : St) => (r = (-1)) ∧ (u' = u)) := by
  refine Mi.of (own := RX11) rfl (by decide) (Nat.le_of_ble_eq_true rfl) ?_
  intro p e s m below meth c A Q ls C hret hO hl
  obtain ⟨hx, hb, hml, hown, ht, hK, hA⟩ := id C
  have hl : lv_has ls 5 [(0, .ref (a 0)), (1, .int x1)] := hl
  refine lv_iload_n hx hb dX11_contrary_0 rfl (lv_at hl 1 rfl) ?_
  refine lv_iconst (v := 0) hx hb dX11_contrary_1 (by decide) ?_
  refine lv_iconst (v := 1) hx hb dX11_contrary_2 (by decide) ?_
  refine cSi (w := mW cy a) (As := [.int x1, .int 0, .int 1]) (rest := []) C hO (T_X11_isIn l D cy a _ (x1) (0) (1)) (va_cwS 3 ht (gSS wd_1722 wd_1723 wd_121 wd_1724) rfl rfl rfl hd_yX11_isIn ⟨Nat.le_of_ble_eq_true rfl, Nat.le_of_ble_eq_true rfl⟩)  rfl hl.1 (Nat.le_of_ble_eq_true rfl) dX11_contrary_3 rfl ⟨Nat.zero_le _, Nat.zero_le _⟩ (fun r1 u2 H locs hp3 hO => ?_)
  obtain ⟨hr1, hu2⟩ := hp3
  rw [hu2] at hO
  have zz4 : (0 : Int32).toInt = 0 := rfl
  have zz5 : (1 : Int32).toInt = 1 := rfl
  rcases hr1 with ⟨hcr1, hvr1⟩ | ⟨hcr1, hvr1⟩
  · subst hvr1
    refine bt_ne (tgt := 11) (X := 1) hx hb dX11_contrary_6 (by decide) rfl (by omega) ?_
    refine lv_iconst (v := 0) hx hb dX11_contrary_11 (by decide) ?_
    refine lv_istore_n (lv' := [(2, .int 0), (0, .ref (a 0)), (1, .int x1)]) hx hb dX11_contrary_12 rfl hl (by decide) rfl (fun ls hl => ?_)
    refine lv_iload_n hx hb dX11_contrary_13 rfl (lv_at hl 0 rfl) ?_
    refine lv_bipush (v := 36) hx hb dX11_contrary_14 (by decide) ?_
    refine cn_ge (X := 0) (Y := 36) hx hb dX11_contrary_16 rfl rfl (by omega) ?_ (tgt := 115) (by decide)
    refine lv_iload_n hx hb dX11_contrary_19 rfl (lv_at hl 0 rfl) ?_
    refine lv_bipush (v := 6) hx hb dX11_contrary_20 (by decide) ?_
    refine lv_idiv hx hb dX11_contrary_22 (i_ne0 (X := 6) rfl (by omega)) ?_
    refine tE (y := 0) (by decide) ?_
    refine lv_istore_n (lv' := [(3, .int 0), (2, .int 0), (0, .ref (a 0)), (1, .int x1)]) hx hb dX11_contrary_23 rfl hl (by decide) rfl (fun ls hl => ?_)
    refine lv_iload_n hx hb dX11_contrary_24 rfl (lv_at hl 1 rfl) ?_
    refine lv_bipush (v := 6) hx hb dX11_contrary_25 (by decide) ?_
    refine lv_irem hx hb dX11_contrary_27 (i_ne0 (X := 6) rfl (by omega)) ?_
    refine tE (y := 0) (by decide) ?_
    refine lv_istore (lv' := [(4, .int 0), (3, .int 0), (2, .int 0), (0, .ref (a 0)), (1, .int x1)]) hx hb dX11_contrary_28 hl (by decide) rfl (fun ls hl => ?_)
    refine lv_iload_n hx hb dX11_contrary_30 rfl (lv_at hl 1 rfl) ?_
    refine lv_iload hx hb dX11_contrary_31 (lv_at hl 0 rfl) ?_
    refine ct_ge (tgt := 109) (X := 0) (Y := 0) hx hb dX11_contrary_33 (by decide) rfl rfl (by omega) ?_
    refine lv_iinc (v := 1) (lv' := [(2, .int 1), (4, .int 0), (3, .int 0), (0, .ref (a 0)), (1, .int x1)]) hx hb dX11_contrary_109 hl (k := 2) rfl rfl (by decide) rfl (fun ls hl => ?_)
    refine lv_goto (tgt := 13) hx hb dX11_contrary_112 (by decide) ?_
    refine lv_iload_n hx hb dX11_contrary_13 rfl (lv_at hl 0 rfl) ?_
    refine lv_bipush (v := 36) hx hb dX11_contrary_14 (by decide) ?_
    refine cn_ge (X := 1) (Y := 36) hx hb dX11_contrary_16 rfl rfl (by omega) ?_ (tgt := 115) (by decide)
    refine lv_iload_n hx hb dX11_contrary_19 rfl (lv_at hl 0 rfl) ?_
    refine lv_bipush (v := 6) hx hb dX11_contrary_20 (by decide) ?_
    refine lv_idiv hx hb dX11_contrary_22 (i_ne0 (X := 6) rfl (by omega)) ?_
    refine tE (y := 0) (by decide) ?_
    refine lv_istore_n (lv' := [(3, .int 0), (2, .int 1), (4, .int 0), (0, .ref (a 0)), (1, .int x1)]) hx hb dX11_contrary_23 rfl hl (by decide) rfl (fun ls hl => ?_)
    refine lv_iload_n hx hb dX11_contrary_24 rfl (lv_at hl 1 rfl) ?_
    refine lv_bipush (v := 6) hx hb dX11_contrary_25 (by decide) ?_
    refine lv_irem hx hb dX11_contrary_27 (i_ne0 (X := 6) rfl (by omega)) ?_
    refine tE (y := 1) (by decide) ?_
    refine lv_istore (lv' := [(4, .int 1), (3, .int 0), (2, .int 1), (0, .ref (a 0)), (1, .int x1)]) hx hb dX11_contrary_28 hl (by decide) rfl (fun ls hl => ?_)
    refine lv_iload_n hx hb dX11_contrary_30 rfl (lv_at hl 1 rfl) ?_
    refine lv_iload hx hb dX11_contrary_31 (lv_at hl 0 rfl) ?_
    refine cn_ge (X := 0) (Y := 1) hx hb dX11_contrary_33 rfl rfl (by omega) ?_ (tgt := 109) (by decide)
    refine lv_aload_n hx hb dX11_contrary_36 rfl (lv_at hl 3 rfl) ?_
    refine lv_iload_n hx hb dX11_contrary_37 rfl (lv_at hl 1 rfl) ?_
    refine cVi (w := mW cy a) (As := [.int 0]) (rest := []) C hO (T_X11_isHeld l D cy a _ (by exact hA_6_0) (by exact hI_0_36) (0)) (cwV 1 ht (gV wd_1797 wd_1799 wd_91 wd_121 wd_1800) rfl rfl rfl hd_yX11_isHeld ⟨Nat.le_of_ble_eq_true rfl, Nat.le_of_ble_eq_true rfl⟩) 0 rfl mW_0 rfl rfl hl.1 (Nat.le_of_ble_eq_true rfl) dX11_contrary_38 rfl ⟨Nat.zero_le _, Nat.zero_le _⟩ (fun r6 u7 H locs hp8 hO => ?_)
    obtain ⟨hr6, hu7⟩ := hp8
    subst hr6
    rw [hu7] at hO
    refine bt_eq (tgt := 109) (X := 0) hx hb dX11_contrary_41 (by decide) rfl (by omega) ?_
    refine lv_iinc (v := 2) (lv' := [(2, .int 2), (4, .int 1), (3, .int 0), (0, .ref (a 0)), (1, .int x1)]) hx hb dX11_contrary_109 hl (k := 2) rfl rfl (by decide) rfl (fun ls hl => ?_)
    refine lv_goto (tgt := 13) hx hb dX11_contrary_112 (by decide) ?_
    refine lv_iload_n hx hb dX11_contrary_13 rfl (lv_at hl 0 rfl) ?_
    refine lv_bipush (v := 36) hx hb dX11_contrary_14 (by decide) ?_
    refine cn_ge (X := 2) (Y := 36) hx hb dX11_contrary_16 rfl rfl (by omega) ?_ (tgt := 115) (by decide)
    refine lv_iload_n hx hb dX11_contrary_19 rfl (lv_at hl 0 rfl) ?_
    refine lv_bipush (v := 6) hx hb dX11_contrary_20 (by decide) ?_
    refine lv_idiv hx hb dX11_contrary_22 (i_ne0 (X := 6) rfl (by omega)) ?_
    refine tE (y := 0) (by decide) ?_
    refine lv_istore_n (lv' := [(3, .int 0), (2, .int 2), (4, .int 1), (0, .ref (a 0)), (1, .int x1)]) hx hb dX11_contrary_23 rfl hl (by decide) rfl (fun ls hl => ?_)
    refine lv_iload_n hx hb dX11_contrary_24 rfl (lv_at hl 1 rfl) ?_
    refine lv_bipush (v := 6) hx hb dX11_contrary_25 (by decide) ?_
    refine lv_irem hx hb dX11_contrary_27 (i_ne0 (X := 6) rfl (by omega)) ?_
    refine tE (y := 2) (by decide) ?_
    refine lv_istore (lv' := [(4, .int 2), (3, .int 0), (2, .int 2), (0, .ref (a 0)), (1, .int x1)]) hx hb dX11_contrary_28 hl (by decide) rfl (fun ls hl => ?_)
    refine lv_iload_n hx hb dX11_contrary_30 rfl (lv_at hl 1 rfl) ?_
    refine lv_iload hx hb dX11_contrary_31 (lv_at hl 0 rfl) ?_
    refine cn_ge (X := 0) (Y := 2) hx hb dX11_contrary_33 rfl rfl (by omega) ?_ (tgt := 109) (by decide)
    refine lv_aload_n hx hb dX11_contrary_36 rfl (lv_at hl 3 rfl) ?_
    refine lv_iload_n hx hb dX11_contrary_37 rfl (lv_at hl 1 rfl) ?_
    refine cVi (w := mW cy a) (As := [.int 0]) (rest := []) C hO (T_X11_isHeld l D cy a _ (by exact hA_6_0) (by exact hI_0_36) (0)) (cwV 1 ht (gV wd_1797 wd_1799 wd_91 wd_121 wd_1800) rfl rfl rfl hd_yX11_isHeld ⟨Nat.le_of_ble_eq_true rfl, Nat.le_of_ble_eq_true rfl⟩) 0 rfl mW_0 rfl rfl hl.1 (Nat.le_of_ble_eq_true rfl) dX11_contrary_38 rfl ⟨Nat.zero_le _, Nat.zero_le _⟩ (fun r9 u10 H locs hp11 hO => ?_)
    obtain ⟨hr9, hu10⟩ := hp11
    subst hr9
    rw [hu10] at hO
    refine bt_eq (tgt := 109) (X := 0) hx hb dX11_contrary_41 (by decide) rfl (by omega) ?_
    refine lv_iinc (v := 3) (lv' := [(2, .int 3), (4, .int 2), (3, .int 0), (0, .ref (a 0)), (1, .int x1)]) hx hb dX11_contrary_109 hl (k := 2) rfl rfl (by decide) rfl (fun ls hl => ?_)
    refine lv_goto (tgt := 13) hx hb dX11_contrary_112 (by decide) ?_
    refine lv_iload_n hx hb dX11_contrary_13 rfl (lv_at hl 0 rfl) ?_
    refine lv_bipush (v := 36) hx hb dX11_contrary_14 (by decide) ?_
    refine cn_ge (X := 3) (Y := 36) hx hb dX11_contrary_16 rfl rfl (by omega) ?_ (tgt := 115) (by decide)
    refine lv_iload_n hx hb dX11_contrary_19 rfl (lv_at hl 0 rfl) ?_
    refine lv_bipush (v := 6) hx hb dX11_contrary_20 (by decide) ?_
    refine lv_idiv hx hb dX11_contrary_22 (i_ne0 (X := 6) rfl (by omega)) ?_
    refine tE (y := 0) (by decide) ?_
    refine lv_istore_n (lv' := [(3, .int 0), (2, .int 3), (4, .int 2), (0, .ref (a 0)), (1, .int x1)]) hx hb dX11_contrary_23 rfl hl (by decide) rfl (fun ls hl => ?_)
    refine lv_iload_n hx hb dX11_contrary_24 rfl (lv_at hl 1 rfl) ?_
    refine lv_bipush (v := 6) hx hb dX11_contrary_25 (by decide) ?_
    refine lv_irem hx hb dX11_contrary_27 (i_ne0 (X := 6) rfl (by omega)) ?_
    refine tE (y := 3) (by decide) ?_
    refine lv_istore (lv' := [(4, .int 3), (3, .int 0), (2, .int 3), (0, .ref (a 0)), (1, .int x1)]) hx hb dX11_contrary_28 hl (by decide) rfl (fun ls hl => ?_)
    refine lv_iload_n hx hb dX11_contrary_30 rfl (lv_at hl 1 rfl) ?_
    refine lv_iload hx hb dX11_contrary_31 (lv_at hl 0 rfl) ?_
    refine cn_ge (X := 0) (Y := 3) hx hb dX11_contrary_33 rfl rfl (by omega) ?_ (tgt := 109) (by decide)
    refine lv_aload_n hx hb dX11_contrary_36 rfl (lv_at hl 3 rfl) ?_
    refine lv_iload_n hx hb dX11_contrary_37 rfl (lv_at hl 1 rfl) ?_
    refine cVi (w := mW cy a) (As := [.int 0]) (rest := []) C hO (T_X11_isHeld l D cy a _ (by exact hA_6_0) (by exact hI_0_36) (0)) (cwV 1 ht (gV wd_1797 wd_1799 wd_91 wd_121 wd_1800) rfl rfl rfl hd_yX11_isHeld ⟨Nat.le_of_ble_eq_true rfl, Nat.le_of_ble_eq_true rfl⟩) 0 rfl mW_0 rfl rfl hl.1 (Nat.le_of_ble_eq_true rfl) dX11_contrary_38 rfl ⟨Nat.zero_le _, Nat.zero_le _⟩ (fun r12 u13 H locs hp14 hO => ?_)
    obtain ⟨hr12, hu13⟩ := hp14
    subst hr12
    rw [hu13] at hO
    refine bt_eq (tgt := 109) (X := 0) hx hb dX11_contrary_41 (by decide) rfl (by omega) ?_
    refine lv_iinc (v := 4) (lv' := [(2, .int 4), (4, .int 3), (3, .int 0), (0, .ref (a 0)), (1, .int x1)]) hx hb dX11_contrary_109 hl (k := 2) rfl rfl (by decide) rfl (fun ls hl => ?_)
    refine lv_goto (tgt := 13) hx hb dX11_contrary_112 (by decide) ?_
    refine lv_iload_n hx hb dX11_contrary_13 rfl (lv_at hl 0 rfl) ?_
    refine lv_bipush (v := 36) hx hb dX11_contrary_14 (by decide) ?_
    refine cn_ge (X := 4) (Y := 36) hx hb dX11_contrary_16 rfl rfl (by omega) ?_ (tgt := 115) (by decide)
    refine lv_iload_n hx hb dX11_contrary_19 rfl (lv_at hl 0 rfl) ?_
    refine lv_bipush (v := 6) hx hb dX11_contrary_20 (by decide) ?_
    refine lv_idiv hx hb dX11_contrary_22 (i_ne0 (X := 6) rfl (by omega)) ?_
    refine tE (y := 0) (by decide) ?_
    refine lv_istore_n (lv' := [(3, .int 0), (2, .int 4), (4, .int 3), (0, .ref (a 0)), (1, .int x1)]) hx hb dX11_contrary_23 rfl hl (by decide) rfl (fun ls hl => ?_)
    refine lv_iload_n hx hb dX11_contrary_24 rfl (lv_at hl 1 rfl) ?_
    refine lv_bipush (v := 6) hx hb dX11_contrary_25 (by decide) ?_
    refine lv_irem hx hb dX11_contrary_27 (i_ne0 (X := 6) rfl (by omega)) ?_
    refine tE (y := 4) (by decide) ?_
    refine lv_istore (lv' := [(4, .int 4), (3, .int 0), (2, .int 4), (0, .ref (a 0)), (1, .int x1)]) hx hb dX11_contrary_28 hl (by decide) rfl (fun ls hl => ?_)
    refine lv_iload_n hx hb dX11_contrary_30 rfl (lv_at hl 1 rfl) ?_
    refine lv_iload hx hb dX11_contrary_31 (lv_at hl 0 rfl) ?_
    refine cn_ge (X := 0) (Y := 4) hx hb dX11_contrary_33 rfl rfl (by omega) ?_ (tgt := 109) (by decide)
    refine lv_aload_n hx hb dX11_contrary_36 rfl (lv_at hl 3 rfl) ?_
    refine lv_iload_n hx hb dX11_contrary_37 rfl (lv_at hl 1 rfl) ?_
    refine cVi (w := mW cy a) (As := [.int 0]) (rest := []) C hO (T_X11_isHeld l D cy a _ (by exact hA_6_0) (by exact hI_0_36) (0)) (cwV 1 ht (gV wd_1797 wd_1799 wd_91 wd_121 wd_1800) rfl rfl rfl hd_yX11_isHeld ⟨Nat.le_of_ble_eq_true rfl, Nat.le_of_ble_eq_true rfl⟩) 0 rfl mW_0 rfl rfl hl.1 (Nat.le_of_ble_eq_true rfl) dX11_contrary_38 rfl ⟨Nat.zero_le _, Nat.zero_le _⟩ (fun r15 u16 H locs hp17 hO => ?_)
    obtain ⟨hr15, hu16⟩ := hp17
    subst hr15
    rw [hu16] at hO
    refine bt_eq (tgt := 109) (X := 0) hx hb dX11_contrary_41 (by decide) rfl (by omega) ?_
    refine lv_iinc (v := 5) (lv' := [(2, .int 5), (4, .int 4), (3, .int 0), (0, .ref (a 0)), (1, .int x1)]) hx hb dX11_contrary_109 hl (k := 2) rfl rfl (by decide) rfl (fun ls hl => ?_)
    refine lv_goto (tgt := 13) hx hb dX11_contrary_112 (by decide) ?_
    refine lv_iload_n hx hb dX11_contrary_13 rfl (lv_at hl 0 rfl) ?_
    refine lv_bipush (v := 36) hx hb dX11_contrary_14 (by decide) ?_
    refine cn_ge (X := 5) (Y := 36) hx hb dX11_contrary_16 rfl rfl (by omega) ?_ (tgt := 115) (by decide)
    refine lv_iload_n hx hb dX11_contrary_19 rfl (lv_at hl 0 rfl) ?_
    refine lv_bipush (v := 6) hx hb dX11_contrary_20 (by decide) ?_
    refine lv_idiv hx hb dX11_contrary_22 (i_ne0 (X := 6) rfl (by omega)) ?_
    refine tE (y := 0) (by decide) ?_
    refine lv_istore_n (lv' := [(3, .int 0), (2, .int 5), (4, .int 4), (0, .ref (a 0)), (1, .int x1)]) hx hb dX11_contrary_23 rfl hl (by decide) rfl (fun ls hl => ?_)
    refine lv_iload_n hx hb dX11_contrary_24 rfl (lv_at hl 1 rfl) ?_
    refine lv_bipush (v := 6) hx hb dX11_contrary_25 (by decide) ?_
    refine lv_irem hx hb dX11_contrary_27 (i_ne0 (X := 6) rfl (by omega)) ?_
    refine tE (y := 5) (by decide) ?_
    refine lv_istore (lv' := [(4, .int 5), (3, .int 0), (2, .int 5), (0, .ref (a 0)), (1, .int x1)]) hx hb dX11_contrary_28 hl (by decide) rfl (fun ls hl => ?_)
    refine lv_iload_n hx hb dX11_contrary_30 rfl (lv_at hl 1 rfl) ?_
    refine lv_iload hx hb dX11_contrary_31 (lv_at hl 0 rfl) ?_
    refine cn_ge (X := 0) (Y := 5) hx hb dX11_contrary_33 rfl rfl (by omega) ?_ (tgt := 109) (by decide)
    refine lv_aload_n hx hb dX11_contrary_36 rfl (lv_at hl 3 rfl) ?_
    refine lv_iload_n hx hb dX11_contrary_37 rfl (lv_at hl 1 rfl) ?_
    refine cVi (w := mW cy a) (As := [.int 0]) (rest := []) C hO (T_X11_isHeld l D cy a _ (by exact hA_6_0) (by exact hI_0_36) (0)) (cwV 1 ht (gV wd_1797 wd_1799 wd_91 wd_121 wd_1800) rfl rfl rfl hd_yX11_isHeld ⟨Nat.le_of_ble_eq_true rfl, Nat.le_of_ble_eq_true rfl⟩) 0 rfl mW_0 rfl rfl hl.1 (Nat.le_of_ble_eq_true rfl) dX11_contrary_38 rfl ⟨Nat.zero_le _, Nat.zero_le _⟩ (fun r18 u19 H locs hp20 hO => ?_)
    obtain ⟨hr18, hu19⟩ := hp20
    subst hr18
    rw [hu19] at hO
    refine bt_eq (tgt := 109) (X := 0) hx hb dX11_contrary_41 (by decide) rfl (by omega) ?_
    refine lv_iinc (v := 6) (lv' := [(2, .int 6), (4, .int 5), (3, .int 0), (0, .ref (a 0)), (1, .int x1)]) hx hb dX11_contrary_109 hl (k := 2) rfl rfl (by decide) rfl (fun ls hl => ?_)
    refine lv_goto (tgt := 13) hx hb dX11_contrary_112 (by decide) ?_
    refine lv_iload_n hx hb dX11_contrary_13 rfl (lv_at hl 0 rfl) ?_
    refine lv_bipush (v := 36) hx hb dX11_contrary_14 (by decide) ?_
    refine cn_ge (X := 6) (Y := 36) hx hb dX11_contrary_16 rfl rfl (by omega) ?_ (tgt := 115) (by decide)
    refine lv_iload_n hx hb dX11_contrary_19 rfl (lv_at hl 0 rfl) ?_
    refine lv_bipush (v := 6) hx hb dX11_contrary_20 (by decide) ?_
    refine lv_idiv hx hb dX11_contrary_22 (i_ne0 (X := 6) rfl (by omega)) ?_
    refine tE (y := 1) (by decide) ?_
    refine lv_istore_n (lv' := [(3, .int 1), (2, .int 6), (4, .int 5), (0, .ref (a 0)), (1, .int x1)]) hx hb dX11_contrary_23 rfl hl (by decide) rfl (fun ls hl => ?_)
    refine lv_iload_n hx hb dX11_contrary_24 rfl (lv_at hl 1 rfl) ?_
    refine lv_bipush (v := 6) hx hb dX11_contrary_25 (by decide) ?_
    refine lv_irem hx hb dX11_contrary_27 (i_ne0 (X := 6) rfl (by omega)) ?_
    refine tE (y := 0) (by decide) ?_
    refine lv_istore (lv' := [(4, .int 0), (3, .int 1), (2, .int 6), (0, .ref (a 0)), (1, .int x1)]) hx hb dX11_contrary_28 hl (by decide) rfl (fun ls hl => ?_)
    refine lv_iload_n hx hb dX11_contrary_30 rfl (lv_at hl 1 rfl) ?_
    refine lv_iload hx hb dX11_contrary_31 (lv_at hl 0 rfl) ?_
    refine ct_ge (tgt := 109) (X := 1) (Y := 0) hx hb dX11_contrary_33 (by decide) rfl rfl (by omega) ?_
    refine lv_iinc (v := 7) (lv' := [(2, .int 7), (4, .int 0), (3, .int 1), (0, .ref (a 0)), (1, .int x1)]) hx hb dX11_contrary_109 hl (k := 2) rfl rfl (by decide) rfl (fun ls hl => ?_)
    refine lv_goto (tgt := 13) hx hb dX11_contrary_112 (by decide) ?_
    refine lv_iload_n hx hb dX11_contrary_13 rfl (lv_at hl 0 rfl) ?_
    refine lv_bipush (v := 36) hx hb dX11_contrary_14 (by decide) ?_
    refine cn_ge (X := 7) (Y := 36) hx hb dX11_contrary_16 rfl rfl (by omega) ?_ (tgt := 115) (by decide)
    refine lv_iload_n hx hb dX11_contrary_19 rfl (lv_at hl 0 rfl) ?_
    refine lv_bipush (v := 6) hx hb dX11_contrary_20 (by decide) ?_
    refine lv_idiv hx hb dX11_contrary_22 (i_ne0 (X := 6) rfl (by omega)) ?_
    refine tE (y := 1) (by decide) ?_
    refine lv_istore_n (lv' := [(3, .int 1), (2, .int 7), (4, .int 0), (0, .ref (a 0)), (1, .int x1)]) hx hb dX11_contrary_23 rfl hl (by decide) rfl (fun ls hl => ?_)
    refine lv_iload_n hx hb dX11_contrary_24 rfl (lv_at hl 1 rfl) ?_
    refine lv_bipush (v := 6) hx hb dX11_contrary_25 (by decide) ?_
    refine lv_irem hx hb dX11_contrary_27 (i_ne0 (X := 6) rfl (by omega)) ?_
    refine tE (y := 1) (by decide) ?_
    refine lv_istore (lv' := [(4, .int 1), (3, .int 1), (2, .int 7), (0, .ref (a 0)), (1, .int x1)]) hx hb dX11_contrary_28 hl (by decide) rfl (fun ls hl => ?_)
    refine lv_iload_n hx hb dX11_contrary_30 rfl (lv_at hl 1 rfl) ?_
    refine lv_iload hx hb dX11_contrary_31 (lv_at hl 0 rfl) ?_
    refine ct_ge (tgt := 109) (X := 1) (Y := 1) hx hb dX11_contrary_33 (by decide) rfl rfl (by omega) ?_
    refine lv_iinc (v := 8) (lv' := [(2, .int 8), (4, .int 1), (3, .int 1), (0, .ref (a 0)), (1, .int x1)]) hx hb dX11_contrary_109 hl (k := 2) rfl rfl (by decide) rfl (fun ls hl => ?_)
    refine lv_goto (tgt := 13) hx hb dX11_contrary_112 (by decide) ?_
    refine lv_iload_n hx hb dX11_contrary_13 rfl (lv_at hl 0 rfl) ?_
    refine lv_bipush (v := 36) hx hb dX11_contrary_14 (by decide) ?_
    refine cn_ge (X := 8) (Y := 36) hx hb dX11_contrary_16 rfl rfl (by omega) ?_ (tgt := 115) (by decide)
    refine lv_iload_n hx hb dX11_contrary_19 rfl (lv_at hl 0 rfl) ?_
    refine lv_bipush (v := 6) hx hb dX11_contrary_20 (by decide) ?_
    refine lv_idiv hx hb dX11_contrary_22 (i_ne0 (X := 6) rfl (by omega)) ?_
    refine tE (y := 1) (by decide) ?_
    refine lv_istore_n (lv' := [(3, .int 1), (2, .int 8), (4, .int 1), (0, .ref (a 0)), (1, .int x1)]) hx hb dX11_contrary_23 rfl hl (by decide) rfl (fun ls hl => ?_)
    refine lv_iload_n hx hb dX11_contrary_24 rfl (lv_at hl 1 rfl) ?_
    refine lv_bipush (v := 6) hx hb dX11_contrary_25 (by decide) ?_
    refine lv_irem hx hb dX11_contrary_27 (i_ne0 (X := 6) rfl (by omega)) ?_
    refine tE (y := 2) (by decide) ?_
    refine lv_istore (lv' := [(4, .int 2), (3, .int 1), (2, .int 8), (0, .ref (a 0)), (1, .int x1)]) hx hb dX11_contrary_28 hl (by decide) rfl (fun ls hl => ?_)
    refine lv_iload_n hx hb dX11_contrary_30 rfl (lv_at hl 1 rfl) ?_
    refine lv_iload hx hb dX11_contrary_31 (lv_at hl 0 rfl) ?_
    refine cn_ge (X := 1) (Y := 2) hx hb dX11_contrary_33 rfl rfl (by omega) ?_ (tgt := 109) (by decide)
    refine lv_aload_n hx hb dX11_contrary_36 rfl (lv_at hl 3 rfl) ?_
    refine lv_iload_n hx hb dX11_contrary_37 rfl (lv_at hl 1 rfl) ?_
    refine cVi (w := mW cy a) (As := [.int 1]) (rest := []) C hO (T_X11_isHeld l D cy a _ (by exact hA_6_0) (by exact hI_0_36) (1)) (cwV 1 ht (gV wd_1797 wd_1799 wd_91 wd_121 wd_1800) rfl rfl rfl hd_yX11_isHeld ⟨Nat.le_of_ble_eq_true rfl, Nat.le_of_ble_eq_true rfl⟩) 0 rfl mW_0 rfl rfl hl.1 (Nat.le_of_ble_eq_true rfl) dX11_contrary_38 rfl ⟨Nat.zero_le _, Nat.zero_le _⟩ (fun r21 u22 H locs hp23 hO => ?_)
    obtain ⟨hr21, hu22⟩ := hp23
    subst hr21
    rw [hu22] at hO
    refine bt_eq (tgt := 109) (X := 0) hx hb dX11_contrary_41 (by decide) rfl (by omega) ?_
    refine lv_iinc (v := 9) (lv' := [(2, .int 9), (4, .int 2), (3, .int 1), (0, .ref (a 0)), (1, .int x1)]) hx hb dX11_contrary_109 hl (k := 2) rfl rfl (by decide) rfl (fun ls hl => ?_)
    refine lv_goto (tgt := 13) hx hb dX11_contrary_112 (by decide) ?_
    refine lv_iload_n hx hb dX11_contrary_13 rfl (lv_at hl 0 rfl) ?_
    refine lv_bipush (v := 36) hx hb dX11_contrary_14 (by decide) ?_
    refine cn_ge (X := 9) (Y := 36) hx hb dX11_contrary_16 rfl rfl (by omega) ?_ (tgt := 115) (by decide)
    refine lv_iload_n hx hb dX11_contrary_19 rfl (lv_at hl 0 rfl) ?_
    refine lv_bipush (v := 6) hx hb dX11_contrary_20 (by decide) ?_
    refine lv_idiv hx hb dX11_contrary_22 (i_ne0 (X := 6) rfl (by omega)) ?_
    refine tE (y := 1) (by decide) ?_
    refine lv_istore_n (lv' := [(3, .int 1), (2, .int 9), (4, .int 2), (0, .ref (a 0)), (1, .int x1)]) hx hb dX11_contrary_23 rfl hl (by decide) rfl (fun ls hl => ?_)
    refine lv_iload_n hx hb dX11_contrary_24 rfl (lv_at hl 1 rfl) ?_
    refine lv_bipush (v := 6) hx hb dX11_contrary_25 (by decide) ?_
    refine lv_irem hx hb dX11_contrary_27 (i_ne0 (X := 6) rfl (by omega)) ?_
    refine tE (y := 3) (by decide) ?_
    refine lv_istore (lv' := [(4, .int 3), (3, .int 1), (2, .int 9), (0, .ref (a 0)), (1, .int x1)]) hx hb dX11_contrary_28 hl (by decide) rfl (fun ls hl => ?_)
    refine lv_iload_n hx hb dX11_contrary_30 rfl (lv_at hl 1 rfl) ?_
    refine lv_iload hx hb dX11_contrary_31 (lv_at hl 0 rfl) ?_
    refine cn_ge (X := 1) (Y := 3) hx hb dX11_contrary_33 rfl rfl (by omega) ?_ (tgt := 109) (by decide)
    refine lv_aload_n hx hb dX11_contrary_36 rfl (lv_at hl 3 rfl) ?_
    refine lv_iload_n hx hb dX11_contrary_37 rfl (lv_at hl 1 rfl) ?_
    refine cVi (w := mW cy a) (As := [.int 1]) (rest := []) C hO (T_X11_isHeld l D cy a _ (by exact hA_6_0) (by exact hI_0_36) (1)) (cwV 1 ht (gV wd_1797 wd_1799 wd_91 wd_121 wd_1800) rfl rfl rfl hd_yX11_isHeld ⟨Nat.le_of_ble_eq_true rfl, Nat.le_of_ble_eq_true rfl⟩) 0 rfl mW_0 rfl rfl hl.1 (Nat.le_of_ble_eq_true rfl) dX11_contrary_38 rfl ⟨Nat.zero_le _, Nat.zero_le _⟩ (fun r24 u25 H locs hp26 hO => ?_)
    obtain ⟨hr24, hu25⟩ := hp26
    subst hr24
    rw [hu25] at hO
    refine bt_eq (tgt := 109) (X := 0) hx hb dX11_contrary_41 (by decide) rfl (by omega) ?_
    refine lv_iinc (v := 10) (lv' := [(2, .int 10), (4, .int 3), (3, .int 1), (0, .ref (a 0)), (1, .int x1)]) hx hb dX11_contrary_109 hl (k := 2) rfl rfl (by decide) rfl (fun ls hl => ?_)
    refine lv_goto (tgt := 13) hx hb dX11_contrary_112 (by decide) ?_
    refine lv_iload_n hx hb dX11_contrary_13 rfl (lv_at hl 0 rfl) ?_
    refine lv_bipush (v := 36) hx hb dX11_contrary_14 (by decide) ?_
    refine cn_ge (X := 10) (Y := 36) hx hb dX11_contrary_16 rfl rfl (by omega) ?_ (tgt := 115) (by decide)
    refine lv_iload_n hx hb dX11_contrary_19 rfl (lv_at hl 0 rfl) ?_
    refine lv_bipush (v := 6) hx hb dX11_contrary_20 (by decide) ?_
    refine lv_idiv hx hb dX11_contrary_22 (i_ne0 (X := 6) rfl (by omega)) ?_
    refine tE (y := 1) (by decide) ?_
    refine lv_istore_n (lv' := [(3, .int 1), (2, .int 10), (4, .int 3), (0, .ref (a 0)), (1, .int x1)]) hx hb dX11_contrary_23 rfl hl (by decide) rfl (fun ls hl => ?_)
    refine lv_iload_n hx hb dX11_contrary_24 rfl (lv_at hl 1 rfl) ?_
    refine lv_bipush (v := 6) hx hb dX11_contrary_25 (by decide) ?_
    refine lv_irem hx hb dX11_contrary_27 (i_ne0 (X := 6) rfl (by omega)) ?_
    refine tE (y := 4) (by decide) ?_
    refine lv_istore (lv' := [(4, .int 4), (3, .int 1), (2, .int 10), (0, .ref (a 0)), (1, .int x1)]) hx hb dX11_contrary_28 hl (by decide) rfl (fun ls hl => ?_)
    refine lv_iload_n hx hb dX11_contrary_30 rfl (lv_at hl 1 rfl) ?_
    refine lv_iload hx hb dX11_contrary_31 (lv_at hl 0 rfl) ?_
    refine cn_ge (X := 1) (Y := 4) hx hb dX11_contrary_33 rfl rfl (by omega) ?_ (tgt := 109) (by decide)
    refine lv_aload_n hx hb dX11_contrary_36 rfl (lv_at hl 3 rfl) ?_
    refine lv_iload_n hx hb dX11_contrary_37 rfl (lv_at hl 1 rfl) ?_
    refine cVi (w := mW cy a) (As := [.int 1]) (rest := []) C hO (T_X11_isHeld l D cy a _ (by exact hA_6_0) (by exact hI_0_36) (1)) (cwV 1 ht (gV wd_1797 wd_1799 wd_91 wd_121 wd_1800) rfl rfl rfl hd_yX11_isHeld ⟨Nat.le_of_ble_eq_true rfl, Nat.le_of_ble_eq_true rfl⟩) 0 rfl mW_0 rfl rfl hl.1 (Nat.le_of_ble_eq_true rfl) dX11_contrary_38 rfl ⟨Nat.zero_le _, Nat.zero_le _⟩ (fun r27 u28 H locs hp29 hO => ?_)
    obtain ⟨hr27, hu28⟩ := hp29
    subst hr27
    rw [hu28] at hO
    refine bt_eq (tgt := 109) (X := 0) hx hb dX11_contrary_41 (by decide) rfl (by omega) ?_
    refine lv_iinc (v := 11) (lv' := [(2, .int 11), (4, .int 4), (3, .int 1), (0, .ref (a 0)), (1, .int x1)]) hx hb dX11_contrary_109 hl (k := 2) rfl rfl (by decide) rfl (fun ls hl => ?_)
    refine lv_goto (tgt := 13) hx hb dX11_contrary_112 (by decide) ?_
    refine lv_iload_n hx hb dX11_contrary_13 rfl (lv_at hl 0 rfl) ?_
    refine lv_bipush (v := 36) hx hb dX11_contrary_14 (by decide) ?_
    refine cn_ge (X := 11) (Y := 36) hx hb dX11_contrary_16 rfl rfl (by omega) ?_ (tgt := 115) (by decide)
    refine lv_iload_n hx hb dX11_contrary_19 rfl (lv_at hl 0 rfl) ?_
    refine lv_bipush (v := 6) hx hb dX11_contrary_20 (by decide) ?_
    refine lv_idiv hx hb dX11_contrary_22 (i_ne0 (X := 6) rfl (by omega)) ?_
    refine tE (y := 1) (by decide) ?_
    refine lv_istore_n (lv' := [(3, .int 1), (2, .int 11), (4, .int 4), (0, .ref (a 0)), (1, .int x1)]) hx hb dX11_contrary_23 rfl hl (by decide) rfl (fun ls hl => ?_)
    refine lv_iload_n hx hb dX11_contrary_24 rfl (lv_at hl 1 rfl) ?_
    refine lv_bipush (v := 6) hx hb dX11_contrary_25 (by decide) ?_
    refine lv_irem hx hb dX11_contrary_27 (i_ne0 (X := 6) rfl (by omega)) ?_
    refine tE (y := 5) (by decide) ?_
    refine lv_istore (lv' := [(4, .int 5), (3, .int 1), (2, .int 11), (0, .ref (a 0)), (1, .int x1)]) hx hb dX11_contrary_28 hl (by decide) rfl (fun ls hl => ?_)
    refine lv_iload_n hx hb dX11_contrary_30 rfl (lv_at hl 1 rfl) ?_
    refine lv_iload hx hb dX11_contrary_31 (lv_at hl 0 rfl) ?_
    refine cn_ge (X := 1) (Y := 5) hx hb dX11_contrary_33 rfl rfl (by omega) ?_ (tgt := 109) (by decide)
    refine lv_aload_n hx hb dX11_contrary_36 rfl (lv_at hl 3 rfl) ?_
    refine lv_iload_n hx hb dX11_contrary_37 rfl (lv_at hl 1 rfl) ?_
    refine cVi (w := mW cy a) (As := [.int 1]) (rest := []) C hO (T_X11_isHeld l D cy a _ (by exact hA_6_0) (by exact hI_0_36) (1)) (cwV 1 ht (gV wd_1797 wd_1799 wd_91 wd_121 wd_1800) rfl rfl rfl hd_yX11_isHeld ⟨Nat.le_of_ble_eq_true rfl, Nat.le_of_ble_eq_true rfl⟩) 0 rfl mW_0 rfl rfl hl.1 (Nat.le_of_ble_eq_true rfl) dX11_contrary_38 rfl ⟨Nat.zero_le _, Nat.zero_le _⟩ (fun r30 u31 H locs hp32 hO => ?_)
    obtain ⟨hr30, hu31⟩ := hp32
    subst hr30
    rw [hu31] at hO
    refine bt_eq (tgt := 109) (X := 0) hx hb dX11_contrary_41 (by decide) rfl (by omega) ?_
    refine lv_iinc (v := 12) (lv' := [(2, .int 12), (4, .int 5), (3, .int 1), (0, .ref (a 0)), (1, .int x1)]) hx hb dX11_contrary_109 hl (k := 2) rfl rfl (by decide) rfl (fun ls hl => ?_)
    refine lv_goto (tgt := 13) hx hb dX11_contrary_112 (by decide) ?_
    refine lv_iload_n hx hb dX11_contrary_13 rfl (lv_at hl 0 rfl) ?_
    refine lv_bipush (v := 36) hx hb dX11_contrary_14 (by decide) ?_
    refine cn_ge (X := 12) (Y := 36) hx hb dX11_contrary_16 rfl rfl (by omega) ?_ (tgt := 115) (by decide)
    refine lv_iload_n hx hb dX11_contrary_19 rfl (lv_at hl 0 rfl) ?_
    refine lv_bipush (v := 6) hx hb dX11_contrary_20 (by decide) ?_
    refine lv_idiv hx hb dX11_contrary_22 (i_ne0 (X := 6) rfl (by omega)) ?_
    refine tE (y := 2) (by decide) ?_
    refine lv_istore_n (lv' := [(3, .int 2), (2, .int 12), (4, .int 5), (0, .ref (a 0)), (1, .int x1)]) hx hb dX11_contrary_23 rfl hl (by decide) rfl (fun ls hl => ?_)
    refine lv_iload_n hx hb dX11_contrary_24 rfl (lv_at hl 1 rfl) ?_
    refine lv_bipush (v := 6) hx hb dX11_contrary_25 (by decide) ?_
    refine lv_irem hx hb dX11_contrary_27 (i_ne0 (X := 6) rfl (by omega)) ?_
    refine tE (y := 0) (by decide) ?_
    refine lv_istore (lv' := [(4, .int 0), (3, .int 2), (2, .int 12), (0, .ref (a 0)), (1, .int x1)]) hx hb dX11_contrary_28 hl (by decide) rfl (fun ls hl => ?_)
    refine lv_iload_n hx hb dX11_contrary_30 rfl (lv_at hl 1 rfl) ?_
    refine lv_iload hx hb dX11_contrary_31 (lv_at hl 0 rfl) ?_
    refine ct_ge (tgt := 109) (X := 2) (Y := 0) hx hb dX11_contrary_33 (by decide) rfl rfl (by omega) ?_
    refine lv_iinc (v := 13) (lv' := [(2, .int 13), (4, .int 0), (3, .int 2), (0, .ref (a 0)), (1, .int x1)]) hx hb dX11_contrary_109 hl (k := 2) rfl rfl (by decide) rfl (fun ls hl => ?_)
    refine lv_goto (tgt := 13) hx hb dX11_contrary_112 (by decide) ?_
    refine lv_iload_n hx hb dX11_contrary_13 rfl (lv_at hl 0 rfl) ?_
    refine lv_bipush (v := 36) hx hb dX11_contrary_14 (by decide) ?_
    refine cn_ge (X := 13) (Y := 36) hx hb dX11_contrary_16 rfl rfl (by omega) ?_ (tgt := 115) (by decide)
    refine lv_iload_n hx hb dX11_contrary_19 rfl (lv_at hl 0 rfl) ?_
    refine lv_bipush (v := 6) hx hb dX11_contrary_20 (by decide) ?_
    refine lv_idiv hx hb dX11_contrary_22 (i_ne0 (X := 6) rfl (by omega)) ?_
    refine tE (y := 2) (by decide) ?_
    refine lv_istore_n (lv' := [(3, .int 2), (2, .int 13), (4, .int 0), (0, .ref (a 0)), (1, .int x1)]) hx hb dX11_contrary_23 rfl hl (by decide) rfl (fun ls hl => ?_)
    refine lv_iload_n hx hb dX11_contrary_24 rfl (lv_at hl 1 rfl) ?_
    refine lv_bipush (v := 6) hx hb dX11_contrary_25 (by decide) ?_
    refine lv_irem hx hb dX11_contrary_27 (i_ne0 (X := 6) rfl (by omega)) ?_
    refine tE (y := 1) (by decide) ?_
    refine lv_istore (lv' := [(4, .int 1), (3, .int 2), (2, .int 13), (0, .ref (a 0)), (1, .int x1)]) hx hb dX11_contrary_28 hl (by decide) rfl (fun ls hl => ?_)
    refine lv_iload_n hx hb dX11_contrary_30 rfl (lv_at hl 1 rfl) ?_
    refine lv_iload hx hb dX11_contrary_31 (lv_at hl 0 rfl) ?_
    refine ct_ge (tgt := 109) (X := 2) (Y := 1) hx hb dX11_contrary_33 (by decide) rfl rfl (by omega) ?_
    refine lv_iinc (v := 14) (lv' := [(2, .int 14), (4, .int 1), (3, .int 2), (0, .ref (a 0)), (1, .int x1)]) hx hb dX11_contrary_109 hl (k := 2) rfl rfl (by decide) rfl (fun ls hl => ?_)
    refine lv_goto (tgt := 13) hx hb dX11_contrary_112 (by decide) ?_
    refine lv_iload_n hx hb dX11_contrary_13 rfl (lv_at hl 0 rfl) ?_
    refine lv_bipush (v := 36) hx hb dX11_contrary_14 (by decide) ?_
    refine cn_ge (X := 14) (Y := 36) hx hb dX11_contrary_16 rfl rfl (by omega) ?_ (tgt := 115) (by decide)
    refine lv_iload_n hx hb dX11_contrary_19 rfl (lv_at hl 0 rfl) ?_
    refine lv_bipush (v := 6) hx hb dX11_contrary_20 (by decide) ?_
    refine lv_idiv hx hb dX11_contrary_22 (i_ne0 (X := 6) rfl (by omega)) ?_
    refine tE (y := 2) (by decide) ?_
    refine lv_istore_n (lv' := [(3, .int 2), (2, .int 14), (4, .int 1), (0, .ref (a 0)), (1, .int x1)]) hx hb dX11_contrary_23 rfl hl (by decide) rfl (fun ls hl => ?_)
    refine lv_iload_n hx hb dX11_contrary_24 rfl (lv_at hl 1 rfl) ?_
    refine lv_bipush (v := 6) hx hb dX11_contrary_25 (by decide) ?_
    refine lv_irem hx hb dX11_contrary_27 (i_ne0 (X := 6) rfl (by omega)) ?_
    refine tE (y := 2) (by decide) ?_
    refine lv_istore (lv' := [(4, .int 2), (3, .int 2), (2, .int 14), (0, .ref (a 0)), (1, .int x1)]) hx hb dX11_contrary_28 hl (by decide) rfl (fun ls hl => ?_)
    refine lv_iload_n hx hb dX11_contrary_30 rfl (lv_at hl 1 rfl) ?_
    refine lv_iload hx hb dX11_contrary_31 (lv_at hl 0 rfl) ?_
    refine ct_ge (tgt := 109) (X := 2) (Y := 2) hx hb dX11_contrary_33 (by decide) rfl rfl (by omega) ?_
    refine lv_iinc (v := 15) (lv' := [(2, .int 15), (4, .int 2), (3, .int 2), (0, .ref (a 0)), (1, .int x1)]) hx hb dX11_contrary_109 hl (k := 2) rfl rfl (by decide) rfl (fun ls hl => ?_)
    refine lv_goto (tgt := 13) hx hb dX11_contrary_112 (by decide) ?_
    refine lv_iload_n hx hb dX11_contrary_13 rfl (lv_at hl 0 rfl) ?_
    refine lv_bipush (v := 36) hx hb dX11_contrary_14 (by decide) ?_
    refine cn_ge (X := 15) (Y := 36) hx hb dX11_contrary_16 rfl rfl (by omega) ?_ (tgt := 115) (by decide)
    refine lv_iload_n hx hb dX11_contrary_19 rfl (lv_at hl 0 rfl) ?_
    refine lv_bipush (v := 6) hx hb dX11_contrary_20 (by decide) ?_
    refine lv_idiv hx hb dX11_contrary_22 (i_ne0 (X := 6) rfl (by omega)) ?_
    refine tE (y := 2) (by decide) ?_
    refine lv_istore_n (lv' := [(3, .int 2), (2, .int 15), (4, .int 2), (0, .ref (a 0)), (1, .int x1)]) hx hb dX11_contrary_23 rfl hl (by decide) rfl (fun ls hl => ?_)
    refine lv_iload_n hx hb dX11_contrary_24 rfl (lv_at hl 1 rfl) ?_
    refine lv_bipush (v := 6) hx hb dX11_contrary_25 (by decide) ?_
    refine lv_irem hx hb dX11_contrary_27 (i_ne0 (X := 6) rfl (by omega)) ?_
    refine tE (y := 3) (by decide) ?_
    refine lv_istore (lv' := [(4, .int 3), (3, .int 2), (2, .int 15), (0, .ref (a 0)), (1, .int x1)]) hx hb dX11_contrary_28 hl (by decide) rfl (fun ls hl => ?_)
    refine lv_iload_n hx hb dX11_contrary_30 rfl (lv_at hl 1 rfl) ?_
    refine lv_iload hx hb dX11_contrary_31 (lv_at hl 0 rfl) ?_
    refine cn_ge (X := 2) (Y := 3) hx hb dX11_contrary_33 rfl rfl (by omega) ?_ (tgt := 109) (by decide)
    refine lv_aload_n hx hb dX11_contrary_36 rfl (lv_at hl 3 rfl) ?_
    refine lv_iload_n hx hb dX11_contrary_37 rfl (lv_at hl 1 rfl) ?_
    refine cVi (w := mW cy a) (As := [.int 2]) (rest := []) C hO (T_X11_isHeld l D cy a _ (by exact hA_6_0) (by exact hI_0_36) (2)) (cwV 1 ht (gV wd_1797 wd_1799 wd_91 wd_121 wd_1800) rfl rfl rfl hd_yX11_isHeld ⟨Nat.le_of_ble_eq_true rfl, Nat.le_of_ble_eq_true rfl⟩) 0 rfl mW_0 rfl rfl hl.1 (Nat.le_of_ble_eq_true rfl) dX11_contrary_38 rfl ⟨Nat.zero_le _, Nat.zero_le _⟩ (fun r33 u34 H locs hp35 hO => ?_)
    obtain ⟨hr33, hu34⟩ := hp35
    subst hr33
    rw [hu34] at hO
    refine bt_eq (tgt := 109) (X := 0) hx hb dX11_contrary_41 (by decide) rfl (by omega) ?_
    refine lv_iinc (v := 16) (lv' := [(2, .int 16), (4, .int 3), (3, .int 2), (0, .ref (a 0)), (1, .int x1)]) hx hb dX11_contrary_109 hl (k := 2) rfl rfl (by decide) rfl (fun ls hl => ?_)
    refine lv_goto (tgt := 13) hx hb dX11_contrary_112 (by decide) ?_
    refine lv_iload_n hx hb dX11_contrary_13 rfl (lv_at hl 0 rfl) ?_
    refine lv_bipush (v := 36) hx hb dX11_contrary_14 (by decide) ?_
    refine cn_ge (X := 16) (Y := 36) hx hb dX11_contrary_16 rfl rfl (by omega) ?_ (tgt := 115) (by decide)
    refine lv_iload_n hx hb dX11_contrary_19 rfl (lv_at hl 0 rfl) ?_
    refine lv_bipush (v := 6) hx hb dX11_contrary_20 (by decide) ?_
    refine lv_idiv hx hb dX11_contrary_22 (i_ne0 (X := 6) rfl (by omega)) ?_
    refine tE (y := 2) (by decide) ?_
    refine lv_istore_n (lv' := [(3, .int 2), (2, .int 16), (4, .int 3), (0, .ref (a 0)), (1, .int x1)]) hx hb dX11_contrary_23 rfl hl (by decide) rfl (fun ls hl => ?_)
    refine lv_iload_n hx hb dX11_contrary_24 rfl (lv_at hl 1 rfl) ?_
    refine lv_bipush (v := 6) hx hb dX11_contrary_25 (by decide) ?_
    refine lv_irem hx hb dX11_contrary_27 (i_ne0 (X := 6) rfl (by omega)) ?_
    refine tE (y := 4) (by decide) ?_
    refine lv_istore (lv' := [(4, .int 4), (3, .int 2), (2, .int 16), (0, .ref (a 0)), (1, .int x1)]) hx hb dX11_contrary_28 hl (by decide) rfl (fun ls hl => ?_)
    refine lv_iload_n hx hb dX11_contrary_30 rfl (lv_at hl 1 rfl) ?_
    refine lv_iload hx hb dX11_contrary_31 (lv_at hl 0 rfl) ?_
    refine cn_ge (X := 2) (Y := 4) hx hb dX11_contrary_33 rfl rfl (by omega) ?_ (tgt := 109) (by decide)
    refine lv_aload_n hx hb dX11_contrary_36 rfl (lv_at hl 3 rfl) ?_
    refine lv_iload_n hx hb dX11_contrary_37 rfl (lv_at hl 1 rfl) ?_
    refine cVi (w := mW cy a) (As := [.int 2]) (rest := []) C hO (T_X11_isHeld l D cy a _ (by exact hA_6_0) (by exact hI_0_36) (2)) (cwV 1 ht (gV wd_1797 wd_1799 wd_91 wd_121 wd_1800) rfl rfl rfl hd_yX11_isHeld ⟨Nat.le_of_ble_eq_true rfl, Nat.le_of_ble_eq_true rfl⟩) 0 rfl mW_0 rfl rfl hl.1 (Nat.le_of_ble_eq_true rfl) dX11_contrary_38 rfl ⟨Nat.zero_le _, Nat.zero_le _⟩ (fun r36 u37 H locs hp38 hO => ?_)
    obtain ⟨hr36, hu37⟩ := hp38
    subst hr36
    rw [hu37] at hO
    refine bt_eq (tgt := 109) (X := 0) hx hb dX11_contrary_41 (by decide) rfl (by omega) ?_
    refine lv_iinc (v := 17) (lv' := [(2, .int 17), (4, .int 4), (3, .int 2), (0, .ref (a 0)), (1, .int x1)]) hx hb dX11_contrary_109 hl (k := 2) rfl rfl (by decide) rfl (fun ls hl => ?_)
    refine lv_goto (tgt := 13) hx hb dX11_contrary_112 (by decide) ?_
    refine lv_iload_n hx hb dX11_contrary_13 rfl (lv_at hl 0 rfl) ?_
    refine lv_bipush (v := 36) hx hb dX11_contrary_14 (by decide) ?_
    refine cn_ge (X := 17) (Y := 36) hx hb dX11_contrary_16 rfl rfl (by omega) ?_ (tgt := 115) (by decide)
    refine lv_iload_n hx hb dX11_contrary_19 rfl (lv_at hl 0 rfl) ?_
    refine lv_bipush (v := 6) hx hb dX11_contrary_20 (by decide) ?_
    refine lv_idiv hx hb dX11_contrary_22 (i_ne0 (X := 6) rfl (by omega)) ?_
    refine tE (y := 2) (by decide) ?_
    refine lv_istore_n (lv' := [(3, .int 2), (2, .int 17), (4, .int 4), (0, .ref (a 0)), (1, .int x1)]) hx hb dX11_contrary_23 rfl hl (by decide) rfl (fun ls hl => ?_)
    refine lv_iload_n hx hb dX11_contrary_24 rfl (lv_at hl 1 rfl) ?_
    refine lv_bipush (v := 6) hx hb dX11_contrary_25 (by decide) ?_
    refine lv_irem hx hb dX11_contrary_27 (i_ne0 (X := 6) rfl (by omega)) ?_
    refine tE (y := 5) (by decide) ?_
    refine lv_istore (lv' := [(4, .int 5), (3, .int 2), (2, .int 17), (0, .ref (a 0)), (1, .int x1)]) hx hb dX11_contrary_28 hl (by decide) rfl (fun ls hl => ?_)
    refine lv_iload_n hx hb dX11_contrary_30 rfl (lv_at hl 1 rfl) ?_
    refine lv_iload hx hb dX11_contrary_31 (lv_at hl 0 rfl) ?_
    refine cn_ge (X := 2) (Y := 5) hx hb dX11_contrary_33 rfl rfl (by omega) ?_ (tgt := 109) (by decide)
    refine lv_aload_n hx hb dX11_contrary_36 rfl (lv_at hl 3 rfl) ?_
    refine lv_iload_n hx hb dX11_contrary_37 rfl (lv_at hl 1 rfl) ?_
    refine cVi (w := mW cy a) (As := [.int 2]) (rest := []) C hO (T_X11_isHeld l D cy a _ (by exact hA_6_0) (by exact hI_0_36) (2)) (cwV 1 ht (gV wd_1797 wd_1799 wd_91 wd_121 wd_1800) rfl rfl rfl hd_yX11_isHeld ⟨Nat.le_of_ble_eq_true rfl, Nat.le_of_ble_eq_true rfl⟩) 0 rfl mW_0 rfl rfl hl.1 (Nat.le_of_ble_eq_true rfl) dX11_contrary_38 rfl ⟨Nat.zero_le _, Nat.zero_le _⟩ (fun r39 u40 H locs hp41 hO => ?_)
    obtain ⟨hr39, hu40⟩ := hp41
    subst hr39
    rw [hu40] at hO
    refine bt_eq (tgt := 109) (X := 0) hx hb dX11_contrary_41 (by decide) rfl (by omega) ?_
    refine lv_iinc (v := 18) (lv' := [(2, .int 18), (4, .int 5), (3, .int 2), (0, .ref (a 0)), (1, .int x1)]) hx hb dX11_contrary_109 hl (k := 2) rfl rfl (by decide) rfl (fun ls hl => ?_)
    refine lv_goto (tgt := 13) hx hb dX11_contrary_112 (by decide) ?_
    refine lv_iload_n hx hb dX11_contrary_13 rfl (lv_at hl 0 rfl) ?_
    refine lv_bipush (v := 36) hx hb dX11_contrary_14 (by decide) ?_
    refine cn_ge (X := 18) (Y := 36) hx hb dX11_contrary_16 rfl rfl (by omega) ?_ (tgt := 115) (by decide)
    refine lv_iload_n hx hb dX11_contrary_19 rfl (lv_at hl 0 rfl) ?_
    refine lv_bipush (v := 6) hx hb dX11_contrary_20 (by decide) ?_
    refine lv_idiv hx hb dX11_contrary_22 (i_ne0 (X := 6) rfl (by omega)) ?_
    refine tE (y := 3) (by decide) ?_
    refine lv_istore_n (lv' := [(3, .int 3), (2, .int 18), (4, .int 5), (0, .ref (a 0)), (1, .int x1)]) hx hb dX11_contrary_23 rfl hl (by decide) rfl (fun ls hl => ?_)
    refine lv_iload_n hx hb dX11_contrary_24 rfl (lv_at hl 1 rfl) ?_
    refine lv_bipush (v := 6) hx hb dX11_contrary_25 (by decide) ?_
    refine lv_irem hx hb dX11_contrary_27 (i_ne0 (X := 6) rfl (by omega)) ?_
    refine tE (y := 0) (by decide) ?_
    refine lv_istore (lv' := [(4, .int 0), (3, .int 3), (2, .int 18), (0, .ref (a 0)), (1, .int x1)]) hx hb dX11_contrary_28 hl (by decide) rfl (fun ls hl => ?_)
    refine lv_iload_n hx hb dX11_contrary_30 rfl (lv_at hl 1 rfl) ?_
    refine lv_iload hx hb dX11_contrary_31 (lv_at hl 0 rfl) ?_
    refine ct_ge (tgt := 109) (X := 3) (Y := 0) hx hb dX11_contrary_33 (by decide) rfl rfl (by omega) ?_
    refine lv_iinc (v := 19) (lv' := [(2, .int 19), (4, .int 0), (3, .int 3), (0, .ref (a 0)), (1, .int x1)]) hx hb dX11_contrary_109 hl (k := 2) rfl rfl (by decide) rfl (fun ls hl => ?_)
    refine lv_goto (tgt := 13) hx hb dX11_contrary_112 (by decide) ?_
    refine lv_iload_n hx hb dX11_contrary_13 rfl (lv_at hl 0 rfl) ?_
    refine lv_bipush (v := 36) hx hb dX11_contrary_14 (by decide) ?_
    refine cn_ge (X := 19) (Y := 36) hx hb dX11_contrary_16 rfl rfl (by omega) ?_ (tgt := 115) (by decide)
    refine lv_iload_n hx hb dX11_contrary_19 rfl (lv_at hl 0 rfl) ?_
    refine lv_bipush (v := 6) hx hb dX11_contrary_20 (by decide) ?_
    refine lv_idiv hx hb dX11_contrary_22 (i_ne0 (X := 6) rfl (by omega)) ?_
    refine tE (y := 3) (by decide) ?_
    refine lv_istore_n (lv' := [(3, .int 3), (2, .int 19), (4, .int 0), (0, .ref (a 0)), (1, .int x1)]) hx hb dX11_contrary_23 rfl hl (by decide) rfl (fun ls hl => ?_)
    refine lv_iload_n hx hb dX11_contrary_24 rfl (lv_at hl 1 rfl) ?_
    refine lv_bipush (v := 6) hx hb dX11_contrary_25 (by decide) ?_
    refine lv_irem hx hb dX11_contrary_27 (i_ne0 (X := 6) rfl (by omega)) ?_
    refine tE (y := 1) (by decide) ?_
    refine lv_istore (lv' := [(4, .int 1), (3, .int 3), (2, .int 19), (0, .ref (a 0)), (1, .int x1)]) hx hb dX11_contrary_28 hl (by decide) rfl (fun ls hl => ?_)
    refine lv_iload_n hx hb dX11_contrary_30 rfl (lv_at hl 1 rfl) ?_
    refine lv_iload hx hb dX11_contrary_31 (lv_at hl 0 rfl) ?_
    refine ct_ge (tgt := 109) (X := 3) (Y := 1) hx hb dX11_contrary_33 (by decide) rfl rfl (by omega) ?_
    refine lv_iinc (v := 20) (lv' := [(2, .int 20), (4, .int 1), (3, .int 3), (0, .ref (a 0)), (1, .int x1)]) hx hb dX11_contrary_109 hl (k := 2) rfl rfl (by decide) rfl (fun ls hl => ?_)
    refine lv_goto (tgt := 13) hx hb dX11_contrary_112 (by decide) ?_
    refine lv_iload_n hx hb dX11_contrary_13 rfl (lv_at hl 0 rfl) ?_
    refine lv_bipush (v := 36) hx hb dX11_contrary_14 (by decide) ?_
    refine cn_ge (X := 20) (Y := 36) hx hb dX11_contrary_16 rfl rfl (by omega) ?_ (tgt := 115) (by decide)
    refine lv_iload_n hx hb dX11_contrary_19 rfl (lv_at hl 0 rfl) ?_
    refine lv_bipush (v := 6) hx hb dX11_contrary_20 (by decide) ?_
    refine lv_idiv hx hb dX11_contrary_22 (i_ne0 (X := 6) rfl (by omega)) ?_
    refine tE (y := 3) (by decide) ?_
    refine lv_istore_n (lv' := [(3, .int 3), (2, .int 20), (4, .int 1), (0, .ref (a 0)), (1, .int x1)]) hx hb dX11_contrary_23 rfl hl (by decide) rfl (fun ls hl => ?_)
    refine lv_iload_n hx hb dX11_contrary_24 rfl (lv_at hl 1 rfl) ?_
    refine lv_bipush (v := 6) hx hb dX11_contrary_25 (by decide) ?_
    refine lv_irem hx hb dX11_contrary_27 (i_ne0 (X := 6) rfl (by omega)) ?_
    refine tE (y := 2) (by decide) ?_
    refine lv_istore (lv' := [(4, .int 2), (3, .int 3), (2, .int 20), (0, .ref (a 0)), (1, .int x1)]) hx hb dX11_contrary_28 hl (by decide) rfl (fun ls hl => ?_)
    refine lv_iload_n hx hb dX11_contrary_30 rfl (lv_at hl 1 rfl) ?_
    refine lv_iload hx hb dX11_contrary_31 (lv_at hl 0 rfl) ?_
    refine ct_ge (tgt := 109) (X := 3) (Y := 2) hx hb dX11_contrary_33 (by decide) rfl rfl (by omega) ?_
    refine lv_iinc (v := 21) (lv' := [(2, .int 21), (4, .int 2), (3, .int 3), (0, .ref (a 0)), (1, .int x1)]) hx hb dX11_contrary_109 hl (k := 2) rfl rfl (by decide) rfl (fun ls hl => ?_)
    refine lv_goto (tgt := 13) hx hb dX11_contrary_112 (by decide) ?_
    refine lv_iload_n hx hb dX11_contrary_13 rfl (lv_at hl 0 rfl) ?_
    refine lv_bipush (v := 36) hx hb dX11_contrary_14 (by decide) ?_
    refine cn_ge (X := 21) (Y := 36) hx hb dX11_contrary_16 rfl rfl (by omega) ?_ (tgt := 115) (by decide)
    refine lv_iload_n hx hb dX11_contrary_19 rfl (lv_at hl 0 rfl) ?_
    refine lv_bipush (v := 6) hx hb dX11_contrary_20 (by decide) ?_
    refine lv_idiv hx hb dX11_contrary_22 (i_ne0 (X := 6) rfl (by omega)) ?_
    refine tE (y := 3) (by decide) ?_
    refine lv_istore_n (lv' := [(3, .int 3), (2, .int 21), (4, .int 2), (0, .ref (a 0)), (1, .int x1)]) hx hb dX11_contrary_23 rfl hl (by decide) rfl (fun ls hl => ?_)
    refine lv_iload_n hx hb dX11_contrary_24 rfl (lv_at hl 1 rfl) ?_
    refine lv_bipush (v := 6) hx hb dX11_contrary_25 (by decide) ?_
    refine lv_irem hx hb dX11_contrary_27 (i_ne0 (X := 6) rfl (by omega)) ?_
    refine tE (y := 3) (by decide) ?_
    refine lv_istore (lv' := [(4, .int 3), (3, .int 3), (2, .int 21), (0, .ref (a 0)), (1, .int x1)]) hx hb dX11_contrary_28 hl (by decide) rfl (fun ls hl => ?_)
    refine lv_iload_n hx hb dX11_contrary_30 rfl (lv_at hl 1 rfl) ?_
    refine lv_iload hx hb dX11_contrary_31 (lv_at hl 0 rfl) ?_
    refine ct_ge (tgt := 109) (X := 3) (Y := 3) hx hb dX11_contrary_33 (by decide) rfl rfl (by omega) ?_
    refine lv_iinc (v := 22) (lv' := [(2, .int 22), (4, .int 3), (3, .int 3), (0, .ref (a 0)), (1, .int x1)]) hx hb dX11_contrary_109 hl (k := 2) rfl rfl (by decide) rfl (fun ls hl => ?_)
    refine lv_goto (tgt := 13) hx hb dX11_contrary_112 (by decide) ?_
    refine lv_iload_n hx hb dX11_contrary_13 rfl (lv_at hl 0 rfl) ?_
    refine lv_bipush (v := 36) hx hb dX11_contrary_14 (by decide) ?_
    refine cn_ge (X := 22) (Y := 36) hx hb dX11_contrary_16 rfl rfl (by omega) ?_ (tgt := 115) (by decide)
    refine lv_iload_n hx hb dX11_contrary_19 rfl (lv_at hl 0 rfl) ?_
    refine lv_bipush (v := 6) hx hb dX11_contrary_20 (by decide) ?_
    refine lv_idiv hx hb dX11_contrary_22 (i_ne0 (X := 6) rfl (by omega)) ?_
    refine tE (y := 3) (by decide) ?_
    refine lv_istore_n (lv' := [(3, .int 3), (2, .int 22), (4, .int 3), (0, .ref (a 0)), (1, .int x1)]) hx hb dX11_contrary_23 rfl hl (by decide) rfl (fun ls hl => ?_)
    refine lv_iload_n hx hb dX11_contrary_24 rfl (lv_at hl 1 rfl) ?_
    refine lv_bipush (v := 6) hx hb dX11_contrary_25 (by decide) ?_
    refine lv_irem hx hb dX11_contrary_27 (i_ne0 (X := 6) rfl (by omega)) ?_
    refine tE (y := 4) (by decide) ?_
    refine lv_istore (lv' := [(4, .int 4), (3, .int 3), (2, .int 22), (0, .ref (a 0)), (1, .int x1)]) hx hb dX11_contrary_28 hl (by decide) rfl (fun ls hl => ?_)
    refine lv_iload_n hx hb dX11_contrary_30 rfl (lv_at hl 1 rfl) ?_
    refine lv_iload hx hb dX11_contrary_31 (lv_at hl 0 rfl) ?_
    refine cn_ge (X := 3) (Y := 4) hx hb dX11_contrary_33 rfl rfl (by omega) ?_ (tgt := 109) (by decide)
    refine lv_aload_n hx hb dX11_contrary_36 rfl (lv_at hl 3 rfl) ?_
    refine lv_iload_n hx hb dX11_contrary_37 rfl (lv_at hl 1 rfl) ?_
    refine cVi (w := mW cy a) (As := [.int 3]) (rest := []) C hO (T_X11_isHeld l D cy a _ (by exact hA_6_0) (by exact hI_0_36) (3)) (cwV 1 ht (gV wd_1797 wd_1799 wd_91 wd_121 wd_1800) rfl rfl rfl hd_yX11_isHeld ⟨Nat.le_of_ble_eq_true rfl, Nat.le_of_ble_eq_true rfl⟩) 0 rfl mW_0 rfl rfl hl.1 (Nat.le_of_ble_eq_true rfl) dX11_contrary_38 rfl ⟨Nat.zero_le _, Nat.zero_le _⟩ (fun r42 u43 H locs hp44 hO => ?_)
    obtain ⟨hr42, hu43⟩ := hp44
    subst hr42
    rw [hu43] at hO
    refine bt_eq (tgt := 109) (X := 0) hx hb dX11_contrary_41 (by decide) rfl (by omega) ?_
    refine lv_iinc (v := 23) (lv' := [(2, .int 23), (4, .int 4), (3, .int 3), (0, .ref (a 0)), (1, .int x1)]) hx hb dX11_contrary_109 hl (k := 2) rfl rfl (by decide) rfl (fun ls hl => ?_)
    refine lv_goto (tgt := 13) hx hb dX11_contrary_112 (by decide) ?_
    refine lv_iload_n hx hb dX11_contrary_13 rfl (lv_at hl 0 rfl) ?_
    refine lv_bipush (v := 36) hx hb dX11_contrary_14 (by decide) ?_
    refine cn_ge (X := 23) (Y := 36) hx hb dX11_contrary_16 rfl rfl (by omega) ?_ (tgt := 115) (by decide)
    refine lv_iload_n hx hb dX11_contrary_19 rfl (lv_at hl 0 rfl) ?_
    refine lv_bipush (v := 6) hx hb dX11_contrary_20 (by decide) ?_
    refine lv_idiv hx hb dX11_contrary_22 (i_ne0 (X := 6) rfl (by omega)) ?_
    refine tE (y := 3) (by decide) ?_
    refine lv_istore_n (lv' := [(3, .int 3), (2, .int 23), (4, .int 4), (0, .ref (a 0)), (1, .int x1)]) hx hb dX11_contrary_23 rfl hl (by decide) rfl (fun ls hl => ?_)
    refine lv_iload_n hx hb dX11_contrary_24 rfl (lv_at hl 1 rfl) ?_
    refine lv_bipush (v := 6) hx hb dX11_contrary_25 (by decide) ?_
    refine lv_irem hx hb dX11_contrary_27 (i_ne0 (X := 6) rfl (by omega)) ?_
    refine tE (y := 5) (by decide) ?_
    refine lv_istore (lv' := [(4, .int 5), (3, .int 3), (2, .int 23), (0, .ref (a 0)), (1, .int x1)]) hx hb dX11_contrary_28 hl (by decide) rfl (fun ls hl => ?_)
    refine lv_iload_n hx hb dX11_contrary_30 rfl (lv_at hl 1 rfl) ?_
    refine lv_iload hx hb dX11_contrary_31 (lv_at hl 0 rfl) ?_
    refine cn_ge (X := 3) (Y := 5) hx hb dX11_contrary_33 rfl rfl (by omega) ?_ (tgt := 109) (by decide)
    refine lv_aload_n hx hb dX11_contrary_36 rfl (lv_at hl 3 rfl) ?_
    refine lv_iload_n hx hb dX11_contrary_37 rfl (lv_at hl 1 rfl) ?_
    refine cVi (w := mW cy a) (As := [.int 3]) (rest := []) C hO (T_X11_isHeld l D cy a _ (by exact hA_6_0) (by exact hI_0_36) (3)) (cwV 1 ht (gV wd_1797 wd_1799 wd_91 wd_121 wd_1800) rfl rfl rfl hd_yX11_isHeld ⟨Nat.le_of_ble_eq_true rfl, Nat.le_of_ble_eq_true rfl⟩) 0 rfl mW_0 rfl rfl hl.1 (Nat.le_of_ble_eq_true rfl) dX11_contrary_38 rfl ⟨Nat.zero_le _, Nat.zero_le _⟩ (fun r45 u46 H locs hp47 hO => ?_)
    obtain ⟨hr45, hu46⟩ := hp47
    subst hr45
    rw [hu46] at hO
    refine bt_eq (tgt := 109) (X := 0) hx hb dX11_contrary_41 (by decide) rfl (by omega) ?_
    refine lv_iinc (v := 24) (lv' := [(2, .int 24), (4, .int 5), (3, .int 3), (0, .ref (a 0)), (1, .int x1)]) hx hb dX11_contrary_109 hl (k := 2) rfl rfl (by decide) rfl (fun ls hl => ?_)
    refine lv_goto (tgt := 13) hx hb dX11_contrary_112 (by decide) ?_
    refine lv_iload_n hx hb dX11_contrary_13 rfl (lv_at hl 0 rfl) ?_
    refine lv_bipush (v := 36) hx hb dX11_contrary_14 (by decide) ?_
    refine cn_ge (X := 24) (Y := 36) hx hb dX11_contrary_16 rfl rfl (by omega) ?_ (tgt := 115) (by decide)
    refine lv_iload_n hx hb dX11_contrary_19 rfl (lv_at hl 0 rfl) ?_
    refine lv_bipush (v := 6) hx hb dX11_contrary_20 (by decide) ?_
    refine lv_idiv hx hb dX11_contrary_22 (i_ne0 (X := 6) rfl (by omega)) ?_
    refine tE (y := 4) (by decide) ?_
    refine lv_istore_n (lv' := [(3, .int 4), (2, .int 24), (4, .int 5), (0, .ref (a 0)), (1, .int x1)]) hx hb dX11_contrary_23 rfl hl (by decide) rfl (fun ls hl => ?_)
    refine lv_iload_n hx hb dX11_contrary_24 rfl (lv_at hl 1 rfl) ?_
    refine lv_bipush (v := 6) hx hb dX11_contrary_25 (by decide) ?_
    refine lv_irem hx hb dX11_contrary_27 (i_ne0 (X := 6) rfl (by omega)) ?_
    refine tE (y := 0) (by decide) ?_
    refine lv_istore (lv' := [(4, .int 0), (3, .int 4), (2, .int 24), (0, .ref (a 0)), (1, .int x1)]) hx hb dX11_contrary_28 hl (by decide) rfl (fun ls hl => ?_)
    refine lv_iload_n hx hb dX11_contrary_30 rfl (lv_at hl 1 rfl) ?_
    refine lv_iload hx hb dX11_contrary_31 (lv_at hl 0 rfl) ?_
    refine ct_ge (tgt := 109) (X := 4) (Y := 0) hx hb dX11_contrary_33 (by decide) rfl rfl (by omega) ?_
    refine lv_iinc (v := 25) (lv' := [(2, .int 25), (4, .int 0), (3, .int 4), (0, .ref (a 0)), (1, .int x1)]) hx hb dX11_contrary_109 hl (k := 2) rfl rfl (by decide) rfl (fun ls hl => ?_)
    refine lv_goto (tgt := 13) hx hb dX11_contrary_112 (by decide) ?_
    refine lv_iload_n hx hb dX11_contrary_13 rfl (lv_at hl 0 rfl) ?_
    refine lv_bipush (v := 36) hx hb dX11_contrary_14 (by decide) ?_
    refine cn_ge (X := 25) (Y := 36) hx hb dX11_contrary_16 rfl rfl (by omega) ?_ (tgt := 115) (by decide)
    refine lv_iload_n hx hb dX11_contrary_19 rfl (lv_at hl 0 rfl) ?_
    refine lv_bipush (v := 6) hx hb dX11_contrary_20 (by decide) ?_
    refine lv_idiv hx hb dX11_contrary_22 (i_ne0 (X := 6) rfl (by omega)) ?_
    refine tE (y := 4) (by decide) ?_
    refine lv_istore_n (lv' := [(3, .int 4), (2, .int 25), (4, .int 0), (0, .ref (a 0)), (1, .int x1)]) hx hb dX11_contrary_23 rfl hl (by decide) rfl (fun ls hl => ?_)
    refine lv_iload_n hx hb dX11_contrary_24 rfl (lv_at hl 1 rfl) ?_
    refine lv_bipush (v := 6) hx hb dX11_contrary_25 (by decide) ?_
    refine lv_irem hx hb dX11_contrary_27 (i_ne0 (X := 6) rfl (by omega)) ?_
    refine tE (y := 1) (by decide) ?_
    refine lv_istore (lv' := [(4, .int 1), (3, .int 4), (2, .int 25), (0, .ref (a 0)), (1, .int x1)]) hx hb dX11_contrary_28 hl (by decide) rfl (fun ls hl => ?_)
    refine lv_iload_n hx hb dX11_contrary_30 rfl (lv_at hl 1 rfl) ?_
    refine lv_iload hx hb dX11_contrary_31 (lv_at hl 0 rfl) ?_
    refine ct_ge (tgt := 109) (X := 4) (Y := 1) hx hb dX11_contrary_33 (by decide) rfl rfl (by omega) ?_
    refine lv_iinc (v := 26) (lv' := [(2, .int 26), (4, .int 1), (3, .int 4), (0, .ref (a 0)), (1, .int x1)]) hx hb dX11_contrary_109 hl (k := 2) rfl rfl (by decide) rfl (fun ls hl => ?_)
    refine lv_goto (tgt := 13) hx hb dX11_contrary_112 (by decide) ?_
    refine lv_iload_n hx hb dX11_contrary_13 rfl (lv_at hl 0 rfl) ?_
    refine lv_bipush (v := 36) hx hb dX11_contrary_14 (by decide) ?_
    refine cn_ge (X := 26) (Y := 36) hx hb dX11_contrary_16 rfl rfl (by omega) ?_ (tgt := 115) (by decide)
    refine lv_iload_n hx hb dX11_contrary_19 rfl (lv_at hl 0 rfl) ?_
    refine lv_bipush (v := 6) hx hb dX11_contrary_20 (by decide) ?_
    refine lv_idiv hx hb dX11_contrary_22 (i_ne0 (X := 6) rfl (by omega)) ?_
    refine tE (y := 4) (by decide) ?_
    refine lv_istore_n (lv' := [(3, .int 4), (2, .int 26), (4, .int 1), (0, .ref (a 0)), (1, .int x1)]) hx hb dX11_contrary_23 rfl hl (by decide) rfl (fun ls hl => ?_)
    refine lv_iload_n hx hb dX11_contrary_24 rfl (lv_at hl 1 rfl) ?_
    refine lv_bipush (v := 6) hx hb dX11_contrary_25 (by decide) ?_
    refine lv_irem hx hb dX11_contrary_27 (i_ne0 (X := 6) rfl (by omega)) ?_
    refine tE (y := 2) (by decide) ?_
    refine lv_istore (lv' := [(4, .int 2), (3, .int 4), (2, .int 26), (0, .ref (a 0)), (1, .int x1)]) hx hb dX11_contrary_28 hl (by decide) rfl (fun ls hl => ?_)
    refine lv_iload_n hx hb dX11_contrary_30 rfl (lv_at hl 1 rfl) ?_
    refine lv_iload hx hb dX11_contrary_31 (lv_at hl 0 rfl) ?_
    refine ct_ge (tgt := 109) (X := 4) (Y := 2) hx hb dX11_contrary_33 (by decide) rfl rfl (by omega) ?_
    refine lv_iinc (v := 27) (lv' := [(2, .int 27), (4, .int 2), (3, .int 4), (0, .ref (a 0)), (1, .int x1)]) hx hb dX11_contrary_109 hl (k := 2) rfl rfl (by decide) rfl (fun ls hl => ?_)
    refine lv_goto (tgt := 13) hx hb dX11_contrary_112 (by decide) ?_
    refine lv_iload_n hx hb dX11_contrary_13 rfl (lv_at hl 0 rfl) ?_
    refine lv_bipush (v := 36) hx hb dX11_contrary_14 (by decide) ?_
    refine cn_ge (X := 27) (Y := 36) hx hb dX11_contrary_16 rfl rfl (by omega) ?_ (tgt := 115) (by decide)
    refine lv_iload_n hx hb dX11_contrary_19 rfl (lv_at hl 0 rfl) ?_
    refine lv_bipush (v := 6) hx hb dX11_contrary_20 (by decide) ?_
    refine lv_idiv hx hb dX11_contrary_22 (i_ne0 (X := 6) rfl (by omega)) ?_
    refine tE (y := 4) (by decide) ?_
    refine lv_istore_n (lv' := [(3, .int 4), (2, .int 27), (4, .int 2), (0, .ref (a 0)), (1, .int x1)]) hx hb dX11_contrary_23 rfl hl (by decide) rfl (fun ls hl => ?_)
    refine lv_iload_n hx hb dX11_contrary_24 rfl (lv_at hl 1 rfl) ?_
    refine lv_bipush (v := 6) hx hb dX11_contrary_25 (by decide) ?_
    refine lv_irem hx hb dX11_contrary_27 (i_ne0 (X := 6) rfl (by omega)) ?_
    refine tE (y := 3) (by decide) ?_
    refine lv_istore (lv' := [(4, .int 3), (3, .int 4), (2, .int 27), (0, .ref (a 0)), (1, .int x1)]) hx hb dX11_contrary_28 hl (by decide) rfl (fun ls hl => ?_)
    refine lv_iload_n hx hb dX11_contrary_30 rfl (lv_at hl 1 rfl) ?_
    refine lv_iload hx hb dX11_contrary_31 (lv_at hl 0 rfl) ?_
    refine ct_ge (tgt := 109) (X := 4) (Y := 3) hx hb dX11_contrary_33 (by decide) rfl rfl (by omega) ?_
    refine lv_iinc (v := 28) (lv' := [(2, .int 28), (4, .int 3), (3, .int 4), (0, .ref (a 0)), (1, .int x1)]) hx hb dX11_contrary_109 hl (k := 2) rfl rfl (by decide) rfl (fun ls hl => ?_)
    refine lv_goto (tgt := 13) hx hb dX11_contrary_112 (by decide) ?_
    refine lv_iload_n hx hb dX11_contrary_13 rfl (lv_at hl 0 rfl) ?_
    refine lv_bipush (v := 36) hx hb dX11_contrary_14 (by decide) ?_
    refine cn_ge (X := 28) (Y := 36) hx hb dX11_contrary_16 rfl rfl (by omega) ?_ (tgt := 115) (by decide)
    refine lv_iload_n hx hb dX11_contrary_19 rfl (lv_at hl 0 rfl) ?_
    refine lv_bipush (v := 6) hx hb dX11_contrary_20 (by decide) ?_
    refine lv_idiv hx hb dX11_contrary_22 (i_ne0 (X := 6) rfl (by omega)) ?_
    refine tE (y := 4) (by decide) ?_
    refine lv_istore_n (lv' := [(3, .int 4), (2, .int 28), (4, .int 3), (0, .ref (a 0)), (1, .int x1)]) hx hb dX11_contrary_23 rfl hl (by decide) rfl (fun ls hl => ?_)
    refine lv_iload_n hx hb dX11_contrary_24 rfl (lv_at hl 1 rfl) ?_
    refine lv_bipush (v := 6) hx hb dX11_contrary_25 (by decide) ?_
    refine lv_irem hx hb dX11_contrary_27 (i_ne0 (X := 6) rfl (by omega)) ?_
    refine tE (y := 4) (by decide) ?_
    refine lv_istore (lv' := [(4, .int 4), (3, .int 4), (2, .int 28), (0, .ref (a 0)), (1, .int x1)]) hx hb dX11_contrary_28 hl (by decide) rfl (fun ls hl => ?_)
    refine lv_iload_n hx hb dX11_contrary_30 rfl (lv_at hl 1 rfl) ?_
    refine lv_iload hx hb dX11_contrary_31 (lv_at hl 0 rfl) ?_
    refine ct_ge (tgt := 109) (X := 4) (Y := 4) hx hb dX11_contrary_33 (by decide) rfl rfl (by omega) ?_
    refine lv_iinc (v := 29) (lv' := [(2, .int 29), (4, .int 4), (3, .int 4), (0, .ref (a 0)), (1, .int x1)]) hx hb dX11_contrary_109 hl (k := 2) rfl rfl (by decide) rfl (fun ls hl => ?_)
    refine lv_goto (tgt := 13) hx hb dX11_contrary_112 (by decide) ?_
    refine lv_iload_n hx hb dX11_contrary_13 rfl (lv_at hl 0 rfl) ?_
    refine lv_bipush (v := 36) hx hb dX11_contrary_14 (by decide) ?_
    refine cn_ge (X := 29) (Y := 36) hx hb dX11_contrary_16 rfl rfl (by omega) ?_ (tgt := 115) (by decide)
    refine lv_iload_n hx hb dX11_contrary_19 rfl (lv_at hl 0 rfl) ?_
    refine lv_bipush (v := 6) hx hb dX11_contrary_20 (by decide) ?_
    refine lv_idiv hx hb dX11_contrary_22 (i_ne0 (X := 6) rfl (by omega)) ?_
    refine tE (y := 4) (by decide) ?_
    refine lv_istore_n (lv' := [(3, .int 4), (2, .int 29), (4, .int 4), (0, .ref (a 0)), (1, .int x1)]) hx hb dX11_contrary_23 rfl hl (by decide) rfl (fun ls hl => ?_)
    refine lv_iload_n hx hb dX11_contrary_24 rfl (lv_at hl 1 rfl) ?_
    refine lv_bipush (v := 6) hx hb dX11_contrary_25 (by decide) ?_
    refine lv_irem hx hb dX11_contrary_27 (i_ne0 (X := 6) rfl (by omega)) ?_
    refine tE (y := 5) (by decide) ?_
    refine lv_istore (lv' := [(4, .int 5), (3, .int 4), (2, .int 29), (0, .ref (a 0)), (1, .int x1)]) hx hb dX11_contrary_28 hl (by decide) rfl (fun ls hl => ?_)
    refine lv_iload_n hx hb dX11_contrary_30 rfl (lv_at hl 1 rfl) ?_
    refine lv_iload hx hb dX11_contrary_31 (lv_at hl 0 rfl) ?_
    refine cn_ge (X := 4) (Y := 5) hx hb dX11_contrary_33 rfl rfl (by omega) ?_ (tgt := 109) (by decide)
    refine lv_aload_n hx hb dX11_contrary_36 rfl (lv_at hl 3 rfl) ?_
    refine lv_iload_n hx hb dX11_contrary_37 rfl (lv_at hl 1 rfl) ?_
    refine cVi (w := mW cy a) (As := [.int 4]) (rest := []) C hO (T_X11_isHeld l D cy a _ (by exact hA_6_0) (by exact hI_0_36) (4)) (cwV 1 ht (gV wd_1797 wd_1799 wd_91 wd_121 wd_1800) rfl rfl rfl hd_yX11_isHeld ⟨Nat.le_of_ble_eq_true rfl, Nat.le_of_ble_eq_true rfl⟩) 0 rfl mW_0 rfl rfl hl.1 (Nat.le_of_ble_eq_true rfl) dX11_contrary_38 rfl ⟨Nat.zero_le _, Nat.zero_le _⟩ (fun r48 u49 H locs hp50 hO => ?_)
    obtain ⟨hr48, hu49⟩ := hp50
    subst hr48
    rw [hu49] at hO
    refine bt_eq (tgt := 109) (X := 0) hx hb dX11_contrary_41 (by decide) rfl (by omega) ?_
    refine lv_iinc (v := 30) (lv' := [(2, .int 30), (4, .int 5), (3, .int 4), (0, .ref (a 0)), (1, .int x1)]) hx hb dX11_contrary_109 hl (k := 2) rfl rfl (by decide) rfl (fun ls hl => ?_)
    refine lv_goto (tgt := 13) hx hb dX11_contrary_112 (by decide) ?_
    refine lv_iload_n hx hb dX11_contrary_13 rfl (lv_at hl 0 rfl) ?_
    refine lv_bipush (v := 36) hx hb dX11_contrary_14 (by decide) ?_
    refine cn_ge (X := 30) (Y := 36) hx hb dX11_contrary_16 rfl rfl (by omega) ?_ (tgt := 115) (by decide)
    refine lv_iload_n hx hb dX11_contrary_19 rfl (lv_at hl 0 rfl) ?_
    refine lv_bipush (v := 6) hx hb dX11_contrary_20 (by decide) ?_
    refine lv_idiv hx hb dX11_contrary_22 (i_ne0 (X := 6) rfl (by omega)) ?_
    refine tE (y := 5) (by decide) ?_
    refine lv_istore_n (lv' := [(3, .int 5), (2, .int 30), (4, .int 5), (0, .ref (a 0)), (1, .int x1)]) hx hb dX11_contrary_23 rfl hl (by decide) rfl (fun ls hl => ?_)
    refine lv_iload_n hx hb dX11_contrary_24 rfl (lv_at hl 1 rfl) ?_
    refine lv_bipush (v := 6) hx hb dX11_contrary_25 (by decide) ?_
    refine lv_irem hx hb dX11_contrary_27 (i_ne0 (X := 6) rfl (by omega)) ?_
    refine tE (y := 0) (by decide) ?_
    refine lv_istore (lv' := [(4, .int 0), (3, .int 5), (2, .int 30), (0, .ref (a 0)), (1, .int x1)]) hx hb dX11_contrary_28 hl (by decide) rfl (fun ls hl => ?_)
    refine lv_iload_n hx hb dX11_contrary_30 rfl (lv_at hl 1 rfl) ?_
    refine lv_iload hx hb dX11_contrary_31 (lv_at hl 0 rfl) ?_
    refine ct_ge (tgt := 109) (X := 5) (Y := 0) hx hb dX11_contrary_33 (by decide) rfl rfl (by omega) ?_
    refine lv_iinc (v := 31) (lv' := [(2, .int 31), (4, .int 0), (3, .int 5), (0, .ref (a 0)), (1, .int x1)]) hx hb dX11_contrary_109 hl (k := 2) rfl rfl (by decide) rfl (fun ls hl => ?_)
    refine lv_goto (tgt := 13) hx hb dX11_contrary_112 (by decide) ?_
    refine lv_iload_n hx hb dX11_contrary_13 rfl (lv_at hl 0 rfl) ?_
    refine lv_bipush (v := 36) hx hb dX11_contrary_14 (by decide) ?_
    refine cn_ge (X := 31) (Y := 36) hx hb dX11_contrary_16 rfl rfl (by omega) ?_ (tgt := 115) (by decide)
    refine lv_iload_n hx hb dX11_contrary_19 rfl (lv_at hl 0 rfl) ?_
    refine lv_bipush (v := 6) hx hb dX11_contrary_20 (by decide) ?_
    refine lv_idiv hx hb dX11_contrary_22 (i_ne0 (X := 6) rfl (by omega)) ?_
    refine tE (y := 5) (by decide) ?_
    refine lv_istore_n (lv' := [(3, .int 5), (2, .int 31), (4, .int 0), (0, .ref (a 0)), (1, .int x1)]) hx hb dX11_contrary_23 rfl hl (by decide) rfl (fun ls hl => ?_)
    refine lv_iload_n hx hb dX11_contrary_24 rfl (lv_at hl 1 rfl) ?_
    refine lv_bipush (v := 6) hx hb dX11_contrary_25 (by decide) ?_
    refine lv_irem hx hb dX11_contrary_27 (i_ne0 (X := 6) rfl (by omega)) ?_
    refine tE (y := 1) (by decide) ?_
    refine lv_istore (lv' := [(4, .int 1), (3, .int 5), (2, .int 31), (0, .ref (a 0)), (1, .int x1)]) hx hb dX11_contrary_28 hl (by decide) rfl (fun ls hl => ?_)
    refine lv_iload_n hx hb dX11_contrary_30 rfl (lv_at hl 1 rfl) ?_
    refine lv_iload hx hb dX11_contrary_31 (lv_at hl 0 rfl) ?_
    refine ct_ge (tgt := 109) (X := 5) (Y := 1) hx hb dX11_contrary_33 (by decide) rfl rfl (by omega) ?_
    refine lv_iinc (v := 32) (lv' := [(2, .int 32), (4, .int 1), (3, .int 5), (0, .ref (a 0)), (1, .int x1)]) hx hb dX11_contrary_109 hl (k := 2) rfl rfl (by decide) rfl (fun ls hl => ?_)
    refine lv_goto (tgt := 13) hx hb dX11_contrary_112 (by decide) ?_
    refine lv_iload_n hx hb dX11_contrary_13 rfl (lv_at hl 0 rfl) ?_
    refine lv_bipush (v := 36) hx hb dX11_contrary_14 (by decide) ?_
    refine cn_ge (X := 32) (Y := 36) hx hb dX11_contrary_16 rfl rfl (by omega) ?_ (tgt := 115) (by decide)
    refine lv_iload_n hx hb dX11_contrary_19 rfl (lv_at hl 0 rfl) ?_
    refine lv_bipush (v := 6) hx hb dX11_contrary_20 (by decide) ?_
    refine lv_idiv hx hb dX11_contrary_22 (i_ne0 (X := 6) rfl (by omega)) ?_
    refine tE (y := 5) (by decide) ?_
    refine lv_istore_n (lv' := [(3, .int 5), (2, .int 32), (4, .int 1), (0, .ref (a 0)), (1, .int x1)]) hx hb dX11_contrary_23 rfl hl (by decide) rfl (fun ls hl => ?_)
    refine lv_iload_n hx hb dX11_contrary_24 rfl (lv_at hl 1 rfl) ?_
    refine lv_bipush (v := 6) hx hb dX11_contrary_25 (by decide) ?_
    refine lv_irem hx hb dX11_contrary_27 (i_ne0 (X := 6) rfl (by omega)) ?_
    refine tE (y := 2) (by decide) ?_
    refine lv_istore (lv' := [(4, .int 2), (3, .int 5), (2, .int 32), (0, .ref (a 0)), (1, .int x1)]) hx hb dX11_contrary_28 hl (by decide) rfl (fun ls hl => ?_)
    refine lv_iload_n hx hb dX11_contrary_30 rfl (lv_at hl 1 rfl) ?_
    refine lv_iload hx hb dX11_contrary_31 (lv_at hl 0 rfl) ?_
    refine ct_ge (tgt := 109) (X := 5) (Y := 2) hx hb dX11_contrary_33 (by decide) rfl rfl (by omega) ?_
    refine lv_iinc (v := 33) (lv' := [(2, .int 33), (4, .int 2), (3, .int 5), (0, .ref (a 0)), (1, .int x1)]) hx hb dX11_contrary_109 hl (k := 2) rfl rfl (by decide) rfl (fun ls hl => ?_)
    refine lv_goto (tgt := 13) hx hb dX11_contrary_112 (by decide) ?_
    refine lv_iload_n hx hb dX11_contrary_13 rfl (lv_at hl 0 rfl) ?_
    refine lv_bipush (v := 36) hx hb dX11_contrary_14 (by decide) ?_
    refine cn_ge (X := 33) (Y := 36) hx hb dX11_contrary_16 rfl rfl (by omega) ?_ (tgt := 115) (by decide)
    refine lv_iload_n hx hb dX11_contrary_19 rfl (lv_at hl 0 rfl) ?_
    refine lv_bipush (v := 6) hx hb dX11_contrary_20 (by decide) ?_
    refine lv_idiv hx hb dX11_contrary_22 (i_ne0 (X := 6) rfl (by omega)) ?_
    refine tE (y := 5) (by decide) ?_
    refine lv_istore_n (lv' := [(3, .int 5), (2, .int 33), (4, .int 2), (0, .ref (a 0)), (1, .int x1)]) hx hb dX11_contrary_23 rfl hl (by decide) rfl (fun ls hl => ?_)
    refine lv_iload_n hx hb dX11_contrary_24 rfl (lv_at hl 1 rfl) ?_
    refine lv_bipush (v := 6) hx hb dX11_contrary_25 (by decide) ?_
    refine lv_irem hx hb dX11_contrary_27 (i_ne0 (X := 6) rfl (by omega)) ?_
    refine tE (y := 3) (by decide) ?_
    refine lv_istore (lv' := [(4, .int 3), (3, .int 5), (2, .int 33), (0, .ref (a 0)), (1, .int x1)]) hx hb dX11_contrary_28 hl (by decide) rfl (fun ls hl => ?_)
    refine lv_iload_n hx hb dX11_contrary_30 rfl (lv_at hl 1 rfl) ?_
    refine lv_iload hx hb dX11_contrary_31 (lv_at hl 0 rfl) ?_
    refine ct_ge (tgt := 109) (X := 5) (Y := 3) hx hb dX11_contrary_33 (by decide) rfl rfl (by omega) ?_
    refine lv_iinc (v := 34) (lv' := [(2, .int 34), (4, .int 3), (3, .int 5), (0, .ref (a 0)), (1, .int x1)]) hx hb dX11_contrary_109 hl (k := 2) rfl rfl (by decide) rfl (fun ls hl => ?_)
    refine lv_goto (tgt := 13) hx hb dX11_contrary_112 (by decide) ?_
    refine lv_iload_n hx hb dX11_contrary_13 rfl (lv_at hl 0 rfl) ?_
    refine lv_bipush (v := 36) hx hb dX11_contrary_14 (by decide) ?_
    refine cn_ge (X := 34) (Y := 36) hx hb dX11_contrary_16 rfl rfl (by omega) ?_ (tgt := 115) (by decide)
    refine lv_iload_n hx hb dX11_contrary_19 rfl (lv_at hl 0 rfl) ?_
    refine lv_bipush (v := 6) hx hb dX11_contrary_20 (by decide) ?_
    refine lv_idiv hx hb dX11_contrary_22 (i_ne0 (X := 6) rfl (by omega)) ?_
    refine tE (y := 5) (by decide) ?_
    refine lv_istore_n (lv' := [(3, .int 5), (2, .int 34), (4, .int 3), (0, .ref (a 0)), (1, .int x1)]) hx hb dX11_contrary_23 rfl hl (by decide) rfl (fun ls hl => ?_)
    refine lv_iload_n hx hb dX11_contrary_24 rfl (lv_at hl 1 rfl) ?_
    refine lv_bipush (v := 6) hx hb dX11_contrary_25 (by decide) ?_
    refine lv_irem hx hb dX11_contrary_27 (i_ne0 (X := 6) rfl (by omega)) ?_
    refine tE (y := 4) (by decide) ?_
    refine lv_istore (lv' := [(4, .int 4), (3, .int 5), (2, .int 34), (0, .ref (a 0)), (1, .int x1)]) hx hb dX11_contrary_28 hl (by decide) rfl (fun ls hl => ?_)
    refine lv_iload_n hx hb dX11_contrary_30 rfl (lv_at hl 1 rfl) ?_
    refine lv_iload hx hb dX11_contrary_31 (lv_at hl 0 rfl) ?_
    refine ct_ge (tgt := 109) (X := 5) (Y := 4) hx hb dX11_contrary_33 (by decide) rfl rfl (by omega) ?_
    refine lv_iinc (v := 35) (lv' := [(2, .int 35), (4, .int 4), (3, .int 5), (0, .ref (a 0)), (1, .int x1)]) hx hb dX11_contrary_109 hl (k := 2) rfl rfl (by decide) rfl (fun ls hl => ?_)
    refine lv_goto (tgt := 13) hx hb dX11_contrary_112 (by decide) ?_
    refine lv_iload_n hx hb dX11_contrary_13 rfl (lv_at hl 0 rfl) ?_
    refine lv_bipush (v := 36) hx hb dX11_contrary_14 (by decide) ?_
    refine cn_ge (X := 35) (Y := 36) hx hb dX11_contrary_16 rfl rfl (by omega) ?_ (tgt := 115) (by decide)
    refine lv_iload_n hx hb dX11_contrary_19 rfl (lv_at hl 0 rfl) ?_
    refine lv_bipush (v := 6) hx hb dX11_contrary_20 (by decide) ?_
    refine lv_idiv hx hb dX11_contrary_22 (i_ne0 (X := 6) rfl (by omega)) ?_
    refine tE (y := 5) (by decide) ?_
    refine lv_istore_n (lv' := [(3, .int 5), (2, .int 35), (4, .int 4), (0, .ref (a 0)), (1, .int x1)]) hx hb dX11_contrary_23 rfl hl (by decide) rfl (fun ls hl => ?_)
    refine lv_iload_n hx hb dX11_contrary_24 rfl (lv_at hl 1 rfl) ?_
    refine lv_bipush (v := 6) hx hb dX11_contrary_25 (by decide) ?_
    refine lv_irem hx hb dX11_contrary_27 (i_ne0 (X := 6) rfl (by omega)) ?_
    refine tE (y := 5) (by decide) ?_
    refine lv_istore (lv' := [(4, .int 5), (3, .int 5), (2, .int 35), (0, .ref (a 0)), (1, .int x1)]) hx hb dX11_contrary_28 hl (by decide) rfl (fun ls hl => ?_)
    refine lv_iload_n hx hb dX11_contrary_30 rfl (lv_at hl 1 rfl) ?_
    refine lv_iload hx hb dX11_contrary_31 (lv_at hl 0 rfl) ?_
    refine ct_ge (tgt := 109) (X := 5) (Y := 5) hx hb dX11_contrary_33 (by decide) rfl rfl (by omega) ?_
    refine lv_iinc (v := 36) (lv' := [(2, .int 36), (4, .int 5), (3, .int 5), (0, .ref (a 0)), (1, .int x1)]) hx hb dX11_contrary_109 hl (k := 2) rfl rfl (by decide) rfl (fun ls hl => ?_)
    refine lv_goto (tgt := 13) hx hb dX11_contrary_112 (by decide) ?_
    refine lv_iload_n hx hb dX11_contrary_13 rfl (lv_at hl 0 rfl) ?_
    refine lv_bipush (v := 36) hx hb dX11_contrary_14 (by decide) ?_
    refine ct_ge (tgt := 115) (X := 36) (Y := 36) hx hb dX11_contrary_16 (by decide) rfl rfl (by omega) ?_
    refine lv_iconst (v := (-1)) hx hb dX11_contrary_115 (by decide) ?_
    refine hret _ _ _ _ _ _ dX11_contrary_116 rfl ?_ hO
    exact ⟨rfl, rfl⟩
  · subst hvr1
    refine bn_ne (X := 0) hx hb dX11_contrary_6 rfl (by omega) ?_ (tgt := 11) (by decide)
    refine lv_iconst (v := (-1)) hx hb dX11_contrary_9 (by decide) ?_
    refine hret _ _ _ _ _ _ dX11_contrary_10 rfl ?_ hO
    exact ⟨rfl, rfl⟩
theorem dX11_precedent_0 : decode cX11_precedent 0 = .ok (.iload_n 1, 1) := by decide +kernel
theorem dX11_precedent_1 : decode cX11_precedent 1 = .ok (.iconst 0, 1) := by decide +kernel
theorem dX11_precedent_2 : decode cX11_precedent 2 = .ok (.bipush 99, 2) := by decide +kernel
theorem dX11_precedent_4 : decode cX11_precedent 4 = .ok (.invokestatic 374, 3) := by decide +kernel
theorem dX11_precedent_7 : decode cX11_precedent 7 = .ok (.ifCond .ne 5, 3) := by decide +kernel
theorem dX11_precedent_10 : decode cX11_precedent 10 = .ok (.iconst (-1), 1) := by decide +kernel
theorem dX11_precedent_11 : decode cX11_precedent 11 = .ok (.ireturn, 1) := by decide +kernel
theorem dX11_precedent_12 : decode cX11_precedent 12 = .ok (.iconst 0, 1) := by decide +kernel
theorem dX11_precedent_13 : decode cX11_precedent 13 = .ok (.istore_n 2, 1) := by decide +kernel
theorem dX11_precedent_14 : decode cX11_precedent 14 = .ok (.iconst 0, 1) := by decide +kernel
theorem dX11_precedent_15 : decode cX11_precedent 15 = .ok (.istore_n 3, 1) := by decide +kernel
theorem dX11_precedent_16 : decode cX11_precedent 16 = .ok (.iload_n 3, 1) := by decide +kernel
theorem dX11_precedent_17 : decode cX11_precedent 17 = .ok (.aload_n 0, 1) := by decide +kernel
theorem dX11_precedent_18 : decode cX11_precedent 18 = .ok (.invokevirtual 371, 3) := by decide +kernel
theorem dX11_precedent_21 : decode cX11_precedent 21 = .ok (.if_icmp .ge 65, 3) := by decide +kernel
theorem dX11_precedent_24 : decode cX11_precedent 24 = .ok (.aload_n 0, 1) := by decide +kernel
theorem dX11_precedent_25 : decode cX11_precedent 25 = .ok (.getfield 97, 3) := by decide +kernel
theorem dX11_precedent_28 : decode cX11_precedent 28 = .ok (.bipush 12, 2) := by decide +kernel
theorem dX11_precedent_30 : decode cX11_precedent 30 = .ok (.iload_n 3, 1) := by decide +kernel
theorem dX11_precedent_31 : decode cX11_precedent 31 = .ok (.iadd, 1) := by decide +kernel
theorem dX11_precedent_32 : decode cX11_precedent 32 = .ok (.iaload, 1) := by decide +kernel
theorem dX11_precedent_33 : decode cX11_precedent 33 = .ok (.istore 4, 2) := by decide +kernel
theorem dX11_precedent_35 : decode cX11_precedent 35 = .ok (.aload_n 0, 1) := by decide +kernel
theorem dX11_precedent_36 : decode cX11_precedent 36 = .ok (.getfield 97, 3) := by decide +kernel
theorem dX11_precedent_39 : decode cX11_precedent 39 = .ok (.bipush 12, 2) := by decide +kernel
theorem dX11_precedent_41 : decode cX11_precedent 41 = .ok (.iload_n 3, 1) := by decide +kernel
theorem dX11_precedent_42 : decode cX11_precedent 42 = .ok (.iadd, 1) := by decide +kernel
theorem dX11_precedent_43 : decode cX11_precedent 43 = .ok (.iload_n 1, 1) := by decide +kernel
theorem dX11_precedent_44 : decode cX11_precedent 44 = .ok (.iastore, 1) := by decide +kernel
theorem dX11_precedent_45 : decode cX11_precedent 45 = .ok (.iload_n 2, 1) := by decide +kernel
theorem dX11_precedent_46 : decode cX11_precedent 46 = .ok (.aload_n 0, 1) := by decide +kernel
theorem dX11_precedent_47 : decode cX11_precedent 47 = .ok (.iload_n 3, 1) := by decide +kernel
theorem dX11_precedent_48 : decode cX11_precedent 48 = .ok (.invokevirtual 413, 3) := by decide +kernel
theorem dX11_precedent_51 : decode cX11_precedent 51 = .ok (.ifCond .eq 15, 3) := by decide +kernel
theorem dX11_precedent_54 : decode cX11_precedent 54 = .ok (.aload_n 0, 1) := by decide +kernel
theorem dX11_precedent_55 : decode cX11_precedent 55 = .ok (.iload_n 3, 1) := by decide +kernel
theorem dX11_precedent_56 : decode cX11_precedent 56 = .ok (.invokevirtual 416, 3) := by decide +kernel
theorem dX11_precedent_59 : decode cX11_precedent 59 = .ok (.ifCond .le 7, 3) := by decide +kernel
theorem dX11_precedent_62 : decode cX11_precedent 62 = .ok (.iconst 1, 1) := by decide +kernel
theorem dX11_precedent_63 : decode cX11_precedent 63 = .ok (.goto 4, 3) := by decide +kernel
theorem dX11_precedent_66 : decode cX11_precedent 66 = .ok (.iconst 0, 1) := by decide +kernel
theorem dX11_precedent_67 : decode cX11_precedent 67 = .ok (.iadd, 1) := by decide +kernel
theorem dX11_precedent_68 : decode cX11_precedent 68 = .ok (.istore_n 2, 1) := by decide +kernel
theorem dX11_precedent_69 : decode cX11_precedent 69 = .ok (.aload_n 0, 1) := by decide +kernel
theorem dX11_precedent_70 : decode cX11_precedent 70 = .ok (.getfield 97, 3) := by decide +kernel
theorem dX11_precedent_73 : decode cX11_precedent 73 = .ok (.bipush 12, 2) := by decide +kernel
theorem dX11_precedent_75 : decode cX11_precedent 75 = .ok (.iload_n 3, 1) := by decide +kernel
theorem dX11_precedent_76 : decode cX11_precedent 76 = .ok (.iadd, 1) := by decide +kernel
theorem dX11_precedent_77 : decode cX11_precedent 77 = .ok (.iload 4, 2) := by decide +kernel
theorem dX11_precedent_79 : decode cX11_precedent 79 = .ok (.iastore, 1) := by decide +kernel
theorem dX11_precedent_80 : decode cX11_precedent 80 = .ok (.iinc 3 1, 3) := by decide +kernel
theorem dX11_precedent_83 : decode cX11_precedent 83 = .ok (.goto (-67), 3) := by decide +kernel
theorem dX11_precedent_86 : decode cX11_precedent 86 = .ok (.iload_n 2, 1) := by decide +kernel
theorem dX11_precedent_87 : decode cX11_precedent 87 = .ok (.ireturn, 1) := by decide +kernel
theorem wd_1919 : (Cond.code ⟨"WebCourtModel", "precedent", "(I)I"⟩ prog_13_method_97_code (5 : Nat) (Option.some FieldType.int)) ∈ gtb := gtb_c8 130 (by decide +kernel) rfl
set_option maxHeartbeats 4000000 in
set_option maxRecDepth 100000 in
theorem T_X11_precedent (l : Launch) (D : va_G) (cy : Nat → ClassId) (a : Nat → Nat) (u : St) (hA_6_0 : fA u 6 0 = 0) (hI_0_36 : fI u 0 36 = 0) (x1 : Int32)  : Mi l D cy (mW cy a) yX11_precedent (.code yX11_precedent cX11_precedent 5 (some .int)) (rmo 1 22) [.ref (a 0), .int x1] u (fun (r : Int32) (u' : St) => (r = q_prec x1) ∧ (u' = u)) := by
  refine Mi.of (own := RX11) rfl (by decide) (Nat.le_of_ble_eq_true rfl) ?_
  intro p e s m below meth c A Q ls C hret hO hl
  obtain ⟨hx, hb, hml, hown, ht, hK, hA⟩ := id C
  have hl : lv_has ls 5 [(0, .ref (a 0)), (1, .int x1)] := hl
  refine lv_iload_n hx hb dX11_precedent_0 rfl (lv_at hl 1 rfl) ?_
  refine lv_iconst (v := 0) hx hb dX11_precedent_1 (by decide) ?_
  refine lv_bipush (v := 99) hx hb dX11_precedent_2 (by decide) ?_
  refine cSi (w := mW cy a) (As := [.int x1, .int 0, .int 99]) (rest := []) C hO (T_X11_isIn l D cy a _ (x1) (0) (99)) (va_cwS 3 ht (gSS wd_1722 wd_1723 wd_121 wd_1724) rfl rfl rfl hd_yX11_isIn ⟨Nat.le_of_ble_eq_true rfl, Nat.le_of_ble_eq_true rfl⟩)  rfl hl.1 (Nat.le_of_ble_eq_true rfl) dX11_precedent_4 rfl ⟨Nat.zero_le _, Nat.zero_le _⟩ (fun r1 u2 H locs hp3 hO => ?_)
  obtain ⟨hr1, hu2⟩ := hp3
  rw [hu2] at hO
  have zz4 : (0 : Int32).toInt = 0 := rfl
  have zz5 : (99 : Int32).toInt = 99 := rfl
  rcases hr1 with ⟨hcr1, hvr1⟩ | ⟨hcr1, hvr1⟩
  · subst hvr1
    refine bt_ne (tgt := 12) (X := 1) hx hb dX11_precedent_7 (by decide) rfl (by omega) ?_
    refine lv_iconst (v := 0) hx hb dX11_precedent_12 (by decide) ?_
    refine lv_istore_n (lv' := [(2, .int 0), (0, .ref (a 0)), (1, .int x1)]) hx hb dX11_precedent_13 rfl hl (by decide) rfl (fun ls hl => ?_)
    refine lv_iconst (v := 0) hx hb dX11_precedent_14 (by decide) ?_
    refine lv_istore_n (lv' := [(3, .int 0), (2, .int 0), (0, .ref (a 0)), (1, .int x1)]) hx hb dX11_precedent_15 rfl hl (by decide) rfl (fun ls hl => ?_)
    refine lv_iload_n hx hb dX11_precedent_16 rfl (lv_at hl 0 rfl) ?_
    refine lv_aload_n hx hb dX11_precedent_17 rfl (lv_at hl 2 rfl) ?_
    refine cVi (w := mW cy a) (As := []) (rest := [.int 0]) C hO (T_X11_many l D cy a _ (by exact hA_6_0) (by exact hI_0_36)) (cwV 0 ht (gV wd_1348 wd_1350 wd_46 wd_121 wd_1351) rfl rfl rfl hd_yX11_many ⟨Nat.le_of_ble_eq_true rfl, Nat.le_of_ble_eq_true rfl⟩) 0 rfl mW_0 rfl rfl hl.1 (Nat.le_of_ble_eq_true rfl) dX11_precedent_18 rfl ⟨Nat.zero_le _, Nat.zero_le _⟩ (fun r6 u7 H locs hp8 hO => ?_)
    obtain ⟨hr6, hu7⟩ := hp8
    subst hr6
    rw [hu7] at hO
    refine ct_ge (tgt := 86) (X := 0) (Y := 0) hx hb dX11_precedent_21 (by decide) rfl rfl (by omega) ?_
    refine lv_iload_n hx hb dX11_precedent_86 rfl (lv_at hl 1 rfl) ?_
    refine hret _ _ _ _ _ _ dX11_precedent_87 rfl ?_ hO
    exact ⟨(by unfold q_prec; have z0 : (0 : Int32).toInt = 0 := rfl; have z1 : (-1 : Int32).toInt = -1 := rfl; split <;> first | rfl | (exact i32_eq.mpr (by omega)) | (exfalso; omega)), rfl⟩
  · subst hvr1
    refine bn_ne (X := 0) hx hb dX11_precedent_7 rfl (by omega) ?_ (tgt := 12) (by decide)
    refine lv_iconst (v := (-1)) hx hb dX11_precedent_10 (by decide) ?_
    refine hret _ _ _ _ _ _ dX11_precedent_11 rfl ?_ hO
    exact ⟨(by unfold q_prec; have z0 : (0 : Int32).toInt = 0 := rfl; have z1 : (-1 : Int32).toInt = -1 := rfl; split <;> first | rfl | (exact i32_eq.mpr (by omega)) | (exfalso; omega)), rfl⟩
theorem dX11_rivals_0 : decode cX11_rivals 0 = .ok (.aload_n 0, 1) := by decide +kernel
theorem dX11_rivals_1 : decode cX11_rivals 1 = .ok (.iconst 0, 1) := by decide +kernel
theorem dX11_rivals_2 : decode cX11_rivals 2 = .ok (.putfield 398, 3) := by decide +kernel
theorem dX11_rivals_5 : decode cX11_rivals 5 = .ok (.aload_n 0, 1) := by decide +kernel
theorem dX11_rivals_6 : decode cX11_rivals 6 = .ok (.iload_n 1, 1) := by decide +kernel
theorem dX11_rivals_7 : decode cX11_rivals 7 = .ok (.invokevirtual 413, 3) := by decide +kernel
theorem dX11_rivals_10 : decode cX11_rivals 10 = .ok (.ifCond .eq 23, 3) := by decide +kernel
theorem dX11_rivals_13 : decode cX11_rivals 13 = .ok (.aload_n 0, 1) := by decide +kernel
theorem dX11_rivals_14 : decode cX11_rivals 14 = .ok (.iload_n 2, 1) := by decide +kernel
theorem dX11_rivals_15 : decode cX11_rivals 15 = .ok (.invokevirtual 413, 3) := by decide +kernel
theorem dX11_rivals_18 : decode cX11_rivals 18 = .ok (.ifCond .eq 15, 3) := by decide +kernel
theorem dX11_rivals_21 : decode cX11_rivals 21 = .ok (.iload_n 1, 1) := by decide +kernel
theorem dX11_rivals_22 : decode cX11_rivals 22 = .ok (.iload_n 2, 1) := by decide +kernel
theorem dX11_rivals_23 : decode cX11_rivals 23 = .ok (.if_icmp .eq 10, 3) := by decide +kernel
theorem dX11_rivals_26 : decode cX11_rivals 26 = .ok (.aload_n 0, 1) := by decide +kernel
theorem dX11_rivals_27 : decode cX11_rivals 27 = .ok (.invokevirtual 377, 3) := by decide +kernel
theorem dX11_rivals_30 : decode cX11_rivals 30 = .ok (.ifCond .ne 5, 3) := by decide +kernel
theorem dX11_rivals_33 : decode cX11_rivals 33 = .ok (.iconst (-1), 1) := by decide +kernel
theorem dX11_rivals_34 : decode cX11_rivals 34 = .ok (.ireturn, 1) := by decide +kernel
theorem dX11_rivals_35 : decode cX11_rivals 35 = .ok (.aload_n 0, 1) := by decide +kernel
theorem dX11_rivals_36 : decode cX11_rivals 36 = .ok (.iload_n 1, 1) := by decide +kernel
theorem dX11_rivals_37 : decode cX11_rivals 37 = .ok (.iload_n 2, 1) := by decide +kernel
theorem dX11_rivals_38 : decode cX11_rivals 38 = .ok (.invokevirtual 460, 3) := by decide +kernel
theorem dX11_rivals_41 : decode cX11_rivals 41 = .ok (.iconst 0, 1) := by decide +kernel
theorem dX11_rivals_42 : decode cX11_rivals 42 = .ok (.istore_n 3, 1) := by decide +kernel
theorem dX11_rivals_43 : decode cX11_rivals 43 = .ok (.iconst 0, 1) := by decide +kernel
theorem dX11_rivals_44 : decode cX11_rivals 44 = .ok (.istore 4, 2) := by decide +kernel
theorem dX11_rivals_46 : decode cX11_rivals 46 = .ok (.iload 4, 2) := by decide +kernel
theorem dX11_rivals_48 : decode cX11_rivals 48 = .ok (.bipush 64, 2) := by decide +kernel
theorem dX11_rivals_50 : decode cX11_rivals 50 = .ok (.if_icmp .ge 79, 3) := by decide +kernel
theorem dX11_rivals_53 : decode cX11_rivals 53 = .ok (.aload_n 0, 1) := by decide +kernel
theorem dX11_rivals_54 : decode cX11_rivals 54 = .ok (.iload 4, 2) := by decide +kernel
theorem dX11_rivals_56 : decode cX11_rivals 56 = .ok (.bipush 8, 2) := by decide +kernel
theorem dX11_rivals_58 : decode cX11_rivals 58 = .ok (.idiv, 1) := by decide +kernel
theorem dX11_rivals_59 : decode cX11_rivals 59 = .ok (.invokevirtual 426, 3) := by decide +kernel
theorem dX11_rivals_62 : decode cX11_rivals 62 = .ok (.ifCond .eq 61, 3) := by decide +kernel
theorem dX11_rivals_65 : decode cX11_rivals 65 = .ok (.aload_n 0, 1) := by decide +kernel
theorem dX11_rivals_66 : decode cX11_rivals 66 = .ok (.iload 4, 2) := by decide +kernel
theorem dX11_rivals_68 : decode cX11_rivals 68 = .ok (.bipush 8, 2) := by decide +kernel
theorem dX11_rivals_70 : decode cX11_rivals 70 = .ok (.irem, 1) := by decide +kernel
theorem dX11_rivals_71 : decode cX11_rivals 71 = .ok (.invokevirtual 426, 3) := by decide +kernel
theorem dX11_rivals_74 : decode cX11_rivals 74 = .ok (.ifCond .eq 49, 3) := by decide +kernel
theorem dX11_rivals_77 : decode cX11_rivals 77 = .ok (.aload_n 0, 1) := by decide +kernel
theorem dX11_rivals_78 : decode cX11_rivals 78 = .ok (.iload 4, 2) := by decide +kernel
theorem dX11_rivals_80 : decode cX11_rivals 80 = .ok (.invokevirtual 463, 3) := by decide +kernel
theorem dX11_rivals_83 : decode cX11_rivals 83 = .ok (.ifCond .ne 6, 3) := by decide +kernel
theorem dX11_rivals_86 : decode cX11_rivals 86 = .ok (.goto 37, 3) := by decide +kernel
theorem dX11_rivals_89 : decode cX11_rivals 89 = .ok (.iload_n 3, 1) := by decide +kernel
theorem dX11_rivals_90 : decode cX11_rivals 90 = .ok (.ifCond .ne 30, 3) := by decide +kernel
theorem dX11_rivals_93 : decode cX11_rivals 93 = .ok (.aload_n 0, 1) := by decide +kernel
theorem dX11_rivals_94 : decode cX11_rivals 94 = .ok (.getfield 106, 3) := by decide +kernel
theorem dX11_rivals_97 : decode cX11_rivals 97 = .ok (.iconst 0, 1) := by decide +kernel
theorem dX11_rivals_98 : decode cX11_rivals 98 = .ok (.iload 4, 2) := by decide +kernel
theorem dX11_rivals_100 : decode cX11_rivals 100 = .ok (.bipush 8, 2) := by decide +kernel
theorem dX11_rivals_102 : decode cX11_rivals 102 = .ok (.idiv, 1) := by decide +kernel
theorem dX11_rivals_103 : decode cX11_rivals 103 = .ok (.iastore, 1) := by decide +kernel
theorem dX11_rivals_104 : decode cX11_rivals 104 = .ok (.aload_n 0, 1) := by decide +kernel
theorem dX11_rivals_105 : decode cX11_rivals 105 = .ok (.getfield 106, 3) := by decide +kernel
theorem dX11_rivals_108 : decode cX11_rivals 108 = .ok (.iconst 1, 1) := by decide +kernel
theorem dX11_rivals_109 : decode cX11_rivals 109 = .ok (.iload 4, 2) := by decide +kernel
theorem dX11_rivals_111 : decode cX11_rivals 111 = .ok (.bipush 8, 2) := by decide +kernel
theorem dX11_rivals_113 : decode cX11_rivals 113 = .ok (.irem, 1) := by decide +kernel
theorem dX11_rivals_114 : decode cX11_rivals 114 = .ok (.iastore, 1) := by decide +kernel
theorem dX11_rivals_115 : decode cX11_rivals 115 = .ok (.aload_n 0, 1) := by decide +kernel
theorem dX11_rivals_116 : decode cX11_rivals 116 = .ok (.iconst 2, 1) := by decide +kernel
theorem dX11_rivals_117 : decode cX11_rivals 117 = .ok (.putfield 398, 3) := by decide +kernel
theorem dX11_rivals_120 : decode cX11_rivals 120 = .ok (.iinc 3 1, 3) := by decide +kernel
theorem dX11_rivals_123 : decode cX11_rivals 123 = .ok (.iinc 4 1, 3) := by decide +kernel
theorem dX11_rivals_126 : decode cX11_rivals 126 = .ok (.goto (-80), 3) := by decide +kernel
theorem dX11_rivals_129 : decode cX11_rivals 129 = .ok (.iload_n 3, 1) := by decide +kernel
theorem dX11_rivals_130 : decode cX11_rivals 130 = .ok (.ireturn, 1) := by decide +kernel
theorem wd_1923 : (Cond.code ⟨"WebCourtModel", "rivals", "(II)I"⟩ prog_13_method_100_code (5 : Nat) (Option.some FieldType.int)) ∈ gtb := gtb_c8 134 (by decide +kernel) rfl
set_option maxHeartbeats 4000000 in
set_option maxRecDepth 100000 in
theorem T_X11_rivals (l : Launch) (D : va_G) (cy : Nat → ClassId) (a : Nat → Nat) (u : St) (hA_6_0 : fA u 6 0 = 0) (hI_0_36 : fI u 0 36 = 0) (x1 : Int32) (x2 : Int32)  : Mi l D cy (mW cy a) yX11_rivals (.code yX11_rivals cX11_rivals 5 (some .int)) (rmo 3 64) [.ref (a 0), .int x1, .int x2] u (fun (r : Int32) (u' : St) => (r = (-1)) ∧ (u' = (sI u 0 50 0))) := by
  refine Mi.of (own := RX11) rfl (by decide) (Nat.le_of_ble_eq_true rfl) ?_
  intro p e s m below meth c A Q ls C hret hO hl
  obtain ⟨hx, hb, hml, hown, ht, hK, hA⟩ := id C
  have hl : lv_has ls 5 [(0, .ref (a 0)), (1, .int x1), (2, .int x2)] := hl
  refine lv_aload_n hx hb dX11_rivals_0 rfl (lv_at hl 0 rfl) ?_
  refine lv_iconst (v := 0) hx hb dX11_rivals_1 (by decide) ?_
  refine pf_RX11_398 C hO 0 mW_0 (Nat.le_of_ble_eq_true rfl) mW_s0_50 dX11_rivals_2 (fun H locs hO => ?_)
  refine lv_aload_n hx hb dX11_rivals_5 rfl (lv_at hl 0 rfl) ?_
  refine lv_iload_n hx hb dX11_rivals_6 rfl (lv_at hl 1 rfl) ?_
  refine cVi (w := mW cy a) (As := [.int x1]) (rest := []) C hO (T_X11_isHeld l D cy a _ (by exact hA_6_0) (by exact hI_0_36) (x1)) (cwV 1 ht (gV wd_1797 wd_1799 wd_91 wd_121 wd_1800) rfl rfl rfl hd_yX11_isHeld ⟨Nat.le_of_ble_eq_true rfl, Nat.le_of_ble_eq_true rfl⟩) 0 rfl mW_0 rfl rfl hl.1 (Nat.le_of_ble_eq_true rfl) dX11_rivals_7 rfl ⟨Nat.zero_le _, Nat.zero_le _⟩ (fun r1 u2 H locs hp3 hO => ?_)
  obtain ⟨hr1, hu2⟩ := hp3
  subst hr1
  rw [hu2] at hO
  refine bt_eq (tgt := 33) (X := 0) hx hb dX11_rivals_10 (by decide) rfl (by omega) ?_
  refine lv_iconst (v := (-1)) hx hb dX11_rivals_33 (by decide) ?_
  refine hret _ _ _ _ _ _ dX11_rivals_34 rfl ?_ hO
  exact ⟨rfl, rfl⟩
theorem dX11_layFar_0 : decode cX11_layFar 0 = .ok (.iconst 0, 1) := by decide +kernel
theorem dX11_layFar_1 : decode cX11_layFar 1 = .ok (.istore_n 1, 1) := by decide +kernel
theorem dX11_layFar_2 : decode cX11_layFar 2 = .ok (.iload_n 1, 1) := by decide +kernel
theorem dX11_layFar_3 : decode cX11_layFar 3 = .ok (.bipush 8, 2) := by decide +kernel
theorem dX11_layFar_5 : decode cX11_layFar 5 = .ok (.if_icmp .ge 166, 3) := by decide +kernel
theorem dX11_layFar_8 : decode cX11_layFar 8 = .ok (.iconst 0, 1) := by decide +kernel
theorem dX11_layFar_9 : decode cX11_layFar 9 = .ok (.istore_n 2, 1) := by decide +kernel
theorem dX11_layFar_10 : decode cX11_layFar 10 = .ok (.iload_n 2, 1) := by decide +kernel
theorem dX11_layFar_11 : decode cX11_layFar 11 = .ok (.bipush 8, 2) := by decide +kernel
theorem dX11_layFar_13 : decode cX11_layFar 13 = .ok (.if_icmp .ge 32, 3) := by decide +kernel
theorem dX11_layFar_16 : decode cX11_layFar 16 = .ok (.aload_n 0, 1) := by decide +kernel
theorem dX11_layFar_17 : decode cX11_layFar 17 = .ok (.getfield 112, 3) := by decide +kernel
theorem dX11_layFar_20 : decode cX11_layFar 20 = .ok (.bipush 8, 2) := by decide +kernel
theorem dX11_layFar_22 : decode cX11_layFar 22 = .ok (.iload_n 1, 1) := by decide +kernel
theorem dX11_layFar_23 : decode cX11_layFar 23 = .ok (.imul, 1) := by decide +kernel
theorem dX11_layFar_24 : decode cX11_layFar 24 = .ok (.iload_n 2, 1) := by decide +kernel
theorem dX11_layFar_25 : decode cX11_layFar 25 = .ok (.iadd, 1) := by decide +kernel
theorem dX11_layFar_26 : decode cX11_layFar 26 = .ok (.iload_n 1, 1) := by decide +kernel
theorem dX11_layFar_27 : decode cX11_layFar 27 = .ok (.iload_n 2, 1) := by decide +kernel
theorem dX11_layFar_28 : decode cX11_layFar 28 = .ok (.if_icmp .ne 7, 3) := by decide +kernel
theorem dX11_layFar_31 : decode cX11_layFar 31 = .ok (.iconst 0, 1) := by decide +kernel
theorem dX11_layFar_32 : decode cX11_layFar 32 = .ok (.goto 6, 3) := by decide +kernel
theorem dX11_layFar_35 : decode cX11_layFar 35 = .ok (.sipush 1000, 3) := by decide +kernel
theorem dX11_layFar_38 : decode cX11_layFar 38 = .ok (.iastore, 1) := by decide +kernel
theorem dX11_layFar_39 : decode cX11_layFar 39 = .ok (.iinc 2 1, 3) := by decide +kernel
theorem dX11_layFar_42 : decode cX11_layFar 42 = .ok (.goto (-32), 3) := by decide +kernel
theorem dX11_layFar_45 : decode cX11_layFar 45 = .ok (.iconst 0, 1) := by decide +kernel
theorem dX11_layFar_46 : decode cX11_layFar 46 = .ok (.istore_n 2, 1) := by decide +kernel
theorem dX11_layFar_47 : decode cX11_layFar 47 = .ok (.iload_n 2, 1) := by decide +kernel
theorem dX11_layFar_48 : decode cX11_layFar 48 = .ok (.aload_n 0, 1) := by decide +kernel
theorem dX11_layFar_49 : decode cX11_layFar 49 = .ok (.invokevirtual 380, 3) := by decide +kernel
theorem dX11_layFar_52 : decode cX11_layFar 52 = .ok (.if_icmp .ge 113, 3) := by decide +kernel
theorem dX11_layFar_55 : decode cX11_layFar 55 = .ok (.iconst 0, 1) := by decide +kernel
theorem dX11_layFar_56 : decode cX11_layFar 56 = .ok (.istore_n 3, 1) := by decide +kernel
theorem dX11_layFar_57 : decode cX11_layFar 57 = .ok (.iload_n 3, 1) := by decide +kernel
theorem dX11_layFar_58 : decode cX11_layFar 58 = .ok (.aload_n 0, 1) := by decide +kernel
theorem dX11_layFar_59 : decode cX11_layFar 59 = .ok (.invokevirtual 380, 3) := by decide +kernel
theorem dX11_layFar_62 : decode cX11_layFar 62 = .ok (.if_icmp .ge 97, 3) := by decide +kernel
theorem dX11_layFar_65 : decode cX11_layFar 65 = .ok (.aload_n 0, 1) := by decide +kernel
theorem dX11_layFar_66 : decode cX11_layFar 66 = .ok (.getfield 112, 3) := by decide +kernel
theorem dX11_layFar_69 : decode cX11_layFar 69 = .ok (.bipush 8, 2) := by decide +kernel
theorem dX11_layFar_71 : decode cX11_layFar 71 = .ok (.iload_n 1, 1) := by decide +kernel
theorem dX11_layFar_72 : decode cX11_layFar 72 = .ok (.imul, 1) := by decide +kernel
theorem dX11_layFar_73 : decode cX11_layFar 73 = .ok (.iload_n 3, 1) := by decide +kernel
theorem dX11_layFar_74 : decode cX11_layFar 74 = .ok (.iadd, 1) := by decide +kernel
theorem dX11_layFar_75 : decode cX11_layFar 75 = .ok (.iaload, 1) := by decide +kernel
theorem dX11_layFar_76 : decode cX11_layFar 76 = .ok (.iload_n 2, 1) := by decide +kernel
theorem dX11_layFar_77 : decode cX11_layFar 77 = .ok (.if_icmp .ne 12, 3) := by decide +kernel
theorem dX11_layFar_80 : decode cX11_layFar 80 = .ok (.aload_n 0, 1) := by decide +kernel
theorem dX11_layFar_81 : decode cX11_layFar 81 = .ok (.iload_n 3, 1) := by decide +kernel
theorem dX11_layFar_82 : decode cX11_layFar 82 = .ok (.iconst 0, 1) := by decide +kernel
theorem dX11_layFar_83 : decode cX11_layFar 83 = .ok (.invokevirtual 422, 3) := by decide +kernel
theorem dX11_layFar_86 : decode cX11_layFar 86 = .ok (.goto 4, 3) := by decide +kernel
theorem dX11_layFar_89 : decode cX11_layFar 89 = .ok (.iconst 0, 1) := by decide +kernel
theorem dX11_layFar_90 : decode cX11_layFar 90 = .ok (.istore 4, 2) := by decide +kernel
theorem dX11_layFar_92 : decode cX11_layFar 92 = .ok (.iconst 0, 1) := by decide +kernel
theorem dX11_layFar_93 : decode cX11_layFar 93 = .ok (.istore 5, 2) := by decide +kernel
theorem dX11_layFar_95 : decode cX11_layFar 95 = .ok (.iload 5, 2) := by decide +kernel
theorem dX11_layFar_97 : decode cX11_layFar 97 = .ok (.aload_n 0, 1) := by decide +kernel
theorem dX11_layFar_98 : decode cX11_layFar 98 = .ok (.invokevirtual 380, 3) := by decide +kernel
theorem dX11_layFar_101 : decode cX11_layFar 101 = .ok (.if_icmp .ge 52, 3) := by decide +kernel
theorem dX11_layFar_104 : decode cX11_layFar 104 = .ok (.iload 4, 2) := by decide +kernel
theorem dX11_layFar_106 : decode cX11_layFar 106 = .ok (.iload 5, 2) := by decide +kernel
theorem dX11_layFar_108 : decode cX11_layFar 108 = .ok (.invokestatic 264, 3) := by decide +kernel
theorem dX11_layFar_111 : decode cX11_layFar 111 = .ok (.ifCond .eq 36, 3) := by decide +kernel
theorem dX11_layFar_114 : decode cX11_layFar 114 = .ok (.aload_n 0, 1) := by decide +kernel
theorem dX11_layFar_115 : decode cX11_layFar 115 = .ok (.getfield 112, 3) := by decide +kernel
theorem dX11_layFar_118 : decode cX11_layFar 118 = .ok (.bipush 8, 2) := by decide +kernel
theorem dX11_layFar_120 : decode cX11_layFar 120 = .ok (.iload_n 1, 1) := by decide +kernel
theorem dX11_layFar_121 : decode cX11_layFar 121 = .ok (.imul, 1) := by decide +kernel
theorem dX11_layFar_122 : decode cX11_layFar 122 = .ok (.iload 5, 2) := by decide +kernel
theorem dX11_layFar_124 : decode cX11_layFar 124 = .ok (.iadd, 1) := by decide +kernel
theorem dX11_layFar_125 : decode cX11_layFar 125 = .ok (.iaload, 1) := by decide +kernel
theorem dX11_layFar_126 : decode cX11_layFar 126 = .ok (.sipush 1000, 3) := by decide +kernel
theorem dX11_layFar_129 : decode cX11_layFar 129 = .ok (.if_icmp .ne 18, 3) := by decide +kernel
theorem dX11_layFar_132 : decode cX11_layFar 132 = .ok (.aload_n 0, 1) := by decide +kernel
theorem dX11_layFar_133 : decode cX11_layFar 133 = .ok (.getfield 112, 3) := by decide +kernel
theorem dX11_layFar_136 : decode cX11_layFar 136 = .ok (.bipush 8, 2) := by decide +kernel
theorem dX11_layFar_138 : decode cX11_layFar 138 = .ok (.iload_n 1, 1) := by decide +kernel
theorem dX11_layFar_139 : decode cX11_layFar 139 = .ok (.imul, 1) := by decide +kernel
theorem dX11_layFar_140 : decode cX11_layFar 140 = .ok (.iload 5, 2) := by decide +kernel
theorem dX11_layFar_142 : decode cX11_layFar 142 = .ok (.iadd, 1) := by decide +kernel
theorem dX11_layFar_143 : decode cX11_layFar 143 = .ok (.iload_n 2, 1) := by decide +kernel
theorem dX11_layFar_144 : decode cX11_layFar 144 = .ok (.iconst 1, 1) := by decide +kernel
theorem dX11_layFar_145 : decode cX11_layFar 145 = .ok (.iadd, 1) := by decide +kernel
theorem dX11_layFar_146 : decode cX11_layFar 146 = .ok (.iastore, 1) := by decide +kernel
theorem dX11_layFar_147 : decode cX11_layFar 147 = .ok (.iinc 5 1, 3) := by decide +kernel
theorem dX11_layFar_150 : decode cX11_layFar 150 = .ok (.goto (-55), 3) := by decide +kernel
theorem dX11_layFar_153 : decode cX11_layFar 153 = .ok (.iinc 3 1, 3) := by decide +kernel
theorem dX11_layFar_156 : decode cX11_layFar 156 = .ok (.goto (-99), 3) := by decide +kernel
theorem dX11_layFar_159 : decode cX11_layFar 159 = .ok (.iinc 2 1, 3) := by decide +kernel
theorem dX11_layFar_162 : decode cX11_layFar 162 = .ok (.goto (-115), 3) := by decide +kernel
theorem dX11_layFar_165 : decode cX11_layFar 165 = .ok (.iinc 1 1, 3) := by decide +kernel
theorem dX11_layFar_168 : decode cX11_layFar 168 = .ok (.goto (-166), 3) := by decide +kernel
theorem dX11_layFar_171 : decode cX11_layFar 171 = .ok (.return_, 1) := by decide +kernel
theorem wd_1939 : (Cond.code ⟨"WebCourtModel", "layFar", "()V"⟩ prog_13_method_101_code (6 : Nat) (Option.none : Option FieldType)) ∈ gtb := gtb_c8 150 (by decide +kernel) rfl
theorem wd_1408 : (Cond.fieldLink "WebCourtModel" (112 : Nat) "WebCourtModel" "far" "[I") ∈ gtb := gtb_c6 99 (by decide +kernel) rfl
theorem gf_RX11_112 {p : Program} {l : Launch} {e : Env} {R : Room} {s : State} {m : MethodId} {args : Array Value} {below : List Frame} {meth : Method} {c : Code} {H : Heap} {locs : List Loc} {cells slots : Nat} {Q : State → Prop} {cc : ByteArray} {pc nL : Nat} {ls : Array Slot} {rest : List Value} {D : va_G} {cy : Nat → ClassId} {A : Nat → Prop} {ws : va_W} {b : Nat} {fs : List Value} {v : Value} (C : Cx p s m args c cc nL RX11 D cy A) (hO : Wo D A ws s.heap H locs) (q0 : Nat) (he : ws[q0]? = some (b, .inr (11, fs))) (hv : fs[52]? = some v) (hdg : decode cc pc = .ok (.getfield 112, 3)) (kk : W p l e R s m args below meth c H locs cells slots Q (F0 m (pc + 3) ls (v :: rest))) : W p l e R s m args below meth c H locs cells slots Q (F0 m pc ls (.ref b :: rest)) := gF (k := 52) C hO q0 he rfl inFX11 (by decide) wd_1408 rfl hv hdg kk
set_option maxHeartbeats 4000000 in
set_option maxRecDepth 100000 in
theorem T_X11_layFar (l : Launch) (D : va_G) (cy : Nat → ClassId) (a : Nat → Nat) (u : St) (hA_3_0 : fA u 3 0 = 0) (hI_0_36 : fI u 0 36 = 0)   : Mv l D cy (mW cy a) yX11_layFar (.code yX11_layFar cX11_layFar 6 none) (rmo 1 20) [.ref (a 0)] u (fun (u' : St) => (fI u' 0 36 = 0) ∧ (fA u' 3 0 = 0)) := by
  refine Mv.of (own := RX11) rfl (by decide) (Nat.le_of_ble_eq_true rfl) ?_
  intro p e s m below meth c A Q ls C hret hO hl
  obtain ⟨hx, hb, hml, hown, ht, hK, hA⟩ := id C
  have hl : lv_has ls 6 [(0, .ref (a 0))] := hl
  refine lv_iconst (v := 0) hx hb dX11_layFar_0 (by decide) ?_
  refine lv_istore_n (lv' := [(1, .int 0), (0, .ref (a 0))]) hx hb dX11_layFar_1 rfl hl (by decide) rfl (fun ls hl => ?_)
  have LP_2_u1 : ∀ (n : Nat) (u1 : St) (H : Heap) (locs : List Loc) (ls : Array Slot) (i_1 : Int32), Wo D A (mW cy a u1) s.heap H locs → lv_has ls 6 [(1, .int i_1), (0, .ref (a 0))] → fA u1 3 0 = 0 → fI u1 0 36 = 0 → 0 ≤ i_1.toInt ∧ i_1.toInt ≤ 8 → 8 - i_1.toInt < (n : Int) → W p l e (rmo 1 20) s m [.ref (a 0)].toArray below meth c H locs 0 0 Q (F0 m 2 ls []) := by
    intro n
    induction n with
    | zero =>
      intro u1 H locs ls i_1 hO hl hA_3_0_u1 hI_0_36_u1 iv0_u1 hm_u1
      exact absurd hm_u1 (by omega)
    | succ n ih_u1 =>
      intro u1 H locs ls i_1 hO hl hA_3_0_u1 hI_0_36_u1 iv0_u1 hm_u1
      refine lv_iload_n hx hb dX11_layFar_2 rfl (lv_at hl 0 rfl) ?_
      refine lv_bipush (v := 8) hx hb dX11_layFar_3 (by decide) ?_
      refine cs_ge (tgt := 171) (X := (i_1).toInt) (Y := 8) hx hb dX11_layFar_5 (by decide) rfl rfl (fun c3 => ?_) (fun c3 => ?_)
      · refine hret _ _ _ _ _ dX11_layFar_171 ?_ hO
        exact ⟨hI_0_36_u1, hA_3_0_u1⟩
      · refine lv_iconst (v := 0) hx hb dX11_layFar_8 (by decide) ?_
        refine lv_istore_n (lv' := [(2, .int 0), (1, .int i_1), (0, .ref (a 0))]) hx hb dX11_layFar_9 rfl hl (by decide) rfl (fun ls hl => ?_)
        have LP_10_u4 : ∀ (n : Nat) (u4 : St) (H : Heap) (locs : List Loc) (ls : Array Slot) (j_4 : Int32), Wo D A (mW cy a u4) s.heap H locs → lv_has ls 6 [(2, .int j_4), (1, .int i_1), (0, .ref (a 0))] → fA u4 3 0 = 0 → fI u4 0 36 = 0 → 0 ≤ j_4.toInt ∧ j_4.toInt ≤ 8 → 8 - j_4.toInt < (n : Int) → W p l e (rmo 1 20) s m [.ref (a 0)].toArray below meth c H locs 0 0 Q (F0 m 10 ls []) := by
          intro n
          induction n with
          | zero =>
            intro u4 H locs ls j_4 hO hl hA_3_0_u4 hI_0_36_u4 iv0_u4 hm_u4
            exact absurd hm_u4 (by omega)
          | succ n ih_u4 =>
            intro u4 H locs ls j_4 hO hl hA_3_0_u4 hI_0_36_u4 iv0_u4 hm_u4
            refine lv_iload_n hx hb dX11_layFar_10 rfl (lv_at hl 0 rfl) ?_
            refine lv_bipush (v := 8) hx hb dX11_layFar_11 (by decide) ?_
            refine cs_ge (tgt := 45) (X := (j_4).toInt) (Y := 8) hx hb dX11_layFar_13 (by decide) rfl rfl (fun c6 => ?_) (fun c6 => ?_)
            · refine lv_iconst (v := 0) hx hb dX11_layFar_45 (by decide) ?_
              refine lv_istore_n (lv' := [(2, .int 0), (1, .int i_1), (0, .ref (a 0))]) hx hb dX11_layFar_46 rfl hl (by decide) rfl (fun ls hl => ?_)
              refine lv_iload_n hx hb dX11_layFar_47 rfl (lv_at hl 0 rfl) ?_
              refine lv_aload_n hx hb dX11_layFar_48 rfl (lv_at hl 2 rfl) ?_
              refine cVi (w := mW cy a) (As := []) (rest := [.int 0]) C hO (T_X11_spots l D cy a _ (by exact hA_3_0_u4) (by exact hI_0_36_u4)) (cwV 0 ht (gV wd_1352 wd_1354 wd_47 wd_121 wd_1355) rfl rfl rfl hd_yX11_spots ⟨Nat.le_of_ble_eq_true rfl, Nat.le_of_ble_eq_true rfl⟩) 0 rfl mW_0 rfl rfl hl.1 (Nat.le_of_ble_eq_true rfl) dX11_layFar_49 rfl ⟨Nat.zero_le _, Nat.zero_le _⟩ (fun r7 u8 H locs hp9 hO => ?_)
              obtain ⟨hr7, hu8⟩ := hp9
              subst hr7
              rw [hu8] at hO
              refine ct_ge (tgt := 165) (X := 0) (Y := 0) hx hb dX11_layFar_52 (by decide) rfl rfl (by omega) ?_
              have e10 : ((i_1 + 1)).toInt = (i_1).toInt + 1 := i_add rfl rfl (by omega)
              refine lv_iinc (v := (i_1 + 1)) (lv' := [(1, .int (i_1 + 1)), (2, .int 0), (0, .ref (a 0))]) hx hb dX11_layFar_165 hl (k := 1) rfl rfl (by decide) rfl (fun ls hl => ?_)
              refine lv_goto (tgt := 2) hx hb dX11_layFar_168 (by decide) ?_
              exact ih_u1 _ _ _ _ ((i_1 + 1)) hO (lv_sub hl [0, 2] rfl) (by exact hA_3_0_u4) (by exact hI_0_36_u4) (by first | decide | omega) (by first | decide | omega)
            · refine lv_aload_n hx hb dX11_layFar_16 rfl (lv_at hl 2 rfl) ?_
              refine gf_RX11_112 (v := .ref (a 32)) C hO 0 mW_0 rfl dX11_layFar_17 ?_
              refine lv_bipush (v := 8) hx hb dX11_layFar_20 (by decide) ?_
              refine lv_iload_n hx hb dX11_layFar_22 rfl (lv_at hl 1 rfl) ?_
              have e11 : ((8 * i_1)).toInt = 8 * (i_1).toInt := i_mul rfl rfl (by omega)
              refine lv_imul hx hb dX11_layFar_23 ?_
              refine lv_iload_n hx hb dX11_layFar_24 rfl (lv_at hl 0 rfl) ?_
              have e12 : (((8 * i_1) + j_4)).toInt = (8 * (i_1).toInt) + (j_4).toInt := i_add e11 rfl (by omega)
              refine lv_iadd hx hb dX11_layFar_25 ?_
              refine lv_iload_n hx hb dX11_layFar_26 rfl (lv_at hl 1 rfl) ?_
              refine lv_iload_n hx hb dX11_layFar_27 rfl (lv_at hl 0 rfl) ?_
              refine cs_ne (tgt := 35) (X := (i_1).toInt) (Y := (j_4).toInt) hx hb dX11_layFar_28 (by decide) rfl rfl (fun c13 => ?_) (fun c13 => ?_)
              · refine lv_sipush (v := 1000) hx hb dX11_layFar_35 (by decide) ?_
                refine aIs C hO 32 mW_32 (i_in (X := ((8 * (i_1).toInt) + (j_4).toInt)) e12 (by omega) (by omega)) mW_s32 dX11_layFar_38 (fun H locs hO => ?_)
                have e14 : ((j_4 + 1)).toInt = (j_4).toInt + 1 := i_add rfl rfl (by omega)
                refine lv_iinc (v := (j_4 + 1)) (lv' := [(2, .int (j_4 + 1)), (1, .int i_1), (0, .ref (a 0))]) hx hb dX11_layFar_39 hl (k := 0) rfl rfl (by decide) rfl (fun ls hl => ?_)
                refine lv_goto (tgt := 10) hx hb dX11_layFar_42 (by decide) ?_
                exact ih_u4 _ _ _ _ ((j_4 + 1)) hO (lv_sub hl [0, 1, 2] rfl) (by exact hA_3_0_u4) (by exact hI_0_36_u4) (by first | decide | omega) (by first | decide | omega)
              · refine lv_iconst (v := 0) hx hb dX11_layFar_31 (by decide) ?_
                refine lv_goto (tgt := 38) hx hb dX11_layFar_32 (by decide) ?_
                refine aIs C hO 32 mW_32 (i_in (X := ((8 * (i_1).toInt) + (j_4).toInt)) e12 (by omega) (by omega)) mW_s32 dX11_layFar_38 (fun H locs hO => ?_)
                have e15 : ((j_4 + 1)).toInt = (j_4).toInt + 1 := i_add rfl rfl (by omega)
                refine lv_iinc (v := (j_4 + 1)) (lv' := [(2, .int (j_4 + 1)), (1, .int i_1), (0, .ref (a 0))]) hx hb dX11_layFar_39 hl (k := 0) rfl rfl (by decide) rfl (fun ls hl => ?_)
                refine lv_goto (tgt := 10) hx hb dX11_layFar_42 (by decide) ?_
                exact ih_u4 _ _ _ _ ((j_4 + 1)) hO (lv_sub hl [0, 1, 2] rfl) (by exact hA_3_0_u4) (by exact hI_0_36_u4) (by first | decide | omega) (by first | decide | omega)
        exact LP_10_u4 2000 _ _ _ _ (0) hO (lv_sub hl [0, 1, 2] rfl) (by exact hA_3_0_u1) (by exact hI_0_36_u1) (by first | decide | omega) (by first | decide | omega)
  exact LP_2_u1 2000 _ _ _ _ (0) hO (lv_sub hl [0, 1] rfl) (by exact hA_3_0) (by exact hI_0_36) (by first | decide | omega) (by first | decide | omega)
theorem dX11_reached_0 : decode cX11_reached 0 = .ok (.iconst 0, 1) := by decide +kernel
theorem dX11_reached_1 : decode cX11_reached 1 = .ok (.istore_n 1, 1) := by decide +kernel
theorem dX11_reached_2 : decode cX11_reached 2 = .ok (.aload_n 0, 1) := by decide +kernel
theorem dX11_reached_3 : decode cX11_reached 3 = .ok (.invokevirtual 466, 3) := by decide +kernel
theorem dX11_reached_6 : decode cX11_reached 6 = .ok (.iconst 0, 1) := by decide +kernel
theorem dX11_reached_7 : decode cX11_reached 7 = .ok (.istore_n 2, 1) := by decide +kernel
theorem dX11_reached_8 : decode cX11_reached 8 = .ok (.iload_n 2, 1) := by decide +kernel
theorem dX11_reached_9 : decode cX11_reached 9 = .ok (.aload_n 0, 1) := by decide +kernel
theorem dX11_reached_10 : decode cX11_reached 10 = .ok (.invokevirtual 380, 3) := by decide +kernel
theorem dX11_reached_13 : decode cX11_reached 13 = .ok (.if_icmp .ge 38, 3) := by decide +kernel
theorem dX11_reached_16 : decode cX11_reached 16 = .ok (.aload_n 0, 1) := by decide +kernel
theorem dX11_reached_17 : decode cX11_reached 17 = .ok (.getfield 112, 3) := by decide +kernel
theorem dX11_reached_20 : decode cX11_reached 20 = .ok (.bipush 8, 2) := by decide +kernel
theorem dX11_reached_22 : decode cX11_reached 22 = .ok (.aload_n 0, 1) := by decide +kernel
theorem dX11_reached_23 : decode cX11_reached 23 = .ok (.getfield 97, 3) := by decide +kernel
theorem dX11_reached_26 : decode cX11_reached 26 = .ok (.bipush 24, 2) := by decide +kernel
theorem dX11_reached_28 : decode cX11_reached 28 = .ok (.iaload, 1) := by decide +kernel
theorem dX11_reached_29 : decode cX11_reached 29 = .ok (.imul, 1) := by decide +kernel
theorem dX11_reached_30 : decode cX11_reached 30 = .ok (.iload_n 2, 1) := by decide +kernel
theorem dX11_reached_31 : decode cX11_reached 31 = .ok (.iadd, 1) := by decide +kernel
theorem dX11_reached_32 : decode cX11_reached 32 = .ok (.iaload, 1) := by decide +kernel
theorem dX11_reached_33 : decode cX11_reached 33 = .ok (.sipush 1000, 3) := by decide +kernel
theorem dX11_reached_36 : decode cX11_reached 36 = .ok (.if_icmp .ge 9, 3) := by decide +kernel
theorem dX11_reached_39 : decode cX11_reached 39 = .ok (.iload_n 1, 1) := by decide +kernel
theorem dX11_reached_40 : decode cX11_reached 40 = .ok (.iconst 1, 1) := by decide +kernel
theorem dX11_reached_41 : decode cX11_reached 41 = .ok (.iload_n 2, 1) := by decide +kernel
theorem dX11_reached_42 : decode cX11_reached 42 = .ok (.ishl, 1) := by decide +kernel
theorem dX11_reached_43 : decode cX11_reached 43 = .ok (.ior, 1) := by decide +kernel
theorem dX11_reached_44 : decode cX11_reached 44 = .ok (.istore_n 1, 1) := by decide +kernel
theorem dX11_reached_45 : decode cX11_reached 45 = .ok (.iinc 2 1, 3) := by decide +kernel
theorem dX11_reached_48 : decode cX11_reached 48 = .ok (.goto (-40), 3) := by decide +kernel
theorem dX11_reached_51 : decode cX11_reached 51 = .ok (.iload_n 1, 1) := by decide +kernel
theorem dX11_reached_52 : decode cX11_reached 52 = .ok (.ireturn, 1) := by decide +kernel
theorem wd_1947 : (Cond.code ⟨"WebCourtModel", "reached", "()I"⟩ prog_13_method_103_code (3 : Nat) (Option.some FieldType.int)) ∈ gtb := gtb_c8 158 (by decide +kernel) rfl
theorem wd_1936 : (Cond.methodLink "WebCourtModel" (466 : Nat) ⟨"WebCourtModel", "layFar", "()V"⟩) ∈ gtb := gtb_c8 147 (by decide +kernel) rfl
theorem wd_1938 : (Cond.instanceMethod ⟨"WebCourtModel", "layFar", "()V"⟩) ∈ gtb := gtb_c8 149 (by decide +kernel) rfl
theorem wd_102 : (Cond.selects "WebCourtModel" ⟨"WebCourtModel", "layFar", "()V"⟩ ⟨"WebCourtModel", "layFar", "()V"⟩) ∈ gtb := gtb_p 102 (by decide +kernel) rfl
theorem hd_yX11_layFar : yX11_layFar.cls = RX11 ∧ yX11_layFar.cls ≠ "java/lang/invoke/MethodHandle" ∧ yX11_layFar.cls ≠ "java/lang/invoke/VarHandle" ∧ (parseMethodDescriptor yX11_layFar.desc).map (fun d => d.parameters.length) = some 0 := by decide +kernel
set_option maxHeartbeats 4000000 in
set_option maxRecDepth 100000 in
theorem T_X11_reached (l : Launch) (D : va_G) (cy : Nat → ClassId) (a : Nat → Nat) (u : St) (hA_3_0 : fA u 3 0 = 0) (hI_0_36 : fI u 0 36 = 0)   : Mi l D cy (mW cy a) yX11_reached (.code yX11_reached cX11_reached 3 (some .int)) (rmo 2 45) [.ref (a 0)] u (fun (r : Int32) (u' : St) => r = 0) := by
  refine Mi.of (own := RX11) rfl (by decide) (Nat.le_of_ble_eq_true rfl) ?_
  intro p e s m below meth c A Q ls C hret hO hl
  obtain ⟨hx, hb, hml, hown, ht, hK, hA⟩ := id C
  have hl : lv_has ls 3 [(0, .ref (a 0))] := hl
  refine lv_iconst (v := 0) hx hb dX11_reached_0 (by decide) ?_
  refine lv_istore_n (lv' := [(1, .int 0), (0, .ref (a 0))]) hx hb dX11_reached_1 rfl hl (by decide) rfl (fun ls hl => ?_)
  refine lv_aload_n hx hb dX11_reached_2 rfl (lv_at hl 1 rfl) ?_
  refine cVv (w := mW cy a) (As := []) (rest := []) C hO (T_X11_layFar l D cy a _ (by exact hA_3_0) (by exact hI_0_36)) (cwV 0 ht (gV wd_1936 wd_1938 wd_102 wd_121 wd_1939) rfl rfl rfl hd_yX11_layFar ⟨Nat.le_of_ble_eq_true rfl, Nat.le_of_ble_eq_true rfl⟩) 0 rfl mW_0 rfl rfl hl.1 (Nat.le_of_ble_eq_true rfl) dX11_reached_3 rfl ⟨Nat.zero_le _, Nat.zero_le _⟩ (fun u2 H locs hp3 hO => ?_)
  obtain ⟨hI_0_36_u2, hA_3_0_u2⟩ := hp3
  refine lv_iconst (v := 0) hx hb dX11_reached_6 (by decide) ?_
  refine lv_istore_n (lv' := [(2, .int 0), (1, .int 0), (0, .ref (a 0))]) hx hb dX11_reached_7 rfl hl (by decide) rfl (fun ls hl => ?_)
  refine lv_iload_n hx hb dX11_reached_8 rfl (lv_at hl 0 rfl) ?_
  refine lv_aload_n hx hb dX11_reached_9 rfl (lv_at hl 2 rfl) ?_
  refine cVi (w := mW cy a) (As := []) (rest := [.int 0]) C hO (T_X11_spots l D cy a _ (by exact hA_3_0_u2) (by exact hI_0_36_u2)) (cwV 0 ht (gV wd_1352 wd_1354 wd_47 wd_121 wd_1355) rfl rfl rfl hd_yX11_spots ⟨Nat.le_of_ble_eq_true rfl, Nat.le_of_ble_eq_true rfl⟩) 0 rfl mW_0 rfl rfl hl.1 (Nat.le_of_ble_eq_true rfl) dX11_reached_10 rfl ⟨Nat.zero_le _, Nat.zero_le _⟩ (fun r4 u5 H locs hp6 hO => ?_)
  obtain ⟨hr4, hu5⟩ := hp6
  subst hr4
  rw [hu5] at hO
  refine ct_ge (tgt := 51) (X := 0) (Y := 0) hx hb dX11_reached_13 (by decide) rfl rfl (by omega) ?_
  refine lv_iload_n hx hb dX11_reached_51 rfl (lv_at hl 1 rfl) ?_
  refine hret _ _ _ _ _ _ dX11_reached_52 rfl ?_ hO
  exact rfl
theorem dX11_reach_0 : decode cX11_reach 0 = .ok (.aload_n 0, 1) := by decide +kernel
theorem dX11_reach_1 : decode cX11_reach 1 = .ok (.invokevirtual 469, 3) := by decide +kernel
theorem dX11_reach_4 : decode cX11_reach 4 = .ok (.ireturn, 1) := by decide +kernel
theorem wd_1943 : (Cond.code ⟨"WebCourtModel", "reach", "()I"⟩ prog_13_method_104_code (1 : Nat) (Option.some FieldType.int)) ∈ gtb := gtb_c8 154 (by decide +kernel) rfl
theorem wd_1944 : (Cond.methodLink "WebCourtModel" (469 : Nat) ⟨"WebCourtModel", "reached", "()I"⟩) ∈ gtb := gtb_c8 155 (by decide +kernel) rfl
theorem wd_1946 : (Cond.instanceMethod ⟨"WebCourtModel", "reached", "()I"⟩) ∈ gtb := gtb_c8 157 (by decide +kernel) rfl
theorem wd_103 : (Cond.selects "WebCourtModel" ⟨"WebCourtModel", "reached", "()I"⟩ ⟨"WebCourtModel", "reached", "()I"⟩) ∈ gtb := gtb_p 103 (by decide +kernel) rfl
theorem hd_yX11_reached : yX11_reached.cls = RX11 ∧ yX11_reached.cls ≠ "java/lang/invoke/MethodHandle" ∧ yX11_reached.cls ≠ "java/lang/invoke/VarHandle" ∧ (parseMethodDescriptor yX11_reached.desc).map (fun d => d.parameters.length) = some 0 := by decide +kernel
set_option maxHeartbeats 4000000 in
set_option maxRecDepth 100000 in
theorem T_X11_reach (l : Launch) (D : va_G) (cy : Nat → ClassId) (a : Nat → Nat) (u : St) (hA_3_0 : fA u 3 0 = 0) (hI_0_36 : fI u 0 36 = 0)   : Mi l D cy (mW cy a) yX11_reach (.code yX11_reach cX11_reach 1 (some .int)) (rmo 3 67) [.ref (a 0)] u (fun (r : Int32) (u' : St) => r = 0) := by
  refine Mi.of (own := RX11) rfl (by decide) (Nat.le_of_ble_eq_true rfl) ?_
  intro p e s m below meth c A Q ls C hret hO hl
  obtain ⟨hx, hb, hml, hown, ht, hK, hA⟩ := id C
  have hl : lv_has ls 1 [(0, .ref (a 0))] := hl
  refine lv_aload_n hx hb dX11_reach_0 rfl (lv_at hl 0 rfl) ?_
  refine cVi (w := mW cy a) (As := []) (rest := []) C hO (T_X11_reached l D cy a _ (by exact hA_3_0) (by exact hI_0_36)) (cwV 0 ht (gV wd_1944 wd_1946 wd_103 wd_121 wd_1947) rfl rfl rfl hd_yX11_reached ⟨Nat.le_of_ble_eq_true rfl, Nat.le_of_ble_eq_true rfl⟩) 0 rfl mW_0 rfl rfl hl.1 (Nat.le_of_ble_eq_true rfl) dX11_reach_1 rfl ⟨Nat.zero_le _, Nat.zero_le _⟩ (fun r1 u2 H locs hp3 hO => ?_)
  have hr1 := hp3
  subst hr1
  refine hret _ _ _ _ _ _ dX11_reach_4 rfl ?_ hO
  exact rfl
theorem dX11_bridge_0 : decode cX11_bridge 0 = .ok (.iload_n 1, 1) := by decide +kernel
theorem dX11_bridge_1 : decode cX11_bridge 1 = .ok (.iconst 0, 1) := by decide +kernel
theorem dX11_bridge_2 : decode cX11_bridge 2 = .ok (.iconst 1, 1) := by decide +kernel
theorem dX11_bridge_3 : decode cX11_bridge 3 = .ok (.invokestatic 374, 3) := by decide +kernel
theorem dX11_bridge_6 : decode cX11_bridge 6 = .ok (.ifCond .ne 5, 3) := by decide +kernel
theorem dX11_bridge_9 : decode cX11_bridge 9 = .ok (.iconst (-1), 1) := by decide +kernel
theorem dX11_bridge_10 : decode cX11_bridge 10 = .ok (.ireturn, 1) := by decide +kernel
theorem dX11_bridge_11 : decode cX11_bridge 11 = .ok (.iconst (-1), 1) := by decide +kernel
theorem dX11_bridge_12 : decode cX11_bridge 12 = .ok (.istore_n 2, 1) := by decide +kernel
theorem dX11_bridge_13 : decode cX11_bridge 13 = .ok (.sipush 1000, 3) := by decide +kernel
theorem dX11_bridge_16 : decode cX11_bridge 16 = .ok (.istore_n 3, 1) := by decide +kernel
theorem dX11_bridge_17 : decode cX11_bridge 17 = .ok (.iconst 0, 1) := by decide +kernel
theorem dX11_bridge_18 : decode cX11_bridge 18 = .ok (.istore 4, 2) := by decide +kernel
theorem dX11_bridge_20 : decode cX11_bridge 20 = .ok (.iload 4, 2) := by decide +kernel
theorem dX11_bridge_22 : decode cX11_bridge 22 = .ok (.aload_n 0, 1) := by decide +kernel
theorem dX11_bridge_23 : decode cX11_bridge 23 = .ok (.getfield 24, 3) := by decide +kernel
theorem dX11_bridge_26 : decode cX11_bridge 26 = .ok (.aload_n 0, 1) := by decide +kernel
theorem dX11_bridge_27 : decode cX11_bridge 27 = .ok (.getfield 255, 3) := by decide +kernel
theorem dX11_bridge_30 : decode cX11_bridge 30 = .ok (.iaload, 1) := by decide +kernel
theorem dX11_bridge_31 : decode cX11_bridge 31 = .ok (.if_icmp .ge 81, 3) := by decide +kernel
theorem dX11_bridge_34 : decode cX11_bridge 34 = .ok (.aload_n 0, 1) := by decide +kernel
theorem dX11_bridge_35 : decode cX11_bridge 35 = .ok (.getfield 97, 3) := by decide +kernel
theorem dX11_bridge_38 : decode cX11_bridge 38 = .ok (.bipush 28, 2) := by decide +kernel
theorem dX11_bridge_40 : decode cX11_bridge 40 = .ok (.iaload, 1) := by decide +kernel
theorem dX11_bridge_41 : decode cX11_bridge 41 = .ok (.iload 4, 2) := by decide +kernel
theorem dX11_bridge_43 : decode cX11_bridge 43 = .ok (.invokestatic 264, 3) := by decide +kernel
theorem dX11_bridge_46 : decode cX11_bridge 46 = .ok (.ifCond .eq 6, 3) := by decide +kernel
theorem dX11_bridge_49 : decode cX11_bridge 49 = .ok (.goto 57, 3) := by decide +kernel
theorem dX11_bridge_52 : decode cX11_bridge 52 = .ok (.aload_n 0, 1) := by decide +kernel
theorem dX11_bridge_53 : decode cX11_bridge 53 = .ok (.getfield 97, 3) := by decide +kernel
theorem dX11_bridge_56 : decode cX11_bridge 56 = .ok (.bipush 28, 2) := by decide +kernel
theorem dX11_bridge_58 : decode cX11_bridge 58 = .ok (.dup2, 1) := by decide +kernel
theorem dX11_bridge_59 : decode cX11_bridge 59 = .ok (.iaload, 1) := by decide +kernel
theorem dX11_bridge_60 : decode cX11_bridge 60 = .ok (.iconst 1, 1) := by decide +kernel
theorem dX11_bridge_61 : decode cX11_bridge 61 = .ok (.iload 4, 2) := by decide +kernel
theorem dX11_bridge_63 : decode cX11_bridge 63 = .ok (.ishl, 1) := by decide +kernel
theorem dX11_bridge_64 : decode cX11_bridge 64 = .ok (.ior, 1) := by decide +kernel
theorem dX11_bridge_65 : decode cX11_bridge 65 = .ok (.iastore, 1) := by decide +kernel
theorem dX11_bridge_66 : decode cX11_bridge 66 = .ok (.aload_n 0, 1) := by decide +kernel
theorem dX11_bridge_67 : decode cX11_bridge 67 = .ok (.invokevirtual 469, 3) := by decide +kernel
theorem dX11_bridge_70 : decode cX11_bridge 70 = .ok (.invokestatic 316, 3) := by decide +kernel
theorem dX11_bridge_73 : decode cX11_bridge 73 = .ok (.istore 5, 2) := by decide +kernel
theorem dX11_bridge_75 : decode cX11_bridge 75 = .ok (.aload_n 0, 1) := by decide +kernel
theorem dX11_bridge_76 : decode cX11_bridge 76 = .ok (.getfield 97, 3) := by decide +kernel
theorem dX11_bridge_79 : decode cX11_bridge 79 = .ok (.bipush 28, 2) := by decide +kernel
theorem dX11_bridge_81 : decode cX11_bridge 81 = .ok (.dup2, 1) := by decide +kernel
theorem dX11_bridge_82 : decode cX11_bridge 82 = .ok (.iaload, 1) := by decide +kernel
theorem dX11_bridge_83 : decode cX11_bridge 83 = .ok (.iconst 1, 1) := by decide +kernel
theorem dX11_bridge_84 : decode cX11_bridge 84 = .ok (.iload 4, 2) := by decide +kernel
theorem dX11_bridge_86 : decode cX11_bridge 86 = .ok (.ishl, 1) := by decide +kernel
theorem dX11_bridge_87 : decode cX11_bridge 87 = .ok (.iconst (-1), 1) := by decide +kernel
theorem dX11_bridge_88 : decode cX11_bridge 88 = .ok (.ixor, 1) := by decide +kernel
theorem dX11_bridge_89 : decode cX11_bridge 89 = .ok (.iand, 1) := by decide +kernel
theorem dX11_bridge_90 : decode cX11_bridge 90 = .ok (.iastore, 1) := by decide +kernel
theorem dX11_bridge_91 : decode cX11_bridge 91 = .ok (.iload 5, 2) := by decide +kernel
theorem dX11_bridge_93 : decode cX11_bridge 93 = .ok (.iload_n 3, 1) := by decide +kernel
theorem dX11_bridge_94 : decode cX11_bridge 94 = .ok (.if_icmp .lt 6, 3) := by decide +kernel
theorem dX11_bridge_97 : decode cX11_bridge 97 = .ok (.goto 9, 3) := by decide +kernel
theorem dX11_bridge_100 : decode cX11_bridge 100 = .ok (.iload 4, 2) := by decide +kernel
theorem dX11_bridge_102 : decode cX11_bridge 102 = .ok (.istore_n 2, 1) := by decide +kernel
theorem dX11_bridge_103 : decode cX11_bridge 103 = .ok (.iload 5, 2) := by decide +kernel
theorem dX11_bridge_105 : decode cX11_bridge 105 = .ok (.istore_n 3, 1) := by decide +kernel
theorem dX11_bridge_106 : decode cX11_bridge 106 = .ok (.iinc 4 1, 3) := by decide +kernel
theorem dX11_bridge_109 : decode cX11_bridge 109 = .ok (.goto (-89), 3) := by decide +kernel
theorem dX11_bridge_112 : decode cX11_bridge 112 = .ok (.iload_n 2, 1) := by decide +kernel
theorem dX11_bridge_113 : decode cX11_bridge 113 = .ok (.ifCond .ge 7, 3) := by decide +kernel
theorem dX11_bridge_116 : decode cX11_bridge 116 = .ok (.iconst (-1), 1) := by decide +kernel
theorem dX11_bridge_117 : decode cX11_bridge 117 = .ok (.goto 12, 3) := by decide +kernel
theorem dX11_bridge_120 : decode cX11_bridge 120 = .ok (.iload_n 1, 1) := by decide +kernel
theorem dX11_bridge_121 : decode cX11_bridge 121 = .ok (.ifCond .ne 7, 3) := by decide +kernel
theorem dX11_bridge_124 : decode cX11_bridge 124 = .ok (.iload_n 2, 1) := by decide +kernel
theorem dX11_bridge_125 : decode cX11_bridge 125 = .ok (.goto 4, 3) := by decide +kernel
theorem dX11_bridge_128 : decode cX11_bridge 128 = .ok (.iload_n 3, 1) := by decide +kernel
theorem dX11_bridge_129 : decode cX11_bridge 129 = .ok (.ireturn, 1) := by decide +kernel
theorem wd_1951 : (Cond.code ⟨"WebCourtModel", "bridge", "(I)I"⟩ prog_13_method_105_code (6 : Nat) (Option.some FieldType.int)) ∈ gtb := gtb_c8 162 (by decide +kernel) rfl
set_option maxHeartbeats 4000000 in
set_option maxRecDepth 100000 in
theorem T_X11_bridge (l : Launch) (D : va_G) (cy : Nat → ClassId) (a : Nat → Nat) (u : St) (hA_4_0 : fA u 4 0 = 0) (hI_0_36 : fI u 0 36 = 0) (x1 : Int32)  : Mi l D cy (mW cy a) yX11_bridge (.code yX11_bridge cX11_bridge 6 (some .int)) (rmo 1 22) [.ref (a 0), .int x1] u (fun (r : Int32) (u' : St) => (r = (-1)) ∧ (u' = u)) := by
  refine Mi.of (own := RX11) rfl (by decide) (Nat.le_of_ble_eq_true rfl) ?_
  intro p e s m below meth c A Q ls C hret hO hl
  obtain ⟨hx, hb, hml, hown, ht, hK, hA⟩ := id C
  have hl : lv_has ls 6 [(0, .ref (a 0)), (1, .int x1)] := hl
  refine lv_iload_n hx hb dX11_bridge_0 rfl (lv_at hl 1 rfl) ?_
  refine lv_iconst (v := 0) hx hb dX11_bridge_1 (by decide) ?_
  refine lv_iconst (v := 1) hx hb dX11_bridge_2 (by decide) ?_
  refine cSi (w := mW cy a) (As := [.int x1, .int 0, .int 1]) (rest := []) C hO (T_X11_isIn l D cy a _ (x1) (0) (1)) (va_cwS 3 ht (gSS wd_1722 wd_1723 wd_121 wd_1724) rfl rfl rfl hd_yX11_isIn ⟨Nat.le_of_ble_eq_true rfl, Nat.le_of_ble_eq_true rfl⟩)  rfl hl.1 (Nat.le_of_ble_eq_true rfl) dX11_bridge_3 rfl ⟨Nat.zero_le _, Nat.zero_le _⟩ (fun r1 u2 H locs hp3 hO => ?_)
  obtain ⟨hr1, hu2⟩ := hp3
  rw [hu2] at hO
  have zz4 : (0 : Int32).toInt = 0 := rfl
  have zz5 : (1 : Int32).toInt = 1 := rfl
  rcases hr1 with ⟨hcr1, hvr1⟩ | ⟨hcr1, hvr1⟩
  · subst hvr1
    refine bt_ne (tgt := 11) (X := 1) hx hb dX11_bridge_6 (by decide) rfl (by omega) ?_
    refine lv_iconst (v := (-1)) hx hb dX11_bridge_11 (by decide) ?_
    refine lv_istore_n (lv' := [(2, .int (-1)), (0, .ref (a 0)), (1, .int x1)]) hx hb dX11_bridge_12 rfl hl (by decide) rfl (fun ls hl => ?_)
    refine lv_sipush (v := 1000) hx hb dX11_bridge_13 (by decide) ?_
    refine lv_istore_n (lv' := [(3, .int 1000), (2, .int (-1)), (0, .ref (a 0)), (1, .int x1)]) hx hb dX11_bridge_16 rfl hl (by decide) rfl (fun ls hl => ?_)
    refine lv_iconst (v := 0) hx hb dX11_bridge_17 (by decide) ?_
    refine lv_istore (lv' := [(4, .int 0), (3, .int 1000), (2, .int (-1)), (0, .ref (a 0)), (1, .int x1)]) hx hb dX11_bridge_18 hl (by decide) rfl (fun ls hl => ?_)
    refine lv_iload hx hb dX11_bridge_20 (lv_at hl 0 rfl) ?_
    refine lv_aload_n hx hb dX11_bridge_22 rfl (lv_at hl 3 rfl) ?_
    refine gf_RX11_24 (v := .ref (a 4)) C hO 0 mW_0 rfl dX11_bridge_23 ?_
    refine lv_aload_n hx hb dX11_bridge_26 rfl (lv_at hl 3 rfl) ?_
    refine gf_RX11_255 (v := .int 0) C hO 0 mW_0 (congrArg (fun z : Int32 => some (Value.int z)) hI_0_36) dX11_bridge_27 ?_
    refine aI C hO 4 mW_4 (i_in (X := 0) rfl (by omega) (by omega)) dX11_bridge_30 ?_
    refine tE (y := 0) hA_4_0 ?_
    refine ct_ge (tgt := 112) (X := 0) (Y := 0) hx hb dX11_bridge_31 (by decide) rfl rfl (by omega) ?_
    refine lv_iload_n hx hb dX11_bridge_112 rfl (lv_at hl 2 rfl) ?_
    refine bn_ge (X := (-1)) hx hb dX11_bridge_113 rfl (by omega) ?_ (tgt := 120) (by decide)
    refine lv_iconst (v := (-1)) hx hb dX11_bridge_116 (by decide) ?_
    refine lv_goto (tgt := 129) hx hb dX11_bridge_117 (by decide) ?_
    refine hret _ _ _ _ _ _ dX11_bridge_129 rfl ?_ hO
    exact ⟨rfl, rfl⟩
  · subst hvr1
    refine bn_ne (X := 0) hx hb dX11_bridge_6 rfl (by omega) ?_ (tgt := 11) (by decide)
    refine lv_iconst (v := (-1)) hx hb dX11_bridge_9 (by decide) ?_
    refine hret _ _ _ _ _ _ dX11_bridge_10 rfl ?_ hO
    exact ⟨rfl, rfl⟩
theorem dX11_heldNow_0 : decode cX11_heldNow 0 = .ok (.iconst 0, 1) := by decide +kernel
theorem dX11_heldNow_1 : decode cX11_heldNow 1 = .ok (.istore_n 1, 1) := by decide +kernel
theorem dX11_heldNow_2 : decode cX11_heldNow 2 = .ok (.iconst 0, 1) := by decide +kernel
theorem dX11_heldNow_3 : decode cX11_heldNow 3 = .ok (.istore_n 2, 1) := by decide +kernel
theorem dX11_heldNow_4 : decode cX11_heldNow 4 = .ok (.iload_n 2, 1) := by decide +kernel
theorem dX11_heldNow_5 : decode cX11_heldNow 5 = .ok (.aload_n 0, 1) := by decide +kernel
theorem dX11_heldNow_6 : decode cX11_heldNow 6 = .ok (.invokevirtual 371, 3) := by decide +kernel
theorem dX11_heldNow_9 : decode cX11_heldNow 9 = .ok (.if_icmp .ge 26, 3) := by decide +kernel
theorem dX11_heldNow_12 : decode cX11_heldNow 12 = .ok (.aload_n 0, 1) := by decide +kernel
theorem dX11_heldNow_13 : decode cX11_heldNow 13 = .ok (.getfield 97, 3) := by decide +kernel
theorem dX11_heldNow_16 : decode cX11_heldNow 16 = .ok (.iconst 0, 1) := by decide +kernel
theorem dX11_heldNow_17 : decode cX11_heldNow 17 = .ok (.iload_n 2, 1) := by decide +kernel
theorem dX11_heldNow_18 : decode cX11_heldNow 18 = .ok (.iadd, 1) := by decide +kernel
theorem dX11_heldNow_19 : decode cX11_heldNow 19 = .ok (.iaload, 1) := by decide +kernel
theorem dX11_heldNow_20 : decode cX11_heldNow 20 = .ok (.ifCond .ne 9, 3) := by decide +kernel
theorem dX11_heldNow_23 : decode cX11_heldNow 23 = .ok (.iload_n 1, 1) := by decide +kernel
theorem dX11_heldNow_24 : decode cX11_heldNow 24 = .ok (.iconst 1, 1) := by decide +kernel
theorem dX11_heldNow_25 : decode cX11_heldNow 25 = .ok (.iload_n 2, 1) := by decide +kernel
theorem dX11_heldNow_26 : decode cX11_heldNow 26 = .ok (.ishl, 1) := by decide +kernel
theorem dX11_heldNow_27 : decode cX11_heldNow 27 = .ok (.ior, 1) := by decide +kernel
theorem dX11_heldNow_28 : decode cX11_heldNow 28 = .ok (.istore_n 1, 1) := by decide +kernel
theorem dX11_heldNow_29 : decode cX11_heldNow 29 = .ok (.iinc 2 1, 3) := by decide +kernel
theorem dX11_heldNow_32 : decode cX11_heldNow 32 = .ok (.goto (-28), 3) := by decide +kernel
theorem dX11_heldNow_35 : decode cX11_heldNow 35 = .ok (.iload_n 1, 1) := by decide +kernel
theorem dX11_heldNow_36 : decode cX11_heldNow 36 = .ok (.ireturn, 1) := by decide +kernel
theorem wd_1843 : (Cond.code ⟨"WebCourtModel", "heldNow", "()I"⟩ prog_13_method_57_code (3 : Nat) (Option.some FieldType.int)) ∈ gtb := gtb_c8 54 (by decide +kernel) rfl
set_option maxHeartbeats 4000000 in
set_option maxRecDepth 100000 in
theorem T_X11_heldNow (l : Launch) (D : va_G) (cy : Nat → ClassId) (a : Nat → Nat) (u : St) (hA_6_0 : fA u 6 0 = 0) (hI_0_36 : fI u 0 36 = 0)   : Mi l D cy (mW cy a) yX11_heldNow (.code yX11_heldNow cX11_heldNow 3 (some .int)) (rmo 1 20) [.ref (a 0)] u (fun (r : Int32) (u' : St) => (r = 0) ∧ (u' = u)) := by
  refine Mi.of (own := RX11) rfl (by decide) (Nat.le_of_ble_eq_true rfl) ?_
  intro p e s m below meth c A Q ls C hret hO hl
  obtain ⟨hx, hb, hml, hown, ht, hK, hA⟩ := id C
  have hl : lv_has ls 3 [(0, .ref (a 0))] := hl
  refine lv_iconst (v := 0) hx hb dX11_heldNow_0 (by decide) ?_
  refine lv_istore_n (lv' := [(1, .int 0), (0, .ref (a 0))]) hx hb dX11_heldNow_1 rfl hl (by decide) rfl (fun ls hl => ?_)
  refine lv_iconst (v := 0) hx hb dX11_heldNow_2 (by decide) ?_
  refine lv_istore_n (lv' := [(2, .int 0), (1, .int 0), (0, .ref (a 0))]) hx hb dX11_heldNow_3 rfl hl (by decide) rfl (fun ls hl => ?_)
  refine lv_iload_n hx hb dX11_heldNow_4 rfl (lv_at hl 0 rfl) ?_
  refine lv_aload_n hx hb dX11_heldNow_5 rfl (lv_at hl 2 rfl) ?_
  refine cVi (w := mW cy a) (As := []) (rest := [.int 0]) C hO (T_X11_many l D cy a _ (by exact hA_6_0) (by exact hI_0_36)) (cwV 0 ht (gV wd_1348 wd_1350 wd_46 wd_121 wd_1351) rfl rfl rfl hd_yX11_many ⟨Nat.le_of_ble_eq_true rfl, Nat.le_of_ble_eq_true rfl⟩) 0 rfl mW_0 rfl rfl hl.1 (Nat.le_of_ble_eq_true rfl) dX11_heldNow_6 rfl ⟨Nat.zero_le _, Nat.zero_le _⟩ (fun r1 u2 H locs hp3 hO => ?_)
  obtain ⟨hr1, hu2⟩ := hp3
  subst hr1
  rw [hu2] at hO
  refine ct_ge (tgt := 35) (X := 0) (Y := 0) hx hb dX11_heldNow_9 (by decide) rfl rfl (by omega) ?_
  refine lv_iload_n hx hb dX11_heldNow_35 rfl (lv_at hl 1 rfl) ?_
  refine hret _ _ _ _ _ _ dX11_heldNow_36 rfl ?_ hO
  exact ⟨rfl, rfl⟩
theorem dX11_round_0 : decode cX11_round 0 = .ok (.aload_n 0, 1) := by decide +kernel
theorem dX11_round_1 : decode cX11_round 1 = .ok (.iconst 0, 1) := by decide +kernel
theorem dX11_round_2 : decode cX11_round 2 = .ok (.putfield 398, 3) := by decide +kernel
theorem dX11_round_5 : decode cX11_round 5 = .ok (.aload_n 0, 1) := by decide +kernel
theorem dX11_round_6 : decode cX11_round 6 = .ok (.invokevirtual 442, 3) := by decide +kernel
theorem dX11_round_9 : decode cX11_round 9 = .ok (.invokestatic 316, 3) := by decide +kernel
theorem dX11_round_12 : decode cX11_round 12 = .ok (.istore_n 1, 1) := by decide +kernel
theorem dX11_round_13 : decode cX11_round 13 = .ok (.iload_n 1, 1) := by decide +kernel
theorem dX11_round_14 : decode cX11_round 14 = .ok (.ifCond .ne 5, 3) := by decide +kernel
theorem dX11_round_17 : decode cX11_round 17 = .ok (.iconst (-1), 1) := by decide +kernel
theorem dX11_round_18 : decode cX11_round 18 = .ok (.ireturn, 1) := by decide +kernel
theorem dX11_round_19 : decode cX11_round 19 = .ok (.aload_n 0, 1) := by decide +kernel
theorem dX11_round_20 : decode cX11_round 20 = .ok (.invokevirtual 466, 3) := by decide +kernel
theorem dX11_round_23 : decode cX11_round 23 = .ok (.iconst (-1), 1) := by decide +kernel
theorem dX11_round_24 : decode cX11_round 24 = .ok (.istore_n 2, 1) := by decide +kernel
theorem dX11_round_25 : decode cX11_round 25 = .ok (.sipush 1000, 3) := by decide +kernel
theorem dX11_round_28 : decode cX11_round 28 = .ok (.istore_n 3, 1) := by decide +kernel
theorem dX11_round_29 : decode cX11_round 29 = .ok (.iconst 0, 1) := by decide +kernel
theorem dX11_round_30 : decode cX11_round 30 = .ok (.istore 4, 2) := by decide +kernel
theorem dX11_round_32 : decode cX11_round 32 = .ok (.iload 4, 2) := by decide +kernel
theorem dX11_round_34 : decode cX11_round 34 = .ok (.aload_n 0, 1) := by decide +kernel
theorem dX11_round_35 : decode cX11_round 35 = .ok (.invokevirtual 371, 3) := by decide +kernel
theorem dX11_round_38 : decode cX11_round 38 = .ok (.iload_n 1, 1) := by decide +kernel
theorem dX11_round_39 : decode cX11_round 39 = .ok (.invokestatic 472, 3) := by decide +kernel
theorem dX11_round_42 : decode cX11_round 42 = .ok (.if_icmp .ge 33, 3) := by decide +kernel
theorem dX11_round_45 : decode cX11_round 45 = .ok (.aload_n 0, 1) := by decide +kernel
theorem dX11_round_46 : decode cX11_round 46 = .ok (.iload 4, 2) := by decide +kernel
theorem dX11_round_48 : decode cX11_round 48 = .ok (.iload_n 1, 1) := by decide +kernel
theorem dX11_round_49 : decode cX11_round 49 = .ok (.invokevirtual 478, 3) := by decide +kernel
theorem dX11_round_52 : decode cX11_round 52 = .ok (.istore 5, 2) := by decide +kernel
theorem dX11_round_54 : decode cX11_round 54 = .ok (.iload 5, 2) := by decide +kernel
theorem dX11_round_56 : decode cX11_round 56 = .ok (.iload_n 3, 1) := by decide +kernel
theorem dX11_round_57 : decode cX11_round 57 = .ok (.if_icmp .lt 6, 3) := by decide +kernel
theorem dX11_round_60 : decode cX11_round 60 = .ok (.goto 9, 3) := by decide +kernel
theorem dX11_round_63 : decode cX11_round 63 = .ok (.iload 4, 2) := by decide +kernel
theorem dX11_round_65 : decode cX11_round 65 = .ok (.istore_n 2, 1) := by decide +kernel
theorem dX11_round_66 : decode cX11_round 66 = .ok (.iload 5, 2) := by decide +kernel
theorem dX11_round_68 : decode cX11_round 68 = .ok (.istore_n 3, 1) := by decide +kernel
theorem dX11_round_69 : decode cX11_round 69 = .ok (.iinc 4 1, 3) := by decide +kernel
theorem dX11_round_72 : decode cX11_round 72 = .ok (.goto (-40), 3) := by decide +kernel
theorem dX11_round_75 : decode cX11_round 75 = .ok (.iload_n 2, 1) := by decide +kernel
theorem dX11_round_76 : decode cX11_round 76 = .ok (.ifCond .ge 5, 3) := by decide +kernel
theorem dX11_round_79 : decode cX11_round 79 = .ok (.iconst (-1), 1) := by decide +kernel
theorem dX11_round_80 : decode cX11_round 80 = .ok (.ireturn, 1) := by decide +kernel
theorem dX11_round_81 : decode cX11_round 81 = .ok (.iconst 0, 1) := by decide +kernel
theorem dX11_round_82 : decode cX11_round 82 = .ok (.istore 4, 2) := by decide +kernel
theorem dX11_round_84 : decode cX11_round 84 = .ok (.iload 4, 2) := by decide +kernel
theorem dX11_round_86 : decode cX11_round 86 = .ok (.iload_n 1, 1) := by decide +kernel
theorem dX11_round_87 : decode cX11_round 87 = .ok (.if_icmp .ge 24, 3) := by decide +kernel
theorem dX11_round_90 : decode cX11_round 90 = .ok (.aload_n 0, 1) := by decide +kernel
theorem dX11_round_91 : decode cX11_round 91 = .ok (.getfield 106, 3) := by decide +kernel
theorem dX11_round_94 : decode cX11_round 94 = .ok (.iload 4, 2) := by decide +kernel
theorem dX11_round_96 : decode cX11_round 96 = .ok (.aload_n 0, 1) := by decide +kernel
theorem dX11_round_97 : decode cX11_round 97 = .ok (.iload_n 2, 1) := by decide +kernel
theorem dX11_round_98 : decode cX11_round 98 = .ok (.iload_n 1, 1) := by decide +kernel
theorem dX11_round_99 : decode cX11_round 99 = .ok (.iload 4, 2) := by decide +kernel
theorem dX11_round_101 : decode cX11_round 101 = .ok (.invokevirtual 475, 3) := by decide +kernel
theorem dX11_round_104 : decode cX11_round 104 = .ok (.iastore, 1) := by decide +kernel
theorem dX11_round_105 : decode cX11_round 105 = .ok (.iinc 4 1, 3) := by decide +kernel
theorem dX11_round_108 : decode cX11_round 108 = .ok (.goto (-24), 3) := by decide +kernel
theorem dX11_round_111 : decode cX11_round 111 = .ok (.aload_n 0, 1) := by decide +kernel
theorem dX11_round_112 : decode cX11_round 112 = .ok (.iload_n 1, 1) := by decide +kernel
theorem dX11_round_113 : decode cX11_round 113 = .ok (.putfield 398, 3) := by decide +kernel
theorem dX11_round_116 : decode cX11_round 116 = .ok (.iload_n 3, 1) := by decide +kernel
theorem dX11_round_117 : decode cX11_round 117 = .ok (.ireturn, 1) := by decide +kernel
theorem wd_1955 : (Cond.code ⟨"WebCourtModel", "round", "()I"⟩ prog_13_method_108_code (6 : Nat) (Option.some FieldType.int)) ∈ gtb := gtb_c8 166 (by decide +kernel) rfl
theorem wd_1840 : (Cond.methodLink "WebCourtModel" (442 : Nat) ⟨"WebCourtModel", "heldNow", "()I"⟩) ∈ gtb := gtb_c8 51 (by decide +kernel) rfl
theorem wd_1842 : (Cond.instanceMethod ⟨"WebCourtModel", "heldNow", "()I"⟩) ∈ gtb := gtb_c8 53 (by decide +kernel) rfl
theorem wd_94 : (Cond.selects "WebCourtModel" ⟨"WebCourtModel", "heldNow", "()I"⟩ ⟨"WebCourtModel", "heldNow", "()I"⟩) ∈ gtb := gtb_p 94 (by decide +kernel) rfl
theorem hd_yX11_heldNow : yX11_heldNow.cls = RX11 ∧ yX11_heldNow.cls ≠ "java/lang/invoke/MethodHandle" ∧ yX11_heldNow.cls ≠ "java/lang/invoke/VarHandle" ∧ (parseMethodDescriptor yX11_heldNow.desc).map (fun d => d.parameters.length) = some 0 := by decide +kernel
set_option maxHeartbeats 4000000 in
set_option maxRecDepth 100000 in
theorem T_X11_round (l : Launch) (D : va_G) (cy : Nat → ClassId) (a : Nat → Nat) (u : St) (hA_6_0 : fA u 6 0 = 0) (hI_0_36 : fI u 0 36 = 0)   : Mi l D cy (mW cy a) yX11_round (.code yX11_round cX11_round 6 (some .int)) (rmo 2 42) [.ref (a 0)] u (fun (r : Int32) (u' : St) => (r = (-1)) ∧ (u' = (sI u 0 50 0))) := by
  refine Mi.of (own := RX11) rfl (by decide) (Nat.le_of_ble_eq_true rfl) ?_
  intro p e s m below meth c A Q ls C hret hO hl
  obtain ⟨hx, hb, hml, hown, ht, hK, hA⟩ := id C
  have hl : lv_has ls 6 [(0, .ref (a 0))] := hl
  refine lv_aload_n hx hb dX11_round_0 rfl (lv_at hl 0 rfl) ?_
  refine lv_iconst (v := 0) hx hb dX11_round_1 (by decide) ?_
  refine pf_RX11_398 C hO 0 mW_0 (Nat.le_of_ble_eq_true rfl) mW_s0_50 dX11_round_2 (fun H locs hO => ?_)
  refine lv_aload_n hx hb dX11_round_5 rfl (lv_at hl 0 rfl) ?_
  refine cVi (w := mW cy a) (As := []) (rest := []) C hO (T_X11_heldNow l D cy a _ (by exact hA_6_0) (by exact hI_0_36)) (cwV 0 ht (gV wd_1840 wd_1842 wd_94 wd_121 wd_1843) rfl rfl rfl hd_yX11_heldNow ⟨Nat.le_of_ble_eq_true rfl, Nat.le_of_ble_eq_true rfl⟩) 0 rfl mW_0 rfl rfl hl.1 (Nat.le_of_ble_eq_true rfl) dX11_round_6 rfl ⟨Nat.zero_le _, Nat.zero_le _⟩ (fun r1 u2 H locs hp3 hO => ?_)
  obtain ⟨hr1, hu2⟩ := hp3
  subst hr1
  rw [hu2] at hO
  refine cSi (w := mW cy a) (As := [.int 0]) (rest := []) C hO (T_X11_bitsOf_0 l D cy a _ ) (va_cwS 1 ht (gSS wd_1663 wd_1664 wd_121 wd_1665) rfl rfl rfl hd_yX11_bitsOf ⟨Nat.le_of_ble_eq_true rfl, Nat.le_of_ble_eq_true rfl⟩)  rfl hl.1 (Nat.le_of_ble_eq_true rfl) dX11_round_9 rfl ⟨Nat.zero_le _, Nat.zero_le _⟩ (fun r4 u5 H locs hp6 hO => ?_)
  obtain ⟨hr4, hu5⟩ := hp6
  subst hr4
  rw [hu5] at hO
  refine lv_istore_n (lv' := [(1, .int 0), (0, .ref (a 0))]) hx hb dX11_round_12 rfl hl (by decide) rfl (fun ls hl => ?_)
  refine lv_iload_n hx hb dX11_round_13 rfl (lv_at hl 0 rfl) ?_
  refine bn_ne (X := 0) hx hb dX11_round_14 rfl (by omega) ?_ (tgt := 19) (by decide)
  refine lv_iconst (v := (-1)) hx hb dX11_round_17 (by decide) ?_
  refine hret _ _ _ _ _ _ dX11_round_18 rfl ?_ hO
  exact ⟨rfl, rfl⟩
theorem dX11_term_0 : decode cX11_term 0 = .ok (.iload_n 1, 1) := by decide +kernel
theorem dX11_term_1 : decode cX11_term 1 = .ok (.iconst 0, 1) := by decide +kernel
theorem dX11_term_2 : decode cX11_term 2 = .ok (.bipush 30, 2) := by decide +kernel
theorem dX11_term_4 : decode cX11_term 4 = .ok (.invokestatic 374, 3) := by decide +kernel
theorem dX11_term_7 : decode cX11_term 7 = .ok (.ifCond .ne 5, 3) := by decide +kernel
theorem dX11_term_10 : decode cX11_term 10 = .ok (.iconst (-1), 1) := by decide +kernel
theorem dX11_term_11 : decode cX11_term 11 = .ok (.ireturn, 1) := by decide +kernel
theorem dX11_term_12 : decode cX11_term 12 = .ok (.aload_n 0, 1) := by decide +kernel
theorem dX11_term_13 : decode cX11_term 13 = .ok (.invokevirtual 371, 3) := by decide +kernel
theorem dX11_term_16 : decode cX11_term 16 = .ok (.ifCond .ne 5, 3) := by decide +kernel
theorem dX11_term_19 : decode cX11_term 19 = .ok (.iconst 0, 1) := by decide +kernel
theorem dX11_term_20 : decode cX11_term 20 = .ok (.ireturn, 1) := by decide +kernel
theorem dX11_term_21 : decode cX11_term 21 = .ok (.aload_n 0, 1) := by decide +kernel
theorem dX11_term_22 : decode cX11_term 22 = .ok (.invokevirtual 466, 3) := by decide +kernel
theorem dX11_term_25 : decode cX11_term 25 = .ok (.aload_n 0, 1) := by decide +kernel
theorem dX11_term_26 : decode cX11_term 26 = .ok (.invokevirtual 442, 3) := by decide +kernel
theorem dX11_term_29 : decode cX11_term 29 = .ok (.invokestatic 316, 3) := by decide +kernel
theorem dX11_term_32 : decode cX11_term 32 = .ok (.istore_n 2, 1) := by decide +kernel
theorem dX11_term_33 : decode cX11_term 33 = .ok (.iload_n 2, 1) := by decide +kernel
theorem dX11_term_34 : decode cX11_term 34 = .ok (.ifCond .le 41, 3) := by decide +kernel
theorem dX11_term_37 : decode cX11_term 37 = .ok (.iconst 0, 1) := by decide +kernel
theorem dX11_term_38 : decode cX11_term 38 = .ok (.istore_n 3, 1) := by decide +kernel
theorem dX11_term_39 : decode cX11_term 39 = .ok (.iload_n 3, 1) := by decide +kernel
theorem dX11_term_40 : decode cX11_term 40 = .ok (.aload_n 0, 1) := by decide +kernel
theorem dX11_term_41 : decode cX11_term 41 = .ok (.invokevirtual 371, 3) := by decide +kernel
theorem dX11_term_44 : decode cX11_term 44 = .ok (.iload_n 2, 1) := by decide +kernel
theorem dX11_term_45 : decode cX11_term 45 = .ok (.invokestatic 472, 3) := by decide +kernel
theorem dX11_term_48 : decode cX11_term 48 = .ok (.if_icmp .ge 21, 3) := by decide +kernel
theorem dX11_term_51 : decode cX11_term 51 = .ok (.aload_n 0, 1) := by decide +kernel
theorem dX11_term_52 : decode cX11_term 52 = .ok (.iload_n 3, 1) := by decide +kernel
theorem dX11_term_53 : decode cX11_term 53 = .ok (.iload_n 2, 1) := by decide +kernel
theorem dX11_term_54 : decode cX11_term 54 = .ok (.invokevirtual 478, 3) := by decide +kernel
theorem dX11_term_57 : decode cX11_term 57 = .ok (.iload_n 1, 1) := by decide +kernel
theorem dX11_term_58 : decode cX11_term 58 = .ok (.if_icmp .gt 5, 3) := by decide +kernel
theorem dX11_term_61 : decode cX11_term 61 = .ok (.iload_n 2, 1) := by decide +kernel
theorem dX11_term_62 : decode cX11_term 62 = .ok (.ireturn, 1) := by decide +kernel
theorem dX11_term_63 : decode cX11_term 63 = .ok (.iinc 3 1, 3) := by decide +kernel
theorem dX11_term_66 : decode cX11_term 66 = .ok (.goto (-27), 3) := by decide +kernel
theorem dX11_term_69 : decode cX11_term 69 = .ok (.iinc 2 (-1), 3) := by decide +kernel
theorem dX11_term_72 : decode cX11_term 72 = .ok (.goto (-39), 3) := by decide +kernel
theorem dX11_term_75 : decode cX11_term 75 = .ok (.iconst 0, 1) := by decide +kernel
theorem dX11_term_76 : decode cX11_term 76 = .ok (.ireturn, 1) := by decide +kernel
theorem wd_1970 : (Cond.code ⟨"WebCourtModel", "term", "(I)I"⟩ prog_13_method_109_code (4 : Nat) (Option.some FieldType.int)) ∈ gtb := gtb_c8 181 (by decide +kernel) rfl
set_option maxHeartbeats 4000000 in
set_option maxRecDepth 100000 in
theorem T_X11_term (l : Launch) (D : va_G) (cy : Nat → ClassId) (a : Nat → Nat) (u : St) (hA_6_0 : fA u 6 0 = 0) (hI_0_36 : fI u 0 36 = 0) (x1 : Int32)  : Mi l D cy (mW cy a) yX11_term (.code yX11_term cX11_term 4 (some .int)) (rmo 1 22) [.ref (a 0), .int x1] u (fun (r : Int32) (u' : St) => (r = q_term x1) ∧ (u' = u)) := by
  refine Mi.of (own := RX11) rfl (by decide) (Nat.le_of_ble_eq_true rfl) ?_
  intro p e s m below meth c A Q ls C hret hO hl
  obtain ⟨hx, hb, hml, hown, ht, hK, hA⟩ := id C
  have hl : lv_has ls 4 [(0, .ref (a 0)), (1, .int x1)] := hl
  refine lv_iload_n hx hb dX11_term_0 rfl (lv_at hl 1 rfl) ?_
  refine lv_iconst (v := 0) hx hb dX11_term_1 (by decide) ?_
  refine lv_bipush (v := 30) hx hb dX11_term_2 (by decide) ?_
  refine cSi (w := mW cy a) (As := [.int x1, .int 0, .int 30]) (rest := []) C hO (T_X11_isIn l D cy a _ (x1) (0) (30)) (va_cwS 3 ht (gSS wd_1722 wd_1723 wd_121 wd_1724) rfl rfl rfl hd_yX11_isIn ⟨Nat.le_of_ble_eq_true rfl, Nat.le_of_ble_eq_true rfl⟩)  rfl hl.1 (Nat.le_of_ble_eq_true rfl) dX11_term_4 rfl ⟨Nat.zero_le _, Nat.zero_le _⟩ (fun r1 u2 H locs hp3 hO => ?_)
  obtain ⟨hr1, hu2⟩ := hp3
  rw [hu2] at hO
  have zz4 : (0 : Int32).toInt = 0 := rfl
  have zz5 : (30 : Int32).toInt = 30 := rfl
  rcases hr1 with ⟨hcr1, hvr1⟩ | ⟨hcr1, hvr1⟩
  · subst hvr1
    refine bt_ne (tgt := 12) (X := 1) hx hb dX11_term_7 (by decide) rfl (by omega) ?_
    refine lv_aload_n hx hb dX11_term_12 rfl (lv_at hl 0 rfl) ?_
    refine cVi (w := mW cy a) (As := []) (rest := []) C hO (T_X11_many l D cy a _ (by exact hA_6_0) (by exact hI_0_36)) (cwV 0 ht (gV wd_1348 wd_1350 wd_46 wd_121 wd_1351) rfl rfl rfl hd_yX11_many ⟨Nat.le_of_ble_eq_true rfl, Nat.le_of_ble_eq_true rfl⟩) 0 rfl mW_0 rfl rfl hl.1 (Nat.le_of_ble_eq_true rfl) dX11_term_13 rfl ⟨Nat.zero_le _, Nat.zero_le _⟩ (fun r6 u7 H locs hp8 hO => ?_)
    obtain ⟨hr6, hu7⟩ := hp8
    subst hr6
    rw [hu7] at hO
    refine bn_ne (X := 0) hx hb dX11_term_16 rfl (by omega) ?_ (tgt := 21) (by decide)
    refine lv_iconst (v := 0) hx hb dX11_term_19 (by decide) ?_
    refine hret _ _ _ _ _ _ dX11_term_20 rfl ?_ hO
    exact ⟨(by unfold q_term; have z0 : (0 : Int32).toInt = 0 := rfl; have z1 : (-1 : Int32).toInt = -1 := rfl; split <;> first | rfl | (exact i32_eq.mpr (by omega)) | (exfalso; omega)), rfl⟩
  · subst hvr1
    refine bn_ne (X := 0) hx hb dX11_term_7 rfl (by omega) ?_ (tgt := 12) (by decide)
    refine lv_iconst (v := (-1)) hx hb dX11_term_10 (by decide) ?_
    refine hret _ _ _ _ _ _ dX11_term_11 rfl ?_ hO
    exact ⟨(by unfold q_term; have z0 : (0 : Int32).toInt = 0 := rfl; have z1 : (-1 : Int32).toInt = -1 := rfl; split <;> first | rfl | (exact i32_eq.mpr (by omega)) | (exfalso; omega)), rfl⟩
