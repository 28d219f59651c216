theorem dJ0_coder_7d493_0 : decode cJ0_coder_7d493 0 = .ok (.getstatic 38, 3) := by decide +kernel
theorem dJ0_coder_7d493_3 : decode cJ0_coder_7d493 3 = .ok (.ifCond .eq 10, 3) := by decide +kernel
theorem dJ0_coder_7d493_6 : decode cJ0_coder_7d493 6 = .ok (.aload_n 0, 1) := by decide +kernel
theorem dJ0_coder_7d493_7 : decode cJ0_coder_7d493 7 = .ok (.getfield 15, 3) := by decide +kernel
theorem dJ0_coder_7d493_10 : decode cJ0_coder_7d493 10 = .ok (.goto 4, 3) := by decide +kernel
theorem dJ0_coder_7d493_13 : decode cJ0_coder_7d493 13 = .ok (.iconst 1, 1) := by decide +kernel
theorem dJ0_coder_7d493_14 : decode cJ0_coder_7d493 14 = .ok (.ireturn, 1) := by decide +kernel
theorem wd_568 : (Cond.code ⟨"java/lang/String", "coder", "()B"⟩ prog_17_method_152_code (1 : Nat) (Option.some FieldType.byte)) ∈ gtb := gtb_c2 219 (by decide +kernel) rfl
theorem wd_569 : (Cond.fieldLink "java/lang/String" (38 : Nat) "java/lang/String" "COMPACT_STRINGS" "Z") ∈ gtb := gtb_c2 220 (by decide +kernel) rfl
theorem wd_2037 : (Cond.fieldLink "java/lang/String" (15 : Nat) "java/lang/String" "coder" "B") ∈ gtb := gtb_c9 8 (by decide +kernel) rfl
set_option maxHeartbeats 4000000 in
set_option maxRecDepth 100000 in
theorem T_J0_coder_7d493_0 (l : Launch) (D : va_G) (cy : Nat → ClassId) (a : Nat → Nat) (u : St) (hJ : CI a u)   : Mi l D cy (cW cy a) yJ0_coder_7d493 (.code yJ0_coder_7d493 cJ0_coder_7d493 1 (some .byte)) (rmo 0 0) [.ref (cy 10)] u (fun (r : Int32) (u' : St) => (r = 0) ∧ (u' = u)) := by
  refine Mi.of (own := RJ0) rfl (by decide) (Nat.le_of_ble_eq_true rfl) ?_
  have hT : KT u u := KT.rf
  intro p e s m below meth c A Q ls C hret hO hl
  obtain ⟨hx, hb, hml, hown, ht, hK, hA⟩ := id C
  have hl : lv_has ls 1 [(0, .ref (cy 10))] := hl
  refine va_gets (C := "java/lang/String") (n := "COMPACT_STRINGS") (d := "Z") (ref := "java/lang/String") (v := .int 1) hx hb hA.2.2.2.2.1 hO.2.2 hown (ht _ wd_569) (fun x h => h) dJ0_coder_7d493_0 ?_
  refine bn_eq (X := 1) hx hb dJ0_coder_7d493_3 rfl (by omega) ?_ (tgt := 13) (by decide)
  refine lv_aload_n hx hb dJ0_coder_7d493_6 rfl (lv_at hl 0 rfl) ?_
  refine vk_getf (o := "java/lang/String") (n := "coder") (d := "B") (ref := "java/lang/String") (v := .int 0) hx hb (hA.2.1.1 0 (by decide)).2.1 hO.2.2 hown (ht _ wd_2037) (fun x h => h) dJ0_coder_7d493_7 ?_
  refine lv_goto (tgt := 14) hx hb dJ0_coder_7d493_10 (by decide) ?_
  refine hret _ _ _ _ _ _ dJ0_coder_7d493_14 rfl ?_ hO
  exact ⟨rfl, rfl⟩
theorem dJ0_isLatin1_aae02_0 : decode cJ0_isLatin1_aae02 0 = .ok (.getstatic 38, 3) := by decide +kernel
theorem dJ0_isLatin1_aae02_3 : decode cJ0_isLatin1_aae02 3 = .ok (.ifCond .eq 14, 3) := by decide +kernel
theorem dJ0_isLatin1_aae02_6 : decode cJ0_isLatin1_aae02 6 = .ok (.aload_n 0, 1) := by decide +kernel
theorem dJ0_isLatin1_aae02_7 : decode cJ0_isLatin1_aae02 7 = .ok (.getfield 15, 3) := by decide +kernel
theorem dJ0_isLatin1_aae02_10 : decode cJ0_isLatin1_aae02 10 = .ok (.ifCond .ne 7, 3) := by decide +kernel
theorem dJ0_isLatin1_aae02_13 : decode cJ0_isLatin1_aae02 13 = .ok (.iconst 1, 1) := by decide +kernel
theorem dJ0_isLatin1_aae02_14 : decode cJ0_isLatin1_aae02 14 = .ok (.goto 4, 3) := by decide +kernel
theorem dJ0_isLatin1_aae02_17 : decode cJ0_isLatin1_aae02 17 = .ok (.iconst 0, 1) := by decide +kernel
theorem dJ0_isLatin1_aae02_18 : decode cJ0_isLatin1_aae02 18 = .ok (.ireturn, 1) := by decide +kernel
theorem wd_578 : (Cond.code ⟨"java/lang/String", "isLatin1", "()Z"⟩ prog_17_method_154_code (1 : Nat) (Option.some FieldType.boolean)) ∈ gtb := gtb_c2 229 (by decide +kernel) rfl
set_option maxHeartbeats 4000000 in
set_option maxRecDepth 100000 in
theorem T_J0_isLatin1_aae02_0 (l : Launch) (D : va_G) (cy : Nat → ClassId) (a : Nat → Nat) (u : St) (hJ : CI a u)   : Mi l D cy (cW cy a) yJ0_isLatin1_aae02 (.code yJ0_isLatin1_aae02 cJ0_isLatin1_aae02 1 (some .boolean)) (rmo 0 0) [.ref (cy 10)] u (fun (r : Int32) (u' : St) => (r = 1) ∧ (u' = u)) := by
  refine Mi.of (own := RJ0) rfl (by decide) (Nat.le_of_ble_eq_true rfl) ?_
  have hT : KT u u := KT.rf
  intro p e s m below meth c A Q ls C hret hO hl
  obtain ⟨hx, hb, hml, hown, ht, hK, hA⟩ := id C
  have hl : lv_has ls 1 [(0, .ref (cy 10))] := hl
  refine va_gets (C := "java/lang/String") (n := "COMPACT_STRINGS") (d := "Z") (ref := "java/lang/String") (v := .int 1) hx hb hA.2.2.2.2.1 hO.2.2 hown (ht _ wd_569) (fun x h => h) dJ0_isLatin1_aae02_0 ?_
  refine bn_eq (X := 1) hx hb dJ0_isLatin1_aae02_3 rfl (by omega) ?_ (tgt := 17) (by decide)
  refine lv_aload_n hx hb dJ0_isLatin1_aae02_6 rfl (lv_at hl 0 rfl) ?_
  refine vk_getf (o := "java/lang/String") (n := "coder") (d := "B") (ref := "java/lang/String") (v := .int 0) hx hb (hA.2.1.1 0 (by decide)).2.1 hO.2.2 hown (ht _ wd_2037) (fun x h => h) dJ0_isLatin1_aae02_7 ?_
  refine bn_ne (X := 0) hx hb dJ0_isLatin1_aae02_10 rfl (by omega) ?_ (tgt := 17) (by decide)
  refine lv_iconst (v := 1) hx hb dJ0_isLatin1_aae02_13 (by decide) ?_
  refine lv_goto (tgt := 18) hx hb dJ0_isLatin1_aae02_14 (by decide) ?_
  refine hret _ _ _ _ _ _ dJ0_isLatin1_aae02_18 rfl ?_ hO
  exact ⟨rfl, rfl⟩
theorem dJ0_length_8abf5_0 : decode cJ0_length_8abf5 0 = .ok (.aload_n 0, 1) := by decide +kernel
theorem dJ0_length_8abf5_1 : decode cJ0_length_8abf5 1 = .ok (.getfield 9, 3) := by decide +kernel
theorem dJ0_length_8abf5_4 : decode cJ0_length_8abf5 4 = .ok (.arraylength, 1) := by decide +kernel
theorem dJ0_length_8abf5_5 : decode cJ0_length_8abf5 5 = .ok (.aload_n 0, 1) := by decide +kernel
theorem dJ0_length_8abf5_6 : decode cJ0_length_8abf5 6 = .ok (.invokevirtual 335, 3) := by decide +kernel
theorem dJ0_length_8abf5_9 : decode cJ0_length_8abf5 9 = .ok (.ishr, 1) := by decide +kernel
theorem dJ0_length_8abf5_10 : decode cJ0_length_8abf5 10 = .ok (.ireturn, 1) := by decide +kernel
theorem wd_564 : (Cond.code ⟨"java/lang/String", "length", "()I"⟩ prog_17_method_54_code (1 : Nat) (Option.some FieldType.int)) ∈ gtb := gtb_c2 215 (by decide +kernel) rfl
theorem wd_2036 : (Cond.fieldLink "java/lang/String" (9 : Nat) "java/lang/String" "value" "[B") ∈ gtb := gtb_c9 7 (by decide +kernel) rfl
theorem wd_565 : (Cond.methodLink "java/lang/String" (335 : Nat) ⟨"java/lang/String", "coder", "()B"⟩) ∈ gtb := gtb_c2 216 (by decide +kernel) rfl
theorem wd_566 : (Cond.instanceMethod ⟨"java/lang/String", "coder", "()B"⟩) ∈ gtb := gtb_c2 217 (by decide +kernel) rfl
theorem wd_567 : (Cond.selects "java/lang/String" ⟨"java/lang/String", "coder", "()B"⟩ ⟨"java/lang/String", "coder", "()B"⟩) ∈ gtb := gtb_c2 218 (by decide +kernel) rfl
theorem wd_122 : (Cond.initialized "java/lang/String") ∈ gtb := gtb_c1 13 (by decide +kernel) rfl
theorem hd_yJ0_coder_7d493 : yJ0_coder_7d493.cls = RJ0 ∧ yJ0_coder_7d493.cls ≠ "java/lang/invoke/MethodHandle" ∧ yJ0_coder_7d493.cls ≠ "java/lang/invoke/VarHandle" ∧ (parseMethodDescriptor yJ0_coder_7d493.desc).map (fun d => d.parameters.length) = some 0 := by decide +kernel
set_option maxHeartbeats 4000000 in
set_option maxRecDepth 100000 in
theorem T_J0_length_8abf5_0 (l : Launch) (D : va_G) (cy : Nat → ClassId) (a : Nat → Nat) (u : St) (hJ : CI a u)   : Mi l D cy (cW cy a) yJ0_length_8abf5 (.code yJ0_length_8abf5 cJ0_length_8abf5 1 (some .int)) (rmo 1 20) [.ref (cy 10)] u (fun (r : Int32) (u' : St) => (r = 102) ∧ (u' = u)) := by
  refine Mi.of (own := RJ0) rfl (by decide) (Nat.le_of_ble_eq_true rfl) ?_
  have hT : KT u u := KT.rf
  intro p e s m below meth c A Q ls C hret hO hl
  obtain ⟨hx, hb, hml, hown, ht, hK, hA⟩ := id C
  have hl : lv_has ls 1 [(0, .ref (cy 10))] := hl
  refine lv_aload_n hx hb dJ0_length_8abf5_0 rfl (lv_at hl 0 rfl) ?_
  refine vk_getf (o := "java/lang/String") (n := "value") (d := "[B") (ref := "java/lang/String") (v := .ref (cy 20)) hx hb (hA.2.1.1 0 (by decide)).2.2.1 hO.2.2 hown (ht _ wd_2036) (fun x h => h) dJ0_length_8abf5_1 ?_
  refine va_tlen (v := 102) hx hb (hA.2.1.1 0 (by decide)).2.2.2 hO.2.2 rfl dJ0_length_8abf5_4 ?_
  refine lv_aload_n hx hb dJ0_length_8abf5_5 rfl (lv_at hl 0 rfl) ?_
  refine cKi (w := cW cy a) (As := []) (rest := [.int 102]) C hO (T_J0_coder_7d493_0 l D cy a _ (by exact hJ)) (cwV 0 ht (gV wd_565 wd_566 wd_567 wd_122 wd_568) rfl rfl rfl hd_yJ0_coder_7d493 ⟨Nat.le_of_ble_eq_true rfl, Nat.le_of_ble_eq_true rfl⟩) 0 (by decide) rfl rfl rfl hl.1 (Nat.le_of_ble_eq_true rfl) dJ0_length_8abf5_6 rfl ⟨Nat.zero_le _, Nat.zero_le _⟩ (fun r1 u2 H locs hp3 hO => ?_)
  obtain ⟨hr1, hu2⟩ := hp3
  subst hr1
  rw [hu2] at hO
  refine lv_ishr hx hb dJ0_length_8abf5_9 ?_
  refine tE (y := 102) (by decide) ?_
  refine hret _ _ _ _ _ _ dJ0_length_8abf5_10 rfl ?_ hO
  exact ⟨rfl, rfl⟩
set_option maxHeartbeats 4000000 in
set_option maxRecDepth 100000 in
theorem T_J0_coder_7d493_1 (l : Launch) (D : va_G) (cy : Nat → ClassId) (a : Nat → Nat) (u : St) (hJ : CI a u)   : Mi l D cy (cW cy a) yJ0_coder_7d493 (.code yJ0_coder_7d493 cJ0_coder_7d493 1 (some .byte)) (rmo 0 0) [.ref (cy 11)] u (fun (r : Int32) (u' : St) => (r = 0) ∧ (u' = u)) := by
  refine Mi.of (own := RJ0) rfl (by decide) (Nat.le_of_ble_eq_true rfl) ?_
  have hT : KT u u := KT.rf
  intro p e s m below meth c A Q ls C hret hO hl
  obtain ⟨hx, hb, hml, hown, ht, hK, hA⟩ := id C
  have hl : lv_has ls 1 [(0, .ref (cy 11))] := hl
  refine va_gets (C := "java/lang/String") (n := "COMPACT_STRINGS") (d := "Z") (ref := "java/lang/String") (v := .int 1) hx hb hA.2.2.2.2.1 hO.2.2 hown (ht _ wd_569) (fun x h => h) dJ0_coder_7d493_0 ?_
  refine bn_eq (X := 1) hx hb dJ0_coder_7d493_3 rfl (by omega) ?_ (tgt := 13) (by decide)
  refine lv_aload_n hx hb dJ0_coder_7d493_6 rfl (lv_at hl 0 rfl) ?_
  refine vk_getf (o := "java/lang/String") (n := "coder") (d := "B") (ref := "java/lang/String") (v := .int 0) hx hb (hA.2.1.1 1 (by decide)).2.1 hO.2.2 hown (ht _ wd_2037) (fun x h => h) dJ0_coder_7d493_7 ?_
  refine lv_goto (tgt := 14) hx hb dJ0_coder_7d493_10 (by decide) ?_
  refine hret _ _ _ _ _ _ dJ0_coder_7d493_14 rfl ?_ hO
  exact ⟨rfl, rfl⟩
set_option maxHeartbeats 4000000 in
set_option maxRecDepth 100000 in
theorem T_J0_isLatin1_aae02_1 (l : Launch) (D : va_G) (cy : Nat → ClassId) (a : Nat → Nat) (u : St) (hJ : CI a u)   : Mi l D cy (cW cy a) yJ0_isLatin1_aae02 (.code yJ0_isLatin1_aae02 cJ0_isLatin1_aae02 1 (some .boolean)) (rmo 0 0) [.ref (cy 11)] u (fun (r : Int32) (u' : St) => (r = 1) ∧ (u' = u)) := by
  refine Mi.of (own := RJ0) rfl (by decide) (Nat.le_of_ble_eq_true rfl) ?_
  have hT : KT u u := KT.rf
  intro p e s m below meth c A Q ls C hret hO hl
  obtain ⟨hx, hb, hml, hown, ht, hK, hA⟩ := id C
  have hl : lv_has ls 1 [(0, .ref (cy 11))] := hl
  refine va_gets (C := "java/lang/String") (n := "COMPACT_STRINGS") (d := "Z") (ref := "java/lang/String") (v := .int 1) hx hb hA.2.2.2.2.1 hO.2.2 hown (ht _ wd_569) (fun x h => h) dJ0_isLatin1_aae02_0 ?_
  refine bn_eq (X := 1) hx hb dJ0_isLatin1_aae02_3 rfl (by omega) ?_ (tgt := 17) (by decide)
  refine lv_aload_n hx hb dJ0_isLatin1_aae02_6 rfl (lv_at hl 0 rfl) ?_
  refine vk_getf (o := "java/lang/String") (n := "coder") (d := "B") (ref := "java/lang/String") (v := .int 0) hx hb (hA.2.1.1 1 (by decide)).2.1 hO.2.2 hown (ht _ wd_2037) (fun x h => h) dJ0_isLatin1_aae02_7 ?_
  refine bn_ne (X := 0) hx hb dJ0_isLatin1_aae02_10 rfl (by omega) ?_ (tgt := 17) (by decide)
  refine lv_iconst (v := 1) hx hb dJ0_isLatin1_aae02_13 (by decide) ?_
  refine lv_goto (tgt := 18) hx hb dJ0_isLatin1_aae02_14 (by decide) ?_
  refine hret _ _ _ _ _ _ dJ0_isLatin1_aae02_18 rfl ?_ hO
  exact ⟨rfl, rfl⟩
set_option maxHeartbeats 4000000 in
set_option maxRecDepth 100000 in
theorem T_J0_length_8abf5_1 (l : Launch) (D : va_G) (cy : Nat → ClassId) (a : Nat → Nat) (u : St) (hJ : CI a u)   : Mi l D cy (cW cy a) yJ0_length_8abf5 (.code yJ0_length_8abf5 cJ0_length_8abf5 1 (some .int)) (rmo 1 20) [.ref (cy 11)] u (fun (r : Int32) (u' : St) => (r = 11) ∧ (u' = u)) := by
  refine Mi.of (own := RJ0) rfl (by decide) (Nat.le_of_ble_eq_true rfl) ?_
  have hT : KT u u := KT.rf
  intro p e s m below meth c A Q ls C hret hO hl
  obtain ⟨hx, hb, hml, hown, ht, hK, hA⟩ := id C
  have hl : lv_has ls 1 [(0, .ref (cy 11))] := hl
  refine lv_aload_n hx hb dJ0_length_8abf5_0 rfl (lv_at hl 0 rfl) ?_
  refine vk_getf (o := "java/lang/String") (n := "value") (d := "[B") (ref := "java/lang/String") (v := .ref (cy 21)) hx hb (hA.2.1.1 1 (by decide)).2.2.1 hO.2.2 hown (ht _ wd_2036) (fun x h => h) dJ0_length_8abf5_1 ?_
  refine va_tlen (v := 11) hx hb (hA.2.1.1 1 (by decide)).2.2.2 hO.2.2 rfl dJ0_length_8abf5_4 ?_
  refine lv_aload_n hx hb dJ0_length_8abf5_5 rfl (lv_at hl 0 rfl) ?_
  refine cKi (w := cW cy a) (As := []) (rest := [.int 11]) C hO (T_J0_coder_7d493_1 l D cy a _ (by exact hJ)) (cwV 0 ht (gV wd_565 wd_566 wd_567 wd_122 wd_568) rfl rfl rfl hd_yJ0_coder_7d493 ⟨Nat.le_of_ble_eq_true rfl, Nat.le_of_ble_eq_true rfl⟩) 1 (by decide) rfl rfl rfl hl.1 (Nat.le_of_ble_eq_true rfl) dJ0_length_8abf5_6 rfl ⟨Nat.zero_le _, Nat.zero_le _⟩ (fun r1 u2 H locs hp3 hO => ?_)
  obtain ⟨hr1, hu2⟩ := hp3
  subst hr1
  rw [hu2] at hO
  refine lv_ishr hx hb dJ0_length_8abf5_9 ?_
  refine tE (y := 11) (by decide) ?_
  refine hret _ _ _ _ _ _ dJ0_length_8abf5_10 rfl ?_ hO
  exact ⟨rfl, rfl⟩
theorem dJ3_checkIndex_8e157_0 : decode cJ3_checkIndex_8e157 0 = .ok (.iload_n 0, 1) := by decide +kernel
theorem dJ3_checkIndex_8e157_1 : decode cJ3_checkIndex_8e157 1 = .ok (.ifCond .lt 8, 3) := by decide +kernel
theorem dJ3_checkIndex_8e157_4 : decode cJ3_checkIndex_8e157 4 = .ok (.iload_n 0, 1) := by decide +kernel
theorem dJ3_checkIndex_8e157_5 : decode cJ3_checkIndex_8e157 5 = .ok (.iload_n 1, 1) := by decide +kernel
theorem dJ3_checkIndex_8e157_6 : decode cJ3_checkIndex_8e157 6 = .ok (.if_icmp .lt 10, 3) := by decide +kernel
theorem dJ3_checkIndex_8e157_9 : decode cJ3_checkIndex_8e157 9 = .ok (.aload_n 2, 1) := by decide +kernel
theorem dJ3_checkIndex_8e157_10 : decode cJ3_checkIndex_8e157 10 = .ok (.iload_n 0, 1) := by decide +kernel
theorem dJ3_checkIndex_8e157_11 : decode cJ3_checkIndex_8e157 11 = .ok (.iload_n 1, 1) := by decide +kernel
theorem dJ3_checkIndex_8e157_12 : decode cJ3_checkIndex_8e157 12 = .ok (.invokestatic 95, 3) := by decide +kernel
theorem dJ3_checkIndex_8e157_15 : decode cJ3_checkIndex_8e157 15 = .ok (.athrow, 1) := by decide +kernel
theorem dJ3_checkIndex_8e157_16 : decode cJ3_checkIndex_8e157 16 = .ok (.iload_n 0, 1) := by decide +kernel
theorem dJ3_checkIndex_8e157_17 : decode cJ3_checkIndex_8e157 17 = .ok (.ireturn, 1) := by decide +kernel
theorem wd_589 : (Cond.code ⟨"jdk/internal/util/Preconditions", "checkIndex", "(IILjava/util/function/BiFunction;)I"⟩ prog_20_method_11_code (3 : Nat) (Option.some FieldType.int)) ∈ gtb := gtb_c3 0 (by decide +kernel) rfl
set_option maxHeartbeats 4000000 in
set_option maxRecDepth 100000 in
theorem T_J3_checkIndex_8e157 (l : Launch) (D : va_G) (cy : Nat → ClassId) (a : Nat → Nat) (u : St) (hJ : CI a u) (x1 : Int32) (v : Value) (kv : v = .null ∨ ∃ t : Nat, v = .ref t) (hx_x1 : 0 ≤ x1.toInt ∧ x1.toInt ≤ 101) : Mi l D cy (cW cy a) yJ3_checkIndex_8e157 (.code yJ3_checkIndex_8e157 cJ3_checkIndex_8e157 3 (some .int)) (rmo 0 0) [.int x1, .int 102, v] u (fun (r : Int32) (u' : St) => u' = u) := by
  refine Mi.of (own := RJ3) rfl (by decide) (by rcases kv with h | ⟨t, h⟩ <;> rw [h] <;> exact Nat.le_of_ble_eq_true rfl) ?_
  have hT : KT u u := KT.rf
  intro p e s m below meth c A Q ls C hret hO hl
  obtain ⟨hx, hb, hml, hown, ht, hK, hA⟩ := id C
  have hl : lv_has ls 3 [(0, .int x1), (1, .int 102), (2, v)] := by rcases kv with h | ⟨t, h⟩ <;> rw [h] at hl ⊢ <;> exact hl
  refine lv_iload_n hx hb dJ3_checkIndex_8e157_0 rfl (lv_at hl 0 rfl) ?_
  refine bn_lt (X := (x1).toInt) hx hb dJ3_checkIndex_8e157_1 rfl (by omega) ?_ (tgt := 9) (by decide)
  refine lv_iload_n hx hb dJ3_checkIndex_8e157_4 rfl (lv_at hl 0 rfl) ?_
  refine lv_iload_n hx hb dJ3_checkIndex_8e157_5 rfl (lv_at hl 1 rfl) ?_
  refine ct_lt (tgt := 16) (X := (x1).toInt) (Y := 102) hx hb dJ3_checkIndex_8e157_6 (by decide) rfl rfl (by omega) ?_
  refine lv_iload_n hx hb dJ3_checkIndex_8e157_16 rfl (lv_at hl 0 rfl) ?_
  refine hret _ _ _ _ _ _ dJ3_checkIndex_8e157_17 rfl ?_ hO
  exact rfl
theorem dJ0_checkIndex_df160_0 : decode cJ0_checkIndex_df160 0 = .ok (.iload_n 0, 1) := by decide +kernel
theorem dJ0_checkIndex_df160_1 : decode cJ0_checkIndex_df160 1 = .ok (.iload_n 1, 1) := by decide +kernel
theorem dJ0_checkIndex_df160_2 : decode cJ0_checkIndex_df160 2 = .ok (.getstatic 1053, 3) := by decide +kernel
theorem dJ0_checkIndex_df160_5 : decode cJ0_checkIndex_df160 5 = .ok (.invokestatic 1059, 3) := by decide +kernel
theorem dJ0_checkIndex_df160_8 : decode cJ0_checkIndex_df160 8 = .ok (.pop, 1) := by decide +kernel
theorem dJ0_checkIndex_df160_9 : decode cJ0_checkIndex_df160 9 = .ok (.return_, 1) := by decide +kernel
theorem wd_584 : (Cond.code ⟨"java/lang/String", "checkIndex", "(II)V"⟩ prog_17_method_155_code (2 : Nat) (Option.none : Option FieldType)) ∈ gtb := gtb_c2 235 (by decide +kernel) rfl
theorem wd_585 : (Cond.fieldLink "java/lang/String" (1053 : Nat) "jdk/internal/util/Preconditions" "SIOOBE_FORMATTER" "Ljava/util/function/BiFunction;") ∈ gtb := gtb_c2 236 (by decide +kernel) rfl
theorem wd_587 : (Cond.methodLink "java/lang/String" (1059 : Nat) ⟨"jdk/internal/util/Preconditions", "checkIndex", "(IILjava/util/function/BiFunction;)I"⟩) ∈ gtb := gtb_c2 238 (by decide +kernel) rfl
theorem wd_588 : (Cond.static ⟨"jdk/internal/util/Preconditions", "checkIndex", "(IILjava/util/function/BiFunction;)I"⟩) ∈ gtb := gtb_c2 239 (by decide +kernel) rfl
theorem wd_124 : (Cond.initialized "jdk/internal/util/Preconditions") ∈ gtb := gtb_c1 15 (by decide +kernel) rfl
theorem hd_yJ3_checkIndex_8e157 : yJ3_checkIndex_8e157.cls ≠ "java/lang/invoke/MethodHandle" ∧ yJ3_checkIndex_8e157.cls ≠ "java/lang/invoke/VarHandle" ∧ (parseMethodDescriptor yJ3_checkIndex_8e157.desc).map (fun d => d.parameters.length) = some 3 := by decide +kernel
set_option maxHeartbeats 4000000 in
set_option maxRecDepth 100000 in
theorem T_J0_checkIndex_df160 (l : Launch) (D : va_G) (cy : Nat → ClassId) (a : Nat → Nat) (u : St) (hJ : CI a u) (x1 : Int32) (hx_x1 : 0 ≤ x1.toInt ∧ x1.toInt ≤ 101) : Mv l D cy (cW cy a) yJ0_checkIndex_df160 (.code yJ0_checkIndex_df160 cJ0_checkIndex_df160 2 none) (rmo 1 22) [.int x1, .int 102] u (fun (u' : St) => u' = u) := by
  refine Mv.of (own := RJ0) rfl (by decide) (Nat.le_of_ble_eq_true rfl) ?_
  have hT : KT u u := KT.rf
  intro p e s m below meth c A Q ls C hret hO hl
  obtain ⟨hx, hb, hml, hown, ht, hK, hA⟩ := id C
  have hl : lv_has ls 2 [(0, .int x1), (1, .int 102)] := hl
  refine lv_iload_n hx hb dJ0_checkIndex_df160_0 rfl (lv_at hl 0 rfl) ?_
  refine lv_iload_n hx hb dJ0_checkIndex_df160_1 rfl (lv_at hl 1 rfl) ?_
  obtain ⟨v1, kv1, hv1⟩ : ∃ v : Value, (v = .null ∨ ∃ t : Nat, v = .ref t) ∧ va_Z "jdk/internal/util/Preconditions" "SIOOBE_FORMATTER" "Ljava/util/function/BiFunction;" v A s s.heap := by
    rcases hA.2.2.2.2.2 with h | ⟨t, h⟩
    · exact ⟨_, Or.inl rfl, h⟩
    · exact ⟨_, Or.inr ⟨t, rfl⟩, h⟩
  refine va_gets (C := "jdk/internal/util/Preconditions") (n := "SIOOBE_FORMATTER") (d := "Ljava/util/function/BiFunction;") (ref := "jdk/internal/util/Preconditions") (v := v1) hx hb hv1 hO.2.2 hown (ht _ wd_585) (fun x h => h) dJ0_checkIndex_df160_2 ?_
  refine cSi (w := cW cy a) (As := [.int x1, .int 102, v1]) (rest := []) C hO (T_J3_checkIndex_8e157 l D cy a _ (by exact hJ) (x1) v1 kv1 (by first | omega | decide)) (va_cwS 3 ht (gSS wd_587 wd_588 wd_124 wd_589) rfl rfl rfl hd_yJ3_checkIndex_8e157 ⟨Nat.le_of_ble_eq_true rfl, Nat.le_of_ble_eq_true rfl⟩)  rfl hl.1 (Nat.le_of_ble_eq_true rfl) dJ0_checkIndex_df160_5 rfl ⟨Nat.zero_le _, Nat.zero_le _⟩ (fun r2 u3 H locs hp4 hO => ?_)
  have hu3 := hp4
  rw [hu3] at hO
  refine lv_pop hx hb dJ0_checkIndex_df160_8 rfl ?_
  refine hret _ _ _ _ _ dJ0_checkIndex_df160_9 ?_ hO
  exact rfl
theorem dJ1_charAt_3b067_0 : decode cJ1_charAt_3b067 0 = .ok (.iload_n 1, 1) := by decide +kernel
theorem dJ1_charAt_3b067_1 : decode cJ1_charAt_3b067 1 = .ok (.aload_n 0, 1) := by decide +kernel
theorem dJ1_charAt_3b067_2 : decode cJ1_charAt_3b067 2 = .ok (.arraylength, 1) := by decide +kernel
theorem dJ1_charAt_3b067_3 : decode cJ1_charAt_3b067 3 = .ok (.invokestatic 9, 3) := by decide +kernel
theorem dJ1_charAt_3b067_6 : decode cJ1_charAt_3b067 6 = .ok (.aload_n 0, 1) := by decide +kernel
theorem dJ1_charAt_3b067_7 : decode cJ1_charAt_3b067 7 = .ok (.iload_n 1, 1) := by decide +kernel
theorem dJ1_charAt_3b067_8 : decode cJ1_charAt_3b067 8 = .ok (.baload, 1) := by decide +kernel
theorem dJ1_charAt_3b067_9 : decode cJ1_charAt_3b067 9 = .ok (.sipush 255, 3) := by decide +kernel
theorem dJ1_charAt_3b067_12 : decode cJ1_charAt_3b067 12 = .ok (.iand, 1) := by decide +kernel
theorem dJ1_charAt_3b067_13 : decode cJ1_charAt_3b067 13 = .ok (.i2c, 1) := by decide +kernel
theorem dJ1_charAt_3b067_14 : decode cJ1_charAt_3b067 14 = .ok (.ireturn, 1) := by decide +kernel
theorem wd_581 : (Cond.code ⟨"java/lang/StringLatin1", "charAt", "([BI)C"⟩ prog_18_method_2_code (2 : Nat) (Option.some FieldType.char)) ∈ gtb := gtb_c2 232 (by decide +kernel) rfl
theorem wd_582 : (Cond.methodLink "java/lang/StringLatin1" (9 : Nat) ⟨"java/lang/String", "checkIndex", "(II)V"⟩) ∈ gtb := gtb_c2 233 (by decide +kernel) rfl
theorem wd_583 : (Cond.static ⟨"java/lang/String", "checkIndex", "(II)V"⟩) ∈ gtb := gtb_c2 234 (by decide +kernel) rfl
theorem hd_yJ0_checkIndex_df160 : yJ0_checkIndex_df160.cls ≠ "java/lang/invoke/MethodHandle" ∧ yJ0_checkIndex_df160.cls ≠ "java/lang/invoke/VarHandle" ∧ (parseMethodDescriptor yJ0_checkIndex_df160.desc).map (fun d => d.parameters.length) = some 2 := by decide +kernel
set_option maxHeartbeats 4000000 in
set_option maxRecDepth 100000 in
theorem T_J1_charAt_3b067 (l : Launch) (D : va_G) (cy : Nat → ClassId) (a : Nat → Nat) (u : St) (hJ : CI a u) (x2 : Int32) (hx_x2 : 0 ≤ x2.toInt ∧ x2.toInt ≤ 101) : Mi l D cy (cW cy a) yJ1_charAt_3b067 (.code yJ1_charAt_3b067 cJ1_charAt_3b067 2 (some .char)) (rmo 2 43) [.ref (cy 20), .int x2] u (fun (r : Int32) (u' : St) => (narrow .char (.int r) = .int r) ∧ (u' = u)) := by
  refine Mi.of (own := RJ1) rfl (by decide) (Nat.le_of_ble_eq_true rfl) ?_
  have hT : KT u u := KT.rf
  intro p e s m below meth c A Q ls C hret hO hl
  obtain ⟨hx, hb, hml, hown, ht, hK, hA⟩ := id C
  have hl : lv_has ls 2 [(0, .ref (cy 20)), (1, .int x2)] := hl
  refine lv_iload_n hx hb dJ1_charAt_3b067_0 rfl (lv_at hl 1 rfl) ?_
  refine lv_aload_n hx hb dJ1_charAt_3b067_1 rfl (lv_at hl 0 rfl) ?_
  refine va_tlen (v := 102) hx hb (hA.2.1.1 0 (by decide)).2.2.2 hO.2.2 rfl dJ1_charAt_3b067_2 ?_
  refine cSv (w := cW cy a) (As := [.int x2, .int 102]) (rest := []) C hO (T_J0_checkIndex_df160 l D cy a _ (by exact hJ) (x2) (by first | omega | decide)) (va_cwS 2 ht (gSS wd_582 wd_583 wd_122 wd_584) rfl rfl rfl hd_yJ0_checkIndex_df160 ⟨Nat.le_of_ble_eq_true rfl, Nat.le_of_ble_eq_true rfl⟩)  rfl hl.1 (Nat.le_of_ble_eq_true rfl) dJ1_charAt_3b067_3 rfl ⟨Nat.zero_le _, Nat.zero_le _⟩ (fun u2 H locs hp3 hO => ?_)
  have hu2 := hp3
  rw [hu2] at hO
  refine lv_aload_n hx hb dJ1_charAt_3b067_6 rfl (lv_at hl 0 rfl) ?_
  refine lv_iload_n hx hb dJ1_charAt_3b067_7 rfl (lv_at hl 1 rfl) ?_
  refine va_tb (N := 102) hx hb (hA.2.1.1 0 (by decide)).2.2.2 hO.2.2 (i_in (X := (x2).toInt) rfl (by omega) (by omega)) rfl dJ1_charAt_3b067_8 ?_
  refine lv_topi (fun w4 ew4 => ?_)
  refine lv_sipush (v := 255) hx hb dJ1_charAt_3b067_9 (by decide) ?_
  refine lv_iand hx hb dJ1_charAt_3b067_12 ?_
  refine lv_topi (fun z5 ez5 => ?_)
  have g6 : 0 ≤ z5.toInt ∧ z5.toInt ≤ 255 := by rw [ez5]; exact i_andr rfl (by omega)
  refine lv_i2c hx hb dJ1_charAt_3b067_13 rfl ?_
  refine lv_topi (fun z7 ez7 => ?_)
  refine hret _ _ _ _ _ _ dJ1_charAt_3b067_14 (by rw [ez7]; exact pk_nc _) ?_ hO
  exact ⟨(by rw [ez7]; exact pk_nc _), rfl⟩
theorem dJ0_charAt_5068e_0 : decode cJ0_charAt_5068e 0 = .ok (.aload_n 0, 1) := by decide +kernel
theorem dJ0_charAt_5068e_1 : decode cJ0_charAt_5068e 1 = .ok (.invokevirtual 492, 3) := by decide +kernel
theorem dJ0_charAt_5068e_4 : decode cJ0_charAt_5068e 4 = .ok (.ifCond .eq 12, 3) := by decide +kernel
theorem dJ0_charAt_5068e_7 : decode cJ0_charAt_5068e 7 = .ok (.aload_n 0, 1) := by decide +kernel
theorem dJ0_charAt_5068e_8 : decode cJ0_charAt_5068e 8 = .ok (.getfield 9, 3) := by decide +kernel
theorem dJ0_charAt_5068e_11 : decode cJ0_charAt_5068e 11 = .ok (.iload_n 1, 1) := by decide +kernel
theorem dJ0_charAt_5068e_12 : decode cJ0_charAt_5068e 12 = .ok (.invokestatic 495, 3) := by decide +kernel
theorem dJ0_charAt_5068e_15 : decode cJ0_charAt_5068e 15 = .ok (.ireturn, 1) := by decide +kernel
theorem dJ0_charAt_5068e_16 : decode cJ0_charAt_5068e 16 = .ok (.aload_n 0, 1) := by decide +kernel
theorem dJ0_charAt_5068e_17 : decode cJ0_charAt_5068e 17 = .ok (.getfield 9, 3) := by decide +kernel
theorem dJ0_charAt_5068e_20 : decode cJ0_charAt_5068e 20 = .ok (.iload_n 1, 1) := by decide +kernel
theorem dJ0_charAt_5068e_21 : decode cJ0_charAt_5068e 21 = .ok (.invokestatic 498, 3) := by decide +kernel
theorem dJ0_charAt_5068e_24 : decode cJ0_charAt_5068e 24 = .ok (.ireturn, 1) := by decide +kernel
theorem wd_574 : (Cond.code ⟨"java/lang/String", "charAt", "(I)C"⟩ prog_17_method_56_code (2 : Nat) (Option.some FieldType.char)) ∈ gtb := gtb_c2 225 (by decide +kernel) rfl
theorem wd_575 : (Cond.methodLink "java/lang/String" (492 : Nat) ⟨"java/lang/String", "isLatin1", "()Z"⟩) ∈ gtb := gtb_c2 226 (by decide +kernel) rfl
theorem wd_576 : (Cond.instanceMethod ⟨"java/lang/String", "isLatin1", "()Z"⟩) ∈ gtb := gtb_c2 227 (by decide +kernel) rfl
theorem wd_577 : (Cond.selects "java/lang/String" ⟨"java/lang/String", "isLatin1", "()Z"⟩ ⟨"java/lang/String", "isLatin1", "()Z"⟩) ∈ gtb := gtb_c2 228 (by decide +kernel) rfl
theorem hd_yJ0_isLatin1_aae02 : yJ0_isLatin1_aae02.cls = RJ0 ∧ yJ0_isLatin1_aae02.cls ≠ "java/lang/invoke/MethodHandle" ∧ yJ0_isLatin1_aae02.cls ≠ "java/lang/invoke/VarHandle" ∧ (parseMethodDescriptor yJ0_isLatin1_aae02.desc).map (fun d => d.parameters.length) = some 0 := by decide +kernel
theorem wd_579 : (Cond.methodLink "java/lang/String" (495 : Nat) ⟨"java/lang/StringLatin1", "charAt", "([BI)C"⟩) ∈ gtb := gtb_c2 230 (by decide +kernel) rfl
theorem wd_580 : (Cond.static ⟨"java/lang/StringLatin1", "charAt", "([BI)C"⟩) ∈ gtb := gtb_c2 231 (by decide +kernel) rfl
theorem wd_123 : (Cond.initialized "java/lang/StringLatin1") ∈ gtb := gtb_c1 14 (by decide +kernel) rfl
theorem hd_yJ1_charAt_3b067 : yJ1_charAt_3b067.cls ≠ "java/lang/invoke/MethodHandle" ∧ yJ1_charAt_3b067.cls ≠ "java/lang/invoke/VarHandle" ∧ (parseMethodDescriptor yJ1_charAt_3b067.desc).map (fun d => d.parameters.length) = some 2 := by decide +kernel
set_option maxHeartbeats 4000000 in
set_option maxRecDepth 100000 in
theorem T_J0_charAt_5068e (l : Launch) (D : va_G) (cy : Nat → ClassId) (a : Nat → Nat) (u : St) (hJ : CI a u) (x1 : Int32) (hx_x1 : 0 ≤ x1.toInt ∧ x1.toInt ≤ 101) : Mi l D cy (cW cy a) yJ0_charAt_5068e (.code yJ0_charAt_5068e cJ0_charAt_5068e 2 (some .char)) (rmo 3 64) [.ref (cy 10), .int x1] u (fun (r : Int32) (u' : St) => (narrow .char (.int r) = .int r) ∧ (u' = u)) := by
  refine Mi.of (own := RJ0) rfl (by decide) (Nat.le_of_ble_eq_true rfl) ?_
  have hT : KT u u := KT.rf
  intro p e s m below meth c A Q ls C hret hO hl
  obtain ⟨hx, hb, hml, hown, ht, hK, hA⟩ := id C
  have hl : lv_has ls 2 [(0, .ref (cy 10)), (1, .int x1)] := hl
  refine lv_aload_n hx hb dJ0_charAt_5068e_0 rfl (lv_at hl 0 rfl) ?_
  refine cKi (w := cW cy a) (As := []) (rest := []) C hO (T_J0_isLatin1_aae02_0 l D cy a _ (by exact hJ)) (cwV 0 ht (gV wd_575 wd_576 wd_577 wd_122 wd_578) rfl rfl rfl hd_yJ0_isLatin1_aae02 ⟨Nat.le_of_ble_eq_true rfl, Nat.le_of_ble_eq_true rfl⟩) 0 (by decide) rfl rfl rfl hl.1 (Nat.le_of_ble_eq_true rfl) dJ0_charAt_5068e_1 rfl ⟨Nat.zero_le _, Nat.zero_le _⟩ (fun r1 u2 H locs hp3 hO => ?_)
  obtain ⟨hr1, hu2⟩ := hp3
  subst hr1
  rw [hu2] at hO
  refine bn_eq (X := 1) hx hb dJ0_charAt_5068e_4 rfl (by omega) ?_ (tgt := 16) (by decide)
  refine lv_aload_n hx hb dJ0_charAt_5068e_7 rfl (lv_at hl 0 rfl) ?_
  refine vk_getf (o := "java/lang/String") (n := "value") (d := "[B") (ref := "java/lang/String") (v := .ref (cy 20)) hx hb (hA.2.1.1 0 (by decide)).2.2.1 hO.2.2 hown (ht _ wd_2036) (fun x h => h) dJ0_charAt_5068e_8 ?_
  refine lv_iload_n hx hb dJ0_charAt_5068e_11 rfl (lv_at hl 1 rfl) ?_
  refine cSi (w := cW cy a) (As := [.ref (cy 20), .int x1]) (rest := []) C hO (T_J1_charAt_3b067 l D cy a _ (by exact hJ) (x1) (by first | omega | decide)) (va_cwS 2 ht (gSS wd_579 wd_580 wd_123 wd_581) rfl rfl rfl hd_yJ1_charAt_3b067 ⟨Nat.le_of_ble_eq_true rfl, Nat.le_of_ble_eq_true rfl⟩)  rfl hl.1 (Nat.le_of_ble_eq_true rfl) dJ0_charAt_5068e_12 rfl ⟨Nat.zero_le _, Nat.zero_le _⟩ (fun r4 u5 H locs hp6 hO => ?_)
  obtain ⟨hr4, hu5⟩ := hp6
  rw [hu5] at hO
  refine hret _ _ _ _ _ _ dJ0_charAt_5068e_15 hr4 ?_ hO
  exact ⟨hr4, rfl⟩
theorem dJ1_canEncode_9a6ad_0 : decode cJ1_canEncode_9a6ad 0 = .ok (.iload_n 0, 1) := by decide +kernel
theorem dJ1_canEncode_9a6ad_1 : decode cJ1_canEncode_9a6ad 1 = .ok (.ifCond .lt 14, 3) := by decide +kernel
theorem dJ1_canEncode_9a6ad_4 : decode cJ1_canEncode_9a6ad 4 = .ok (.iload_n 0, 1) := by decide +kernel
theorem dJ1_canEncode_9a6ad_5 : decode cJ1_canEncode_9a6ad 5 = .ok (.sipush 255, 3) := by decide +kernel
theorem dJ1_canEncode_9a6ad_8 : decode cJ1_canEncode_9a6ad 8 = .ok (.if_icmp .gt 7, 3) := by decide +kernel
theorem dJ1_canEncode_9a6ad_11 : decode cJ1_canEncode_9a6ad 11 = .ok (.iconst 1, 1) := by decide +kernel
theorem dJ1_canEncode_9a6ad_12 : decode cJ1_canEncode_9a6ad 12 = .ok (.goto 4, 3) := by decide +kernel
theorem dJ1_canEncode_9a6ad_15 : decode cJ1_canEncode_9a6ad 15 = .ok (.iconst 0, 1) := by decide +kernel
theorem dJ1_canEncode_9a6ad_16 : decode cJ1_canEncode_9a6ad 16 = .ok (.ireturn, 1) := by decide +kernel
theorem wd_634 : (Cond.code ⟨"java/lang/StringLatin1", "canEncode", "(I)Z"⟩ prog_18_method_4_code (1 : Nat) (Option.some FieldType.boolean)) ∈ gtb := gtb_c3 45 (by decide +kernel) rfl
set_option maxHeartbeats 4000000 in
set_option maxRecDepth 100000 in
theorem T_J1_canEncode_9a6ad (l : Launch) (D : va_G) (cy : Nat → ClassId) (a : Nat → Nat) (u : St) (hJ : CI a u) (x1 : Int32)  : Mi l D cy (cW cy a) yJ1_canEncode_9a6ad (.code yJ1_canEncode_9a6ad cJ1_canEncode_9a6ad 1 (some .boolean)) (rmo 0 0) [.int x1] u (fun (r : Int32) (u' : St) => (r = 0 ∨ r = 1) ∧ (u' = u)) := by
  refine Mi.of (own := RJ1) rfl (by decide) (Nat.le_of_ble_eq_true rfl) ?_
  have hT : KT u u := KT.rf
  intro p e s m below meth c A Q ls C hret hO hl
  obtain ⟨hx, hb, hml, hown, ht, hK, hA⟩ := id C
  have hl : lv_has ls 1 [(0, .int x1)] := hl
  refine lv_iload_n hx hb dJ1_canEncode_9a6ad_0 rfl (lv_at hl 0 rfl) ?_
  refine bs_lt (tgt := 15) (X := (x1).toInt) hx hb dJ1_canEncode_9a6ad_1 (by decide) rfl (fun c1 => ?_) (fun c1 => ?_)
  · refine lv_iconst (v := 0) hx hb dJ1_canEncode_9a6ad_15 (by decide) ?_
    refine hret _ _ _ _ _ _ dJ1_canEncode_9a6ad_16 rfl ?_ hO
    exact ⟨Or.inl rfl, rfl⟩
  · refine lv_iload_n hx hb dJ1_canEncode_9a6ad_4 rfl (lv_at hl 0 rfl) ?_
    refine lv_sipush (v := 255) hx hb dJ1_canEncode_9a6ad_5 (by decide) ?_
    refine cs_gt (tgt := 15) (X := (x1).toInt) (Y := 255) hx hb dJ1_canEncode_9a6ad_8 (by decide) rfl rfl (fun c2 => ?_) (fun c2 => ?_)
    · refine lv_iconst (v := 0) hx hb dJ1_canEncode_9a6ad_15 (by decide) ?_
      refine hret _ _ _ _ _ _ dJ1_canEncode_9a6ad_16 rfl ?_ hO
      exact ⟨Or.inl rfl, rfl⟩
    · refine lv_iconst (v := 1) hx hb dJ1_canEncode_9a6ad_11 (by decide) ?_
      refine lv_goto (tgt := 16) hx hb dJ1_canEncode_9a6ad_12 (by decide) ?_
      refine hret _ _ _ _ _ _ dJ1_canEncode_9a6ad_16 rfl ?_ hO
      exact ⟨Or.inr rfl, rfl⟩
theorem dJ1_indexOfChar_4cfef_0 : decode cJ1_indexOfChar_4cfef 0 = .ok (.iload_n 1, 1) := by decide +kernel
theorem dJ1_indexOfChar_4cfef_1 : decode cJ1_indexOfChar_4cfef 1 = .ok (.i2b, 1) := by decide +kernel
theorem dJ1_indexOfChar_4cfef_2 : decode cJ1_indexOfChar_4cfef 2 = .ok (.istore 4, 2) := by decide +kernel
theorem dJ1_indexOfChar_4cfef_4 : decode cJ1_indexOfChar_4cfef 4 = .ok (.iload_n 2, 1) := by decide +kernel
theorem dJ1_indexOfChar_4cfef_5 : decode cJ1_indexOfChar_4cfef 5 = .ok (.istore 5, 2) := by decide +kernel
theorem dJ1_indexOfChar_4cfef_7 : decode cJ1_indexOfChar_4cfef 7 = .ok (.iload 5, 2) := by decide +kernel
theorem dJ1_indexOfChar_4cfef_9 : decode cJ1_indexOfChar_4cfef 9 = .ok (.iload_n 3, 1) := by decide +kernel
theorem dJ1_indexOfChar_4cfef_10 : decode cJ1_indexOfChar_4cfef 10 = .ok (.if_icmp .ge 21, 3) := by decide +kernel
theorem dJ1_indexOfChar_4cfef_13 : decode cJ1_indexOfChar_4cfef 13 = .ok (.aload_n 0, 1) := by decide +kernel
theorem dJ1_indexOfChar_4cfef_14 : decode cJ1_indexOfChar_4cfef 14 = .ok (.iload 5, 2) := by decide +kernel
theorem dJ1_indexOfChar_4cfef_16 : decode cJ1_indexOfChar_4cfef 16 = .ok (.baload, 1) := by decide +kernel
theorem dJ1_indexOfChar_4cfef_17 : decode cJ1_indexOfChar_4cfef 17 = .ok (.iload 4, 2) := by decide +kernel
theorem dJ1_indexOfChar_4cfef_19 : decode cJ1_indexOfChar_4cfef 19 = .ok (.if_icmp .ne 6, 3) := by decide +kernel
theorem dJ1_indexOfChar_4cfef_22 : decode cJ1_indexOfChar_4cfef 22 = .ok (.iload 5, 2) := by decide +kernel
theorem dJ1_indexOfChar_4cfef_24 : decode cJ1_indexOfChar_4cfef 24 = .ok (.ireturn, 1) := by decide +kernel
theorem dJ1_indexOfChar_4cfef_25 : decode cJ1_indexOfChar_4cfef 25 = .ok (.iinc 5 1, 3) := by decide +kernel
theorem dJ1_indexOfChar_4cfef_28 : decode cJ1_indexOfChar_4cfef 28 = .ok (.goto (-21), 3) := by decide +kernel
theorem dJ1_indexOfChar_4cfef_31 : decode cJ1_indexOfChar_4cfef 31 = .ok (.iconst (-1), 1) := by decide +kernel
theorem dJ1_indexOfChar_4cfef_32 : decode cJ1_indexOfChar_4cfef 32 = .ok (.ireturn, 1) := by decide +kernel
theorem wd_643 : (Cond.code ⟨"java/lang/StringLatin1", "indexOfChar", "([BIII)I"⟩ prog_18_method_23_code (6 : Nat) (Option.some FieldType.int)) ∈ gtb := gtb_c3 54 (by decide +kernel) rfl
set_option maxHeartbeats 4000000 in
set_option maxRecDepth 100000 in
theorem T_J1_indexOfChar_4cfef (l : Launch) (D : va_G) (cy : Nat → ClassId) (a : Nat → Nat) (u : St) (hJ : CI a u) (x2 : Int32)  : Mi l D cy (cW cy a) yJ1_indexOfChar_4cfef (.code yJ1_indexOfChar_4cfef cJ1_indexOfChar_4cfef 6 (some .int)) (rmo 0 0) [.ref (cy 21), .int x2, .int 0, .int 11] u (fun (r : Int32) (u' : St) => u' = u) := by
  refine Mi.of (own := RJ1) rfl (by decide) (Nat.le_of_ble_eq_true rfl) ?_
  have hT : KT u u := KT.rf
  intro p e s m below meth c A Q ls C hret hO hl
  obtain ⟨hx, hb, hml, hown, ht, hK, hA⟩ := id C
  have hl : lv_has ls 6 [(0, .ref (cy 21)), (1, .int x2), (2, .int 0), (3, .int 11)] := hl
  refine lv_iload_n hx hb dJ1_indexOfChar_4cfef_0 rfl (lv_at hl 1 rfl) ?_
  refine lv_i2b hx hb dJ1_indexOfChar_4cfef_1 rfl ?_
  refine lv_topi (fun z1 ez1 => ?_)
  refine lv_istore (lv' := [(4, .int z1), (0, .ref (cy 21)), (1, .int x2), (2, .int 0), (3, .int 11)]) hx hb dJ1_indexOfChar_4cfef_2 hl (by decide) rfl (fun ls hl => ?_)
  refine lv_iload_n hx hb dJ1_indexOfChar_4cfef_4 rfl (lv_at hl 3 rfl) ?_
  refine lv_istore (lv' := [(5, .int 0), (4, .int z1), (0, .ref (cy 21)), (1, .int x2), (2, .int 0), (3, .int 11)]) hx hb dJ1_indexOfChar_4cfef_5 hl (by decide) rfl (fun ls hl => ?_)
  have LP_7_k2 : ∀ (n : Nat) (H : Heap) (locs : List Loc) (ls : Array Slot) (i_k2 : Int32), Wo D A (cW cy a u) s.heap H locs → lv_has ls 6 [(5, .int i_k2), (4, .int z1), (0, .ref (cy 21)), (1, .int x2), (2, .int 0), (3, .int 11)] → 0 ≤ i_k2.toInt ∧ i_k2.toInt ≤ 11 → 11 - i_k2.toInt < (n : Int) → W p l e (rmo 0 0) s m [.ref (cy 21), .int x2, .int 0, .int 11].toArray below meth c H locs 0 0 Q (F0 m 7 ls []) := by
    intro n
    induction n with
    | zero =>
      intro H locs ls i_k2 hO hl iv0_k2 hm_k2
      exact absurd hm_k2 (by omega)
    | succ n ih_k2 =>
      intro H locs ls i_k2 hO hl iv0_k2 hm_k2
      refine lv_iload hx hb dJ1_indexOfChar_4cfef_7 (lv_at hl 0 rfl) ?_
      refine lv_iload_n hx hb dJ1_indexOfChar_4cfef_9 rfl (lv_at hl 5 rfl) ?_
      refine cs_ge (tgt := 31) (X := (i_k2).toInt) (Y := 11) hx hb dJ1_indexOfChar_4cfef_10 (by decide) rfl rfl (fun c3 => ?_) (fun c3 => ?_)
      · refine lv_iconst (v := (-1)) hx hb dJ1_indexOfChar_4cfef_31 (by decide) ?_
        refine hret _ _ _ _ _ _ dJ1_indexOfChar_4cfef_32 rfl ?_ hO
        exact rfl
      · refine lv_aload_n hx hb dJ1_indexOfChar_4cfef_13 rfl (lv_at hl 2 rfl) ?_
        refine lv_iload hx hb dJ1_indexOfChar_4cfef_14 (lv_at hl 0 rfl) ?_
        refine va_tb (N := 11) hx hb (hA.2.1.1 1 (by decide)).2.2.2 hO.2.2 (i_in (X := (i_k2).toInt) rfl (by omega) (by omega)) rfl dJ1_indexOfChar_4cfef_16 ?_
        refine lv_topi (fun w4 ew4 => ?_)
        refine lv_iload hx hb dJ1_indexOfChar_4cfef_17 (lv_at hl 1 rfl) ?_
        refine cs_ne (tgt := 25) (X := (w4).toInt) (Y := (z1).toInt) hx hb dJ1_indexOfChar_4cfef_19 (by decide) rfl rfl (fun c5 => ?_) (fun c5 => ?_)
        · have e6 : ((i_k2 + 1)).toInt = (i_k2).toInt + 1 := i_add rfl rfl (by omega)
          refine lv_iinc (v := (i_k2 + 1)) (lv' := [(5, .int (i_k2 + 1)), (4, .int z1), (0, .ref (cy 21)), (1, .int x2), (2, .int 0), (3, .int 11)]) hx hb dJ1_indexOfChar_4cfef_25 hl (k := 0) rfl rfl (by decide) rfl (fun ls hl => ?_)
          refine lv_goto (tgt := 7) hx hb dJ1_indexOfChar_4cfef_28 (by decide) ?_
          exact ih_k2 _ _ _ ((i_k2 + 1)) hO (lv_sub hl [0, 1, 2, 3, 4, 5] rfl) (by first | decide | omega) (by first | decide | omega)
        · refine lv_iload hx hb dJ1_indexOfChar_4cfef_22 (lv_at hl 0 rfl) ?_
          refine hret _ _ _ _ _ _ dJ1_indexOfChar_4cfef_24 rfl ?_ hO
          exact rfl
  exact LP_7_k2 4000 _ _ _ (0) hO (lv_sub hl [0, 1, 2, 3, 4, 5] rfl) (by first | decide | omega) (by first | decide | omega)
theorem dJ1_indexOf_4cfef_0 : decode cJ1_indexOf_4cfef 0 = .ok (.iload_n 1, 1) := by decide +kernel
theorem dJ1_indexOf_4cfef_1 : decode cJ1_indexOf_4cfef 1 = .ok (.invokestatic 88, 3) := by decide +kernel
theorem dJ1_indexOf_4cfef_4 : decode cJ1_indexOf_4cfef 4 = .ok (.ifCond .ne 5, 3) := by decide +kernel
theorem dJ1_indexOf_4cfef_7 : decode cJ1_indexOf_4cfef 7 = .ok (.iconst (-1), 1) := by decide +kernel
theorem dJ1_indexOf_4cfef_8 : decode cJ1_indexOf_4cfef 8 = .ok (.ireturn, 1) := by decide +kernel
theorem dJ1_indexOf_4cfef_9 : decode cJ1_indexOf_4cfef 9 = .ok (.iload_n 2, 1) := by decide +kernel
theorem dJ1_indexOf_4cfef_10 : decode cJ1_indexOf_4cfef 10 = .ok (.iconst 0, 1) := by decide +kernel
theorem dJ1_indexOf_4cfef_11 : decode cJ1_indexOf_4cfef 11 = .ok (.invokestatic 92, 3) := by decide +kernel
theorem dJ1_indexOf_4cfef_14 : decode cJ1_indexOf_4cfef 14 = .ok (.istore_n 2, 1) := by decide +kernel
theorem dJ1_indexOf_4cfef_15 : decode cJ1_indexOf_4cfef 15 = .ok (.iload_n 3, 1) := by decide +kernel
theorem dJ1_indexOf_4cfef_16 : decode cJ1_indexOf_4cfef 16 = .ok (.aload_n 0, 1) := by decide +kernel
theorem dJ1_indexOf_4cfef_17 : decode cJ1_indexOf_4cfef 17 = .ok (.arraylength, 1) := by decide +kernel
theorem dJ1_indexOf_4cfef_18 : decode cJ1_indexOf_4cfef 18 = .ok (.invokestatic 38, 3) := by decide +kernel
theorem dJ1_indexOf_4cfef_21 : decode cJ1_indexOf_4cfef 21 = .ok (.istore_n 3, 1) := by decide +kernel
theorem dJ1_indexOf_4cfef_22 : decode cJ1_indexOf_4cfef 22 = .ok (.iload_n 2, 1) := by decide +kernel
theorem dJ1_indexOf_4cfef_23 : decode cJ1_indexOf_4cfef 23 = .ok (.iload_n 3, 1) := by decide +kernel
theorem dJ1_indexOf_4cfef_24 : decode cJ1_indexOf_4cfef 24 = .ok (.if_icmp .lt 5, 3) := by decide +kernel
theorem dJ1_indexOf_4cfef_27 : decode cJ1_indexOf_4cfef 27 = .ok (.iconst (-1), 1) := by decide +kernel
theorem dJ1_indexOf_4cfef_28 : decode cJ1_indexOf_4cfef 28 = .ok (.ireturn, 1) := by decide +kernel
theorem dJ1_indexOf_4cfef_29 : decode cJ1_indexOf_4cfef 29 = .ok (.aload_n 0, 1) := by decide +kernel
theorem dJ1_indexOf_4cfef_30 : decode cJ1_indexOf_4cfef 30 = .ok (.iload_n 1, 1) := by decide +kernel
theorem dJ1_indexOf_4cfef_31 : decode cJ1_indexOf_4cfef 31 = .ok (.iload_n 2, 1) := by decide +kernel
theorem dJ1_indexOf_4cfef_32 : decode cJ1_indexOf_4cfef 32 = .ok (.iload_n 3, 1) := by decide +kernel
theorem dJ1_indexOf_4cfef_33 : decode cJ1_indexOf_4cfef 33 = .ok (.invokestatic 95, 3) := by decide +kernel
theorem dJ1_indexOf_4cfef_36 : decode cJ1_indexOf_4cfef 36 = .ok (.ireturn, 1) := by decide +kernel
theorem wd_631 : (Cond.code ⟨"java/lang/StringLatin1", "indexOf", "([BIII)I"⟩ prog_18_method_22_code (4 : Nat) (Option.some FieldType.int)) ∈ gtb := gtb_c3 42 (by decide +kernel) rfl
theorem wd_632 : (Cond.methodLink "java/lang/StringLatin1" (88 : Nat) ⟨"java/lang/StringLatin1", "canEncode", "(I)Z"⟩) ∈ gtb := gtb_c3 43 (by decide +kernel) rfl
theorem wd_633 : (Cond.static ⟨"java/lang/StringLatin1", "canEncode", "(I)Z"⟩) ∈ gtb := gtb_c3 44 (by decide +kernel) rfl
theorem hd_yJ1_canEncode_9a6ad : yJ1_canEncode_9a6ad.cls ≠ "java/lang/invoke/MethodHandle" ∧ yJ1_canEncode_9a6ad.cls ≠ "java/lang/invoke/VarHandle" ∧ (parseMethodDescriptor yJ1_canEncode_9a6ad.desc).map (fun d => d.parameters.length) = some 1 := by decide +kernel
theorem wd_635 : (Cond.methodLink "java/lang/StringLatin1" (92 : Nat) ⟨"java/lang/Math", "max", "(II)I"⟩) ∈ gtb := gtb_c3 46 (by decide +kernel) rfl
theorem wd_638 : (Cond.methodLink "java/lang/StringLatin1" (38 : Nat) ⟨"java/lang/Math", "min", "(II)I"⟩) ∈ gtb := gtb_c3 49 (by decide +kernel) rfl
theorem wd_641 : (Cond.methodLink "java/lang/StringLatin1" (95 : Nat) ⟨"java/lang/StringLatin1", "indexOfChar", "([BIII)I"⟩) ∈ gtb := gtb_c3 52 (by decide +kernel) rfl
theorem wd_642 : (Cond.static ⟨"java/lang/StringLatin1", "indexOfChar", "([BIII)I"⟩) ∈ gtb := gtb_c3 53 (by decide +kernel) rfl
theorem hd_yJ1_indexOfChar_4cfef : yJ1_indexOfChar_4cfef.cls ≠ "java/lang/invoke/MethodHandle" ∧ yJ1_indexOfChar_4cfef.cls ≠ "java/lang/invoke/VarHandle" ∧ (parseMethodDescriptor yJ1_indexOfChar_4cfef.desc).map (fun d => d.parameters.length) = some 4 := by decide +kernel
set_option maxHeartbeats 4000000 in
set_option maxRecDepth 100000 in
theorem T_J1_indexOf_4cfef (l : Launch) (D : va_G) (cy : Nat → ClassId) (a : Nat → Nat) (u : St) (hJ : CI a u) (x2 : Int32)  : Mi l D cy (cW cy a) yJ1_indexOf_4cfef (.code yJ1_indexOf_4cfef cJ1_indexOf_4cfef 4 (some .int)) (rmo 1 25) [.ref (cy 21), .int x2, .int 0, .int 11] u (fun (r : Int32) (u' : St) => u' = u) := by
  refine Mi.of (own := RJ1) rfl (by decide) (Nat.le_of_ble_eq_true rfl) ?_
  have hT : KT u u := KT.rf
  intro p e s m below meth c A Q ls C hret hO hl
  obtain ⟨hx, hb, hml, hown, ht, hK, hA⟩ := id C
  have hl : lv_has ls 4 [(0, .ref (cy 21)), (1, .int x2), (2, .int 0), (3, .int 11)] := hl
  refine lv_iload_n hx hb dJ1_indexOf_4cfef_0 rfl (lv_at hl 1 rfl) ?_
  refine cSi (w := cW cy a) (As := [.int x2]) (rest := []) C hO (T_J1_canEncode_9a6ad l D cy a _ (by exact hJ) (x2)) (va_cwS 1 ht (gSS wd_632 wd_633 wd_123 wd_634) rfl rfl rfl hd_yJ1_canEncode_9a6ad ⟨Nat.le_of_ble_eq_true rfl, Nat.le_of_ble_eq_true rfl⟩)  rfl hl.1 (Nat.le_of_ble_eq_true rfl) dJ1_indexOf_4cfef_1 rfl ⟨Nat.zero_le _, Nat.zero_le _⟩ (fun r1 u2 H locs hp3 hO => ?_)
  obtain ⟨hr1, hu2⟩ := hp3
  have gr1 : 0 ≤ r1.toInt ∧ r1.toInt ≤ 1 := by rcases hr1 with h | h <;> rw [h] <;> decide
  rw [hu2] at hO
  refine bs_ne (tgt := 9) (X := (r1).toInt) hx hb dJ1_indexOf_4cfef_4 (by decide) rfl (fun c4 => ?_) (fun c4 => ?_)
  · refine lv_iload_n hx hb dJ1_indexOf_4cfef_9 rfl (lv_at hl 2 rfl) ?_
    refine lv_iconst (v := 0) hx hb dJ1_indexOf_4cfef_10 (by decide) ?_
    refine va_mmax hx hb (by rw [hml]; exact hl.1.symm) hown (ht _ wd_635) (ht _ wd_636) (ht _ wd_126) (ht _ wd_637) (Nat.le_of_ble_eq_true rfl) (Nat.le_of_ble_eq_true rfl) (Nat.zero_le _) (Nat.zero_le _) dJ1_indexOf_4cfef_11 ?_
    refine tE (y := 0) (by decide) ?_
    refine lv_istore_n (lv' := [(2, .int 0), (0, .ref (cy 21)), (1, .int x2), (3, .int 11)]) hx hb dJ1_indexOf_4cfef_14 rfl hl (by decide) rfl (fun ls hl => ?_)
    refine lv_iload_n hx hb dJ1_indexOf_4cfef_15 rfl (lv_at hl 3 rfl) ?_
    refine lv_aload_n hx hb dJ1_indexOf_4cfef_16 rfl (lv_at hl 1 rfl) ?_
    refine va_tlen (v := 11) hx hb (hA.2.1.1 1 (by decide)).2.2.2 hO.2.2 rfl dJ1_indexOf_4cfef_17 ?_
    refine va_mmin hx hb (by rw [hml]; exact hl.1.symm) hown (ht _ wd_638) (ht _ wd_639) (ht _ wd_126) (ht _ wd_640) (Nat.le_of_ble_eq_true rfl) (Nat.le_of_ble_eq_true rfl) (Nat.zero_le _) (Nat.zero_le _) dJ1_indexOf_4cfef_18 ?_
    refine tE (y := 11) (by decide) ?_
    refine lv_istore_n (lv' := [(3, .int 11), (2, .int 0), (0, .ref (cy 21)), (1, .int x2)]) hx hb dJ1_indexOf_4cfef_21 rfl hl (by decide) rfl (fun ls hl => ?_)
    refine lv_iload_n hx hb dJ1_indexOf_4cfef_22 rfl (lv_at hl 1 rfl) ?_
    refine lv_iload_n hx hb dJ1_indexOf_4cfef_23 rfl (lv_at hl 0 rfl) ?_
    refine ct_lt (tgt := 29) (X := 0) (Y := 11) hx hb dJ1_indexOf_4cfef_24 (by decide) rfl rfl (by omega) ?_
    refine lv_aload_n hx hb dJ1_indexOf_4cfef_29 rfl (lv_at hl 2 rfl) ?_
    refine lv_iload_n hx hb dJ1_indexOf_4cfef_30 rfl (lv_at hl 3 rfl) ?_
    refine lv_iload_n hx hb dJ1_indexOf_4cfef_31 rfl (lv_at hl 1 rfl) ?_
    refine lv_iload_n hx hb dJ1_indexOf_4cfef_32 rfl (lv_at hl 0 rfl) ?_
    refine cSi (w := cW cy a) (As := [.ref (cy 21), .int x2, .int 0, .int 11]) (rest := []) C hO (T_J1_indexOfChar_4cfef l D cy a _ (by exact hJ) (x2)) (va_cwS 4 ht (gSS wd_641 wd_642 wd_123 wd_643) rfl rfl rfl hd_yJ1_indexOfChar_4cfef ⟨Nat.le_of_ble_eq_true rfl, Nat.le_of_ble_eq_true rfl⟩)  rfl hl.1 (Nat.le_of_ble_eq_true rfl) dJ1_indexOf_4cfef_33 rfl ⟨Nat.zero_le _, Nat.zero_le _⟩ (fun r5 u6 H locs hp7 hO => ?_)
    have hu6 := hp7
    rw [hu6] at hO
    refine hret _ _ _ _ _ _ dJ1_indexOf_4cfef_36 rfl ?_ hO
    exact rfl
  · refine lv_iconst (v := (-1)) hx hb dJ1_indexOf_4cfef_7 (by decide) ?_
    refine hret _ _ _ _ _ _ dJ1_indexOf_4cfef_8 rfl ?_ hO
    exact rfl
theorem dJ0_indexOf_7cf53_0 : decode cJ0_indexOf_7cf53 0 = .ok (.aload_n 0, 1) := by decide +kernel
theorem dJ0_indexOf_7cf53_1 : decode cJ0_indexOf_7cf53 1 = .ok (.invokevirtual 492, 3) := by decide +kernel
theorem dJ0_indexOf_7cf53_4 : decode cJ0_indexOf_7cf53 4 = .ok (.ifCond .eq 19, 3) := by decide +kernel
theorem dJ0_indexOf_7cf53_7 : decode cJ0_indexOf_7cf53 7 = .ok (.aload_n 0, 1) := by decide +kernel
theorem dJ0_indexOf_7cf53_8 : decode cJ0_indexOf_7cf53 8 = .ok (.getfield 9, 3) := by decide +kernel
theorem dJ0_indexOf_7cf53_11 : decode cJ0_indexOf_7cf53 11 = .ok (.iload_n 1, 1) := by decide +kernel
theorem dJ0_indexOf_7cf53_12 : decode cJ0_indexOf_7cf53 12 = .ok (.iload_n 2, 1) := by decide +kernel
theorem dJ0_indexOf_7cf53_13 : decode cJ0_indexOf_7cf53 13 = .ok (.aload_n 0, 1) := by decide +kernel
theorem dJ0_indexOf_7cf53_14 : decode cJ0_indexOf_7cf53 14 = .ok (.invokevirtual 505, 3) := by decide +kernel
theorem dJ0_indexOf_7cf53_17 : decode cJ0_indexOf_7cf53 17 = .ok (.invokestatic 637, 3) := by decide +kernel
theorem dJ0_indexOf_7cf53_20 : decode cJ0_indexOf_7cf53 20 = .ok (.goto 16, 3) := by decide +kernel
theorem dJ0_indexOf_7cf53_23 : decode cJ0_indexOf_7cf53 23 = .ok (.aload_n 0, 1) := by decide +kernel
theorem dJ0_indexOf_7cf53_24 : decode cJ0_indexOf_7cf53 24 = .ok (.getfield 9, 3) := by decide +kernel
theorem dJ0_indexOf_7cf53_27 : decode cJ0_indexOf_7cf53 27 = .ok (.iload_n 1, 1) := by decide +kernel
theorem dJ0_indexOf_7cf53_28 : decode cJ0_indexOf_7cf53 28 = .ok (.iload_n 2, 1) := by decide +kernel
theorem dJ0_indexOf_7cf53_29 : decode cJ0_indexOf_7cf53 29 = .ok (.aload_n 0, 1) := by decide +kernel
theorem dJ0_indexOf_7cf53_30 : decode cJ0_indexOf_7cf53 30 = .ok (.invokevirtual 505, 3) := by decide +kernel
theorem dJ0_indexOf_7cf53_33 : decode cJ0_indexOf_7cf53 33 = .ok (.invokestatic 640, 3) := by decide +kernel
theorem dJ0_indexOf_7cf53_36 : decode cJ0_indexOf_7cf53 36 = .ok (.ireturn, 1) := by decide +kernel
theorem wd_627 : (Cond.code ⟨"java/lang/String", "indexOf", "(II)I"⟩ prog_17_method_80_code (3 : Nat) (Option.some FieldType.int)) ∈ gtb := gtb_c3 38 (by decide +kernel) rfl
theorem wd_628 : (Cond.methodLink "java/lang/String" (505 : Nat) ⟨"java/lang/String", "length", "()I"⟩) ∈ gtb := gtb_c3 39 (by decide +kernel) rfl
theorem wd_562 : (Cond.instanceMethod ⟨"java/lang/String", "length", "()I"⟩) ∈ gtb := gtb_c2 213 (by decide +kernel) rfl
theorem wd_563 : (Cond.selects "java/lang/String" ⟨"java/lang/String", "length", "()I"⟩ ⟨"java/lang/String", "length", "()I"⟩) ∈ gtb := gtb_c2 214 (by decide +kernel) rfl
theorem hd_yJ0_length_8abf5 : yJ0_length_8abf5.cls = RJ0 ∧ yJ0_length_8abf5.cls ≠ "java/lang/invoke/MethodHandle" ∧ yJ0_length_8abf5.cls ≠ "java/lang/invoke/VarHandle" ∧ (parseMethodDescriptor yJ0_length_8abf5.desc).map (fun d => d.parameters.length) = some 0 := by decide +kernel
theorem wd_629 : (Cond.methodLink "java/lang/String" (637 : Nat) ⟨"java/lang/StringLatin1", "indexOf", "([BIII)I"⟩) ∈ gtb := gtb_c3 40 (by decide +kernel) rfl
theorem wd_630 : (Cond.static ⟨"java/lang/StringLatin1", "indexOf", "([BIII)I"⟩) ∈ gtb := gtb_c3 41 (by decide +kernel) rfl
theorem hd_yJ1_indexOf_4cfef : yJ1_indexOf_4cfef.cls ≠ "java/lang/invoke/MethodHandle" ∧ yJ1_indexOf_4cfef.cls ≠ "java/lang/invoke/VarHandle" ∧ (parseMethodDescriptor yJ1_indexOf_4cfef.desc).map (fun d => d.parameters.length) = some 4 := by decide +kernel
set_option maxHeartbeats 4000000 in
set_option maxRecDepth 100000 in
theorem T_J0_indexOf_7cf53 (l : Launch) (D : va_G) (cy : Nat → ClassId) (a : Nat → Nat) (u : St) (hJ : CI a u) (x1 : Int32)  : Mi l D cy (cW cy a) yJ0_indexOf_7cf53 (.code yJ0_indexOf_7cf53 cJ0_indexOf_7cf53 3 (some .int)) (rmo 2 48) [.ref (cy 11), .int x1, .int 0] u (fun (r : Int32) (u' : St) => u' = u) := by
  refine Mi.of (own := RJ0) rfl (by decide) (Nat.le_of_ble_eq_true rfl) ?_
  have hT : KT u u := KT.rf
  intro p e s m below meth c A Q ls C hret hO hl
  obtain ⟨hx, hb, hml, hown, ht, hK, hA⟩ := id C
  have hl : lv_has ls 3 [(0, .ref (cy 11)), (1, .int x1), (2, .int 0)] := hl
  refine lv_aload_n hx hb dJ0_indexOf_7cf53_0 rfl (lv_at hl 0 rfl) ?_
  refine cKi (w := cW cy a) (As := []) (rest := []) C hO (T_J0_isLatin1_aae02_1 l D cy a _ (by exact hJ)) (cwV 0 ht (gV wd_575 wd_576 wd_577 wd_122 wd_578) rfl rfl rfl hd_yJ0_isLatin1_aae02 ⟨Nat.le_of_ble_eq_true rfl, Nat.le_of_ble_eq_true rfl⟩) 1 (by decide) rfl rfl rfl hl.1 (Nat.le_of_ble_eq_true rfl) dJ0_indexOf_7cf53_1 rfl ⟨Nat.zero_le _, Nat.zero_le _⟩ (fun r1 u2 H locs hp3 hO => ?_)
  obtain ⟨hr1, hu2⟩ := hp3
  subst hr1
  rw [hu2] at hO
  refine bn_eq (X := 1) hx hb dJ0_indexOf_7cf53_4 rfl (by omega) ?_ (tgt := 23) (by decide)
  refine lv_aload_n hx hb dJ0_indexOf_7cf53_7 rfl (lv_at hl 0 rfl) ?_
  refine vk_getf (o := "java/lang/String") (n := "value") (d := "[B") (ref := "java/lang/String") (v := .ref (cy 21)) hx hb (hA.2.1.1 1 (by decide)).2.2.1 hO.2.2 hown (ht _ wd_2036) (fun x h => h) dJ0_indexOf_7cf53_8 ?_
  refine lv_iload_n hx hb dJ0_indexOf_7cf53_11 rfl (lv_at hl 1 rfl) ?_
  refine lv_iload_n hx hb dJ0_indexOf_7cf53_12 rfl (lv_at hl 2 rfl) ?_
  refine lv_aload_n hx hb dJ0_indexOf_7cf53_13 rfl (lv_at hl 0 rfl) ?_
  refine cKi (w := cW cy a) (As := []) (rest := [.int 0, .int x1, .ref (cy 21)]) C hO (T_J0_length_8abf5_1 l D cy a _ (by exact hJ)) (cwV 0 ht (gV wd_628 wd_562 wd_563 wd_122 wd_564) rfl rfl rfl hd_yJ0_length_8abf5 ⟨Nat.le_of_ble_eq_true rfl, Nat.le_of_ble_eq_true rfl⟩) 1 (by decide) rfl rfl rfl hl.1 (Nat.le_of_ble_eq_true rfl) dJ0_indexOf_7cf53_14 rfl ⟨Nat.zero_le _, Nat.zero_le _⟩ (fun r4 u5 H locs hp6 hO => ?_)
  obtain ⟨hr4, hu5⟩ := hp6
  subst hr4
  rw [hu5] at hO
  refine cSi (w := cW cy a) (As := [.ref (cy 21), .int x1, .int 0, .int 11]) (rest := []) C hO (T_J1_indexOf_4cfef l D cy a _ (by exact hJ) (x1)) (va_cwS 4 ht (gSS wd_629 wd_630 wd_123 wd_631) rfl rfl rfl hd_yJ1_indexOf_4cfef ⟨Nat.le_of_ble_eq_true rfl, Nat.le_of_ble_eq_true rfl⟩)  rfl hl.1 (Nat.le_of_ble_eq_true rfl) dJ0_indexOf_7cf53_17 rfl ⟨Nat.zero_le _, Nat.zero_le _⟩ (fun r7 u8 H locs hp9 hO => ?_)
  have hu8 := hp9
  rw [hu8] at hO
  refine lv_goto (tgt := 36) hx hb dJ0_indexOf_7cf53_20 (by decide) ?_
  refine hret _ _ _ _ _ _ dJ0_indexOf_7cf53_36 rfl ?_ hO
  exact rfl
theorem dJ0_indexOf_0f7a4_0 : decode cJ0_indexOf_0f7a4 0 = .ok (.aload_n 0, 1) := by decide +kernel
theorem dJ0_indexOf_0f7a4_1 : decode cJ0_indexOf_0f7a4 1 = .ok (.iload_n 1, 1) := by decide +kernel
theorem dJ0_indexOf_0f7a4_2 : decode cJ0_indexOf_0f7a4 2 = .ok (.iconst 0, 1) := by decide +kernel
theorem dJ0_indexOf_0f7a4_3 : decode cJ0_indexOf_0f7a4 3 = .ok (.invokevirtual 633, 3) := by decide +kernel
theorem dJ0_indexOf_0f7a4_6 : decode cJ0_indexOf_0f7a4 6 = .ok (.ireturn, 1) := by decide +kernel
theorem wd_623 : (Cond.code ⟨"java/lang/String", "indexOf", "(I)I"⟩ prog_17_method_79_code (2 : Nat) (Option.some FieldType.int)) ∈ gtb := gtb_c3 34 (by decide +kernel) rfl
theorem wd_624 : (Cond.methodLink "java/lang/String" (633 : Nat) ⟨"java/lang/String", "indexOf", "(II)I"⟩) ∈ gtb := gtb_c3 35 (by decide +kernel) rfl
theorem wd_625 : (Cond.instanceMethod ⟨"java/lang/String", "indexOf", "(II)I"⟩) ∈ gtb := gtb_c3 36 (by decide +kernel) rfl
theorem wd_626 : (Cond.selects "java/lang/String" ⟨"java/lang/String", "indexOf", "(II)I"⟩ ⟨"java/lang/String", "indexOf", "(II)I"⟩) ∈ gtb := gtb_c3 37 (by decide +kernel) rfl
theorem hd_yJ0_indexOf_7cf53 : yJ0_indexOf_7cf53.cls = RJ0 ∧ yJ0_indexOf_7cf53.cls ≠ "java/lang/invoke/MethodHandle" ∧ yJ0_indexOf_7cf53.cls ≠ "java/lang/invoke/VarHandle" ∧ (parseMethodDescriptor yJ0_indexOf_7cf53.desc).map (fun d => d.parameters.length) = some 2 := by decide +kernel
set_option maxHeartbeats 4000000 in
set_option maxRecDepth 100000 in
theorem T_J0_indexOf_0f7a4 (l : Launch) (D : va_G) (cy : Nat → ClassId) (a : Nat → Nat) (u : St) (hJ : CI a u) (x1 : Int32)  : Mi l D cy (cW cy a) yJ0_indexOf_0f7a4 (.code yJ0_indexOf_0f7a4 cJ0_indexOf_0f7a4 2 (some .int)) (rmo 3 70) [.ref (cy 11), .int x1] u (fun (r : Int32) (u' : St) => u' = u) := by
  refine Mi.of (own := RJ0) rfl (by decide) (Nat.le_of_ble_eq_true rfl) ?_
  have hT : KT u u := KT.rf
  intro p e s m below meth c A Q ls C hret hO hl
  obtain ⟨hx, hb, hml, hown, ht, hK, hA⟩ := id C
  have hl : lv_has ls 2 [(0, .ref (cy 11)), (1, .int x1)] := hl
  refine lv_aload_n hx hb dJ0_indexOf_0f7a4_0 rfl (lv_at hl 0 rfl) ?_
  refine lv_iload_n hx hb dJ0_indexOf_0f7a4_1 rfl (lv_at hl 1 rfl) ?_
  refine lv_iconst (v := 0) hx hb dJ0_indexOf_0f7a4_2 (by decide) ?_
  refine cKi (w := cW cy a) (As := [.int x1, .int 0]) (rest := []) C hO (T_J0_indexOf_7cf53 l D cy a _ (by exact hJ) (x1)) (cwV 2 ht (gV wd_624 wd_625 wd_626 wd_122 wd_627) rfl rfl rfl hd_yJ0_indexOf_7cf53 ⟨Nat.le_of_ble_eq_true rfl, Nat.le_of_ble_eq_true rfl⟩) 1 (by decide) rfl rfl rfl hl.1 (Nat.le_of_ble_eq_true rfl) dJ0_indexOf_0f7a4_3 rfl ⟨Nat.zero_le _, Nat.zero_le _⟩ (fun r1 u2 H locs hp3 hO => ?_)
  have hu2 := hp3
  rw [hu2] at hO
  refine hret _ _ _ _ _ _ dJ0_indexOf_0f7a4_6 rfl ?_ hO
  exact rfl
