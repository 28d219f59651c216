theorem dX7_isBlank_0 : decode cX7_isBlank 0 = .ok (.iload_n 0, 1) := by decide +kernel
theorem dX7_isBlank_1 : decode cX7_isBlank 1 = .ok (.bipush 32, 2) := by decide +kernel
theorem dX7_isBlank_3 : decode cX7_isBlank 3 = .ok (.if_icmp .eq 9, 3) := by decide +kernel
theorem dX7_isBlank_6 : decode cX7_isBlank 6 = .ok (.iload_n 0, 1) := by decide +kernel
theorem dX7_isBlank_7 : decode cX7_isBlank 7 = .ok (.bipush 10, 2) := by decide +kernel
theorem dX7_isBlank_9 : decode cX7_isBlank 9 = .ok (.if_icmp .ne 7, 3) := by decide +kernel
theorem dX7_isBlank_12 : decode cX7_isBlank 12 = .ok (.iconst 1, 1) := by decide +kernel
theorem dX7_isBlank_13 : decode cX7_isBlank 13 = .ok (.goto 4, 3) := by decide +kernel
theorem dX7_isBlank_16 : decode cX7_isBlank 16 = .ok (.iconst 0, 1) := by decide +kernel
theorem dX7_isBlank_17 : decode cX7_isBlank 17 = .ok (.ireturn, 1) := by decide +kernel
theorem wd_546 : (Cond.code ⟨"WebCourt$Tape", "isBlank", "(I)Z"⟩ prog_9_method_8_code (1 : Nat) (Option.some FieldType.boolean)) ∈ gtb := gtb_c2 197 (by decide +kernel) rfl
set_option maxHeartbeats 4000000 in
set_option maxRecDepth 100000 in
theorem T_X7_isBlank (l : Launch) (D : va_G) (cy : Nat → ClassId) (a : Nat → Nat) (u : St) (hJ : CI a u) (x1 : Int32)  : Mi l D cy (cW cy a) yX7_isBlank (.code yX7_isBlank cX7_isBlank 1 (some .boolean)) (rmo 0 0) [.int x1] u (fun (r : Int32) (u' : St) => (r = 0 ∨ r = 1) ∧ (u' = u)) := by
  refine Mi.of (own := RX7) rfl (by decide) (Nat.le_of_ble_eq_true rfl) ?_
  have hT : KT u u := KT.rf
  intro p e s m below meth c A Q ls C hret hO hl
  obtain ⟨hx, hb, hml, hown, ht, hK, hA⟩ := id C
  have hl : lv_has ls 1 [(0, .int x1)] := hl
  refine lv_iload_n hx hb dX7_isBlank_0 rfl (lv_at hl 0 rfl) ?_
  refine lv_bipush (v := 32) hx hb dX7_isBlank_1 (by decide) ?_
  refine cs_eq (tgt := 12) (X := (x1).toInt) (Y := 32) hx hb dX7_isBlank_3 (by decide) rfl rfl (fun c1 => ?_) (fun c1 => ?_)
  · refine lv_iconst (v := 1) hx hb dX7_isBlank_12 (by decide) ?_
    refine lv_goto (tgt := 17) hx hb dX7_isBlank_13 (by decide) ?_
    refine hret _ _ _ _ _ _ dX7_isBlank_17 rfl ?_ hO
    exact ⟨Or.inr rfl, rfl⟩
  · refine lv_iload_n hx hb dX7_isBlank_6 rfl (lv_at hl 0 rfl) ?_
    refine lv_bipush (v := 10) hx hb dX7_isBlank_7 (by decide) ?_
    refine cs_ne (tgt := 16) (X := (x1).toInt) (Y := 10) hx hb dX7_isBlank_9 (by decide) rfl rfl (fun c2 => ?_) (fun c2 => ?_)
    · refine lv_iconst (v := 0) hx hb dX7_isBlank_16 (by decide) ?_
      refine hret _ _ _ _ _ _ dX7_isBlank_17 rfl ?_ hO
      exact ⟨Or.inl rfl, rfl⟩
    · refine lv_iconst (v := 1) hx hb dX7_isBlank_12 (by decide) ?_
      refine lv_goto (tgt := 17) hx hb dX7_isBlank_13 (by decide) ?_
      refine hret _ _ _ _ _ _ dX7_isBlank_17 rfl ?_ hO
      exact ⟨Or.inr rfl, rfl⟩
theorem dX7_isLetter_0 : decode cX7_isLetter 0 = .ok (.iload_n 0, 1) := by decide +kernel
theorem dX7_isLetter_1 : decode cX7_isLetter 1 = .ok (.bipush 97, 2) := by decide +kernel
theorem dX7_isLetter_3 : decode cX7_isLetter 3 = .ok (.if_icmp .lt 13, 3) := by decide +kernel
theorem dX7_isLetter_6 : decode cX7_isLetter 6 = .ok (.iload_n 0, 1) := by decide +kernel
theorem dX7_isLetter_7 : decode cX7_isLetter 7 = .ok (.bipush 122, 2) := by decide +kernel
theorem dX7_isLetter_9 : decode cX7_isLetter 9 = .ok (.if_icmp .gt 7, 3) := by decide +kernel
theorem dX7_isLetter_12 : decode cX7_isLetter 12 = .ok (.iconst 1, 1) := by decide +kernel
theorem dX7_isLetter_13 : decode cX7_isLetter 13 = .ok (.goto 4, 3) := by decide +kernel
theorem dX7_isLetter_16 : decode cX7_isLetter 16 = .ok (.iconst 0, 1) := by decide +kernel
theorem dX7_isLetter_17 : decode cX7_isLetter 17 = .ok (.ireturn, 1) := by decide +kernel
theorem wd_549 : (Cond.code ⟨"WebCourt$Tape", "isLetter", "(I)Z"⟩ prog_9_method_9_code (1 : Nat) (Option.some FieldType.boolean)) ∈ gtb := gtb_c2 200 (by decide +kernel) rfl
set_option maxHeartbeats 4000000 in
set_option maxRecDepth 100000 in
theorem T_X7_isLetter (l : Launch) (D : va_G) (cy : Nat → ClassId) (a : Nat → Nat) (u : St) (hJ : CI a u) (x1 : Int32)  : Mi l D cy (cW cy a) yX7_isLetter (.code yX7_isLetter cX7_isLetter 1 (some .boolean)) (rmo 0 0) [.int x1] u (fun (r : Int32) (u' : St) => (r = 0 ∨ r = 1) ∧ (u' = u)) := by
  refine Mi.of (own := RX7) rfl (by decide) (Nat.le_of_ble_eq_true rfl) ?_
  have hT : KT u u := KT.rf
  intro p e s m below meth c A Q ls C hret hO hl
  obtain ⟨hx, hb, hml, hown, ht, hK, hA⟩ := id C
  have hl : lv_has ls 1 [(0, .int x1)] := hl
  refine lv_iload_n hx hb dX7_isLetter_0 rfl (lv_at hl 0 rfl) ?_
  refine lv_bipush (v := 97) hx hb dX7_isLetter_1 (by decide) ?_
  refine cs_lt (tgt := 16) (X := (x1).toInt) (Y := 97) hx hb dX7_isLetter_3 (by decide) rfl rfl (fun c1 => ?_) (fun c1 => ?_)
  · refine lv_iconst (v := 0) hx hb dX7_isLetter_16 (by decide) ?_
    refine hret _ _ _ _ _ _ dX7_isLetter_17 rfl ?_ hO
    exact ⟨Or.inl rfl, rfl⟩
  · refine lv_iload_n hx hb dX7_isLetter_6 rfl (lv_at hl 0 rfl) ?_
    refine lv_bipush (v := 122) hx hb dX7_isLetter_7 (by decide) ?_
    refine cs_gt (tgt := 16) (X := (x1).toInt) (Y := 122) hx hb dX7_isLetter_9 (by decide) rfl rfl (fun c2 => ?_) (fun c2 => ?_)
    · refine lv_iconst (v := 0) hx hb dX7_isLetter_16 (by decide) ?_
      refine hret _ _ _ _ _ _ dX7_isLetter_17 rfl ?_ hO
      exact ⟨Or.inl rfl, rfl⟩
    · refine lv_iconst (v := 1) hx hb dX7_isLetter_12 (by decide) ?_
      refine lv_goto (tgt := 17) hx hb dX7_isLetter_13 (by decide) ?_
      refine hret _ _ _ _ _ _ dX7_isLetter_17 rfl ?_ hO
      exact ⟨Or.inr rfl, rfl⟩
theorem dX7_isDigit_0 : decode cX7_isDigit 0 = .ok (.iload_n 0, 1) := by decide +kernel
theorem dX7_isDigit_1 : decode cX7_isDigit 1 = .ok (.bipush 48, 2) := by decide +kernel
theorem dX7_isDigit_3 : decode cX7_isDigit 3 = .ok (.if_icmp .lt 13, 3) := by decide +kernel
theorem dX7_isDigit_6 : decode cX7_isDigit 6 = .ok (.iload_n 0, 1) := by decide +kernel
theorem dX7_isDigit_7 : decode cX7_isDigit 7 = .ok (.bipush 57, 2) := by decide +kernel
theorem dX7_isDigit_9 : decode cX7_isDigit 9 = .ok (.if_icmp .gt 7, 3) := by decide +kernel
theorem dX7_isDigit_12 : decode cX7_isDigit 12 = .ok (.iconst 1, 1) := by decide +kernel
theorem dX7_isDigit_13 : decode cX7_isDigit 13 = .ok (.goto 4, 3) := by decide +kernel
theorem dX7_isDigit_16 : decode cX7_isDigit 16 = .ok (.iconst 0, 1) := by decide +kernel
theorem dX7_isDigit_17 : decode cX7_isDigit 17 = .ok (.ireturn, 1) := by decide +kernel
theorem wd_611 : (Cond.code ⟨"WebCourt$Tape", "isDigit", "(I)Z"⟩ prog_9_method_10_code (1 : Nat) (Option.some FieldType.boolean)) ∈ gtb := gtb_c3 22 (by decide +kernel) rfl
set_option maxHeartbeats 4000000 in
set_option maxRecDepth 100000 in
theorem T_X7_isDigit (l : Launch) (D : va_G) (cy : Nat → ClassId) (a : Nat → Nat) (u : St) (hJ : CI a u) (x1 : Int32)  : Mi l D cy (cW cy a) yX7_isDigit (.code yX7_isDigit cX7_isDigit 1 (some .boolean)) (rmo 0 0) [.int x1] u (fun (r : Int32) (u' : St) => (r = 0 ∨ r = 1) ∧ (u' = u)) := by
  refine Mi.of (own := RX7) rfl (by decide) (Nat.le_of_ble_eq_true rfl) ?_
  have hT : KT u u := KT.rf
  intro p e s m below meth c A Q ls C hret hO hl
  obtain ⟨hx, hb, hml, hown, ht, hK, hA⟩ := id C
  have hl : lv_has ls 1 [(0, .int x1)] := hl
  refine lv_iload_n hx hb dX7_isDigit_0 rfl (lv_at hl 0 rfl) ?_
  refine lv_bipush (v := 48) hx hb dX7_isDigit_1 (by decide) ?_
  refine cs_lt (tgt := 16) (X := (x1).toInt) (Y := 48) hx hb dX7_isDigit_3 (by decide) rfl rfl (fun c1 => ?_) (fun c1 => ?_)
  · refine lv_iconst (v := 0) hx hb dX7_isDigit_16 (by decide) ?_
    refine hret _ _ _ _ _ _ dX7_isDigit_17 rfl ?_ hO
    exact ⟨Or.inl rfl, rfl⟩
  · refine lv_iload_n hx hb dX7_isDigit_6 rfl (lv_at hl 0 rfl) ?_
    refine lv_bipush (v := 57) hx hb dX7_isDigit_7 (by decide) ?_
    refine cs_gt (tgt := 16) (X := (x1).toInt) (Y := 57) hx hb dX7_isDigit_9 (by decide) rfl rfl (fun c2 => ?_) (fun c2 => ?_)
    · refine lv_iconst (v := 0) hx hb dX7_isDigit_16 (by decide) ?_
      refine hret _ _ _ _ _ _ dX7_isDigit_17 rfl ?_ hO
      exact ⟨Or.inl rfl, rfl⟩
    · refine lv_iconst (v := 1) hx hb dX7_isDigit_12 (by decide) ?_
      refine lv_goto (tgt := 17) hx hb dX7_isDigit_13 (by decide) ?_
      refine hret _ _ _ _ _ _ dX7_isDigit_17 rfl ?_ hO
      exact ⟨Or.inr rfl, rfl⟩
theorem dX7_isSign_0 : decode cX7_isSign 0 = .ok (.iload_n 0, 1) := by decide +kernel
theorem dX7_isSign_1 : decode cX7_isSign 1 = .ok (.ifCond .le 17, 3) := by decide +kernel
theorem dX7_isSign_4 : decode cX7_isSign 4 = .ok (.ldc 75, 2) := by decide +kernel
theorem dX7_isSign_6 : decode cX7_isSign 6 = .ok (.iload_n 0, 1) := by decide +kernel
theorem dX7_isSign_7 : decode cX7_isSign 7 = .ok (.i2c, 1) := by decide +kernel
theorem dX7_isSign_8 : decode cX7_isSign 8 = .ok (.invokevirtual 77, 3) := by decide +kernel
theorem dX7_isSign_11 : decode cX7_isSign 11 = .ok (.ifCond .lt 7, 3) := by decide +kernel
theorem dX7_isSign_14 : decode cX7_isSign 14 = .ok (.iconst 1, 1) := by decide +kernel
theorem dX7_isSign_15 : decode cX7_isSign 15 = .ok (.goto 4, 3) := by decide +kernel
theorem dX7_isSign_18 : decode cX7_isSign 18 = .ok (.iconst 0, 1) := by decide +kernel
theorem dX7_isSign_19 : decode cX7_isSign 19 = .ok (.ireturn, 1) := by decide +kernel
theorem wd_618 : (Cond.code ⟨"WebCourt$Tape", "isSign", "(I)Z"⟩ prog_9_method_11_code (1 : Nat) (Option.some FieldType.boolean)) ∈ gtb := gtb_c3 29 (by decide +kernel) rfl
theorem wd_620 : (Cond.methodLink "WebCourt$Tape" (77 : Nat) ⟨"java/lang/String", "indexOf", "(I)I"⟩) ∈ gtb := gtb_c3 31 (by decide +kernel) rfl
theorem wd_621 : (Cond.instanceMethod ⟨"java/lang/String", "indexOf", "(I)I"⟩) ∈ gtb := gtb_c3 32 (by decide +kernel) rfl
theorem wd_622 : (Cond.selects "java/lang/String" ⟨"java/lang/String", "indexOf", "(I)I"⟩ ⟨"java/lang/String", "indexOf", "(I)I"⟩) ∈ gtb := gtb_c3 33 (by decide +kernel) rfl
theorem hd_yJ0_indexOf_0f7a4 : yJ0_indexOf_0f7a4.cls = RJ0 ∧ yJ0_indexOf_0f7a4.cls ≠ "java/lang/invoke/MethodHandle" ∧ yJ0_indexOf_0f7a4.cls ≠ "java/lang/invoke/VarHandle" ∧ (parseMethodDescriptor yJ0_indexOf_0f7a4.desc).map (fun d => d.parameters.length) = some 1 := by decide +kernel
set_option maxHeartbeats 4000000 in
set_option maxRecDepth 100000 in
theorem T_X7_isSign (l : Launch) (D : va_G) (cy : Nat → ClassId) (a : Nat → Nat) (u : St) (hJ : CI a u) (x1 : Int32)  : Mi l D cy (cW cy a) yX7_isSign (.code yX7_isSign cX7_isSign 1 (some .boolean)) (rmo 4 91) [.int x1] u (fun (r : Int32) (u' : St) => (r = 0 ∨ r = 1) ∧ (u' = u)) := by
  refine Mi.of (own := RX7) rfl (by decide) (Nat.le_of_ble_eq_true rfl) ?_
  have hT : KT u u := KT.rf
  intro p e s m below meth c A Q ls C hret hO hl
  obtain ⟨hx, hb, hml, hown, ht, hK, hA⟩ := id C
  have hl : lv_has ls 1 [(0, .int x1)] := hl
  refine lv_iload_n hx hb dX7_isSign_0 rfl (lv_at hl 0 rfl) ?_
  refine bs_le (tgt := 18) (X := (x1).toInt) hx hb dX7_isSign_1 (by decide) rfl (fun c1 => ?_) (fun c1 => ?_)
  · refine lv_iconst (v := 0) hx hb dX7_isSign_18 (by decide) ?_
    refine hret _ _ _ _ _ _ dX7_isSign_19 rfl ?_ hO
    exact ⟨Or.inl rfl, rfl⟩
  · refine va_ldcS (q := cy 11) hx hb hown hA.2.2.2.1 dX7_isSign_4 ?_
    refine lv_iload_n hx hb dX7_isSign_6 rfl (lv_at hl 0 rfl) ?_
    refine lv_i2c hx hb dX7_isSign_7 rfl ?_
    refine lv_topi (fun z2 ez2 => ?_)
    refine cKi (w := cW cy a) (As := [.int z2]) (rest := []) C hO (T_J0_indexOf_0f7a4 l D cy a _ (by exact hJ) (z2)) (cwV 1 ht (gV wd_620 wd_621 wd_622 wd_122 wd_623) rfl rfl rfl hd_yJ0_indexOf_0f7a4 ⟨Nat.le_of_ble_eq_true rfl, Nat.le_of_ble_eq_true rfl⟩) 1 (by decide) rfl rfl rfl hl.1 (Nat.le_of_ble_eq_true rfl) dX7_isSign_8 rfl ⟨Nat.zero_le _, Nat.zero_le _⟩ (fun r3 u4 H locs hp5 hO => ?_)
    have hu4 := hp5
    rw [hu4] at hO
    refine bs_lt (tgt := 18) (X := (r3).toInt) hx hb dX7_isSign_11 (by decide) rfl (fun c6 => ?_) (fun c6 => ?_)
    · refine lv_iconst (v := 0) hx hb dX7_isSign_18 (by decide) ?_
      refine hret _ _ _ _ _ _ dX7_isSign_19 rfl ?_ hO
      exact ⟨Or.inl rfl, rfl⟩
    · refine lv_iconst (v := 1) hx hb dX7_isSign_14 (by decide) ?_
      refine lv_goto (tgt := 19) hx hb dX7_isSign_15 (by decide) ?_
      refine hret _ _ _ _ _ _ dX7_isSign_19 rfl ?_ hO
      exact ⟨Or.inr rfl, rfl⟩
theorem dX7_put_0 : decode cX7_put 0 = .ok (.bipush 24, 2) := by decide +kernel
theorem dX7_put_2 : decode cX7_put 2 = .ok (.istore_n 2, 1) := by decide +kernel
theorem dX7_put_3 : decode cX7_put 3 = .ok (.iload_n 2, 1) := by decide +kernel
theorem dX7_put_4 : decode cX7_put 4 = .ok (.ifCond .lt 42, 3) := by decide +kernel
theorem dX7_put_7 : decode cX7_put 7 = .ok (.aload_n 0, 1) := by decide +kernel
theorem dX7_put_8 : decode cX7_put 8 = .ok (.getfield 15, 3) := by decide +kernel
theorem dX7_put_11 : decode cX7_put 11 = .ok (.sipush 1600, 3) := by decide +kernel
theorem dX7_put_14 : decode cX7_put 14 = .ok (.if_icmp .ge 32, 3) := by decide +kernel
theorem dX7_put_17 : decode cX7_put 17 = .ok (.aload_n 0, 1) := by decide +kernel
theorem dX7_put_18 : decode cX7_put 18 = .ok (.getfield 9, 3) := by decide +kernel
theorem dX7_put_21 : decode cX7_put 21 = .ok (.aload_n 0, 1) := by decide +kernel
theorem dX7_put_22 : decode cX7_put 22 = .ok (.getfield 15, 3) := by decide +kernel
theorem dX7_put_25 : decode cX7_put 25 = .ok (.iload_n 1, 1) := by decide +kernel
theorem dX7_put_26 : decode cX7_put 26 = .ok (.iload_n 2, 1) := by decide +kernel
theorem dX7_put_27 : decode cX7_put 27 = .ok (.ishr, 1) := by decide +kernel
theorem dX7_put_28 : decode cX7_put 28 = .ok (.i2b, 1) := by decide +kernel
theorem dX7_put_29 : decode cX7_put 29 = .ok (.bastore, 1) := by decide +kernel
theorem dX7_put_30 : decode cX7_put 30 = .ok (.aload_n 0, 1) := by decide +kernel
theorem dX7_put_31 : decode cX7_put 31 = .ok (.dup, 1) := by decide +kernel
theorem dX7_put_32 : decode cX7_put 32 = .ok (.getfield 15, 3) := by decide +kernel
theorem dX7_put_35 : decode cX7_put 35 = .ok (.iconst 1, 1) := by decide +kernel
theorem dX7_put_36 : decode cX7_put 36 = .ok (.iadd, 1) := by decide +kernel
theorem dX7_put_37 : decode cX7_put 37 = .ok (.putfield 15, 3) := by decide +kernel
theorem dX7_put_40 : decode cX7_put 40 = .ok (.iinc 2 (-8), 3) := by decide +kernel
theorem dX7_put_43 : decode cX7_put 43 = .ok (.goto (-40), 3) := by decide +kernel
theorem dX7_put_46 : decode cX7_put 46 = .ok (.return_, 1) := by decide +kernel
theorem wd_515 : (Cond.code ⟨"WebCourt$Tape", "put", "(I)V"⟩ prog_9_method_2_code (3 : Nat) (Option.none : Option FieldType)) ∈ gtb := gtb_c2 166 (by decide +kernel) rfl
theorem wd_145 : (Cond.fieldLink "WebCourt$Tape" (15 : Nat) "WebCourt$Tape" "length" "I") ∈ gtb := gtb_c1 36 (by decide +kernel) rfl
theorem wd_155 : (Cond.laysFinal "WebCourt$Tape" "WebCourt$Tape" "bytes" "[B") ∈ gtb := gtb_c1 46 (by decide +kernel) rfl
theorem wd_157 : (Cond.lays "WebCourt$Tape" "WebCourt$Tape" "length" "I") ∈ gtb := gtb_c1 48 (by decide +kernel) rfl
theorem wd_159 : (Cond.lays "WebCourt$Tape" "WebCourt$Tape" "next" "I") ∈ gtb := gtb_c1 50 (by decide +kernel) rfl
theorem wd_161 : (Cond.lays "WebCourt$Tape" "WebCourt$Tape" "start" "I") ∈ gtb := gtb_c1 52 (by decide +kernel) rfl
theorem wd_163 : (Cond.lays "WebCourt$Tape" "WebCourt$Tape" "kind" "I") ∈ gtb := gtb_c1 54 (by decide +kernel) rfl
theorem wd_165 : (Cond.lays "WebCourt$Tape" "WebCourt$Tape" "word" "J") ∈ gtb := gtb_c1 56 (by decide +kernel) rfl
theorem wd_167 : (Cond.lays "WebCourt$Tape" "WebCourt$Tape" "number" "I") ∈ gtb := gtb_c1 58 (by decide +kernel) rfl
theorem inFX7 : ∀ w ∈ u_ws RX7 TX7 7, w ∈ gtb := by
  show ∀ w ∈ [u_lay RX7 TX7 0, u_lay RX7 TX7 1, u_lay RX7 TX7 2, u_lay RX7 TX7 3, u_lay RX7 TX7 4, u_lay RX7 TX7 5, u_lay RX7 TX7 6], w ∈ gtb
  exact List.forall_mem_cons.mpr ⟨wd_155, List.forall_mem_cons.mpr ⟨wd_157, List.forall_mem_cons.mpr ⟨wd_159, List.forall_mem_cons.mpr ⟨wd_161, List.forall_mem_cons.mpr ⟨wd_163, List.forall_mem_cons.mpr ⟨wd_165, List.forall_mem_cons.mpr ⟨wd_167, fun _ h => absurd h List.not_mem_nil⟩⟩⟩⟩⟩⟩⟩
theorem gf_RX7_15 {p : Program} {l : Launch} {e : Env} {R : Room} {s : State} {m : MethodId} {args : Array Value} {below : List Frame} {meth : Method} {c : Code} {H : Heap} {locs : List Loc} {cells slots : Nat} {Q : State → Prop} {cc : ByteArray} {pc nL : Nat} {ls : Array Slot} {rest : List Value} {D : va_G} {cy : Nat → ClassId} {A : Nat → Prop} {ws : va_W} {b : Nat} {fs : List Value} {v : Value} (C : Cx p s m args c cc nL RX7 D cy A) (hO : Wo D A ws s.heap H locs) (q0 : Nat) (he : ws[q0]? = some (b, .inr (7, fs))) (hv : fs[1]? = some v) (hdg : decode cc pc = .ok (.getfield 15, 3)) (kk : W p l e R s m args below meth c H locs cells slots Q (F0 m (pc + 3) ls (v :: rest))) : W p l e R s m args below meth c H locs cells slots Q (F0 m pc ls (.ref b :: rest)) := gF (k := 1) C hO q0 he rfl inFX7 (by decide) wd_145 rfl hv hdg kk
theorem wd_143 : (Cond.fieldLink "WebCourt$Tape" (9 : Nat) "WebCourt$Tape" "bytes" "[B") ∈ gtb := gtb_c1 34 (by decide +kernel) rfl
theorem gf_RX7_9 {p : Program} {l : Launch} {e : Env} {R : Room} {s : State} {m : MethodId} {args : Array Value} {below : List Frame} {meth : Method} {c : Code} {H : Heap} {locs : List Loc} {cells slots : Nat} {Q : State → Prop} {cc : ByteArray} {pc nL : Nat} {ls : Array Slot} {rest : List Value} {D : va_G} {cy : Nat → ClassId} {A : Nat → Prop} {ws : va_W} {b : Nat} {fs : List Value} {v : Value} (C : Cx p s m args c cc nL RX7 D cy A) (hO : Wo D A ws s.heap H locs) (q0 : Nat) (he : ws[q0]? = some (b, .inr (7, fs))) (hv : fs[0]? = some v) (hdg : decode cc pc = .ok (.getfield 9, 3)) (kk : W p l e R s m args below meth c H locs cells slots Q (F0 m (pc + 3) ls (v :: rest))) : W p l e R s m args below meth c H locs cells slots Q (F0 m pc ls (.ref b :: rest)) := gF (k := 0) C hO q0 he rfl inFX7 (by decide) wd_143 rfl hv hdg kk
theorem pf_RX7_15 {p : Program} {l : Launch} {e : Env} {R : Room} {s : State} {m : MethodId} {args : Array Value} {below : List Frame} {meth : Method} {c : Code} {H : Heap} {locs : List Loc} {cells slots : Nat} {Q : State → Prop} {cc : ByteArray} {pc nL : Nat} {ls : Array Slot} {rest : List Value} {D : va_G} {cy : Nat → ClassId} {A : Nat → Prop} {ws : va_W} {b : Nat} {fs : List Value} {v : Int32} {ws' : va_W} (C : Cx p s m args c cc nL RX7 D cy A) (hO : Wo D A ws s.heap H locs) (q0 : Nat) (he : ws[q0]? = some (b, .inr (7, fs))) (hlen : 1 < fs.length) (hw : ws.set q0 (b, .inr (7, fs.set 1 (.int v))) = ws') (hdg : decode cc pc = .ok (.putfield 15, 3)) (kk : ∀ (H : Heap) (locs : List Loc), Wo D A ws' s.heap H locs → W p l e R s m args below meth c H locs cells slots Q (F0 m (pc + 3) ls rest)) : W p l e R s m args below meth c H locs cells slots Q (F0 m pc ls (.int v :: .ref b :: rest)) := pF (k := 1) (ty := .int) C hO q0 he rfl inFX7 (by decide) wd_145 rfl tyX7 tyX7_ok nmX7 rfl (by decide +kernel) rfl rfl hlen hw hdg kk
set_option maxHeartbeats 4000000 in
set_option maxRecDepth 100000 in
theorem T_X7_put (l : Launch) (D : va_G) (cy : Nat → ClassId) (a : Nat → Nat) (u : St) (hJ : CI a u) (x1 : Int32)  : Mv l D cy (cW cy a) yX7_put (.code yX7_put cX7_put 3 none) (rmo 0 0) [.ref (a 1), .int x1] u (fun (u' : St) => (CI a u') ∧ (KT u u')) := by
  refine Mv.of (own := RX7) rfl (by decide) (Nat.le_of_ble_eq_true rfl) ?_
  have hT : KT u u := KT.rf
  intro p e s m below meth c A Q ls C hret hO hl
  obtain ⟨hx, hb, hml, hown, ht, hK, hA⟩ := id C
  have hl : lv_has ls 3 [(0, .ref (a 1)), (1, .int x1)] := hl
  refine lv_bipush (v := 24) hx hb dX7_put_0 (by decide) ?_
  refine lv_istore_n (lv' := [(2, .int 24), (0, .ref (a 1)), (1, .int x1)]) hx hb dX7_put_2 rfl hl (by decide) rfl (fun ls hl => ?_)
  have LP_3_k2 : ∀ (n : Nat) (u1 : St) (H : Heap) (locs : List Loc) (ls : Array Slot) (i_k2 : Int32), Wo D A (cW cy a u1) s.heap H locs → lv_has ls 3 [(2, .int i_k2), (0, .ref (a 1)), (1, .int x1)] → CI a u1 → KT u u1 → (-8) ≤ i_k2.toInt ∧ i_k2.toInt ≤ 24 → i_k2.toInt + 8 < (n : Int) → W p l e (rmo 0 0) s m [.ref (a 1), .int x1].toArray below meth c H locs 0 0 Q (F0 m 3 ls []) := by
    intro n
    induction n with
    | zero =>
      intro u1 H locs ls i_k2 hO hl hJ hT iv0_k2 hm_k2
      exact absurd hm_k2 (by omega)
    | succ n ih_k2 =>
      intro u1 H locs ls i_k2 hO hl hJ hT iv0_k2 hm_k2
      refine lv_iload_n hx hb dX7_put_3 rfl (lv_at hl 0 rfl) ?_
      refine bs_lt (tgt := 46) (X := (i_k2).toInt) hx hb dX7_put_4 (by decide) rfl (fun c3 => ?_) (fun c3 => ?_)
      · refine hret _ _ _ _ _ dX7_put_46 ?_ hO
        exact ⟨hJ, hT⟩
      · refine lv_aload_n hx hb dX7_put_7 rfl (lv_at hl 1 rfl) ?_
        have g4 : 0 ≤ (fI u1 1 1).toInt ∧ (fI u1 1 1).toInt ≤ 1600 := by have h := CI_1_1 hJ; exact h
        refine gf_RX7_15 (v := .int (fI u1 1 1)) C hO 1 cW_1 rfl dX7_put_8 ?_
        refine lv_sipush (v := 1600) hx hb dX7_put_11 (by decide) ?_
        refine cs_ge (tgt := 46) (X := ((fI u1 1 1)).toInt) (Y := 1600) hx hb dX7_put_14 (by decide) rfl rfl (fun c5 => ?_) (fun c5 => ?_)
        · refine hret _ _ _ _ _ dX7_put_46 ?_ hO
          exact ⟨hJ, hT⟩
        · refine lv_aload_n hx hb dX7_put_17 rfl (lv_at hl 1 rfl) ?_
          refine gf_RX7_9 (v := .ref (a 2)) C hO 1 cW_1 rfl dX7_put_18 ?_
          refine lv_aload_n hx hb dX7_put_21 rfl (lv_at hl 1 rfl) ?_
          refine gf_RX7_15 (v := .int (fI u1 1 1)) C hO 1 cW_1 rfl dX7_put_22 ?_
          refine lv_iload_n hx hb dX7_put_25 rfl (lv_at hl 2 rfl) ?_
          refine lv_iload_n hx hb dX7_put_26 rfl (lv_at hl 0 rfl) ?_
          refine lv_ishr hx hb dX7_put_27 ?_
          refine lv_topi (fun z6 ez6 => ?_)
          refine lv_i2b hx hb dX7_put_28 rfl ?_
          refine lv_topi (fun z7 ez7 => ?_)
          refine aBs C hO 2 cW_2 (i_in (X := ((fI u1 1 1)).toInt) rfl (by omega) (by omega)) cW_s2 dX7_put_29 (fun H locs hO => ?_)
          have hJ := CIsA hO hJ
          refine lv_aload_n hx hb dX7_put_30 rfl (lv_at hl 1 rfl) ?_
          refine lv_dup hx hb dX7_put_31 rfl ?_
          refine gf_RX7_15 (v := .int (fI u1 1 1)) C hO 1 cW_1 rfl dX7_put_32 ?_
          refine lv_iconst (v := 1) hx hb dX7_put_35 (by decide) ?_
          have e8 : (((fI u1 1 1) + 1)).toInt = ((fI u1 1 1)).toInt + 1 := i_add rfl rfl (by omega)
          refine lv_iadd hx hb dX7_put_36 ?_
          refine pf_RX7_15 C hO 1 cW_1 (Nat.le_of_ble_eq_true rfl) cW_s1_1 dX7_put_37 (fun H locs hO => ?_)
          have hJ := CIs_1_1 (v := ((fI u1 1 1) + 1)) hJ (by first | decide | omega)
          have e9 : ((i_k2 + (-8))).toInt = (i_k2).toInt + (-8) := i_add rfl rfl (by omega)
          refine lv_iinc (v := (i_k2 + (-8))) (lv' := [(2, .int (i_k2 + (-8))), (0, .ref (a 1)), (1, .int x1)]) hx hb dX7_put_40 hl (k := 0) rfl rfl (by decide) rfl (fun ls hl => ?_)
          refine lv_goto (tgt := 3) hx hb dX7_put_43 (by decide) ?_
          exact ih_k2 _ _ _ _ ((i_k2 + (-8))) hO (lv_sub hl [0, 1, 2] rfl) (by exact hJ) (by exact hT) (by first | decide | omega) (by first | decide | omega)
  exact LP_3_k2 4000 _ _ _ _ (24) hO (lv_sub hl [0, 1, 2] rfl) (by exact hJ) (by exact hT) (by first | decide | omega) (by first | decide | omega)
theorem dX7_wordKind_0 : decode cX7_wordKind 0 = .ok (.lconst 0, 1) := by decide +kernel
theorem dX7_wordKind_1 : decode cX7_wordKind 1 = .ok (.lstore_n 1, 1) := by decide +kernel
theorem dX7_wordKind_2 : decode cX7_wordKind 2 = .ok (.iconst 1, 1) := by decide +kernel
theorem dX7_wordKind_3 : decode cX7_wordKind 3 = .ok (.istore_n 3, 1) := by decide +kernel
theorem dX7_wordKind_4 : decode cX7_wordKind 4 = .ok (.iconst 0, 1) := by decide +kernel
theorem dX7_wordKind_5 : decode cX7_wordKind 5 = .ok (.istore 4, 2) := by decide +kernel
theorem dX7_wordKind_7 : decode cX7_wordKind 7 = .ok (.iload 4, 2) := by decide +kernel
theorem dX7_wordKind_9 : decode cX7_wordKind 9 = .ok (.ldc 65, 2) := by decide +kernel
theorem dX7_wordKind_11 : decode cX7_wordKind 11 = .ok (.invokevirtual 67, 3) := by decide +kernel
theorem dX7_wordKind_14 : decode cX7_wordKind 14 = .ok (.if_icmp .ge 60, 3) := by decide +kernel
theorem dX7_wordKind_17 : decode cX7_wordKind 17 = .ok (.ldc 65, 2) := by decide +kernel
theorem dX7_wordKind_19 : decode cX7_wordKind 19 = .ok (.iload 4, 2) := by decide +kernel
theorem dX7_wordKind_21 : decode cX7_wordKind 21 = .ok (.invokevirtual 71, 3) := by decide +kernel
theorem dX7_wordKind_24 : decode cX7_wordKind 24 = .ok (.istore 5, 2) := by decide +kernel
theorem dX7_wordKind_26 : decode cX7_wordKind 26 = .ok (.iload 5, 2) := by decide +kernel
theorem dX7_wordKind_28 : decode cX7_wordKind 28 = .ok (.bipush 32, 2) := by decide +kernel
theorem dX7_wordKind_30 : decode cX7_wordKind 30 = .ok (.if_icmp .eq 22, 3) := by decide +kernel
theorem dX7_wordKind_33 : decode cX7_wordKind 33 = .ok (.lload_n 1, 1) := by decide +kernel
theorem dX7_wordKind_34 : decode cX7_wordKind 34 = .ok (.ldc2_w 58, 3) := by decide +kernel
theorem dX7_wordKind_37 : decode cX7_wordKind 37 = .ok (.lmul, 1) := by decide +kernel
theorem dX7_wordKind_38 : decode cX7_wordKind 38 = .ok (.iload 5, 2) := by decide +kernel
theorem dX7_wordKind_40 : decode cX7_wordKind 40 = .ok (.i2l, 1) := by decide +kernel
theorem dX7_wordKind_41 : decode cX7_wordKind 41 = .ok (.ladd, 1) := by decide +kernel
theorem dX7_wordKind_42 : decode cX7_wordKind 42 = .ok (.ldc2_w 60, 3) := by decide +kernel
theorem dX7_wordKind_45 : decode cX7_wordKind 45 = .ok (.lsub, 1) := by decide +kernel
theorem dX7_wordKind_46 : decode cX7_wordKind 46 = .ok (.lconst 1, 1) := by decide +kernel
theorem dX7_wordKind_47 : decode cX7_wordKind 47 = .ok (.ladd, 1) := by decide +kernel
theorem dX7_wordKind_48 : decode cX7_wordKind 48 = .ok (.lstore_n 1, 1) := by decide +kernel
theorem dX7_wordKind_49 : decode cX7_wordKind 49 = .ok (.goto 19, 3) := by decide +kernel
theorem dX7_wordKind_52 : decode cX7_wordKind 52 = .ok (.lload_n 1, 1) := by decide +kernel
theorem dX7_wordKind_53 : decode cX7_wordKind 53 = .ok (.aload_n 0, 1) := by decide +kernel
theorem dX7_wordKind_54 : decode cX7_wordKind 54 = .ok (.getfield 54, 3) := by decide +kernel
theorem dX7_wordKind_57 : decode cX7_wordKind 57 = .ok (.lcmp, 1) := by decide +kernel
theorem dX7_wordKind_58 : decode cX7_wordKind 58 = .ok (.ifCond .ne 5, 3) := by decide +kernel
theorem dX7_wordKind_61 : decode cX7_wordKind 61 = .ok (.iload_n 3, 1) := by decide +kernel
theorem dX7_wordKind_62 : decode cX7_wordKind 62 = .ok (.ireturn, 1) := by decide +kernel
theorem dX7_wordKind_63 : decode cX7_wordKind 63 = .ok (.lconst 0, 1) := by decide +kernel
theorem dX7_wordKind_64 : decode cX7_wordKind 64 = .ok (.lstore_n 1, 1) := by decide +kernel
theorem dX7_wordKind_65 : decode cX7_wordKind 65 = .ok (.iinc 3 1, 3) := by decide +kernel
theorem dX7_wordKind_68 : decode cX7_wordKind 68 = .ok (.iinc 4 1, 3) := by decide +kernel
theorem dX7_wordKind_71 : decode cX7_wordKind 71 = .ok (.goto (-64), 3) := by decide +kernel
theorem dX7_wordKind_74 : decode cX7_wordKind 74 = .ok (.sipush 200, 3) := by decide +kernel
theorem dX7_wordKind_77 : decode cX7_wordKind 77 = .ok (.ireturn, 1) := by decide +kernel
theorem wd_559 : (Cond.code ⟨"WebCourt$Tape", "wordKind", "()I"⟩ prog_9_method_7_code (6 : Nat) (Option.some FieldType.int)) ∈ gtb := gtb_c2 210 (by decide +kernel) rfl
theorem wd_561 : (Cond.methodLink "WebCourt$Tape" (67 : Nat) ⟨"java/lang/String", "length", "()I"⟩) ∈ gtb := gtb_c2 212 (by decide +kernel) rfl
theorem wd_571 : (Cond.methodLink "WebCourt$Tape" (71 : Nat) ⟨"java/lang/String", "charAt", "(I)C"⟩) ∈ gtb := gtb_c2 222 (by decide +kernel) rfl
theorem wd_572 : (Cond.instanceMethod ⟨"java/lang/String", "charAt", "(I)C"⟩) ∈ gtb := gtb_c2 223 (by decide +kernel) rfl
theorem wd_573 : (Cond.selects "java/lang/String" ⟨"java/lang/String", "charAt", "(I)C"⟩ ⟨"java/lang/String", "charAt", "(I)C"⟩) ∈ gtb := gtb_c2 224 (by decide +kernel) rfl
theorem hd_yJ0_charAt_5068e : yJ0_charAt_5068e.cls = RJ0 ∧ yJ0_charAt_5068e.cls ≠ "java/lang/invoke/MethodHandle" ∧ yJ0_charAt_5068e.cls ≠ "java/lang/invoke/VarHandle" ∧ (parseMethodDescriptor yJ0_charAt_5068e.desc).map (fun d => d.parameters.length) = some 1 := by decide +kernel
theorem wd_151 : (Cond.fieldLink "WebCourt$Tape" (54 : Nat) "WebCourt$Tape" "word" "J") ∈ gtb := gtb_c1 42 (by decide +kernel) rfl
theorem gf_RX7_54 {p : Program} {l : Launch} {e : Env} {R : Room} {s : State} {m : MethodId} {args : Array Value} {below : List Frame} {meth : Method} {c : Code} {H : Heap} {locs : List Loc} {cells slots : Nat} {Q : State → Prop} {cc : ByteArray} {pc nL : Nat} {ls : Array Slot} {rest : List Value} {D : va_G} {cy : Nat → ClassId} {A : Nat → Prop} {ws : va_W} {b : Nat} {fs : List Value} {v : Value} (C : Cx p s m args c cc nL RX7 D cy A) (hO : Wo D A ws s.heap H locs) (q0 : Nat) (he : ws[q0]? = some (b, .inr (7, fs))) (hv : fs[5]? = some v) (hdg : decode cc pc = .ok (.getfield 54, 3)) (kk : W p l e R s m args below meth c H locs cells slots Q (F0 m (pc + 3) ls (v :: rest))) : W p l e R s m args below meth c H locs cells slots Q (F0 m pc ls (.ref b :: rest)) := gF (k := 5) C hO q0 he rfl inFX7 (by decide) wd_151 rfl hv hdg kk
theorem wd_554 : (Cond.constantLong "WebCourt$Tape" (58 : Nat) (32 : Int64)) ∈ gtb := gtb_c2 205 (by decide +kernel) rfl
theorem wd_555 : (Cond.constantLong "WebCourt$Tape" (60 : Nat) (97 : Int64)) ∈ gtb := gtb_c2 206 (by decide +kernel) rfl
set_option maxHeartbeats 4000000 in
set_option maxRecDepth 100000 in
theorem T_X7_wordKind (l : Launch) (D : va_G) (cy : Nat → ClassId) (a : Nat → Nat) (u : St) (hJ : CI a u)   : Mi l D cy (cW cy a) yX7_wordKind (.code yX7_wordKind cX7_wordKind 6 (some .int)) (rmo 4 85) [.ref (a 1)] u (fun (r : Int32) (u' : St) => u' = u) := by
  refine Mi.of (own := RX7) rfl (by decide) (Nat.le_of_ble_eq_true rfl) ?_
  have hT : KT u u := KT.rf
  intro p e s m below meth c A Q ls C hret hO hl
  obtain ⟨hx, hb, hml, hown, ht, hK, hA⟩ := id C
  have hl : lv_has ls 6 [(0, .ref (a 1))] := hl
  refine lv_lconst (v := 0) hx hb dX7_wordKind_0 rfl ?_
  refine lv_lstore_n (lv' := [(1, .long 0), (0, .ref (a 1))]) hx hb dX7_wordKind_1 rfl hl (by decide) rfl (fun ls hl => ?_)
  refine lv_iconst (v := 1) hx hb dX7_wordKind_2 (by decide) ?_
  refine lv_istore_n (lv' := [(3, .int 1), (1, .long 0), (0, .ref (a 1))]) hx hb dX7_wordKind_3 rfl hl (by decide) rfl (fun ls hl => ?_)
  refine lv_iconst (v := 0) hx hb dX7_wordKind_4 (by decide) ?_
  refine lv_istore (lv' := [(4, .int 0), (3, .int 1), (1, .long 0), (0, .ref (a 1))]) hx hb dX7_wordKind_5 hl (by decide) rfl (fun ls hl => ?_)
  have LP_7_k1 : ∀ (n : Nat) (H : Heap) (locs : List Loc) (ls : Array Slot) (i_k1 : Int32) (w3_k1 : Int32) (w1_k1 : Int64), Wo D A (cW cy a u) s.heap H locs → lv_has ls 6 [(4, .int i_k1), (3, .int w3_k1), (1, .long w1_k1), (0, .ref (a 1))] → 0 ≤ i_k1.toInt ∧ i_k1.toInt ≤ 102 → 102 - i_k1.toInt < (n : Int) → W p l e (rmo 4 85) s m [.ref (a 1)].toArray below meth c H locs 0 0 Q (F0 m 7 ls []) := by
    intro n
    induction n with
    | zero =>
      intro H locs ls i_k1 w3_k1 w1_k1 hO hl iv0_k1 hm_k1
      exact absurd hm_k1 (by omega)
    | succ n ih_k1 =>
      intro H locs ls i_k1 w3_k1 w1_k1 hO hl iv0_k1 hm_k1
      refine lv_iload hx hb dX7_wordKind_7 (lv_at hl 0 rfl) ?_
      refine va_ldcS (q := cy 10) hx hb hown hA.2.2.1 dX7_wordKind_9 ?_
      refine cKi (w := cW cy a) (As := []) (rest := [.int i_k1]) C hO (T_J0_length_8abf5_0 l D cy a _ (by exact hJ)) (cwV 0 ht (gV wd_561 wd_562 wd_563 wd_122 wd_564) rfl rfl rfl hd_yJ0_length_8abf5 ⟨Nat.le_of_ble_eq_true rfl, Nat.le_of_ble_eq_true rfl⟩) 0 (by decide) rfl rfl rfl hl.1 (Nat.le_of_ble_eq_true rfl) dX7_wordKind_11 rfl ⟨Nat.zero_le _, Nat.zero_le _⟩ (fun r2 u3 H locs hp4 hO => ?_)
      obtain ⟨hr2, hu3⟩ := hp4
      subst hr2
      rw [hu3] at hO
      refine cs_ge (tgt := 74) (X := (i_k1).toInt) (Y := 102) hx hb dX7_wordKind_14 (by decide) rfl rfl (fun c5 => ?_) (fun c5 => ?_)
      · refine lv_sipush (v := 200) hx hb dX7_wordKind_74 (by decide) ?_
        refine hret _ _ _ _ _ _ dX7_wordKind_77 rfl ?_ hO
        exact rfl
      · refine va_ldcS (q := cy 10) hx hb hown hA.2.2.1 dX7_wordKind_17 ?_
        refine lv_iload hx hb dX7_wordKind_19 (lv_at hl 0 rfl) ?_
        refine cKi (w := cW cy a) (As := [.int i_k1]) (rest := []) C hO (T_J0_charAt_5068e l D cy a _ (by exact hJ) (i_k1) (by first | omega | decide)) (cwV 1 ht (gV wd_571 wd_572 wd_573 wd_122 wd_574) rfl rfl rfl hd_yJ0_charAt_5068e ⟨Nat.le_of_ble_eq_true rfl, Nat.le_of_ble_eq_true rfl⟩) 0 (by decide) rfl rfl rfl hl.1 (Nat.le_of_ble_eq_true rfl) dX7_wordKind_21 rfl ⟨Nat.zero_le _, Nat.zero_le _⟩ (fun r6 u7 H locs hp8 hO => ?_)
        obtain ⟨hr6, hu7⟩ := hp8
        rw [hu7] at hO
        refine lv_istore (lv' := [(5, .int r6), (4, .int i_k1), (3, .int w3_k1), (1, .long w1_k1), (0, .ref (a 1))]) hx hb dX7_wordKind_24 hl (by decide) rfl (fun ls hl => ?_)
        refine lv_iload hx hb dX7_wordKind_26 (lv_at hl 0 rfl) ?_
        refine lv_bipush (v := 32) hx hb dX7_wordKind_28 (by decide) ?_
        refine cs_eq (tgt := 52) (X := (r6).toInt) (Y := 32) hx hb dX7_wordKind_30 (by decide) rfl rfl (fun c9 => ?_) (fun c9 => ?_)
        · refine lv_lload_n hx hb dX7_wordKind_52 rfl (lv_at hl 3 rfl) ?_
          refine lv_aload_n hx hb dX7_wordKind_53 rfl (lv_at hl 4 rfl) ?_
          refine gf_RX7_54 (v := .long ((fL u 1 5))) C hO 1 cW_1 rfl dX7_wordKind_54 ?_
          refine W.lcmp hx hb dX7_wordKind_57 ?_
          refine lv_topi (fun z10 ez10 => ?_)
          refine bs_ne (tgt := 63) (X := (z10).toInt) hx hb dX7_wordKind_58 (by decide) rfl (fun c11 => ?_) (fun c11 => ?_)
          · refine lv_lconst (v := 0) hx hb dX7_wordKind_63 rfl ?_
            refine lv_lstore_n (lv' := [(1, .long 0), (5, .int r6), (4, .int i_k1), (3, .int w3_k1), (0, .ref (a 1))]) hx hb dX7_wordKind_64 rfl hl (by decide) rfl (fun ls hl => ?_)
            refine lv_iinc (v := (w3_k1 + 1)) (lv' := [(3, .int (w3_k1 + 1)), (1, .long 0), (5, .int r6), (4, .int i_k1), (0, .ref (a 1))]) hx hb dX7_wordKind_65 hl (k := 3) rfl rfl (by decide) rfl (fun ls hl => ?_)
            have e12 : ((i_k1 + 1)).toInt = (i_k1).toInt + 1 := i_add rfl rfl (by omega)
            refine lv_iinc (v := (i_k1 + 1)) (lv' := [(4, .int (i_k1 + 1)), (3, .int (w3_k1 + 1)), (1, .long 0), (5, .int r6), (0, .ref (a 1))]) hx hb dX7_wordKind_68 hl (k := 3) rfl rfl (by decide) rfl (fun ls hl => ?_)
            refine lv_goto (tgt := 7) hx hb dX7_wordKind_71 (by decide) ?_
            exact ih_k1 _ _ _ ((i_k1 + 1)) ((w3_k1 + 1)) (0) hO (lv_sub hl [0, 1, 2, 4] rfl) (by first | decide | omega) (by first | decide | omega)
          · refine lv_iload_n hx hb dX7_wordKind_61 rfl (lv_at hl 2 rfl) ?_
            refine hret _ _ _ _ _ _ dX7_wordKind_62 rfl ?_ hO
            exact rfl
        · refine lv_lload_n hx hb dX7_wordKind_33 rfl (lv_at hl 3 rfl) ?_
          refine lv_ldc2 (v := 32) hx hb hown (ht _ wd_554) dX7_wordKind_34 ?_
          refine lv_lmul hx hb dX7_wordKind_37 ?_
          refine lv_topl (fun w13 ew13 => ?_)
          refine lv_iload hx hb dX7_wordKind_38 (lv_at hl 0 rfl) ?_
          refine lv_i2l hx hb dX7_wordKind_40 rfl ?_
          refine lv_topl (fun w14 ew14 => ?_)
          refine lv_ladd hx hb dX7_wordKind_41 ?_
          refine lv_topl (fun w15 ew15 => ?_)
          refine lv_ldc2 (v := 97) hx hb hown (ht _ wd_555) dX7_wordKind_42 ?_
          refine lv_lsub hx hb dX7_wordKind_45 ?_
          refine lv_topl (fun w16 ew16 => ?_)
          refine lv_lconst (v := 1) hx hb dX7_wordKind_46 rfl ?_
          refine lv_ladd hx hb dX7_wordKind_47 ?_
          refine lv_topl (fun w17 ew17 => ?_)
          refine lv_lstore_n (lv' := [(1, .long w17), (5, .int r6), (4, .int i_k1), (3, .int w3_k1), (0, .ref (a 1))]) hx hb dX7_wordKind_48 rfl hl (by decide) rfl (fun ls hl => ?_)
          refine lv_goto (tgt := 68) hx hb dX7_wordKind_49 (by decide) ?_
          have e18 : ((i_k1 + 1)).toInt = (i_k1).toInt + 1 := i_add rfl rfl (by omega)
          refine lv_iinc (v := (i_k1 + 1)) (lv' := [(4, .int (i_k1 + 1)), (1, .long w17), (5, .int r6), (3, .int w3_k1), (0, .ref (a 1))]) hx hb dX7_wordKind_68 hl (k := 2) rfl rfl (by decide) rfl (fun ls hl => ?_)
          refine lv_goto (tgt := 7) hx hb dX7_wordKind_71 (by decide) ?_
          exact ih_k1 _ _ _ ((i_k1 + 1)) (w3_k1) (w17) hO (lv_sub hl [0, 3, 1, 4] rfl) (by first | decide | omega) (by first | decide | omega)
  exact LP_7_k1 4000 _ _ _ (0) (1) (0) hO (lv_sub hl [0, 1, 2, 3] rfl) (by first | decide | omega) (by first | decide | omega)
theorem dX7_scanWord_0 : decode cX7_scanWord 0 = .ok (.aload_n 0, 1) := by decide +kernel
theorem dX7_scanWord_1 : decode cX7_scanWord 1 = .ok (.lconst 0, 1) := by decide +kernel
theorem dX7_scanWord_2 : decode cX7_scanWord 2 = .ok (.putfield 54, 3) := by decide +kernel
theorem dX7_scanWord_5 : decode cX7_scanWord 5 = .ok (.aload_n 0, 1) := by decide +kernel
theorem dX7_scanWord_6 : decode cX7_scanWord 6 = .ok (.getfield 19, 3) := by decide +kernel
theorem dX7_scanWord_9 : decode cX7_scanWord 9 = .ok (.aload_n 0, 1) := by decide +kernel
theorem dX7_scanWord_10 : decode cX7_scanWord 10 = .ok (.getfield 15, 3) := by decide +kernel
theorem dX7_scanWord_13 : decode cX7_scanWord 13 = .ok (.if_icmp .ge 60, 3) := by decide +kernel
theorem dX7_scanWord_16 : decode cX7_scanWord 16 = .ok (.aload_n 0, 1) := by decide +kernel
theorem dX7_scanWord_17 : decode cX7_scanWord 17 = .ok (.getfield 9, 3) := by decide +kernel
theorem dX7_scanWord_20 : decode cX7_scanWord 20 = .ok (.aload_n 0, 1) := by decide +kernel
theorem dX7_scanWord_21 : decode cX7_scanWord 21 = .ok (.getfield 19, 3) := by decide +kernel
theorem dX7_scanWord_24 : decode cX7_scanWord 24 = .ok (.baload, 1) := by decide +kernel
theorem dX7_scanWord_25 : decode cX7_scanWord 25 = .ok (.invokestatic 35, 3) := by decide +kernel
theorem dX7_scanWord_28 : decode cX7_scanWord 28 = .ok (.ifCond .eq 45, 3) := by decide +kernel
theorem dX7_scanWord_31 : decode cX7_scanWord 31 = .ok (.aload_n 0, 1) := by decide +kernel
theorem dX7_scanWord_32 : decode cX7_scanWord 32 = .ok (.aload_n 0, 1) := by decide +kernel
theorem dX7_scanWord_33 : decode cX7_scanWord 33 = .ok (.getfield 54, 3) := by decide +kernel
theorem dX7_scanWord_36 : decode cX7_scanWord 36 = .ok (.ldc2_w 58, 3) := by decide +kernel
theorem dX7_scanWord_39 : decode cX7_scanWord 39 = .ok (.lmul, 1) := by decide +kernel
theorem dX7_scanWord_40 : decode cX7_scanWord 40 = .ok (.aload_n 0, 1) := by decide +kernel
theorem dX7_scanWord_41 : decode cX7_scanWord 41 = .ok (.getfield 9, 3) := by decide +kernel
theorem dX7_scanWord_44 : decode cX7_scanWord 44 = .ok (.aload_n 0, 1) := by decide +kernel
theorem dX7_scanWord_45 : decode cX7_scanWord 45 = .ok (.getfield 19, 3) := by decide +kernel
theorem dX7_scanWord_48 : decode cX7_scanWord 48 = .ok (.baload, 1) := by decide +kernel
theorem dX7_scanWord_49 : decode cX7_scanWord 49 = .ok (.i2l, 1) := by decide +kernel
theorem dX7_scanWord_50 : decode cX7_scanWord 50 = .ok (.ladd, 1) := by decide +kernel
theorem dX7_scanWord_51 : decode cX7_scanWord 51 = .ok (.ldc2_w 60, 3) := by decide +kernel
theorem dX7_scanWord_54 : decode cX7_scanWord 54 = .ok (.lsub, 1) := by decide +kernel
theorem dX7_scanWord_55 : decode cX7_scanWord 55 = .ok (.lconst 1, 1) := by decide +kernel
theorem dX7_scanWord_56 : decode cX7_scanWord 56 = .ok (.ladd, 1) := by decide +kernel
theorem dX7_scanWord_57 : decode cX7_scanWord 57 = .ok (.putfield 54, 3) := by decide +kernel
theorem dX7_scanWord_60 : decode cX7_scanWord 60 = .ok (.aload_n 0, 1) := by decide +kernel
theorem dX7_scanWord_61 : decode cX7_scanWord 61 = .ok (.dup, 1) := by decide +kernel
theorem dX7_scanWord_62 : decode cX7_scanWord 62 = .ok (.getfield 19, 3) := by decide +kernel
theorem dX7_scanWord_65 : decode cX7_scanWord 65 = .ok (.iconst 1, 1) := by decide +kernel
theorem dX7_scanWord_66 : decode cX7_scanWord 66 = .ok (.iadd, 1) := by decide +kernel
theorem dX7_scanWord_67 : decode cX7_scanWord 67 = .ok (.putfield 19, 3) := by decide +kernel
theorem dX7_scanWord_70 : decode cX7_scanWord 70 = .ok (.goto (-65), 3) := by decide +kernel
theorem dX7_scanWord_73 : decode cX7_scanWord 73 = .ok (.return_, 1) := by decide +kernel
theorem wd_553 : (Cond.code ⟨"WebCourt$Tape", "scanWord", "()V"⟩ prog_9_method_5_code (1 : Nat) (Option.none : Option FieldType)) ∈ gtb := gtb_c2 204 (by decide +kernel) rfl
theorem pf_RX7_54 {p : Program} {l : Launch} {e : Env} {R : Room} {s : State} {m : MethodId} {args : Array Value} {below : List Frame} {meth : Method} {c : Code} {H : Heap} {locs : List Loc} {cells slots : Nat} {Q : State → Prop} {cc : ByteArray} {pc nL : Nat} {ls : Array Slot} {rest : List Value} {D : va_G} {cy : Nat → ClassId} {A : Nat → Prop} {ws : va_W} {b : Nat} {fs : List Value} {v : Int64} {ws' : va_W} (C : Cx p s m args c cc nL RX7 D cy A) (hO : Wo D A ws s.heap H locs) (q0 : Nat) (he : ws[q0]? = some (b, .inr (7, fs))) (hlen : 5 < fs.length) (hw : ws.set q0 (b, .inr (7, fs.set 5 (.long v))) = ws') (hdg : decode cc pc = .ok (.putfield 54, 3)) (kk : ∀ (H : Heap) (locs : List Loc), Wo D A ws' s.heap H locs → W p l e R s m args below meth c H locs cells slots Q (F0 m (pc + 3) ls rest)) : W p l e R s m args below meth c H locs cells slots Q (F0 m pc ls (.long v :: .ref b :: rest)) := pF (k := 5) (ty := .long) C hO q0 he rfl inFX7 (by decide) wd_151 rfl tyX7 tyX7_ok nmX7 rfl (by decide +kernel) rfl rfl hlen hw hdg kk
theorem wd_146 : (Cond.fieldLink "WebCourt$Tape" (19 : Nat) "WebCourt$Tape" "next" "I") ∈ gtb := gtb_c1 37 (by decide +kernel) rfl
theorem gf_RX7_19 {p : Program} {l : Launch} {e : Env} {R : Room} {s : State} {m : MethodId} {args : Array Value} {below : List Frame} {meth : Method} {c : Code} {H : Heap} {locs : List Loc} {cells slots : Nat} {Q : State → Prop} {cc : ByteArray} {pc nL : Nat} {ls : Array Slot} {rest : List Value} {D : va_G} {cy : Nat → ClassId} {A : Nat → Prop} {ws : va_W} {b : Nat} {fs : List Value} {v : Value} (C : Cx p s m args c cc nL RX7 D cy A) (hO : Wo D A ws s.heap H locs) (q0 : Nat) (he : ws[q0]? = some (b, .inr (7, fs))) (hv : fs[2]? = some v) (hdg : decode cc pc = .ok (.getfield 19, 3)) (kk : W p l e R s m args below meth c H locs cells slots Q (F0 m (pc + 3) ls (v :: rest))) : W p l e R s m args below meth c H locs cells slots Q (F0 m pc ls (.ref b :: rest)) := gF (k := 2) C hO q0 he rfl inFX7 (by decide) wd_146 rfl hv hdg kk
theorem wd_547 : (Cond.methodLink "WebCourt$Tape" (35 : Nat) ⟨"WebCourt$Tape", "isLetter", "(I)Z"⟩) ∈ gtb := gtb_c2 198 (by decide +kernel) rfl
theorem wd_548 : (Cond.static ⟨"WebCourt$Tape", "isLetter", "(I)Z"⟩) ∈ gtb := gtb_c2 199 (by decide +kernel) rfl
theorem wd_111 : (Cond.initialized "WebCourt$Tape") ∈ gtb := gtb_c1 2 (by decide +kernel) rfl
theorem hd_yX7_isLetter : yX7_isLetter.cls ≠ "java/lang/invoke/MethodHandle" ∧ yX7_isLetter.cls ≠ "java/lang/invoke/VarHandle" ∧ (parseMethodDescriptor yX7_isLetter.desc).map (fun d => d.parameters.length) = some 1 := by decide +kernel
theorem pf_RX7_19 {p : Program} {l : Launch} {e : Env} {R : Room} {s : State} {m : MethodId} {args : Array Value} {below : List Frame} {meth : Method} {c : Code} {H : Heap} {locs : List Loc} {cells slots : Nat} {Q : State → Prop} {cc : ByteArray} {pc nL : Nat} {ls : Array Slot} {rest : List Value} {D : va_G} {cy : Nat → ClassId} {A : Nat → Prop} {ws : va_W} {b : Nat} {fs : List Value} {v : Int32} {ws' : va_W} (C : Cx p s m args c cc nL RX7 D cy A) (hO : Wo D A ws s.heap H locs) (q0 : Nat) (he : ws[q0]? = some (b, .inr (7, fs))) (hlen : 2 < fs.length) (hw : ws.set q0 (b, .inr (7, fs.set 2 (.int v))) = ws') (hdg : decode cc pc = .ok (.putfield 19, 3)) (kk : ∀ (H : Heap) (locs : List Loc), Wo D A ws' s.heap H locs → W p l e R s m args below meth c H locs cells slots Q (F0 m (pc + 3) ls rest)) : W p l e R s m args below meth c H locs cells slots Q (F0 m pc ls (.int v :: .ref b :: rest)) := pF (k := 2) (ty := .int) C hO q0 he rfl inFX7 (by decide) wd_146 rfl tyX7 tyX7_ok nmX7 rfl (by decide +kernel) rfl rfl hlen hw hdg kk
set_option maxHeartbeats 4000000 in
set_option maxRecDepth 100000 in
theorem T_X7_scanWord (l : Launch) (D : va_G) (cy : Nat → ClassId) (a : Nat → Nat) (u : St) (hJ : CI a u) (hW : fR u 2 = a 15)   : Mv l D cy (cW cy a) yX7_scanWord (.code yX7_scanWord cX7_scanWord 1 none) (rmo 1 20) [.ref (a 1)] u (fun (u' : St) => (CI a u') ∧ (KR u u') ∧ (fR u' 2 = a 15)) := by
  refine Mv.of (own := RX7) rfl (by decide) (Nat.le_of_ble_eq_true rfl) ?_
  have hT : KR u u := KR.rf
  intro p e s m below meth c A Q ls C hret hO hl
  obtain ⟨hx, hb, hml, hown, ht, hK, hA⟩ := id C
  have hl : lv_has ls 1 [(0, .ref (a 1))] := hl
  refine lv_aload_n hx hb dX7_scanWord_0 rfl (lv_at hl 0 rfl) ?_
  refine lv_lconst (v := 0) hx hb dX7_scanWord_1 rfl ?_
  refine pf_RX7_54 C hO 1 cW_1 (Nat.le_of_ble_eq_true rfl) cW_s1_5 dX7_scanWord_2 (fun H locs hO => ?_)
  have hJ := CIs_1_5 (v := 0) hJ
  have LP_5_k2 : ∀ (n : Nat) (u1 : St) (H : Heap) (locs : List Loc) (ls : Array Slot) (n_k2 : Int32), Wo D A (cW cy a u1) s.heap H locs → lv_has ls 1 [(0, .ref (a 1))] → CI a u1 → KR u u1 → fR u1 2 = a 15 → fI u1 1 2 = n_k2 → 0 ≤ n_k2.toInt ∧ n_k2.toInt ≤ 1600 → 1600 - n_k2.toInt < (n : Int) → W p l e (rmo 1 20) s m [.ref (a 1)].toArray below meth c H locs 0 0 Q (F0 m 5 ls []) := by
    intro n
    induction n with
    | zero =>
      intro u1 H locs ls n_k2 hO hl hJ hT hW hn_k2 iv0_k2 hm_k2
      exact absurd hm_k2 (by omega)
    | succ n ih_k2 =>
      intro u1 H locs ls n_k2 hO hl hJ hT hW hn_k2 iv0_k2 hm_k2
      refine lv_aload_n hx hb dX7_scanWord_5 rfl (lv_at hl 0 rfl) ?_
      refine gf_RX7_19 (v := .int n_k2) C hO 1 cW_1 (congrArg (fun z : Int32 => some (Value.int z)) hn_k2) dX7_scanWord_6 ?_
      refine lv_aload_n hx hb dX7_scanWord_9 rfl (lv_at hl 0 rfl) ?_
      have g3 : 0 ≤ (fI u1 1 1).toInt ∧ (fI u1 1 1).toInt ≤ 1600 := by have h := CI_1_1 hJ; exact h
      refine gf_RX7_15 (v := .int (fI u1 1 1)) C hO 1 cW_1 rfl dX7_scanWord_10 ?_
      refine cs_ge (tgt := 73) (X := (n_k2).toInt) (Y := ((fI u1 1 1)).toInt) hx hb dX7_scanWord_13 (by decide) rfl rfl (fun c4 => ?_) (fun c4 => ?_)
      · refine hret _ _ _ _ _ dX7_scanWord_73 ?_ hO
        exact ⟨hJ, hT, hW⟩
      · refine lv_aload_n hx hb dX7_scanWord_16 rfl (lv_at hl 0 rfl) ?_
        refine gf_RX7_9 (v := .ref (a 2)) C hO 1 cW_1 rfl dX7_scanWord_17 ?_
        refine lv_aload_n hx hb dX7_scanWord_20 rfl (lv_at hl 0 rfl) ?_
        refine gf_RX7_19 (v := .int n_k2) C hO 1 cW_1 (congrArg (fun z : Int32 => some (Value.int z)) hn_k2) dX7_scanWord_21 ?_
        refine aB C hO 2 cW_2 (i_in (X := (n_k2).toInt) rfl (by omega) (by omega)) dX7_scanWord_24 ?_
        refine lv_topi (fun w5 ew5 => ?_)
        refine cSi (w := cW cy a) (As := [.int w5]) (rest := []) C hO (T_X7_isLetter l D cy a _ (by exact hJ) (w5)) (va_cwS 1 ht (gSS wd_547 wd_548 wd_111 wd_549) rfl rfl rfl hd_yX7_isLetter ⟨Nat.le_of_ble_eq_true rfl, Nat.le_of_ble_eq_true rfl⟩)  rfl hl.1 (Nat.le_of_ble_eq_true rfl) dX7_scanWord_25 rfl ⟨Nat.zero_le _, Nat.zero_le _⟩ (fun r6 u7 H locs hp8 hO => ?_)
        obtain ⟨hr6, hu7⟩ := hp8
        have gr6 : 0 ≤ r6.toInt ∧ r6.toInt ≤ 1 := by rcases hr6 with h | h <;> rw [h] <;> decide
        rw [hu7] at hO
        refine bs_eq (tgt := 73) (X := (r6).toInt) hx hb dX7_scanWord_28 (by decide) rfl (fun c9 => ?_) (fun c9 => ?_)
        · refine hret _ _ _ _ _ dX7_scanWord_73 ?_ hO
          exact ⟨hJ, hT, hW⟩
        · refine lv_aload_n hx hb dX7_scanWord_31 rfl (lv_at hl 0 rfl) ?_
          refine lv_aload_n hx hb dX7_scanWord_32 rfl (lv_at hl 0 rfl) ?_
          refine gf_RX7_54 (v := .long ((fL u1 1 5))) C hO 1 cW_1 rfl dX7_scanWord_33 ?_
          refine lv_ldc2 (v := 32) hx hb hown (ht _ wd_554) dX7_scanWord_36 ?_
          refine lv_lmul hx hb dX7_scanWord_39 ?_
          refine lv_topl (fun w10 ew10 => ?_)
          refine lv_aload_n hx hb dX7_scanWord_40 rfl (lv_at hl 0 rfl) ?_
          refine gf_RX7_9 (v := .ref (a 2)) C hO 1 cW_1 rfl dX7_scanWord_41 ?_
          refine lv_aload_n hx hb dX7_scanWord_44 rfl (lv_at hl 0 rfl) ?_
          refine gf_RX7_19 (v := .int n_k2) C hO 1 cW_1 (congrArg (fun z : Int32 => some (Value.int z)) hn_k2) dX7_scanWord_45 ?_
          refine aB C hO 2 cW_2 (i_in (X := (n_k2).toInt) rfl (by omega) (by omega)) dX7_scanWord_48 ?_
          refine lv_topi (fun w11 ew11 => ?_)
          refine lv_i2l hx hb dX7_scanWord_49 rfl ?_
          refine lv_topl (fun w12 ew12 => ?_)
          refine lv_ladd hx hb dX7_scanWord_50 ?_
          refine lv_topl (fun w13 ew13 => ?_)
          refine lv_ldc2 (v := 97) hx hb hown (ht _ wd_555) dX7_scanWord_51 ?_
          refine lv_lsub hx hb dX7_scanWord_54 ?_
          refine lv_topl (fun w14 ew14 => ?_)
          refine lv_lconst (v := 1) hx hb dX7_scanWord_55 rfl ?_
          refine lv_ladd hx hb dX7_scanWord_56 ?_
          refine lv_topl (fun w15 ew15 => ?_)
          refine pf_RX7_54 C hO 1 cW_1 (Nat.le_of_ble_eq_true rfl) cW_s1_5 dX7_scanWord_57 (fun H locs hO => ?_)
          have hJ := CIs_1_5 (v := w15) hJ
          refine lv_aload_n hx hb dX7_scanWord_60 rfl (lv_at hl 0 rfl) ?_
          refine lv_dup hx hb dX7_scanWord_61 rfl ?_
          refine gf_RX7_19 (v := .int n_k2) C hO 1 cW_1 (congrArg (fun z : Int32 => some (Value.int z)) hn_k2) dX7_scanWord_62 ?_
          refine lv_iconst (v := 1) hx hb dX7_scanWord_65 (by decide) ?_
          have e16 : ((n_k2 + 1)).toInt = (n_k2).toInt + 1 := i_add rfl rfl (by omega)
          refine lv_iadd hx hb dX7_scanWord_66 ?_
          refine pf_RX7_19 C hO 1 cW_1 (Nat.le_of_ble_eq_true rfl) cW_s1_2 dX7_scanWord_67 (fun H locs hO => ?_)
          have hJ := CIs_1_2 (v := (n_k2 + 1)) hJ (by first | decide | omega)
          refine lv_goto (tgt := 5) hx hb dX7_scanWord_70 (by decide) ?_
          exact ih_k2 _ _ _ _ ((n_k2 + 1)) hO (lv_sub hl [0] rfl) (by exact hJ) (by exact hT) (by exact hW) (by exact rfl) (by first | decide | omega) (by first | decide | omega)
  have g17 : 0 ≤ (fI u 1 2).toInt ∧ (fI u 1 2).toInt ≤ 1600 := by have h := CI_1_2 hJ; exact h
  exact LP_5_k2 4000 _ _ _ _ ((fI u 1 2)) hO (lv_sub hl [0] rfl) (by exact hJ) (by exact hT) (by exact hW) (by exact rfl) (by first | decide | omega) (by first | decide | omega)
theorem dX7_scanNumber_0 : decode cX7_scanNumber 0 = .ok (.aload_n 0, 1) := by decide +kernel
theorem dX7_scanNumber_1 : decode cX7_scanNumber 1 = .ok (.iconst 0, 1) := by decide +kernel
theorem dX7_scanNumber_2 : decode cX7_scanNumber 2 = .ok (.putfield 62, 3) := by decide +kernel
theorem dX7_scanNumber_5 : decode cX7_scanNumber 5 = .ok (.aload_n 0, 1) := by decide +kernel
theorem dX7_scanNumber_6 : decode cX7_scanNumber 6 = .ok (.getfield 19, 3) := by decide +kernel
theorem dX7_scanNumber_9 : decode cX7_scanNumber 9 = .ok (.aload_n 0, 1) := by decide +kernel
theorem dX7_scanNumber_10 : decode cX7_scanNumber 10 = .ok (.getfield 15, 3) := by decide +kernel
theorem dX7_scanNumber_13 : decode cX7_scanNumber 13 = .ok (.if_icmp .ge 55, 3) := by decide +kernel
theorem dX7_scanNumber_16 : decode cX7_scanNumber 16 = .ok (.aload_n 0, 1) := by decide +kernel
theorem dX7_scanNumber_17 : decode cX7_scanNumber 17 = .ok (.getfield 9, 3) := by decide +kernel
theorem dX7_scanNumber_20 : decode cX7_scanNumber 20 = .ok (.aload_n 0, 1) := by decide +kernel
theorem dX7_scanNumber_21 : decode cX7_scanNumber 21 = .ok (.getfield 19, 3) := by decide +kernel
theorem dX7_scanNumber_24 : decode cX7_scanNumber 24 = .ok (.baload, 1) := by decide +kernel
theorem dX7_scanNumber_25 : decode cX7_scanNumber 25 = .ok (.invokestatic 45, 3) := by decide +kernel
theorem dX7_scanNumber_28 : decode cX7_scanNumber 28 = .ok (.ifCond .eq 40, 3) := by decide +kernel
theorem dX7_scanNumber_31 : decode cX7_scanNumber 31 = .ok (.aload_n 0, 1) := by decide +kernel
theorem dX7_scanNumber_32 : decode cX7_scanNumber 32 = .ok (.aload_n 0, 1) := by decide +kernel
theorem dX7_scanNumber_33 : decode cX7_scanNumber 33 = .ok (.getfield 62, 3) := by decide +kernel
theorem dX7_scanNumber_36 : decode cX7_scanNumber 36 = .ok (.bipush 10, 2) := by decide +kernel
theorem dX7_scanNumber_38 : decode cX7_scanNumber 38 = .ok (.imul, 1) := by decide +kernel
theorem dX7_scanNumber_39 : decode cX7_scanNumber 39 = .ok (.aload_n 0, 1) := by decide +kernel
theorem dX7_scanNumber_40 : decode cX7_scanNumber 40 = .ok (.getfield 9, 3) := by decide +kernel
theorem dX7_scanNumber_43 : decode cX7_scanNumber 43 = .ok (.aload_n 0, 1) := by decide +kernel
theorem dX7_scanNumber_44 : decode cX7_scanNumber 44 = .ok (.getfield 19, 3) := by decide +kernel
theorem dX7_scanNumber_47 : decode cX7_scanNumber 47 = .ok (.baload, 1) := by decide +kernel
theorem dX7_scanNumber_48 : decode cX7_scanNumber 48 = .ok (.iadd, 1) := by decide +kernel
theorem dX7_scanNumber_49 : decode cX7_scanNumber 49 = .ok (.bipush 48, 2) := by decide +kernel
theorem dX7_scanNumber_51 : decode cX7_scanNumber 51 = .ok (.isub, 1) := by decide +kernel
theorem dX7_scanNumber_52 : decode cX7_scanNumber 52 = .ok (.putfield 62, 3) := by decide +kernel
theorem dX7_scanNumber_55 : decode cX7_scanNumber 55 = .ok (.aload_n 0, 1) := by decide +kernel
theorem dX7_scanNumber_56 : decode cX7_scanNumber 56 = .ok (.dup, 1) := by decide +kernel
theorem dX7_scanNumber_57 : decode cX7_scanNumber 57 = .ok (.getfield 19, 3) := by decide +kernel
theorem dX7_scanNumber_60 : decode cX7_scanNumber 60 = .ok (.iconst 1, 1) := by decide +kernel
theorem dX7_scanNumber_61 : decode cX7_scanNumber 61 = .ok (.iadd, 1) := by decide +kernel
theorem dX7_scanNumber_62 : decode cX7_scanNumber 62 = .ok (.putfield 19, 3) := by decide +kernel
theorem dX7_scanNumber_65 : decode cX7_scanNumber 65 = .ok (.goto (-60), 3) := by decide +kernel
theorem dX7_scanNumber_68 : decode cX7_scanNumber 68 = .ok (.aload_n 0, 1) := by decide +kernel
theorem dX7_scanNumber_69 : decode cX7_scanNumber 69 = .ok (.getfield 19, 3) := by decide +kernel
theorem dX7_scanNumber_72 : decode cX7_scanNumber 72 = .ok (.aload_n 0, 1) := by decide +kernel
theorem dX7_scanNumber_73 : decode cX7_scanNumber 73 = .ok (.getfield 15, 3) := by decide +kernel
theorem dX7_scanNumber_76 : decode cX7_scanNumber 76 = .ok (.if_icmp .ge 22, 3) := by decide +kernel
theorem dX7_scanNumber_79 : decode cX7_scanNumber 79 = .ok (.aload_n 0, 1) := by decide +kernel
theorem dX7_scanNumber_80 : decode cX7_scanNumber 80 = .ok (.getfield 9, 3) := by decide +kernel
theorem dX7_scanNumber_83 : decode cX7_scanNumber 83 = .ok (.aload_n 0, 1) := by decide +kernel
theorem dX7_scanNumber_84 : decode cX7_scanNumber 84 = .ok (.getfield 19, 3) := by decide +kernel
theorem dX7_scanNumber_87 : decode cX7_scanNumber 87 = .ok (.baload, 1) := by decide +kernel
theorem dX7_scanNumber_88 : decode cX7_scanNumber 88 = .ok (.invokestatic 35, 3) := by decide +kernel
theorem dX7_scanNumber_91 : decode cX7_scanNumber 91 = .ok (.ifCond .eq 7, 3) := by decide +kernel
theorem dX7_scanNumber_94 : decode cX7_scanNumber 94 = .ok (.iconst 1, 1) := by decide +kernel
theorem dX7_scanNumber_95 : decode cX7_scanNumber 95 = .ok (.goto 4, 3) := by decide +kernel
theorem dX7_scanNumber_98 : decode cX7_scanNumber 98 = .ok (.iconst 0, 1) := by decide +kernel
theorem dX7_scanNumber_99 : decode cX7_scanNumber 99 = .ok (.istore_n 1, 1) := by decide +kernel
theorem dX7_scanNumber_100 : decode cX7_scanNumber 100 = .ok (.aload_n 0, 1) := by decide +kernel
theorem dX7_scanNumber_101 : decode cX7_scanNumber 101 = .ok (.aload_n 0, 1) := by decide +kernel
theorem dX7_scanNumber_102 : decode cX7_scanNumber 102 = .ok (.getfield 19, 3) := by decide +kernel
theorem dX7_scanNumber_105 : decode cX7_scanNumber 105 = .ok (.aload_n 0, 1) := by decide +kernel
theorem dX7_scanNumber_106 : decode cX7_scanNumber 106 = .ok (.getfield 29, 3) := by decide +kernel
theorem dX7_scanNumber_109 : decode cX7_scanNumber 109 = .ok (.isub, 1) := by decide +kernel
theorem dX7_scanNumber_110 : decode cX7_scanNumber 110 = .ok (.iconst 4, 1) := by decide +kernel
theorem dX7_scanNumber_111 : decode cX7_scanNumber 111 = .ok (.if_icmp .gt 7, 3) := by decide +kernel
theorem dX7_scanNumber_114 : decode cX7_scanNumber 114 = .ok (.iload_n 1, 1) := by decide +kernel
theorem dX7_scanNumber_115 : decode cX7_scanNumber 115 = .ok (.ifCond .eq 9, 3) := by decide +kernel
theorem dX7_scanNumber_118 : decode cX7_scanNumber 118 = .ok (.sipush 203, 3) := by decide +kernel
theorem dX7_scanNumber_121 : decode cX7_scanNumber 121 = .ok (.goto 6, 3) := by decide +kernel
theorem dX7_scanNumber_124 : decode cX7_scanNumber 124 = .ok (.sipush 201, 3) := by decide +kernel
theorem dX7_scanNumber_127 : decode cX7_scanNumber 127 = .ok (.putfield 32, 3) := by decide +kernel
theorem dX7_scanNumber_130 : decode cX7_scanNumber 130 = .ok (.return_, 1) := by decide +kernel
theorem wd_615 : (Cond.code ⟨"WebCourt$Tape", "scanNumber", "()V"⟩ prog_9_method_6_code (2 : Nat) (Option.none : Option FieldType)) ∈ gtb := gtb_c3 26 (by decide +kernel) rfl
theorem wd_153 : (Cond.fieldLink "WebCourt$Tape" (62 : Nat) "WebCourt$Tape" "number" "I") ∈ gtb := gtb_c1 44 (by decide +kernel) rfl
theorem pf_RX7_62 {p : Program} {l : Launch} {e : Env} {R : Room} {s : State} {m : MethodId} {args : Array Value} {below : List Frame} {meth : Method} {c : Code} {H : Heap} {locs : List Loc} {cells slots : Nat} {Q : State → Prop} {cc : ByteArray} {pc nL : Nat} {ls : Array Slot} {rest : List Value} {D : va_G} {cy : Nat → ClassId} {A : Nat → Prop} {ws : va_W} {b : Nat} {fs : List Value} {v : Int32} {ws' : va_W} (C : Cx p s m args c cc nL RX7 D cy A) (hO : Wo D A ws s.heap H locs) (q0 : Nat) (he : ws[q0]? = some (b, .inr (7, fs))) (hlen : 6 < fs.length) (hw : ws.set q0 (b, .inr (7, fs.set 6 (.int v))) = ws') (hdg : decode cc pc = .ok (.putfield 62, 3)) (kk : ∀ (H : Heap) (locs : List Loc), Wo D A ws' s.heap H locs → W p l e R s m args below meth c H locs cells slots Q (F0 m (pc + 3) ls rest)) : W p l e R s m args below meth c H locs cells slots Q (F0 m pc ls (.int v :: .ref b :: rest)) := pF (k := 6) (ty := .int) C hO q0 he rfl inFX7 (by decide) wd_153 rfl tyX7 tyX7_ok nmX7 rfl (by decide +kernel) rfl rfl hlen hw hdg kk
theorem wd_148 : (Cond.fieldLink "WebCourt$Tape" (29 : Nat) "WebCourt$Tape" "start" "I") ∈ gtb := gtb_c1 39 (by decide +kernel) rfl
theorem gf_RX7_29 {p : Program} {l : Launch} {e : Env} {R : Room} {s : State} {m : MethodId} {args : Array Value} {below : List Frame} {meth : Method} {c : Code} {H : Heap} {locs : List Loc} {cells slots : Nat} {Q : State → Prop} {cc : ByteArray} {pc nL : Nat} {ls : Array Slot} {rest : List Value} {D : va_G} {cy : Nat → ClassId} {A : Nat → Prop} {ws : va_W} {b : Nat} {fs : List Value} {v : Value} (C : Cx p s m args c cc nL RX7 D cy A) (hO : Wo D A ws s.heap H locs) (q0 : Nat) (he : ws[q0]? = some (b, .inr (7, fs))) (hv : fs[3]? = some v) (hdg : decode cc pc = .ok (.getfield 29, 3)) (kk : W p l e R s m args below meth c H locs cells slots Q (F0 m (pc + 3) ls (v :: rest))) : W p l e R s m args below meth c H locs cells slots Q (F0 m pc ls (.ref b :: rest)) := gF (k := 3) C hO q0 he rfl inFX7 (by decide) wd_148 rfl hv hdg kk
theorem wd_150 : (Cond.fieldLink "WebCourt$Tape" (32 : Nat) "WebCourt$Tape" "kind" "I") ∈ gtb := gtb_c1 41 (by decide +kernel) rfl
theorem pf_RX7_32 {p : Program} {l : Launch} {e : Env} {R : Room} {s : State} {m : MethodId} {args : Array Value} {below : List Frame} {meth : Method} {c : Code} {H : Heap} {locs : List Loc} {cells slots : Nat} {Q : State → Prop} {cc : ByteArray} {pc nL : Nat} {ls : Array Slot} {rest : List Value} {D : va_G} {cy : Nat → ClassId} {A : Nat → Prop} {ws : va_W} {b : Nat} {fs : List Value} {v : Int32} {ws' : va_W} (C : Cx p s m args c cc nL RX7 D cy A) (hO : Wo D A ws s.heap H locs) (q0 : Nat) (he : ws[q0]? = some (b, .inr (7, fs))) (hlen : 4 < fs.length) (hw : ws.set q0 (b, .inr (7, fs.set 4 (.int v))) = ws') (hdg : decode cc pc = .ok (.putfield 32, 3)) (kk : ∀ (H : Heap) (locs : List Loc), Wo D A ws' s.heap H locs → W p l e R s m args below meth c H locs cells slots Q (F0 m (pc + 3) ls rest)) : W p l e R s m args below meth c H locs cells slots Q (F0 m pc ls (.int v :: .ref b :: rest)) := pF (k := 4) (ty := .int) C hO q0 he rfl inFX7 (by decide) wd_150 rfl tyX7 tyX7_ok nmX7 rfl (by decide +kernel) rfl rfl hlen hw hdg kk
theorem wd_609 : (Cond.methodLink "WebCourt$Tape" (45 : Nat) ⟨"WebCourt$Tape", "isDigit", "(I)Z"⟩) ∈ gtb := gtb_c3 20 (by decide +kernel) rfl
theorem wd_610 : (Cond.static ⟨"WebCourt$Tape", "isDigit", "(I)Z"⟩) ∈ gtb := gtb_c3 21 (by decide +kernel) rfl
theorem hd_yX7_isDigit : yX7_isDigit.cls ≠ "java/lang/invoke/MethodHandle" ∧ yX7_isDigit.cls ≠ "java/lang/invoke/VarHandle" ∧ (parseMethodDescriptor yX7_isDigit.desc).map (fun d => d.parameters.length) = some 1 := by decide +kernel
theorem gf_RX7_62 {p : Program} {l : Launch} {e : Env} {R : Room} {s : State} {m : MethodId} {args : Array Value} {below : List Frame} {meth : Method} {c : Code} {H : Heap} {locs : List Loc} {cells slots : Nat} {Q : State → Prop} {cc : ByteArray} {pc nL : Nat} {ls : Array Slot} {rest : List Value} {D : va_G} {cy : Nat → ClassId} {A : Nat → Prop} {ws : va_W} {b : Nat} {fs : List Value} {v : Value} (C : Cx p s m args c cc nL RX7 D cy A) (hO : Wo D A ws s.heap H locs) (q0 : Nat) (he : ws[q0]? = some (b, .inr (7, fs))) (hv : fs[6]? = some v) (hdg : decode cc pc = .ok (.getfield 62, 3)) (kk : W p l e R s m args below meth c H locs cells slots Q (F0 m (pc + 3) ls (v :: rest))) : W p l e R s m args below meth c H locs cells slots Q (F0 m pc ls (.ref b :: rest)) := gF (k := 6) C hO q0 he rfl inFX7 (by decide) wd_153 rfl hv hdg kk
set_option maxHeartbeats 4000000 in
set_option maxRecDepth 100000 in
theorem T_X7_scanNumber (l : Launch) (D : va_G) (cy : Nat → ClassId) (a : Nat → Nat) (u : St) (hJ : CI a u) (hW : fR u 2 = a 15)   : Mv l D cy (cW cy a) yX7_scanNumber (.code yX7_scanNumber cX7_scanNumber 2 none) (rmo 1 20) [.ref (a 1)] u (fun (u' : St) => (CI a u') ∧ (KR u u') ∧ (fR u' 2 = a 15)) := by
  refine Mv.of (own := RX7) rfl (by decide) (Nat.le_of_ble_eq_true rfl) ?_
  have hT : KR u u := KR.rf
  intro p e s m below meth c A Q ls C hret hO hl
  obtain ⟨hx, hb, hml, hown, ht, hK, hA⟩ := id C
  have hl : lv_has ls 2 [(0, .ref (a 1))] := hl
  refine lv_aload_n hx hb dX7_scanNumber_0 rfl (lv_at hl 0 rfl) ?_
  refine lv_iconst (v := 0) hx hb dX7_scanNumber_1 (by decide) ?_
  refine pf_RX7_62 C hO 1 cW_1 (Nat.le_of_ble_eq_true rfl) cW_s1_6 dX7_scanNumber_2 (fun H locs hO => ?_)
  have hJ := CIs_1_6 (v := 0) hJ
  have LP_5_k2 : ∀ (n : Nat) (u1 : St) (H : Heap) (locs : List Loc) (ls : Array Slot) (n_k2 : Int32), Wo D A (cW cy a u1) s.heap H locs → lv_has ls 2 [(0, .ref (a 1))] → CI a u1 → KR u u1 → fR u1 2 = a 15 → fI u1 1 2 = n_k2 → 0 ≤ n_k2.toInt ∧ n_k2.toInt ≤ 1600 → 1600 - n_k2.toInt < (n : Int) → W p l e (rmo 1 20) s m [.ref (a 1)].toArray below meth c H locs 0 0 Q (F0 m 5 ls []) := by
    intro n
    induction n with
    | zero =>
      intro u1 H locs ls n_k2 hO hl hJ hT hW hn_k2 iv0_k2 hm_k2
      exact absurd hm_k2 (by omega)
    | succ n ih_k2 =>
      intro u1 H locs ls n_k2 hO hl hJ hT hW hn_k2 iv0_k2 hm_k2
      refine lv_aload_n hx hb dX7_scanNumber_5 rfl (lv_at hl 0 rfl) ?_
      refine gf_RX7_19 (v := .int n_k2) C hO 1 cW_1 (congrArg (fun z : Int32 => some (Value.int z)) hn_k2) dX7_scanNumber_6 ?_
      refine lv_aload_n hx hb dX7_scanNumber_9 rfl (lv_at hl 0 rfl) ?_
      have g3 : 0 ≤ (fI u1 1 1).toInt ∧ (fI u1 1 1).toInt ≤ 1600 := by have h := CI_1_1 hJ; exact h
      refine gf_RX7_15 (v := .int (fI u1 1 1)) C hO 1 cW_1 rfl dX7_scanNumber_10 ?_
      refine cs_ge (tgt := 68) (X := (n_k2).toInt) (Y := ((fI u1 1 1)).toInt) hx hb dX7_scanNumber_13 (by decide) rfl rfl (fun c4 => ?_) (fun c4 => ?_)
      · refine lv_aload_n hx hb dX7_scanNumber_68 rfl (lv_at hl 0 rfl) ?_
        refine gf_RX7_19 (v := .int n_k2) C hO 1 cW_1 (congrArg (fun z : Int32 => some (Value.int z)) hn_k2) dX7_scanNumber_69 ?_
        refine lv_aload_n hx hb dX7_scanNumber_72 rfl (lv_at hl 0 rfl) ?_
        refine gf_RX7_15 (v := .int (fI u1 1 1)) C hO 1 cW_1 rfl dX7_scanNumber_73 ?_
        refine cs_ge (tgt := 98) (X := (n_k2).toInt) (Y := ((fI u1 1 1)).toInt) hx hb dX7_scanNumber_76 (by decide) rfl rfl (fun c5 => ?_) (fun c5 => ?_)
        · refine lv_iconst (v := 0) hx hb dX7_scanNumber_98 (by decide) ?_
          refine lv_istore_n (lv' := [(1, .int 0), (0, .ref (a 1))]) hx hb dX7_scanNumber_99 rfl hl (by decide) rfl (fun ls hl => ?_)
          refine lv_aload_n hx hb dX7_scanNumber_100 rfl (lv_at hl 1 rfl) ?_
          refine lv_aload_n hx hb dX7_scanNumber_101 rfl (lv_at hl 1 rfl) ?_
          refine gf_RX7_19 (v := .int n_k2) C hO 1 cW_1 (congrArg (fun z : Int32 => some (Value.int z)) hn_k2) dX7_scanNumber_102 ?_
          refine lv_aload_n hx hb dX7_scanNumber_105 rfl (lv_at hl 1 rfl) ?_
          refine gf_RX7_29 (v := .int (fI u1 1 3)) C hO 1 cW_1 rfl dX7_scanNumber_106 ?_
          refine lv_isub hx hb dX7_scanNumber_109 ?_
          refine lv_iconst (v := 4) hx hb dX7_scanNumber_110 (by decide) ?_
          refine cs_gt (tgt := 118) (X := ((n_k2 - (fI u1 1 3))).toInt) (Y := 4) hx hb dX7_scanNumber_111 (by decide) rfl rfl (fun c6 => ?_) (fun c6 => ?_)
          · refine lv_sipush (v := 203) hx hb dX7_scanNumber_118 (by decide) ?_
            refine lv_goto (tgt := 127) hx hb dX7_scanNumber_121 (by decide) ?_
            refine pf_RX7_32 C hO 1 cW_1 (Nat.le_of_ble_eq_true rfl) cW_s1_4 dX7_scanNumber_127 (fun H locs hO => ?_)
            have hJ := CIs_1_4 (v := 203) hJ
            refine hret _ _ _ _ _ dX7_scanNumber_130 ?_ hO
            exact ⟨hJ, hT, hW⟩
          · refine lv_iload_n hx hb dX7_scanNumber_114 rfl (lv_at hl 0 rfl) ?_
            refine bt_eq (tgt := 124) (X := 0) hx hb dX7_scanNumber_115 (by decide) rfl (by omega) ?_
            refine lv_sipush (v := 201) hx hb dX7_scanNumber_124 (by decide) ?_
            refine pf_RX7_32 C hO 1 cW_1 (Nat.le_of_ble_eq_true rfl) cW_s1_4 dX7_scanNumber_127 (fun H locs hO => ?_)
            have hJ := CIs_1_4 (v := 201) hJ
            refine hret _ _ _ _ _ dX7_scanNumber_130 ?_ hO
            exact ⟨hJ, hT, hW⟩
        · refine lv_aload_n hx hb dX7_scanNumber_79 rfl (lv_at hl 0 rfl) ?_
          refine gf_RX7_9 (v := .ref (a 2)) C hO 1 cW_1 rfl dX7_scanNumber_80 ?_
          refine lv_aload_n hx hb dX7_scanNumber_83 rfl (lv_at hl 0 rfl) ?_
          refine gf_RX7_19 (v := .int n_k2) C hO 1 cW_1 (congrArg (fun z : Int32 => some (Value.int z)) hn_k2) dX7_scanNumber_84 ?_
          refine aB C hO 2 cW_2 (i_in (X := (n_k2).toInt) rfl (by omega) (by omega)) dX7_scanNumber_87 ?_
          refine lv_topi (fun w7 ew7 => ?_)
          refine cSi (w := cW cy a) (As := [.int w7]) (rest := []) C hO (T_X7_isLetter l D cy a _ (by exact hJ) (w7)) (va_cwS 1 ht (gSS wd_547 wd_548 wd_111 wd_549) rfl rfl rfl hd_yX7_isLetter ⟨Nat.le_of_ble_eq_true rfl, Nat.le_of_ble_eq_true rfl⟩)  rfl hl.1 (Nat.le_of_ble_eq_true rfl) dX7_scanNumber_88 rfl ⟨Nat.zero_le _, Nat.zero_le _⟩ (fun r8 u9 H locs hp10 hO => ?_)
          obtain ⟨hr8, hu9⟩ := hp10
          have gr8 : 0 ≤ r8.toInt ∧ r8.toInt ≤ 1 := by rcases hr8 with h | h <;> rw [h] <;> decide
          rw [hu9] at hO
          refine bs_eq (tgt := 98) (X := (r8).toInt) hx hb dX7_scanNumber_91 (by decide) rfl (fun c11 => ?_) (fun c11 => ?_)
          · refine lv_iconst (v := 0) hx hb dX7_scanNumber_98 (by decide) ?_
            refine lv_istore_n (lv' := [(1, .int 0), (0, .ref (a 1))]) hx hb dX7_scanNumber_99 rfl hl (by decide) rfl (fun ls hl => ?_)
            refine lv_aload_n hx hb dX7_scanNumber_100 rfl (lv_at hl 1 rfl) ?_
            refine lv_aload_n hx hb dX7_scanNumber_101 rfl (lv_at hl 1 rfl) ?_
            refine gf_RX7_19 (v := .int n_k2) C hO 1 cW_1 (congrArg (fun z : Int32 => some (Value.int z)) hn_k2) dX7_scanNumber_102 ?_
            refine lv_aload_n hx hb dX7_scanNumber_105 rfl (lv_at hl 1 rfl) ?_
            refine gf_RX7_29 (v := .int (fI u1 1 3)) C hO 1 cW_1 rfl dX7_scanNumber_106 ?_
            refine lv_isub hx hb dX7_scanNumber_109 ?_
            refine lv_iconst (v := 4) hx hb dX7_scanNumber_110 (by decide) ?_
            refine cs_gt (tgt := 118) (X := ((n_k2 - (fI u1 1 3))).toInt) (Y := 4) hx hb dX7_scanNumber_111 (by decide) rfl rfl (fun c12 => ?_) (fun c12 => ?_)
            · refine lv_sipush (v := 203) hx hb dX7_scanNumber_118 (by decide) ?_
              refine lv_goto (tgt := 127) hx hb dX7_scanNumber_121 (by decide) ?_
              refine pf_RX7_32 C hO 1 cW_1 (Nat.le_of_ble_eq_true rfl) cW_s1_4 dX7_scanNumber_127 (fun H locs hO => ?_)
              have hJ := CIs_1_4 (v := 203) hJ
              refine hret _ _ _ _ _ dX7_scanNumber_130 ?_ hO
              exact ⟨hJ, hT, hW⟩
            · refine lv_iload_n hx hb dX7_scanNumber_114 rfl (lv_at hl 0 rfl) ?_
              refine bt_eq (tgt := 124) (X := 0) hx hb dX7_scanNumber_115 (by decide) rfl (by omega) ?_
              refine lv_sipush (v := 201) hx hb dX7_scanNumber_124 (by decide) ?_
              refine pf_RX7_32 C hO 1 cW_1 (Nat.le_of_ble_eq_true rfl) cW_s1_4 dX7_scanNumber_127 (fun H locs hO => ?_)
              have hJ := CIs_1_4 (v := 201) hJ
              refine hret _ _ _ _ _ dX7_scanNumber_130 ?_ hO
              exact ⟨hJ, hT, hW⟩
          · refine lv_iconst (v := 1) hx hb dX7_scanNumber_94 (by decide) ?_
            refine lv_goto (tgt := 99) hx hb dX7_scanNumber_95 (by decide) ?_
            refine lv_istore_n (lv' := [(1, .int 1), (0, .ref (a 1))]) hx hb dX7_scanNumber_99 rfl hl (by decide) rfl (fun ls hl => ?_)
            refine lv_aload_n hx hb dX7_scanNumber_100 rfl (lv_at hl 1 rfl) ?_
            refine lv_aload_n hx hb dX7_scanNumber_101 rfl (lv_at hl 1 rfl) ?_
            refine gf_RX7_19 (v := .int n_k2) C hO 1 cW_1 (congrArg (fun z : Int32 => some (Value.int z)) hn_k2) dX7_scanNumber_102 ?_
            refine lv_aload_n hx hb dX7_scanNumber_105 rfl (lv_at hl 1 rfl) ?_
            refine gf_RX7_29 (v := .int (fI u1 1 3)) C hO 1 cW_1 rfl dX7_scanNumber_106 ?_
            refine lv_isub hx hb dX7_scanNumber_109 ?_
            refine lv_iconst (v := 4) hx hb dX7_scanNumber_110 (by decide) ?_
            refine cs_gt (tgt := 118) (X := ((n_k2 - (fI u1 1 3))).toInt) (Y := 4) hx hb dX7_scanNumber_111 (by decide) rfl rfl (fun c13 => ?_) (fun c13 => ?_)
            · refine lv_sipush (v := 203) hx hb dX7_scanNumber_118 (by decide) ?_
              refine lv_goto (tgt := 127) hx hb dX7_scanNumber_121 (by decide) ?_
              refine pf_RX7_32 C hO 1 cW_1 (Nat.le_of_ble_eq_true rfl) cW_s1_4 dX7_scanNumber_127 (fun H locs hO => ?_)
              have hJ := CIs_1_4 (v := 203) hJ
              refine hret _ _ _ _ _ dX7_scanNumber_130 ?_ hO
              exact ⟨hJ, hT, hW⟩
            · refine lv_iload_n hx hb dX7_scanNumber_114 rfl (lv_at hl 0 rfl) ?_
              refine bn_eq (X := 1) hx hb dX7_scanNumber_115 rfl (by omega) ?_ (tgt := 124) (by decide)
              refine lv_sipush (v := 203) hx hb dX7_scanNumber_118 (by decide) ?_
              refine lv_goto (tgt := 127) hx hb dX7_scanNumber_121 (by decide) ?_
              refine pf_RX7_32 C hO 1 cW_1 (Nat.le_of_ble_eq_true rfl) cW_s1_4 dX7_scanNumber_127 (fun H locs hO => ?_)
              have hJ := CIs_1_4 (v := 203) hJ
              refine hret _ _ _ _ _ dX7_scanNumber_130 ?_ hO
              exact ⟨hJ, hT, hW⟩
      · refine lv_aload_n hx hb dX7_scanNumber_16 rfl (lv_at hl 0 rfl) ?_
        refine gf_RX7_9 (v := .ref (a 2)) C hO 1 cW_1 rfl dX7_scanNumber_17 ?_
        refine lv_aload_n hx hb dX7_scanNumber_20 rfl (lv_at hl 0 rfl) ?_
        refine gf_RX7_19 (v := .int n_k2) C hO 1 cW_1 (congrArg (fun z : Int32 => some (Value.int z)) hn_k2) dX7_scanNumber_21 ?_
        refine aB C hO 2 cW_2 (i_in (X := (n_k2).toInt) rfl (by omega) (by omega)) dX7_scanNumber_24 ?_
        refine lv_topi (fun w14 ew14 => ?_)
        refine cSi (w := cW cy a) (As := [.int w14]) (rest := []) C hO (T_X7_isDigit l D cy a _ (by exact hJ) (w14)) (va_cwS 1 ht (gSS wd_609 wd_610 wd_111 wd_611) rfl rfl rfl hd_yX7_isDigit ⟨Nat.le_of_ble_eq_true rfl, Nat.le_of_ble_eq_true rfl⟩)  rfl hl.1 (Nat.le_of_ble_eq_true rfl) dX7_scanNumber_25 rfl ⟨Nat.zero_le _, Nat.zero_le _⟩ (fun r15 u16 H locs hp17 hO => ?_)
        obtain ⟨hr15, hu16⟩ := hp17
        have gr15 : 0 ≤ r15.toInt ∧ r15.toInt ≤ 1 := by rcases hr15 with h | h <;> rw [h] <;> decide
        rw [hu16] at hO
        refine bs_eq (tgt := 68) (X := (r15).toInt) hx hb dX7_scanNumber_28 (by decide) rfl (fun c18 => ?_) (fun c18 => ?_)
        · refine lv_aload_n hx hb dX7_scanNumber_68 rfl (lv_at hl 0 rfl) ?_
          refine gf_RX7_19 (v := .int n_k2) C hO 1 cW_1 (congrArg (fun z : Int32 => some (Value.int z)) hn_k2) dX7_scanNumber_69 ?_
          refine lv_aload_n hx hb dX7_scanNumber_72 rfl (lv_at hl 0 rfl) ?_
          refine gf_RX7_15 (v := .int (fI u1 1 1)) C hO 1 cW_1 rfl dX7_scanNumber_73 ?_
          refine cs_ge (tgt := 98) (X := (n_k2).toInt) (Y := ((fI u1 1 1)).toInt) hx hb dX7_scanNumber_76 (by decide) rfl rfl (fun c19 => ?_) (fun c19 => ?_)
          · refine lv_iconst (v := 0) hx hb dX7_scanNumber_98 (by decide) ?_
            refine lv_istore_n (lv' := [(1, .int 0), (0, .ref (a 1))]) hx hb dX7_scanNumber_99 rfl hl (by decide) rfl (fun ls hl => ?_)
            refine lv_aload_n hx hb dX7_scanNumber_100 rfl (lv_at hl 1 rfl) ?_
            refine lv_aload_n hx hb dX7_scanNumber_101 rfl (lv_at hl 1 rfl) ?_
            refine gf_RX7_19 (v := .int n_k2) C hO 1 cW_1 (congrArg (fun z : Int32 => some (Value.int z)) hn_k2) dX7_scanNumber_102 ?_
            refine lv_aload_n hx hb dX7_scanNumber_105 rfl (lv_at hl 1 rfl) ?_
            refine gf_RX7_29 (v := .int (fI u1 1 3)) C hO 1 cW_1 rfl dX7_scanNumber_106 ?_
            refine lv_isub hx hb dX7_scanNumber_109 ?_
            refine lv_iconst (v := 4) hx hb dX7_scanNumber_110 (by decide) ?_
            refine cs_gt (tgt := 118) (X := ((n_k2 - (fI u1 1 3))).toInt) (Y := 4) hx hb dX7_scanNumber_111 (by decide) rfl rfl (fun c20 => ?_) (fun c20 => ?_)
            · refine lv_sipush (v := 203) hx hb dX7_scanNumber_118 (by decide) ?_
              refine lv_goto (tgt := 127) hx hb dX7_scanNumber_121 (by decide) ?_
              refine pf_RX7_32 C hO 1 cW_1 (Nat.le_of_ble_eq_true rfl) cW_s1_4 dX7_scanNumber_127 (fun H locs hO => ?_)
              have hJ := CIs_1_4 (v := 203) hJ
              refine hret _ _ _ _ _ dX7_scanNumber_130 ?_ hO
              exact ⟨hJ, hT, hW⟩
            · refine lv_iload_n hx hb dX7_scanNumber_114 rfl (lv_at hl 0 rfl) ?_
              refine bt_eq (tgt := 124) (X := 0) hx hb dX7_scanNumber_115 (by decide) rfl (by omega) ?_
              refine lv_sipush (v := 201) hx hb dX7_scanNumber_124 (by decide) ?_
              refine pf_RX7_32 C hO 1 cW_1 (Nat.le_of_ble_eq_true rfl) cW_s1_4 dX7_scanNumber_127 (fun H locs hO => ?_)
              have hJ := CIs_1_4 (v := 201) hJ
              refine hret _ _ _ _ _ dX7_scanNumber_130 ?_ hO
              exact ⟨hJ, hT, hW⟩
          · refine lv_aload_n hx hb dX7_scanNumber_79 rfl (lv_at hl 0 rfl) ?_
            refine gf_RX7_9 (v := .ref (a 2)) C hO 1 cW_1 rfl dX7_scanNumber_80 ?_
            refine lv_aload_n hx hb dX7_scanNumber_83 rfl (lv_at hl 0 rfl) ?_
            refine gf_RX7_19 (v := .int n_k2) C hO 1 cW_1 (congrArg (fun z : Int32 => some (Value.int z)) hn_k2) dX7_scanNumber_84 ?_
            refine aB C hO 2 cW_2 (i_in (X := (n_k2).toInt) rfl (by omega) (by omega)) dX7_scanNumber_87 ?_
            refine lv_topi (fun w21 ew21 => ?_)
            refine cSi (w := cW cy a) (As := [.int w21]) (rest := []) C hO (T_X7_isLetter l D cy a _ (by exact hJ) (w21)) (va_cwS 1 ht (gSS wd_547 wd_548 wd_111 wd_549) rfl rfl rfl hd_yX7_isLetter ⟨Nat.le_of_ble_eq_true rfl, Nat.le_of_ble_eq_true rfl⟩)  rfl hl.1 (Nat.le_of_ble_eq_true rfl) dX7_scanNumber_88 rfl ⟨Nat.zero_le _, Nat.zero_le _⟩ (fun r22 u23 H locs hp24 hO => ?_)
            obtain ⟨hr22, hu23⟩ := hp24
            have gr22 : 0 ≤ r22.toInt ∧ r22.toInt ≤ 1 := by rcases hr22 with h | h <;> rw [h] <;> decide
            rw [hu23] at hO
            refine bs_eq (tgt := 98) (X := (r22).toInt) hx hb dX7_scanNumber_91 (by decide) rfl (fun c25 => ?_) (fun c25 => ?_)
            · refine lv_iconst (v := 0) hx hb dX7_scanNumber_98 (by decide) ?_
              refine lv_istore_n (lv' := [(1, .int 0), (0, .ref (a 1))]) hx hb dX7_scanNumber_99 rfl hl (by decide) rfl (fun ls hl => ?_)
              refine lv_aload_n hx hb dX7_scanNumber_100 rfl (lv_at hl 1 rfl) ?_
              refine lv_aload_n hx hb dX7_scanNumber_101 rfl (lv_at hl 1 rfl) ?_
              refine gf_RX7_19 (v := .int n_k2) C hO 1 cW_1 (congrArg (fun z : Int32 => some (Value.int z)) hn_k2) dX7_scanNumber_102 ?_
              refine lv_aload_n hx hb dX7_scanNumber_105 rfl (lv_at hl 1 rfl) ?_
              refine gf_RX7_29 (v := .int (fI u1 1 3)) C hO 1 cW_1 rfl dX7_scanNumber_106 ?_
              refine lv_isub hx hb dX7_scanNumber_109 ?_
              refine lv_iconst (v := 4) hx hb dX7_scanNumber_110 (by decide) ?_
              refine cs_gt (tgt := 118) (X := ((n_k2 - (fI u1 1 3))).toInt) (Y := 4) hx hb dX7_scanNumber_111 (by decide) rfl rfl (fun c26 => ?_) (fun c26 => ?_)
              · refine lv_sipush (v := 203) hx hb dX7_scanNumber_118 (by decide) ?_
                refine lv_goto (tgt := 127) hx hb dX7_scanNumber_121 (by decide) ?_
                refine pf_RX7_32 C hO 1 cW_1 (Nat.le_of_ble_eq_true rfl) cW_s1_4 dX7_scanNumber_127 (fun H locs hO => ?_)
                have hJ := CIs_1_4 (v := 203) hJ
                refine hret _ _ _ _ _ dX7_scanNumber_130 ?_ hO
                exact ⟨hJ, hT, hW⟩
              · refine lv_iload_n hx hb dX7_scanNumber_114 rfl (lv_at hl 0 rfl) ?_
                refine bt_eq (tgt := 124) (X := 0) hx hb dX7_scanNumber_115 (by decide) rfl (by omega) ?_
                refine lv_sipush (v := 201) hx hb dX7_scanNumber_124 (by decide) ?_
                refine pf_RX7_32 C hO 1 cW_1 (Nat.le_of_ble_eq_true rfl) cW_s1_4 dX7_scanNumber_127 (fun H locs hO => ?_)
                have hJ := CIs_1_4 (v := 201) hJ
                refine hret _ _ _ _ _ dX7_scanNumber_130 ?_ hO
                exact ⟨hJ, hT, hW⟩
            · refine lv_iconst (v := 1) hx hb dX7_scanNumber_94 (by decide) ?_
              refine lv_goto (tgt := 99) hx hb dX7_scanNumber_95 (by decide) ?_
              refine lv_istore_n (lv' := [(1, .int 1), (0, .ref (a 1))]) hx hb dX7_scanNumber_99 rfl hl (by decide) rfl (fun ls hl => ?_)
              refine lv_aload_n hx hb dX7_scanNumber_100 rfl (lv_at hl 1 rfl) ?_
              refine lv_aload_n hx hb dX7_scanNumber_101 rfl (lv_at hl 1 rfl) ?_
              refine gf_RX7_19 (v := .int n_k2) C hO 1 cW_1 (congrArg (fun z : Int32 => some (Value.int z)) hn_k2) dX7_scanNumber_102 ?_
              refine lv_aload_n hx hb dX7_scanNumber_105 rfl (lv_at hl 1 rfl) ?_
              refine gf_RX7_29 (v := .int (fI u1 1 3)) C hO 1 cW_1 rfl dX7_scanNumber_106 ?_
              refine lv_isub hx hb dX7_scanNumber_109 ?_
              refine lv_iconst (v := 4) hx hb dX7_scanNumber_110 (by decide) ?_
              refine cs_gt (tgt := 118) (X := ((n_k2 - (fI u1 1 3))).toInt) (Y := 4) hx hb dX7_scanNumber_111 (by decide) rfl rfl (fun c27 => ?_) (fun c27 => ?_)
              · refine lv_sipush (v := 203) hx hb dX7_scanNumber_118 (by decide) ?_
                refine lv_goto (tgt := 127) hx hb dX7_scanNumber_121 (by decide) ?_
                refine pf_RX7_32 C hO 1 cW_1 (Nat.le_of_ble_eq_true rfl) cW_s1_4 dX7_scanNumber_127 (fun H locs hO => ?_)
                have hJ := CIs_1_4 (v := 203) hJ
                refine hret _ _ _ _ _ dX7_scanNumber_130 ?_ hO
                exact ⟨hJ, hT, hW⟩
              · refine lv_iload_n hx hb dX7_scanNumber_114 rfl (lv_at hl 0 rfl) ?_
                refine bn_eq (X := 1) hx hb dX7_scanNumber_115 rfl (by omega) ?_ (tgt := 124) (by decide)
                refine lv_sipush (v := 203) hx hb dX7_scanNumber_118 (by decide) ?_
                refine lv_goto (tgt := 127) hx hb dX7_scanNumber_121 (by decide) ?_
                refine pf_RX7_32 C hO 1 cW_1 (Nat.le_of_ble_eq_true rfl) cW_s1_4 dX7_scanNumber_127 (fun H locs hO => ?_)
                have hJ := CIs_1_4 (v := 203) hJ
                refine hret _ _ _ _ _ dX7_scanNumber_130 ?_ hO
                exact ⟨hJ, hT, hW⟩
        · refine lv_aload_n hx hb dX7_scanNumber_31 rfl (lv_at hl 0 rfl) ?_
          refine lv_aload_n hx hb dX7_scanNumber_32 rfl (lv_at hl 0 rfl) ?_
          refine gf_RX7_62 (v := .int (fI u1 1 6)) C hO 1 cW_1 rfl dX7_scanNumber_33 ?_
          refine lv_bipush (v := 10) hx hb dX7_scanNumber_36 (by decide) ?_
          refine lv_imul hx hb dX7_scanNumber_38 ?_
          refine lv_aload_n hx hb dX7_scanNumber_39 rfl (lv_at hl 0 rfl) ?_
          refine gf_RX7_9 (v := .ref (a 2)) C hO 1 cW_1 rfl dX7_scanNumber_40 ?_
          refine lv_aload_n hx hb dX7_scanNumber_43 rfl (lv_at hl 0 rfl) ?_
          refine gf_RX7_19 (v := .int n_k2) C hO 1 cW_1 (congrArg (fun z : Int32 => some (Value.int z)) hn_k2) dX7_scanNumber_44 ?_
          refine aB C hO 2 cW_2 (i_in (X := (n_k2).toInt) rfl (by omega) (by omega)) dX7_scanNumber_47 ?_
          refine lv_topi (fun w28 ew28 => ?_)
          refine lv_iadd hx hb dX7_scanNumber_48 ?_
          refine lv_bipush (v := 48) hx hb dX7_scanNumber_49 (by decide) ?_
          refine lv_isub hx hb dX7_scanNumber_51 ?_
          refine pf_RX7_62 C hO 1 cW_1 (Nat.le_of_ble_eq_true rfl) cW_s1_6 dX7_scanNumber_52 (fun H locs hO => ?_)
          have hJ := CIs_1_6 (v := ((((fI u1 1 6) * 10) + w28) - 48)) hJ
          refine lv_aload_n hx hb dX7_scanNumber_55 rfl (lv_at hl 0 rfl) ?_
          refine lv_dup hx hb dX7_scanNumber_56 rfl ?_
          refine gf_RX7_19 (v := .int n_k2) C hO 1 cW_1 (congrArg (fun z : Int32 => some (Value.int z)) hn_k2) dX7_scanNumber_57 ?_
          refine lv_iconst (v := 1) hx hb dX7_scanNumber_60 (by decide) ?_
          have e29 : ((n_k2 + 1)).toInt = (n_k2).toInt + 1 := i_add rfl rfl (by omega)
          refine lv_iadd hx hb dX7_scanNumber_61 ?_
          refine pf_RX7_19 C hO 1 cW_1 (Nat.le_of_ble_eq_true rfl) cW_s1_2 dX7_scanNumber_62 (fun H locs hO => ?_)
          have hJ := CIs_1_2 (v := (n_k2 + 1)) hJ (by first | decide | omega)
          refine lv_goto (tgt := 5) hx hb dX7_scanNumber_65 (by decide) ?_
          exact ih_k2 _ _ _ _ ((n_k2 + 1)) hO (lv_sub hl [0] rfl) (by exact hJ) (by exact hT) (by exact hW) (by exact rfl) (by first | decide | omega) (by first | decide | omega)
  have g30 : 0 ≤ (fI u 1 2).toInt ∧ (fI u 1 2).toInt ≤ 1600 := by have h := CI_1_2 hJ; exact h
  exact LP_5_k2 4000 _ _ _ _ ((fI u 1 2)) hO (lv_sub hl [0] rfl) (by exact hJ) (by exact hT) (by exact hW) (by exact rfl) (by first | decide | omega) (by first | decide | omega)
theorem dX7_advance_0 : decode cX7_advance 0 = .ok (.aload_n 0, 1) := by decide +kernel
theorem dX7_advance_1 : decode cX7_advance 1 = .ok (.getfield 19, 3) := by decide +kernel
theorem dX7_advance_4 : decode cX7_advance 4 = .ok (.aload_n 0, 1) := by decide +kernel
theorem dX7_advance_5 : decode cX7_advance 5 = .ok (.getfield 15, 3) := by decide +kernel
theorem dX7_advance_8 : decode cX7_advance 8 = .ok (.if_icmp .ge 31, 3) := by decide +kernel
theorem dX7_advance_11 : decode cX7_advance 11 = .ok (.aload_n 0, 1) := by decide +kernel
theorem dX7_advance_12 : decode cX7_advance 12 = .ok (.getfield 9, 3) := by decide +kernel
theorem dX7_advance_15 : decode cX7_advance 15 = .ok (.aload_n 0, 1) := by decide +kernel
theorem dX7_advance_16 : decode cX7_advance 16 = .ok (.getfield 19, 3) := by decide +kernel
theorem dX7_advance_19 : decode cX7_advance 19 = .ok (.baload, 1) := by decide +kernel
theorem dX7_advance_20 : decode cX7_advance 20 = .ok (.invokestatic 25, 3) := by decide +kernel
theorem dX7_advance_23 : decode cX7_advance 23 = .ok (.ifCond .eq 16, 3) := by decide +kernel
theorem dX7_advance_26 : decode cX7_advance 26 = .ok (.aload_n 0, 1) := by decide +kernel
theorem dX7_advance_27 : decode cX7_advance 27 = .ok (.dup, 1) := by decide +kernel
theorem dX7_advance_28 : decode cX7_advance 28 = .ok (.getfield 19, 3) := by decide +kernel
theorem dX7_advance_31 : decode cX7_advance 31 = .ok (.iconst 1, 1) := by decide +kernel
theorem dX7_advance_32 : decode cX7_advance 32 = .ok (.iadd, 1) := by decide +kernel
theorem dX7_advance_33 : decode cX7_advance 33 = .ok (.putfield 19, 3) := by decide +kernel
theorem dX7_advance_36 : decode cX7_advance 36 = .ok (.goto (-36), 3) := by decide +kernel
theorem dX7_advance_39 : decode cX7_advance 39 = .ok (.aload_n 0, 1) := by decide +kernel
theorem dX7_advance_40 : decode cX7_advance 40 = .ok (.aload_n 0, 1) := by decide +kernel
theorem dX7_advance_41 : decode cX7_advance 41 = .ok (.getfield 19, 3) := by decide +kernel
theorem dX7_advance_44 : decode cX7_advance 44 = .ok (.putfield 29, 3) := by decide +kernel
theorem dX7_advance_47 : decode cX7_advance 47 = .ok (.aload_n 0, 1) := by decide +kernel
theorem dX7_advance_48 : decode cX7_advance 48 = .ok (.getfield 19, 3) := by decide +kernel
theorem dX7_advance_51 : decode cX7_advance 51 = .ok (.aload_n 0, 1) := by decide +kernel
theorem dX7_advance_52 : decode cX7_advance 52 = .ok (.getfield 15, 3) := by decide +kernel
theorem dX7_advance_55 : decode cX7_advance 55 = .ok (.if_icmp .lt 13, 3) := by decide +kernel
theorem dX7_advance_58 : decode cX7_advance 58 = .ok (.aload_n 0, 1) := by decide +kernel
theorem dX7_advance_59 : decode cX7_advance 59 = .ok (.sipush 202, 3) := by decide +kernel
theorem dX7_advance_62 : decode cX7_advance 62 = .ok (.putfield 32, 3) := by decide +kernel
theorem dX7_advance_65 : decode cX7_advance 65 = .ok (.goto 119, 3) := by decide +kernel
theorem dX7_advance_68 : decode cX7_advance 68 = .ok (.aload_n 0, 1) := by decide +kernel
theorem dX7_advance_69 : decode cX7_advance 69 = .ok (.getfield 9, 3) := by decide +kernel
theorem dX7_advance_72 : decode cX7_advance 72 = .ok (.aload_n 0, 1) := by decide +kernel
theorem dX7_advance_73 : decode cX7_advance 73 = .ok (.getfield 19, 3) := by decide +kernel
theorem dX7_advance_76 : decode cX7_advance 76 = .ok (.baload, 1) := by decide +kernel
theorem dX7_advance_77 : decode cX7_advance 77 = .ok (.invokestatic 35, 3) := by decide +kernel
theorem dX7_advance_80 : decode cX7_advance 80 = .ok (.ifCond .eq 38, 3) := by decide +kernel
theorem dX7_advance_83 : decode cX7_advance 83 = .ok (.aload_n 0, 1) := by decide +kernel
theorem dX7_advance_84 : decode cX7_advance 84 = .ok (.invokevirtual 38, 3) := by decide +kernel
theorem dX7_advance_87 : decode cX7_advance 87 = .ok (.aload_n 0, 1) := by decide +kernel
theorem dX7_advance_88 : decode cX7_advance 88 = .ok (.aload_n 0, 1) := by decide +kernel
theorem dX7_advance_89 : decode cX7_advance 89 = .ok (.getfield 19, 3) := by decide +kernel
theorem dX7_advance_92 : decode cX7_advance 92 = .ok (.aload_n 0, 1) := by decide +kernel
theorem dX7_advance_93 : decode cX7_advance 93 = .ok (.getfield 29, 3) := by decide +kernel
theorem dX7_advance_96 : decode cX7_advance 96 = .ok (.isub, 1) := by decide +kernel
theorem dX7_advance_97 : decode cX7_advance 97 = .ok (.bipush 8, 2) := by decide +kernel
theorem dX7_advance_99 : decode cX7_advance 99 = .ok (.if_icmp .le 9, 3) := by decide +kernel
theorem dX7_advance_102 : decode cX7_advance 102 = .ok (.sipush 203, 3) := by decide +kernel
theorem dX7_advance_105 : decode cX7_advance 105 = .ok (.goto 7, 3) := by decide +kernel
theorem dX7_advance_108 : decode cX7_advance 108 = .ok (.aload_n 0, 1) := by decide +kernel
theorem dX7_advance_109 : decode cX7_advance 109 = .ok (.invokevirtual 41, 3) := by decide +kernel
theorem dX7_advance_112 : decode cX7_advance 112 = .ok (.putfield 32, 3) := by decide +kernel
theorem dX7_advance_115 : decode cX7_advance 115 = .ok (.goto 69, 3) := by decide +kernel
theorem dX7_advance_118 : decode cX7_advance 118 = .ok (.aload_n 0, 1) := by decide +kernel
theorem dX7_advance_119 : decode cX7_advance 119 = .ok (.getfield 9, 3) := by decide +kernel
theorem dX7_advance_122 : decode cX7_advance 122 = .ok (.aload_n 0, 1) := by decide +kernel
theorem dX7_advance_123 : decode cX7_advance 123 = .ok (.getfield 19, 3) := by decide +kernel
theorem dX7_advance_126 : decode cX7_advance 126 = .ok (.baload, 1) := by decide +kernel
theorem dX7_advance_127 : decode cX7_advance 127 = .ok (.invokestatic 45, 3) := by decide +kernel
theorem dX7_advance_130 : decode cX7_advance 130 = .ok (.ifCond .eq 10, 3) := by decide +kernel
theorem dX7_advance_133 : decode cX7_advance 133 = .ok (.aload_n 0, 1) := by decide +kernel
theorem dX7_advance_134 : decode cX7_advance 134 = .ok (.invokevirtual 48, 3) := by decide +kernel
theorem dX7_advance_137 : decode cX7_advance 137 = .ok (.goto 47, 3) := by decide +kernel
theorem dX7_advance_140 : decode cX7_advance 140 = .ok (.aload_n 0, 1) := by decide +kernel
theorem dX7_advance_141 : decode cX7_advance 141 = .ok (.aload_n 0, 1) := by decide +kernel
theorem dX7_advance_142 : decode cX7_advance 142 = .ok (.getfield 9, 3) := by decide +kernel
theorem dX7_advance_145 : decode cX7_advance 145 = .ok (.aload_n 0, 1) := by decide +kernel
theorem dX7_advance_146 : decode cX7_advance 146 = .ok (.getfield 19, 3) := by decide +kernel
theorem dX7_advance_149 : decode cX7_advance 149 = .ok (.baload, 1) := by decide +kernel
theorem dX7_advance_150 : decode cX7_advance 150 = .ok (.invokestatic 51, 3) := by decide +kernel
theorem dX7_advance_153 : decode cX7_advance 153 = .ok (.ifCond .eq 15, 3) := by decide +kernel
theorem dX7_advance_156 : decode cX7_advance 156 = .ok (.aload_n 0, 1) := by decide +kernel
theorem dX7_advance_157 : decode cX7_advance 157 = .ok (.getfield 9, 3) := by decide +kernel
theorem dX7_advance_160 : decode cX7_advance 160 = .ok (.aload_n 0, 1) := by decide +kernel
theorem dX7_advance_161 : decode cX7_advance 161 = .ok (.getfield 19, 3) := by decide +kernel
theorem dX7_advance_164 : decode cX7_advance 164 = .ok (.baload, 1) := by decide +kernel
theorem dX7_advance_165 : decode cX7_advance 165 = .ok (.goto 6, 3) := by decide +kernel
theorem dX7_advance_168 : decode cX7_advance 168 = .ok (.sipush 203, 3) := by decide +kernel
theorem dX7_advance_171 : decode cX7_advance 171 = .ok (.putfield 32, 3) := by decide +kernel
theorem dX7_advance_174 : decode cX7_advance 174 = .ok (.aload_n 0, 1) := by decide +kernel
theorem dX7_advance_175 : decode cX7_advance 175 = .ok (.dup, 1) := by decide +kernel
theorem dX7_advance_176 : decode cX7_advance 176 = .ok (.getfield 19, 3) := by decide +kernel
theorem dX7_advance_179 : decode cX7_advance 179 = .ok (.iconst 1, 1) := by decide +kernel
theorem dX7_advance_180 : decode cX7_advance 180 = .ok (.iadd, 1) := by decide +kernel
theorem dX7_advance_181 : decode cX7_advance 181 = .ok (.putfield 19, 3) := by decide +kernel
theorem dX7_advance_184 : decode cX7_advance 184 = .ok (.return_, 1) := by decide +kernel
theorem wd_543 : (Cond.code ⟨"WebCourt$Tape", "advance", "()V"⟩ prog_9_method_4_code (1 : Nat) (Option.none : Option FieldType)) ∈ gtb := gtb_c2 194 (by decide +kernel) rfl
theorem pf_RX7_29 {p : Program} {l : Launch} {e : Env} {R : Room} {s : State} {m : MethodId} {args : Array Value} {below : List Frame} {meth : Method} {c : Code} {H : Heap} {locs : List Loc} {cells slots : Nat} {Q : State → Prop} {cc : ByteArray} {pc nL : Nat} {ls : Array Slot} {rest : List Value} {D : va_G} {cy : Nat → ClassId} {A : Nat → Prop} {ws : va_W} {b : Nat} {fs : List Value} {v : Int32} {ws' : va_W} (C : Cx p s m args c cc nL RX7 D cy A) (hO : Wo D A ws s.heap H locs) (q0 : Nat) (he : ws[q0]? = some (b, .inr (7, fs))) (hlen : 3 < fs.length) (hw : ws.set q0 (b, .inr (7, fs.set 3 (.int v))) = ws') (hdg : decode cc pc = .ok (.putfield 29, 3)) (kk : ∀ (H : Heap) (locs : List Loc), Wo D A ws' s.heap H locs → W p l e R s m args below meth c H locs cells slots Q (F0 m (pc + 3) ls rest)) : W p l e R s m args below meth c H locs cells slots Q (F0 m pc ls (.int v :: .ref b :: rest)) := pF (k := 3) (ty := .int) C hO q0 he rfl inFX7 (by decide) wd_148 rfl tyX7 tyX7_ok nmX7 rfl (by decide +kernel) rfl rfl hlen hw hdg kk
theorem wd_616 : (Cond.methodLink "WebCourt$Tape" (51 : Nat) ⟨"WebCourt$Tape", "isSign", "(I)Z"⟩) ∈ gtb := gtb_c3 27 (by decide +kernel) rfl
theorem wd_617 : (Cond.static ⟨"WebCourt$Tape", "isSign", "(I)Z"⟩) ∈ gtb := gtb_c3 28 (by decide +kernel) rfl
theorem hd_yX7_isSign : yX7_isSign.cls ≠ "java/lang/invoke/MethodHandle" ∧ yX7_isSign.cls ≠ "java/lang/invoke/VarHandle" ∧ (parseMethodDescriptor yX7_isSign.desc).map (fun d => d.parameters.length) = some 1 := by decide +kernel
theorem wd_612 : (Cond.methodLink "WebCourt$Tape" (48 : Nat) ⟨"WebCourt$Tape", "scanNumber", "()V"⟩) ∈ gtb := gtb_c3 23 (by decide +kernel) rfl
theorem wd_614 : (Cond.instanceMethod ⟨"WebCourt$Tape", "scanNumber", "()V"⟩) ∈ gtb := gtb_c3 25 (by decide +kernel) rfl
theorem wd_2 : (Cond.selects "WebCourt$Tape" ⟨"WebCourt$Tape", "scanNumber", "()V"⟩ ⟨"WebCourt$Tape", "scanNumber", "()V"⟩) ∈ gtb := gtb_p 2 (by decide +kernel) rfl
theorem hd_yX7_scanNumber : yX7_scanNumber.cls = RX7 ∧ yX7_scanNumber.cls ≠ "java/lang/invoke/MethodHandle" ∧ yX7_scanNumber.cls ≠ "java/lang/invoke/VarHandle" ∧ (parseMethodDescriptor yX7_scanNumber.desc).map (fun d => d.parameters.length) = some 0 := by decide +kernel
theorem wd_550 : (Cond.methodLink "WebCourt$Tape" (38 : Nat) ⟨"WebCourt$Tape", "scanWord", "()V"⟩) ∈ gtb := gtb_c2 201 (by decide +kernel) rfl
theorem wd_552 : (Cond.instanceMethod ⟨"WebCourt$Tape", "scanWord", "()V"⟩) ∈ gtb := gtb_c2 203 (by decide +kernel) rfl
theorem wd_0 : (Cond.selects "WebCourt$Tape" ⟨"WebCourt$Tape", "scanWord", "()V"⟩ ⟨"WebCourt$Tape", "scanWord", "()V"⟩) ∈ gtb := gtb_p 0 (by decide +kernel) rfl
theorem hd_yX7_scanWord : yX7_scanWord.cls = RX7 ∧ yX7_scanWord.cls ≠ "java/lang/invoke/MethodHandle" ∧ yX7_scanWord.cls ≠ "java/lang/invoke/VarHandle" ∧ (parseMethodDescriptor yX7_scanWord.desc).map (fun d => d.parameters.length) = some 0 := by decide +kernel
theorem wd_556 : (Cond.methodLink "WebCourt$Tape" (41 : Nat) ⟨"WebCourt$Tape", "wordKind", "()I"⟩) ∈ gtb := gtb_c2 207 (by decide +kernel) rfl
theorem wd_558 : (Cond.instanceMethod ⟨"WebCourt$Tape", "wordKind", "()I"⟩) ∈ gtb := gtb_c2 209 (by decide +kernel) rfl
theorem wd_1 : (Cond.selects "WebCourt$Tape" ⟨"WebCourt$Tape", "wordKind", "()I"⟩ ⟨"WebCourt$Tape", "wordKind", "()I"⟩) ∈ gtb := gtb_p 1 (by decide +kernel) rfl
theorem hd_yX7_wordKind : yX7_wordKind.cls = RX7 ∧ yX7_wordKind.cls ≠ "java/lang/invoke/MethodHandle" ∧ yX7_wordKind.cls ≠ "java/lang/invoke/VarHandle" ∧ (parseMethodDescriptor yX7_wordKind.desc).map (fun d => d.parameters.length) = some 0 := by decide +kernel
theorem wd_544 : (Cond.methodLink "WebCourt$Tape" (25 : Nat) ⟨"WebCourt$Tape", "isBlank", "(I)Z"⟩) ∈ gtb := gtb_c2 195 (by decide +kernel) rfl
theorem wd_545 : (Cond.static ⟨"WebCourt$Tape", "isBlank", "(I)Z"⟩) ∈ gtb := gtb_c2 196 (by decide +kernel) rfl
theorem hd_yX7_isBlank : yX7_isBlank.cls ≠ "java/lang/invoke/MethodHandle" ∧ yX7_isBlank.cls ≠ "java/lang/invoke/VarHandle" ∧ (parseMethodDescriptor yX7_isBlank.desc).map (fun d => d.parameters.length) = some 1 := by decide +kernel
set_option maxHeartbeats 4000000 in
set_option maxRecDepth 100000 in
theorem T_X7_advance (l : Launch) (D : va_G) (cy : Nat → ClassId) (a : Nat → Nat) (u : St) (hJ : CI a u) (hW : fR u 2 = a 15)   : Mv l D cy (cW cy a) yX7_advance (.code yX7_advance cX7_advance 1 none) (rmo 5 111) [.ref (a 1)] u (fun (u' : St) => (CI a u') ∧ (KR u u') ∧ (fR u' 2 = a 15)) := by
  refine Mv.of (own := RX7) rfl (by decide) (Nat.le_of_ble_eq_true rfl) ?_
  have hT : KR u u := KR.rf
  intro p e s m below meth c A Q ls C hret hO hl
  obtain ⟨hx, hb, hml, hown, ht, hK, hA⟩ := id C
  have hl : lv_has ls 1 [(0, .ref (a 1))] := hl
  have LP_0_k2 : ∀ (n : Nat) (u1 : St) (H : Heap) (locs : List Loc) (ls : Array Slot) (n_k2 : Int32), Wo D A (cW cy a u1) s.heap H locs → lv_has ls 1 [(0, .ref (a 1))] → CI a u1 → KR u u1 → fR u1 2 = a 15 → fI u1 1 2 = n_k2 → 0 ≤ n_k2.toInt ∧ n_k2.toInt ≤ 1600 → 1600 - n_k2.toInt < (n : Int) → W p l e (rmo 5 111) s m [.ref (a 1)].toArray below meth c H locs 0 0 Q (F0 m 0 ls []) := by
    intro n
    induction n with
    | zero =>
      intro u1 H locs ls n_k2 hO hl hJ hT hW hn_k2 iv0_k2 hm_k2
      exact absurd hm_k2 (by omega)
    | succ n ih_k2 =>
      intro u1 H locs ls n_k2 hO hl hJ hT hW hn_k2 iv0_k2 hm_k2
      refine lv_aload_n hx hb dX7_advance_0 rfl (lv_at hl 0 rfl) ?_
      refine gf_RX7_19 (v := .int n_k2) C hO 1 cW_1 (congrArg (fun z : Int32 => some (Value.int z)) hn_k2) dX7_advance_1 ?_
      refine lv_aload_n hx hb dX7_advance_4 rfl (lv_at hl 0 rfl) ?_
      have g3 : 0 ≤ (fI u1 1 1).toInt ∧ (fI u1 1 1).toInt ≤ 1600 := by have h := CI_1_1 hJ; exact h
      refine gf_RX7_15 (v := .int (fI u1 1 1)) C hO 1 cW_1 rfl dX7_advance_5 ?_
      refine cs_ge (tgt := 39) (X := (n_k2).toInt) (Y := ((fI u1 1 1)).toInt) hx hb dX7_advance_8 (by decide) rfl rfl (fun c4 => ?_) (fun c4 => ?_)
      · refine lv_aload_n hx hb dX7_advance_39 rfl (lv_at hl 0 rfl) ?_
        refine lv_aload_n hx hb dX7_advance_40 rfl (lv_at hl 0 rfl) ?_
        refine gf_RX7_19 (v := .int n_k2) C hO 1 cW_1 (congrArg (fun z : Int32 => some (Value.int z)) hn_k2) dX7_advance_41 ?_
        refine pf_RX7_29 C hO 1 cW_1 (Nat.le_of_ble_eq_true rfl) cW_s1_3 dX7_advance_44 (fun H locs hO => ?_)
        have hJ := CIs_1_3 (v := n_k2) hJ
        refine lv_aload_n hx hb dX7_advance_47 rfl (lv_at hl 0 rfl) ?_
        refine gf_RX7_19 (v := .int n_k2) C hO 1 cW_1 (congrArg (fun z : Int32 => some (Value.int z)) hn_k2) dX7_advance_48 ?_
        refine lv_aload_n hx hb dX7_advance_51 rfl (lv_at hl 0 rfl) ?_
        refine gf_RX7_15 (v := .int (fI u1 1 1)) C hO 1 cW_1 rfl dX7_advance_52 ?_
        refine cs_lt (tgt := 68) (X := (n_k2).toInt) (Y := ((fI u1 1 1)).toInt) hx hb dX7_advance_55 (by decide) rfl rfl (fun c5 => ?_) (fun c5 => ?_)
        · refine lv_aload_n hx hb dX7_advance_68 rfl (lv_at hl 0 rfl) ?_
          refine gf_RX7_9 (v := .ref (a 2)) C hO 1 cW_1 rfl dX7_advance_69 ?_
          refine lv_aload_n hx hb dX7_advance_72 rfl (lv_at hl 0 rfl) ?_
          refine gf_RX7_19 (v := .int n_k2) C hO 1 cW_1 (congrArg (fun z : Int32 => some (Value.int z)) hn_k2) dX7_advance_73 ?_
          refine aB C hO 2 cW_2 (i_in (X := (n_k2).toInt) rfl (by omega) (by omega)) dX7_advance_76 ?_
          refine lv_topi (fun w6 ew6 => ?_)
          refine cSi (w := cW cy a) (As := [.int w6]) (rest := []) C hO (T_X7_isLetter l D cy a _ (by exact hJ) (w6)) (va_cwS 1 ht (gSS wd_547 wd_548 wd_111 wd_549) rfl rfl rfl hd_yX7_isLetter ⟨Nat.le_of_ble_eq_true rfl, Nat.le_of_ble_eq_true rfl⟩)  rfl hl.1 (Nat.le_of_ble_eq_true rfl) dX7_advance_77 rfl ⟨Nat.zero_le _, Nat.zero_le _⟩ (fun r7 u8 H locs hp9 hO => ?_)
          obtain ⟨hr7, hu8⟩ := hp9
          have gr7 : 0 ≤ r7.toInt ∧ r7.toInt ≤ 1 := by rcases hr7 with h | h <;> rw [h] <;> decide
          rw [hu8] at hO
          refine bs_eq (tgt := 118) (X := (r7).toInt) hx hb dX7_advance_80 (by decide) rfl (fun c10 => ?_) (fun c10 => ?_)
          · refine lv_aload_n hx hb dX7_advance_118 rfl (lv_at hl 0 rfl) ?_
            refine gf_RX7_9 (v := .ref (a 2)) C hO 1 cW_1 rfl dX7_advance_119 ?_
            refine lv_aload_n hx hb dX7_advance_122 rfl (lv_at hl 0 rfl) ?_
            refine gf_RX7_19 (v := .int n_k2) C hO 1 cW_1 (congrArg (fun z : Int32 => some (Value.int z)) hn_k2) dX7_advance_123 ?_
            refine aB C hO 2 cW_2 (i_in (X := (n_k2).toInt) rfl (by omega) (by omega)) dX7_advance_126 ?_
            refine lv_topi (fun w11 ew11 => ?_)
            refine cSi (w := cW cy a) (As := [.int w11]) (rest := []) C hO (T_X7_isDigit l D cy a _ (by exact hJ) (w11)) (va_cwS 1 ht (gSS wd_609 wd_610 wd_111 wd_611) rfl rfl rfl hd_yX7_isDigit ⟨Nat.le_of_ble_eq_true rfl, Nat.le_of_ble_eq_true rfl⟩)  rfl hl.1 (Nat.le_of_ble_eq_true rfl) dX7_advance_127 rfl ⟨Nat.zero_le _, Nat.zero_le _⟩ (fun r12 u13 H locs hp14 hO => ?_)
            obtain ⟨hr12, hu13⟩ := hp14
            have gr12 : 0 ≤ r12.toInt ∧ r12.toInt ≤ 1 := by rcases hr12 with h | h <;> rw [h] <;> decide
            rw [hu13] at hO
            refine bs_eq (tgt := 140) (X := (r12).toInt) hx hb dX7_advance_130 (by decide) rfl (fun c15 => ?_) (fun c15 => ?_)
            · refine lv_aload_n hx hb dX7_advance_140 rfl (lv_at hl 0 rfl) ?_
              refine lv_aload_n hx hb dX7_advance_141 rfl (lv_at hl 0 rfl) ?_
              refine gf_RX7_9 (v := .ref (a 2)) C hO 1 cW_1 rfl dX7_advance_142 ?_
              refine lv_aload_n hx hb dX7_advance_145 rfl (lv_at hl 0 rfl) ?_
              refine gf_RX7_19 (v := .int n_k2) C hO 1 cW_1 (congrArg (fun z : Int32 => some (Value.int z)) hn_k2) dX7_advance_146 ?_
              refine aB C hO 2 cW_2 (i_in (X := (n_k2).toInt) rfl (by omega) (by omega)) dX7_advance_149 ?_
              refine lv_topi (fun w16 ew16 => ?_)
              refine cSi (w := cW cy a) (As := [.int w16]) (rest := [.ref (a 1)]) C hO (T_X7_isSign l D cy a _ (by exact hJ) (w16)) (va_cwS 1 ht (gSS wd_616 wd_617 wd_111 wd_618) rfl rfl rfl hd_yX7_isSign ⟨Nat.le_of_ble_eq_true rfl, Nat.le_of_ble_eq_true rfl⟩)  rfl hl.1 (Nat.le_of_ble_eq_true rfl) dX7_advance_150 rfl ⟨Nat.zero_le _, Nat.zero_le _⟩ (fun r17 u18 H locs hp19 hO => ?_)
              obtain ⟨hr17, hu18⟩ := hp19
              have gr17 : 0 ≤ r17.toInt ∧ r17.toInt ≤ 1 := by rcases hr17 with h | h <;> rw [h] <;> decide
              rw [hu18] at hO
              refine bs_eq (tgt := 168) (X := (r17).toInt) hx hb dX7_advance_153 (by decide) rfl (fun c20 => ?_) (fun c20 => ?_)
              · refine lv_sipush (v := 203) hx hb dX7_advance_168 (by decide) ?_
                refine pf_RX7_32 C hO 1 cW_1 (Nat.le_of_ble_eq_true rfl) cW_s1_4 dX7_advance_171 (fun H locs hO => ?_)
                have hJ := CIs_1_4 (v := 203) hJ
                refine lv_aload_n hx hb dX7_advance_174 rfl (lv_at hl 0 rfl) ?_
                refine lv_dup hx hb dX7_advance_175 rfl ?_
                refine gf_RX7_19 (v := .int n_k2) C hO 1 cW_1 (congrArg (fun z : Int32 => some (Value.int z)) hn_k2) dX7_advance_176 ?_
                refine lv_iconst (v := 1) hx hb dX7_advance_179 (by decide) ?_
                have e21 : ((n_k2 + 1)).toInt = (n_k2).toInt + 1 := i_add rfl rfl (by omega)
                refine lv_iadd hx hb dX7_advance_180 ?_
                refine pf_RX7_19 C hO 1 cW_1 (Nat.le_of_ble_eq_true rfl) cW_s1_2 dX7_advance_181 (fun H locs hO => ?_)
                have hJ := CIs_1_2 (v := (n_k2 + 1)) hJ (by first | decide | omega)
                refine hret _ _ _ _ _ dX7_advance_184 ?_ hO
                exact ⟨hJ, hT, hW⟩
              · refine lv_aload_n hx hb dX7_advance_156 rfl (lv_at hl 0 rfl) ?_
                refine gf_RX7_9 (v := .ref (a 2)) C hO 1 cW_1 rfl dX7_advance_157 ?_
                refine lv_aload_n hx hb dX7_advance_160 rfl (lv_at hl 0 rfl) ?_
                refine gf_RX7_19 (v := .int n_k2) C hO 1 cW_1 (congrArg (fun z : Int32 => some (Value.int z)) hn_k2) dX7_advance_161 ?_
                refine aB C hO 2 cW_2 (i_in (X := (n_k2).toInt) rfl (by omega) (by omega)) dX7_advance_164 ?_
                refine lv_topi (fun w22 ew22 => ?_)
                refine lv_goto (tgt := 171) hx hb dX7_advance_165 (by decide) ?_
                refine pf_RX7_32 C hO 1 cW_1 (Nat.le_of_ble_eq_true rfl) cW_s1_4 dX7_advance_171 (fun H locs hO => ?_)
                have hJ := CIs_1_4 (v := w22) hJ
                refine lv_aload_n hx hb dX7_advance_174 rfl (lv_at hl 0 rfl) ?_
                refine lv_dup hx hb dX7_advance_175 rfl ?_
                refine gf_RX7_19 (v := .int n_k2) C hO 1 cW_1 (congrArg (fun z : Int32 => some (Value.int z)) hn_k2) dX7_advance_176 ?_
                refine lv_iconst (v := 1) hx hb dX7_advance_179 (by decide) ?_
                have e23 : ((n_k2 + 1)).toInt = (n_k2).toInt + 1 := i_add rfl rfl (by omega)
                refine lv_iadd hx hb dX7_advance_180 ?_
                refine pf_RX7_19 C hO 1 cW_1 (Nat.le_of_ble_eq_true rfl) cW_s1_2 dX7_advance_181 (fun H locs hO => ?_)
                have hJ := CIs_1_2 (v := (n_k2 + 1)) hJ (by first | decide | omega)
                refine hret _ _ _ _ _ dX7_advance_184 ?_ hO
                exact ⟨hJ, hT, hW⟩
            · refine lv_aload_n hx hb dX7_advance_133 rfl (lv_at hl 0 rfl) ?_
              refine cVv (w := cW cy a) (As := []) (rest := []) C hO (T_X7_scanNumber l D cy a _ (by exact hJ) (by exact hW)) (cwV 0 ht (gV wd_612 wd_614 wd_2 wd_111 wd_615) rfl rfl rfl hd_yX7_scanNumber ⟨Nat.le_of_ble_eq_true rfl, Nat.le_of_ble_eq_true rfl⟩) 1 rfl cW_1 rfl rfl hl.1 (Nat.le_of_ble_eq_true rfl) dX7_advance_134 rfl ⟨Nat.zero_le _, Nat.zero_le _⟩ (fun u25 H locs hp26 hO => ?_)
              have g27 : 0 ≤ (fI u1 15 9).toInt ∧ (fI u1 15 9).toInt ≤ 8 := by have h := CI_15_9 hJ; exact h
              have g28 : 0 ≤ (fI u1 15 10).toInt ∧ (fI u1 15 10).toInt ≤ 14 := by have h := CI_15_10 hJ; exact h
              have g29 : 0 ≤ (fI u1 15 11).toInt ∧ (fI u1 15 11).toInt ≤ 8 := by have h := CI_15_11 hJ; exact h
              have g30 : 0 ≤ (fI u1 15 12).toInt ∧ (fI u1 15 12).toInt ≤ 6 := by have h := CI_15_12 hJ; exact h
              obtain ⟨hJ, hTu25, hW⟩ := hp26
              have hT : KR u u25 := KR.tr (by exact hT) hTu25
              have hI_15_9_u25 : fI u25 15 9 = (fI u1 15 9) := hTu25.2.1
              have hI_15_10_u25 : fI u25 15 10 = (fI u1 15 10) := hTu25.2.2.1
              have hI_15_11_u25 : fI u25 15 11 = (fI u1 15 11) := hTu25.2.2.2.1
              have hI_15_12_u25 : fI u25 15 12 = (fI u1 15 12) := hTu25.2.2.2.2
              refine lv_goto (tgt := 184) hx hb dX7_advance_137 (by decide) ?_
              refine hret _ _ _ _ _ dX7_advance_184 ?_ hO
              exact ⟨hJ, hT, hW⟩
          · refine lv_aload_n hx hb dX7_advance_83 rfl (lv_at hl 0 rfl) ?_
            refine cVv (w := cW cy a) (As := []) (rest := []) C hO (T_X7_scanWord l D cy a _ (by exact hJ) (by exact hW)) (cwV 0 ht (gV wd_550 wd_552 wd_0 wd_111 wd_553) rfl rfl rfl hd_yX7_scanWord ⟨Nat.le_of_ble_eq_true rfl, Nat.le_of_ble_eq_true rfl⟩) 1 rfl cW_1 rfl rfl hl.1 (Nat.le_of_ble_eq_true rfl) dX7_advance_84 rfl ⟨Nat.zero_le _, Nat.zero_le _⟩ (fun u32 H locs hp33 hO => ?_)
            have g34 : 0 ≤ (fI u1 15 9).toInt ∧ (fI u1 15 9).toInt ≤ 8 := by have h := CI_15_9 hJ; exact h
            have g35 : 0 ≤ (fI u1 15 10).toInt ∧ (fI u1 15 10).toInt ≤ 14 := by have h := CI_15_10 hJ; exact h
            have g36 : 0 ≤ (fI u1 15 11).toInt ∧ (fI u1 15 11).toInt ≤ 8 := by have h := CI_15_11 hJ; exact h
            have g37 : 0 ≤ (fI u1 15 12).toInt ∧ (fI u1 15 12).toInt ≤ 6 := by have h := CI_15_12 hJ; exact h
            obtain ⟨hJ, hTu32, hW⟩ := hp33
            have hT : KR u u32 := KR.tr (by exact hT) hTu32
            have hI_15_9_u32 : fI u32 15 9 = (fI u1 15 9) := hTu32.2.1
            have hI_15_10_u32 : fI u32 15 10 = (fI u1 15 10) := hTu32.2.2.1
            have hI_15_11_u32 : fI u32 15 11 = (fI u1 15 11) := hTu32.2.2.2.1
            have hI_15_12_u32 : fI u32 15 12 = (fI u1 15 12) := hTu32.2.2.2.2
            refine lv_aload_n hx hb dX7_advance_87 rfl (lv_at hl 0 rfl) ?_
            refine lv_aload_n hx hb dX7_advance_88 rfl (lv_at hl 0 rfl) ?_
            have g38 : 0 ≤ (fI u32 1 2).toInt ∧ (fI u32 1 2).toInt ≤ 1600 := by have h := CI_1_2 hJ; exact h
            refine gf_RX7_19 (v := .int (fI u32 1 2)) C hO 1 cW_1 rfl dX7_advance_89 ?_
            refine lv_aload_n hx hb dX7_advance_92 rfl (lv_at hl 0 rfl) ?_
            refine gf_RX7_29 (v := .int (fI u32 1 3)) C hO 1 cW_1 rfl dX7_advance_93 ?_
            refine lv_isub hx hb dX7_advance_96 ?_
            refine lv_bipush (v := 8) hx hb dX7_advance_97 (by decide) ?_
            refine cs_le (tgt := 108) (X := (((fI u32 1 2) - (fI u32 1 3))).toInt) (Y := 8) hx hb dX7_advance_99 (by decide) rfl rfl (fun c39 => ?_) (fun c39 => ?_)
            · refine lv_aload_n hx hb dX7_advance_108 rfl (lv_at hl 0 rfl) ?_
              refine cVi (w := cW cy a) (As := []) (rest := [.ref (a 1)]) C hO (T_X7_wordKind l D cy a _ (by exact hJ)) (cwV 0 ht (gV wd_556 wd_558 wd_1 wd_111 wd_559) rfl rfl rfl hd_yX7_wordKind ⟨Nat.le_of_ble_eq_true rfl, Nat.le_of_ble_eq_true rfl⟩) 1 rfl cW_1 rfl rfl hl.1 (Nat.le_of_ble_eq_true rfl) dX7_advance_109 rfl ⟨Nat.zero_le _, Nat.zero_le _⟩ (fun r40 u41 H locs hp42 hO => ?_)
              have hu41 := hp42
              rw [hu41] at hO
              refine pf_RX7_32 C hO 1 cW_1 (Nat.le_of_ble_eq_true rfl) cW_s1_4 dX7_advance_112 (fun H locs hO => ?_)
              have hJ := CIs_1_4 (v := r40) hJ
              refine lv_goto (tgt := 184) hx hb dX7_advance_115 (by decide) ?_
              refine hret _ _ _ _ _ dX7_advance_184 ?_ hO
              exact ⟨hJ, hT, hW⟩
            · refine lv_sipush (v := 203) hx hb dX7_advance_102 (by decide) ?_
              refine lv_goto (tgt := 112) hx hb dX7_advance_105 (by decide) ?_
              refine pf_RX7_32 C hO 1 cW_1 (Nat.le_of_ble_eq_true rfl) cW_s1_4 dX7_advance_112 (fun H locs hO => ?_)
              have hJ := CIs_1_4 (v := 203) hJ
              refine lv_goto (tgt := 184) hx hb dX7_advance_115 (by decide) ?_
              refine hret _ _ _ _ _ dX7_advance_184 ?_ hO
              exact ⟨hJ, hT, hW⟩
        · refine lv_aload_n hx hb dX7_advance_58 rfl (lv_at hl 0 rfl) ?_
          refine lv_sipush (v := 202) hx hb dX7_advance_59 (by decide) ?_
          refine pf_RX7_32 C hO 1 cW_1 (Nat.le_of_ble_eq_true rfl) cW_s1_4 dX7_advance_62 (fun H locs hO => ?_)
          have hJ := CIs_1_4 (v := 202) hJ
          refine lv_goto (tgt := 184) hx hb dX7_advance_65 (by decide) ?_
          refine hret _ _ _ _ _ dX7_advance_184 ?_ hO
          exact ⟨hJ, hT, hW⟩
      · refine lv_aload_n hx hb dX7_advance_11 rfl (lv_at hl 0 rfl) ?_
        refine gf_RX7_9 (v := .ref (a 2)) C hO 1 cW_1 rfl dX7_advance_12 ?_
        refine lv_aload_n hx hb dX7_advance_15 rfl (lv_at hl 0 rfl) ?_
        refine gf_RX7_19 (v := .int n_k2) C hO 1 cW_1 (congrArg (fun z : Int32 => some (Value.int z)) hn_k2) dX7_advance_16 ?_
        refine aB C hO 2 cW_2 (i_in (X := (n_k2).toInt) rfl (by omega) (by omega)) dX7_advance_19 ?_
        refine lv_topi (fun w43 ew43 => ?_)
        refine cSi (w := cW cy a) (As := [.int w43]) (rest := []) C hO (T_X7_isBlank l D cy a _ (by exact hJ) (w43)) (va_cwS 1 ht (gSS wd_544 wd_545 wd_111 wd_546) rfl rfl rfl hd_yX7_isBlank ⟨Nat.le_of_ble_eq_true rfl, Nat.le_of_ble_eq_true rfl⟩)  rfl hl.1 (Nat.le_of_ble_eq_true rfl) dX7_advance_20 rfl ⟨Nat.zero_le _, Nat.zero_le _⟩ (fun r44 u45 H locs hp46 hO => ?_)
        obtain ⟨hr44, hu45⟩ := hp46
        have gr44 : 0 ≤ r44.toInt ∧ r44.toInt ≤ 1 := by rcases hr44 with h | h <;> rw [h] <;> decide
        rw [hu45] at hO
        refine bs_eq (tgt := 39) (X := (r44).toInt) hx hb dX7_advance_23 (by decide) rfl (fun c47 => ?_) (fun c47 => ?_)
        · refine lv_aload_n hx hb dX7_advance_39 rfl (lv_at hl 0 rfl) ?_
          refine lv_aload_n hx hb dX7_advance_40 rfl (lv_at hl 0 rfl) ?_
          refine gf_RX7_19 (v := .int n_k2) C hO 1 cW_1 (congrArg (fun z : Int32 => some (Value.int z)) hn_k2) dX7_advance_41 ?_
          refine pf_RX7_29 C hO 1 cW_1 (Nat.le_of_ble_eq_true rfl) cW_s1_3 dX7_advance_44 (fun H locs hO => ?_)
          have hJ := CIs_1_3 (v := n_k2) hJ
          refine lv_aload_n hx hb dX7_advance_47 rfl (lv_at hl 0 rfl) ?_
          refine gf_RX7_19 (v := .int n_k2) C hO 1 cW_1 (congrArg (fun z : Int32 => some (Value.int z)) hn_k2) dX7_advance_48 ?_
          refine lv_aload_n hx hb dX7_advance_51 rfl (lv_at hl 0 rfl) ?_
          refine gf_RX7_15 (v := .int (fI u1 1 1)) C hO 1 cW_1 rfl dX7_advance_52 ?_
          refine cs_lt (tgt := 68) (X := (n_k2).toInt) (Y := ((fI u1 1 1)).toInt) hx hb dX7_advance_55 (by decide) rfl rfl (fun c48 => ?_) (fun c48 => ?_)
          · refine lv_aload_n hx hb dX7_advance_68 rfl (lv_at hl 0 rfl) ?_
            refine gf_RX7_9 (v := .ref (a 2)) C hO 1 cW_1 rfl dX7_advance_69 ?_
            refine lv_aload_n hx hb dX7_advance_72 rfl (lv_at hl 0 rfl) ?_
            refine gf_RX7_19 (v := .int n_k2) C hO 1 cW_1 (congrArg (fun z : Int32 => some (Value.int z)) hn_k2) dX7_advance_73 ?_
            refine aB C hO 2 cW_2 (i_in (X := (n_k2).toInt) rfl (by omega) (by omega)) dX7_advance_76 ?_
            refine lv_topi (fun w49 ew49 => ?_)
            refine cSi (w := cW cy a) (As := [.int w49]) (rest := []) C hO (T_X7_isLetter l D cy a _ (by exact hJ) (w49)) (va_cwS 1 ht (gSS wd_547 wd_548 wd_111 wd_549) rfl rfl rfl hd_yX7_isLetter ⟨Nat.le_of_ble_eq_true rfl, Nat.le_of_ble_eq_true rfl⟩)  rfl hl.1 (Nat.le_of_ble_eq_true rfl) dX7_advance_77 rfl ⟨Nat.zero_le _, Nat.zero_le _⟩ (fun r50 u51 H locs hp52 hO => ?_)
            obtain ⟨hr50, hu51⟩ := hp52
            have gr50 : 0 ≤ r50.toInt ∧ r50.toInt ≤ 1 := by rcases hr50 with h | h <;> rw [h] <;> decide
            rw [hu51] at hO
            refine bs_eq (tgt := 118) (X := (r50).toInt) hx hb dX7_advance_80 (by decide) rfl (fun c53 => ?_) (fun c53 => ?_)
            · refine lv_aload_n hx hb dX7_advance_118 rfl (lv_at hl 0 rfl) ?_
              refine gf_RX7_9 (v := .ref (a 2)) C hO 1 cW_1 rfl dX7_advance_119 ?_
              refine lv_aload_n hx hb dX7_advance_122 rfl (lv_at hl 0 rfl) ?_
              refine gf_RX7_19 (v := .int n_k2) C hO 1 cW_1 (congrArg (fun z : Int32 => some (Value.int z)) hn_k2) dX7_advance_123 ?_
              refine aB C hO 2 cW_2 (i_in (X := (n_k2).toInt) rfl (by omega) (by omega)) dX7_advance_126 ?_
              refine lv_topi (fun w54 ew54 => ?_)
              refine cSi (w := cW cy a) (As := [.int w54]) (rest := []) C hO (T_X7_isDigit l D cy a _ (by exact hJ) (w54)) (va_cwS 1 ht (gSS wd_609 wd_610 wd_111 wd_611) rfl rfl rfl hd_yX7_isDigit ⟨Nat.le_of_ble_eq_true rfl, Nat.le_of_ble_eq_true rfl⟩)  rfl hl.1 (Nat.le_of_ble_eq_true rfl) dX7_advance_127 rfl ⟨Nat.zero_le _, Nat.zero_le _⟩ (fun r55 u56 H locs hp57 hO => ?_)
              obtain ⟨hr55, hu56⟩ := hp57
              have gr55 : 0 ≤ r55.toInt ∧ r55.toInt ≤ 1 := by rcases hr55 with h | h <;> rw [h] <;> decide
              rw [hu56] at hO
              refine bs_eq (tgt := 140) (X := (r55).toInt) hx hb dX7_advance_130 (by decide) rfl (fun c58 => ?_) (fun c58 => ?_)
              · refine lv_aload_n hx hb dX7_advance_140 rfl (lv_at hl 0 rfl) ?_
                refine lv_aload_n hx hb dX7_advance_141 rfl (lv_at hl 0 rfl) ?_
                refine gf_RX7_9 (v := .ref (a 2)) C hO 1 cW_1 rfl dX7_advance_142 ?_
                refine lv_aload_n hx hb dX7_advance_145 rfl (lv_at hl 0 rfl) ?_
                refine gf_RX7_19 (v := .int n_k2) C hO 1 cW_1 (congrArg (fun z : Int32 => some (Value.int z)) hn_k2) dX7_advance_146 ?_
                refine aB C hO 2 cW_2 (i_in (X := (n_k2).toInt) rfl (by omega) (by omega)) dX7_advance_149 ?_
                refine lv_topi (fun w59 ew59 => ?_)
                refine cSi (w := cW cy a) (As := [.int w59]) (rest := [.ref (a 1)]) C hO (T_X7_isSign l D cy a _ (by exact hJ) (w59)) (va_cwS 1 ht (gSS wd_616 wd_617 wd_111 wd_618) rfl rfl rfl hd_yX7_isSign ⟨Nat.le_of_ble_eq_true rfl, Nat.le_of_ble_eq_true rfl⟩)  rfl hl.1 (Nat.le_of_ble_eq_true rfl) dX7_advance_150 rfl ⟨Nat.zero_le _, Nat.zero_le _⟩ (fun r60 u61 H locs hp62 hO => ?_)
                obtain ⟨hr60, hu61⟩ := hp62
                have gr60 : 0 ≤ r60.toInt ∧ r60.toInt ≤ 1 := by rcases hr60 with h | h <;> rw [h] <;> decide
                rw [hu61] at hO
                refine bs_eq (tgt := 168) (X := (r60).toInt) hx hb dX7_advance_153 (by decide) rfl (fun c63 => ?_) (fun c63 => ?_)
                · refine lv_sipush (v := 203) hx hb dX7_advance_168 (by decide) ?_
                  refine pf_RX7_32 C hO 1 cW_1 (Nat.le_of_ble_eq_true rfl) cW_s1_4 dX7_advance_171 (fun H locs hO => ?_)
                  have hJ := CIs_1_4 (v := 203) hJ
                  refine lv_aload_n hx hb dX7_advance_174 rfl (lv_at hl 0 rfl) ?_
                  refine lv_dup hx hb dX7_advance_175 rfl ?_
                  refine gf_RX7_19 (v := .int n_k2) C hO 1 cW_1 (congrArg (fun z : Int32 => some (Value.int z)) hn_k2) dX7_advance_176 ?_
                  refine lv_iconst (v := 1) hx hb dX7_advance_179 (by decide) ?_
                  have e64 : ((n_k2 + 1)).toInt = (n_k2).toInt + 1 := i_add rfl rfl (by omega)
                  refine lv_iadd hx hb dX7_advance_180 ?_
                  refine pf_RX7_19 C hO 1 cW_1 (Nat.le_of_ble_eq_true rfl) cW_s1_2 dX7_advance_181 (fun H locs hO => ?_)
                  have hJ := CIs_1_2 (v := (n_k2 + 1)) hJ (by first | decide | omega)
                  refine hret _ _ _ _ _ dX7_advance_184 ?_ hO
                  exact ⟨hJ, hT, hW⟩
                · refine lv_aload_n hx hb dX7_advance_156 rfl (lv_at hl 0 rfl) ?_
                  refine gf_RX7_9 (v := .ref (a 2)) C hO 1 cW_1 rfl dX7_advance_157 ?_
                  refine lv_aload_n hx hb dX7_advance_160 rfl (lv_at hl 0 rfl) ?_
                  refine gf_RX7_19 (v := .int n_k2) C hO 1 cW_1 (congrArg (fun z : Int32 => some (Value.int z)) hn_k2) dX7_advance_161 ?_
                  refine aB C hO 2 cW_2 (i_in (X := (n_k2).toInt) rfl (by omega) (by omega)) dX7_advance_164 ?_
                  refine lv_topi (fun w65 ew65 => ?_)
                  refine lv_goto (tgt := 171) hx hb dX7_advance_165 (by decide) ?_
                  refine pf_RX7_32 C hO 1 cW_1 (Nat.le_of_ble_eq_true rfl) cW_s1_4 dX7_advance_171 (fun H locs hO => ?_)
                  have hJ := CIs_1_4 (v := w65) hJ
                  refine lv_aload_n hx hb dX7_advance_174 rfl (lv_at hl 0 rfl) ?_
                  refine lv_dup hx hb dX7_advance_175 rfl ?_
                  refine gf_RX7_19 (v := .int n_k2) C hO 1 cW_1 (congrArg (fun z : Int32 => some (Value.int z)) hn_k2) dX7_advance_176 ?_
                  refine lv_iconst (v := 1) hx hb dX7_advance_179 (by decide) ?_
                  have e66 : ((n_k2 + 1)).toInt = (n_k2).toInt + 1 := i_add rfl rfl (by omega)
                  refine lv_iadd hx hb dX7_advance_180 ?_
                  refine pf_RX7_19 C hO 1 cW_1 (Nat.le_of_ble_eq_true rfl) cW_s1_2 dX7_advance_181 (fun H locs hO => ?_)
                  have hJ := CIs_1_2 (v := (n_k2 + 1)) hJ (by first | decide | omega)
                  refine hret _ _ _ _ _ dX7_advance_184 ?_ hO
                  exact ⟨hJ, hT, hW⟩
              · refine lv_aload_n hx hb dX7_advance_133 rfl (lv_at hl 0 rfl) ?_
                refine cVv (w := cW cy a) (As := []) (rest := []) C hO (T_X7_scanNumber l D cy a _ (by exact hJ) (by exact hW)) (cwV 0 ht (gV wd_612 wd_614 wd_2 wd_111 wd_615) rfl rfl rfl hd_yX7_scanNumber ⟨Nat.le_of_ble_eq_true rfl, Nat.le_of_ble_eq_true rfl⟩) 1 rfl cW_1 rfl rfl hl.1 (Nat.le_of_ble_eq_true rfl) dX7_advance_134 rfl ⟨Nat.zero_le _, Nat.zero_le _⟩ (fun u68 H locs hp69 hO => ?_)
                have g70 : 0 ≤ (fI u1 15 9).toInt ∧ (fI u1 15 9).toInt ≤ 8 := by have h := CI_15_9 hJ; exact h
                have g71 : 0 ≤ (fI u1 15 10).toInt ∧ (fI u1 15 10).toInt ≤ 14 := by have h := CI_15_10 hJ; exact h
                have g72 : 0 ≤ (fI u1 15 11).toInt ∧ (fI u1 15 11).toInt ≤ 8 := by have h := CI_15_11 hJ; exact h
                have g73 : 0 ≤ (fI u1 15 12).toInt ∧ (fI u1 15 12).toInt ≤ 6 := by have h := CI_15_12 hJ; exact h
                obtain ⟨hJ, hTu68, hW⟩ := hp69
                have hT : KR u u68 := KR.tr (by exact hT) hTu68
                have hI_15_9_u68 : fI u68 15 9 = (fI u1 15 9) := hTu68.2.1
                have hI_15_10_u68 : fI u68 15 10 = (fI u1 15 10) := hTu68.2.2.1
                have hI_15_11_u68 : fI u68 15 11 = (fI u1 15 11) := hTu68.2.2.2.1
                have hI_15_12_u68 : fI u68 15 12 = (fI u1 15 12) := hTu68.2.2.2.2
                refine lv_goto (tgt := 184) hx hb dX7_advance_137 (by decide) ?_
                refine hret _ _ _ _ _ dX7_advance_184 ?_ hO
                exact ⟨hJ, hT, hW⟩
            · refine lv_aload_n hx hb dX7_advance_83 rfl (lv_at hl 0 rfl) ?_
              refine cVv (w := cW cy a) (As := []) (rest := []) C hO (T_X7_scanWord l D cy a _ (by exact hJ) (by exact hW)) (cwV 0 ht (gV wd_550 wd_552 wd_0 wd_111 wd_553) rfl rfl rfl hd_yX7_scanWord ⟨Nat.le_of_ble_eq_true rfl, Nat.le_of_ble_eq_true rfl⟩) 1 rfl cW_1 rfl rfl hl.1 (Nat.le_of_ble_eq_true rfl) dX7_advance_84 rfl ⟨Nat.zero_le _, Nat.zero_le _⟩ (fun u75 H locs hp76 hO => ?_)
              have g77 : 0 ≤ (fI u1 15 9).toInt ∧ (fI u1 15 9).toInt ≤ 8 := by have h := CI_15_9 hJ; exact h
              have g78 : 0 ≤ (fI u1 15 10).toInt ∧ (fI u1 15 10).toInt ≤ 14 := by have h := CI_15_10 hJ; exact h
              have g79 : 0 ≤ (fI u1 15 11).toInt ∧ (fI u1 15 11).toInt ≤ 8 := by have h := CI_15_11 hJ; exact h
              have g80 : 0 ≤ (fI u1 15 12).toInt ∧ (fI u1 15 12).toInt ≤ 6 := by have h := CI_15_12 hJ; exact h
              obtain ⟨hJ, hTu75, hW⟩ := hp76
              have hT : KR u u75 := KR.tr (by exact hT) hTu75
              have hI_15_9_u75 : fI u75 15 9 = (fI u1 15 9) := hTu75.2.1
              have hI_15_10_u75 : fI u75 15 10 = (fI u1 15 10) := hTu75.2.2.1
              have hI_15_11_u75 : fI u75 15 11 = (fI u1 15 11) := hTu75.2.2.2.1
              have hI_15_12_u75 : fI u75 15 12 = (fI u1 15 12) := hTu75.2.2.2.2
              refine lv_aload_n hx hb dX7_advance_87 rfl (lv_at hl 0 rfl) ?_
              refine lv_aload_n hx hb dX7_advance_88 rfl (lv_at hl 0 rfl) ?_
              have g81 : 0 ≤ (fI u75 1 2).toInt ∧ (fI u75 1 2).toInt ≤ 1600 := by have h := CI_1_2 hJ; exact h
              refine gf_RX7_19 (v := .int (fI u75 1 2)) C hO 1 cW_1 rfl dX7_advance_89 ?_
              refine lv_aload_n hx hb dX7_advance_92 rfl (lv_at hl 0 rfl) ?_
              refine gf_RX7_29 (v := .int (fI u75 1 3)) C hO 1 cW_1 rfl dX7_advance_93 ?_
              refine lv_isub hx hb dX7_advance_96 ?_
              refine lv_bipush (v := 8) hx hb dX7_advance_97 (by decide) ?_
              refine cs_le (tgt := 108) (X := (((fI u75 1 2) - (fI u75 1 3))).toInt) (Y := 8) hx hb dX7_advance_99 (by decide) rfl rfl (fun c82 => ?_) (fun c82 => ?_)
              · refine lv_aload_n hx hb dX7_advance_108 rfl (lv_at hl 0 rfl) ?_
                refine cVi (w := cW cy a) (As := []) (rest := [.ref (a 1)]) C hO (T_X7_wordKind l D cy a _ (by exact hJ)) (cwV 0 ht (gV wd_556 wd_558 wd_1 wd_111 wd_559) rfl rfl rfl hd_yX7_wordKind ⟨Nat.le_of_ble_eq_true rfl, Nat.le_of_ble_eq_true rfl⟩) 1 rfl cW_1 rfl rfl hl.1 (Nat.le_of_ble_eq_true rfl) dX7_advance_109 rfl ⟨Nat.zero_le _, Nat.zero_le _⟩ (fun r83 u84 H locs hp85 hO => ?_)
                have hu84 := hp85
                rw [hu84] at hO
                refine pf_RX7_32 C hO 1 cW_1 (Nat.le_of_ble_eq_true rfl) cW_s1_4 dX7_advance_112 (fun H locs hO => ?_)
                have hJ := CIs_1_4 (v := r83) hJ
                refine lv_goto (tgt := 184) hx hb dX7_advance_115 (by decide) ?_
                refine hret _ _ _ _ _ dX7_advance_184 ?_ hO
                exact ⟨hJ, hT, hW⟩
              · refine lv_sipush (v := 203) hx hb dX7_advance_102 (by decide) ?_
                refine lv_goto (tgt := 112) hx hb dX7_advance_105 (by decide) ?_
                refine pf_RX7_32 C hO 1 cW_1 (Nat.le_of_ble_eq_true rfl) cW_s1_4 dX7_advance_112 (fun H locs hO => ?_)
                have hJ := CIs_1_4 (v := 203) hJ
                refine lv_goto (tgt := 184) hx hb dX7_advance_115 (by decide) ?_
                refine hret _ _ _ _ _ dX7_advance_184 ?_ hO
                exact ⟨hJ, hT, hW⟩
          · refine lv_aload_n hx hb dX7_advance_58 rfl (lv_at hl 0 rfl) ?_
            refine lv_sipush (v := 202) hx hb dX7_advance_59 (by decide) ?_
            refine pf_RX7_32 C hO 1 cW_1 (Nat.le_of_ble_eq_true rfl) cW_s1_4 dX7_advance_62 (fun H locs hO => ?_)
            have hJ := CIs_1_4 (v := 202) hJ
            refine lv_goto (tgt := 184) hx hb dX7_advance_65 (by decide) ?_
            refine hret _ _ _ _ _ dX7_advance_184 ?_ hO
            exact ⟨hJ, hT, hW⟩
        · refine lv_aload_n hx hb dX7_advance_26 rfl (lv_at hl 0 rfl) ?_
          refine lv_dup hx hb dX7_advance_27 rfl ?_
          refine gf_RX7_19 (v := .int n_k2) C hO 1 cW_1 (congrArg (fun z : Int32 => some (Value.int z)) hn_k2) dX7_advance_28 ?_
          refine lv_iconst (v := 1) hx hb dX7_advance_31 (by decide) ?_
          have e86 : ((n_k2 + 1)).toInt = (n_k2).toInt + 1 := i_add rfl rfl (by omega)
          refine lv_iadd hx hb dX7_advance_32 ?_
          refine pf_RX7_19 C hO 1 cW_1 (Nat.le_of_ble_eq_true rfl) cW_s1_2 dX7_advance_33 (fun H locs hO => ?_)
          have hJ := CIs_1_2 (v := (n_k2 + 1)) hJ (by first | decide | omega)
          refine lv_goto (tgt := 0) hx hb dX7_advance_36 (by decide) ?_
          exact ih_k2 _ _ _ _ ((n_k2 + 1)) hO (lv_sub hl [0] rfl) (by exact hJ) (by exact hT) (by exact hW) (by exact rfl) (by first | decide | omega) (by first | decide | omega)
  have g87 : 0 ≤ (fI u 1 2).toInt ∧ (fI u 1 2).toInt ≤ 1600 := by have h := CI_1_2 hJ; exact h
  exact LP_0_k2 4000 _ _ _ _ ((fI u 1 2)) hO (lv_sub hl [0] rfl) (by exact hJ) (by exact hT) (by exact hW) (by exact rfl) (by first | decide | omega) (by first | decide | omega)
theorem dX7_rewind_0 : decode cX7_rewind 0 = .ok (.aload_n 0, 1) := by decide +kernel
theorem dX7_rewind_1 : decode cX7_rewind 1 = .ok (.iconst 0, 1) := by decide +kernel
theorem dX7_rewind_2 : decode cX7_rewind 2 = .ok (.putfield 19, 3) := by decide +kernel
theorem dX7_rewind_5 : decode cX7_rewind 5 = .ok (.aload_n 0, 1) := by decide +kernel
theorem dX7_rewind_6 : decode cX7_rewind 6 = .ok (.invokevirtual 22, 3) := by decide +kernel
theorem dX7_rewind_9 : decode cX7_rewind 9 = .ok (.return_, 1) := by decide +kernel
theorem wd_539 : (Cond.code ⟨"WebCourt$Tape", "rewind", "()V"⟩ prog_9_method_3_code (1 : Nat) (Option.none : Option FieldType)) ∈ gtb := gtb_c2 190 (by decide +kernel) rfl
theorem wd_540 : (Cond.methodLink "WebCourt$Tape" (22 : Nat) ⟨"WebCourt$Tape", "advance", "()V"⟩) ∈ gtb := gtb_c2 191 (by decide +kernel) rfl
theorem wd_541 : (Cond.instanceMethod ⟨"WebCourt$Tape", "advance", "()V"⟩) ∈ gtb := gtb_c2 192 (by decide +kernel) rfl
theorem wd_542 : (Cond.selects "WebCourt$Tape" ⟨"WebCourt$Tape", "advance", "()V"⟩ ⟨"WebCourt$Tape", "advance", "()V"⟩) ∈ gtb := gtb_c2 193 (by decide +kernel) rfl
theorem hd_yX7_advance : yX7_advance.cls = RX7 ∧ yX7_advance.cls ≠ "java/lang/invoke/MethodHandle" ∧ yX7_advance.cls ≠ "java/lang/invoke/VarHandle" ∧ (parseMethodDescriptor yX7_advance.desc).map (fun d => d.parameters.length) = some 0 := by decide +kernel
set_option maxHeartbeats 4000000 in
set_option maxRecDepth 100000 in
theorem T_X7_rewind (l : Launch) (D : va_G) (cy : Nat → ClassId) (a : Nat → Nat) (u : St) (hJ : CI a u) (hW : fR u 2 = a 15)   : Mv l D cy (cW cy a) yX7_rewind (.code yX7_rewind cX7_rewind 1 none) (rmo 6 131) [.ref (a 1)] u (fun (u' : St) => (CI a u') ∧ (KR u u') ∧ (fR u' 2 = a 15)) := by
  refine Mv.of (own := RX7) rfl (by decide) (Nat.le_of_ble_eq_true rfl) ?_
  have hT : KR u u := KR.rf
  intro p e s m below meth c A Q ls C hret hO hl
  obtain ⟨hx, hb, hml, hown, ht, hK, hA⟩ := id C
  have hl : lv_has ls 1 [(0, .ref (a 1))] := hl
  refine lv_aload_n hx hb dX7_rewind_0 rfl (lv_at hl 0 rfl) ?_
  refine lv_iconst (v := 0) hx hb dX7_rewind_1 (by decide) ?_
  refine pf_RX7_19 C hO 1 cW_1 (Nat.le_of_ble_eq_true rfl) cW_s1_2 dX7_rewind_2 (fun H locs hO => ?_)
  have hJ := CIs_1_2 (v := 0) hJ (by first | decide | omega)
  refine lv_aload_n hx hb dX7_rewind_5 rfl (lv_at hl 0 rfl) ?_
  refine cVv (w := cW cy a) (As := []) (rest := []) C hO (T_X7_advance l D cy a _ (by exact hJ) (by exact hW)) (cwV 0 ht (gV wd_540 wd_541 wd_542 wd_111 wd_543) rfl rfl rfl hd_yX7_advance ⟨Nat.le_of_ble_eq_true rfl, Nat.le_of_ble_eq_true rfl⟩) 1 rfl cW_1 rfl rfl hl.1 (Nat.le_of_ble_eq_true rfl) dX7_rewind_6 rfl ⟨Nat.zero_le _, Nat.zero_le _⟩ (fun u2 H locs hp3 hO => ?_)
  have g4 : 0 ≤ (fI u 15 9).toInt ∧ (fI u 15 9).toInt ≤ 8 := by have h := CI_15_9 hJ; exact h
  have g5 : 0 ≤ (fI u 15 10).toInt ∧ (fI u 15 10).toInt ≤ 14 := by have h := CI_15_10 hJ; exact h
  have g6 : 0 ≤ (fI u 15 11).toInt ∧ (fI u 15 11).toInt ≤ 8 := by have h := CI_15_11 hJ; exact h
  have g7 : 0 ≤ (fI u 15 12).toInt ∧ (fI u 15 12).toInt ≤ 6 := by have h := CI_15_12 hJ; exact h
  obtain ⟨hJ, hTu2, hW⟩ := hp3
  have hT : KR u u2 := KR.tr (by exact hT) hTu2
  have hI_15_9_u2 : fI u2 15 9 = (fI u 15 9) := hTu2.2.1
  have hI_15_10_u2 : fI u2 15 10 = (fI u 15 10) := hTu2.2.2.1
  have hI_15_11_u2 : fI u2 15 11 = (fI u 15 11) := hTu2.2.2.2.1
  have hI_15_12_u2 : fI u2 15 12 = (fI u 15 12) := hTu2.2.2.2.2
  refine hret _ _ _ _ _ dX7_rewind_9 ?_ hO
  exact ⟨hJ, hT, hW⟩
theorem dX4_clear_0 : decode cX4_clear 0 = .ok (.aload_n 0, 1) := by decide +kernel
theorem dX4_clear_1 : decode cX4_clear 1 = .ok (.iconst 0, 1) := by decide +kernel
theorem dX4_clear_2 : decode cX4_clear 2 = .ok (.putfield 18, 3) := by decide +kernel
theorem dX4_clear_5 : decode cX4_clear 5 = .ok (.aload_n 0, 1) := by decide +kernel
theorem dX4_clear_6 : decode cX4_clear 6 = .ok (.iconst 0, 1) := by decide +kernel
theorem dX4_clear_7 : decode cX4_clear 7 = .ok (.putfield 22, 3) := by decide +kernel
theorem dX4_clear_10 : decode cX4_clear 10 = .ok (.return_, 1) := by decide +kernel
theorem wd_535 : (Cond.code ⟨"WebCourt$Law", "clear", "()V"⟩ prog_6_method_2_code (1 : Nat) (Option.none : Option FieldType)) ∈ gtb := gtb_c2 186 (by decide +kernel) rfl
theorem pf_RX4_18 {p : Program} {l : Launch} {e : Env} {R : Room} {s : State} {m : MethodId} {args : Array Value} {below : List Frame} {meth : Method} {c : Code} {H : Heap} {locs : List Loc} {cells slots : Nat} {Q : State → Prop} {cc : ByteArray} {pc nL : Nat} {ls : Array Slot} {rest : List Value} {D : va_G} {cy : Nat → ClassId} {A : Nat → Prop} {ws : va_W} {b : Nat} {fs : List Value} {v : Int32} {ws' : va_W} (C : Cx p s m args c cc nL RX4 D cy A) (hO : Wo D A ws s.heap H locs) (q0 : Nat) (he : ws[q0]? = some (b, .inr (4, fs))) (hlen : 2 < fs.length) (hw : ws.set q0 (b, .inr (4, fs.set 2 (.int v))) = ws') (hdg : decode cc pc = .ok (.putfield 18, 3)) (kk : ∀ (H : Heap) (locs : List Loc), Wo D A ws' s.heap H locs → W p l e R s m args below meth c H locs cells slots Q (F0 m (pc + 3) ls rest)) : W p l e R s m args below meth c H locs cells slots Q (F0 m pc ls (.int v :: .ref b :: rest)) := pF (k := 2) (ty := .int) C hO q0 he rfl inFX4 (by decide) wd_185 rfl tyX4 tyX4_ok nmX4 rfl (by decide +kernel) rfl rfl hlen hw hdg kk
theorem wd_187 : (Cond.fieldLink "WebCourt$Law" (22 : Nat) "WebCourt$Law" "units" "I") ∈ gtb := gtb_c1 78 (by decide +kernel) rfl
theorem pf_RX4_22 {p : Program} {l : Launch} {e : Env} {R : Room} {s : State} {m : MethodId} {args : Array Value} {below : List Frame} {meth : Method} {c : Code} {H : Heap} {locs : List Loc} {cells slots : Nat} {Q : State → Prop} {cc : ByteArray} {pc nL : Nat} {ls : Array Slot} {rest : List Value} {D : va_G} {cy : Nat → ClassId} {A : Nat → Prop} {ws : va_W} {b : Nat} {fs : List Value} {v : Int32} {ws' : va_W} (C : Cx p s m args c cc nL RX4 D cy A) (hO : Wo D A ws s.heap H locs) (q0 : Nat) (he : ws[q0]? = some (b, .inr (4, fs))) (hlen : 4 < fs.length) (hw : ws.set q0 (b, .inr (4, fs.set 4 (.int v))) = ws') (hdg : decode cc pc = .ok (.putfield 22, 3)) (kk : ∀ (H : Heap) (locs : List Loc), Wo D A ws' s.heap H locs → W p l e R s m args below meth c H locs cells slots Q (F0 m (pc + 3) ls rest)) : W p l e R s m args below meth c H locs cells slots Q (F0 m pc ls (.int v :: .ref b :: rest)) := pF (k := 4) (ty := .int) C hO q0 he rfl inFX4 (by decide) wd_187 rfl tyX4 tyX4_ok nmX4 rfl (by decide +kernel) rfl rfl hlen hw hdg kk
set_option maxHeartbeats 4000000 in
set_option maxRecDepth 100000 in
theorem T_X4_clear (l : Launch) (D : va_G) (cy : Nat → ClassId) (a : Nat → Nat) (u : St) (hJ : CI a u) (hW : fR u 2 = a 15)   : Mv l D cy (cW cy a) yX4_clear (.code yX4_clear cX4_clear 1 none) (rmo 0 0) [.ref (a 24)] u (fun (u' : St) => (CI a u') ∧ (KR u u') ∧ (fR u' 2 = a 15)) := by
  refine Mv.of (own := RX4) rfl (by decide) (Nat.le_of_ble_eq_true rfl) ?_
  have hT : KR u u := KR.rf
  intro p e s m below meth c A Q ls C hret hO hl
  obtain ⟨hx, hb, hml, hown, ht, hK, hA⟩ := id C
  have hl : lv_has ls 1 [(0, .ref (a 24))] := hl
  refine lv_aload_n hx hb dX4_clear_0 rfl (lv_at hl 0 rfl) ?_
  refine lv_iconst (v := 0) hx hb dX4_clear_1 (by decide) ?_
  refine pf_RX4_18 C hO 24 cW_24 (Nat.le_of_ble_eq_true rfl) cW_s24_2 dX4_clear_2 (fun H locs hO => ?_)
  have hJ := CIs_24_2 (v := 0) hJ (by first | decide | omega)
  refine lv_aload_n hx hb dX4_clear_5 rfl (lv_at hl 0 rfl) ?_
  refine lv_iconst (v := 0) hx hb dX4_clear_6 (by decide) ?_
  refine pf_RX4_22 C hO 24 cW_24 (Nat.le_of_ble_eq_true rfl) cW_s24_4 dX4_clear_7 (fun H locs hO => ?_)
  have hJ := CIs_24_4 (v := 0) hJ
  refine hret _ _ _ _ _ dX4_clear_10 ?_ hO
  exact ⟨hJ, hT, hW⟩
theorem dX4_isFull_0 : decode cX4_isFull 0 = .ok (.aload_n 0, 1) := by decide +kernel
theorem dX4_isFull_1 : decode cX4_isFull 1 = .ok (.getfield 22, 3) := by decide +kernel
theorem dX4_isFull_4 : decode cX4_isFull 4 = .ok (.bipush 30, 2) := by decide +kernel
theorem dX4_isFull_6 : decode cX4_isFull 6 = .ok (.if_icmp .lt 7, 3) := by decide +kernel
theorem dX4_isFull_9 : decode cX4_isFull 9 = .ok (.iconst 1, 1) := by decide +kernel
theorem dX4_isFull_10 : decode cX4_isFull 10 = .ok (.goto 4, 3) := by decide +kernel
theorem dX4_isFull_13 : decode cX4_isFull 13 = .ok (.iconst 0, 1) := by decide +kernel
theorem dX4_isFull_14 : decode cX4_isFull 14 = .ok (.ireturn, 1) := by decide +kernel
theorem wd_778 : (Cond.code ⟨"WebCourt$Law", "isFull", "()Z"⟩ prog_6_method_3_code (1 : Nat) (Option.some FieldType.boolean)) ∈ gtb := gtb_c3 189 (by decide +kernel) rfl
theorem gf_RX4_22 {p : Program} {l : Launch} {e : Env} {R : Room} {s : State} {m : MethodId} {args : Array Value} {below : List Frame} {meth : Method} {c : Code} {H : Heap} {locs : List Loc} {cells slots : Nat} {Q : State → Prop} {cc : ByteArray} {pc nL : Nat} {ls : Array Slot} {rest : List Value} {D : va_G} {cy : Nat → ClassId} {A : Nat → Prop} {ws : va_W} {b : Nat} {fs : List Value} {v : Value} (C : Cx p s m args c cc nL RX4 D cy A) (hO : Wo D A ws s.heap H locs) (q0 : Nat) (he : ws[q0]? = some (b, .inr (4, fs))) (hv : fs[4]? = some v) (hdg : decode cc pc = .ok (.getfield 22, 3)) (kk : W p l e R s m args below meth c H locs cells slots Q (F0 m (pc + 3) ls (v :: rest))) : W p l e R s m args below meth c H locs cells slots Q (F0 m pc ls (.ref b :: rest)) := gF (k := 4) C hO q0 he rfl inFX4 (by decide) wd_187 rfl hv hdg kk
set_option maxHeartbeats 4000000 in
set_option maxRecDepth 100000 in
theorem T_X4_isFull (l : Launch) (D : va_G) (cy : Nat → ClassId) (a : Nat → Nat) (u : St) (hJ : CI a u)   : Mi l D cy (cW cy a) yX4_isFull (.code yX4_isFull cX4_isFull 1 (some .boolean)) (rmo 0 0) [.ref (a 24)] u (fun (r : Int32) (u' : St) => (r = 0 ∨ r = 1) ∧ (u' = u)) := by
  refine Mi.of (own := RX4) rfl (by decide) (Nat.le_of_ble_eq_true rfl) ?_
  have hT : KT u u := KT.rf
  intro p e s m below meth c A Q ls C hret hO hl
  obtain ⟨hx, hb, hml, hown, ht, hK, hA⟩ := id C
  have hl : lv_has ls 1 [(0, .ref (a 24))] := hl
  refine lv_aload_n hx hb dX4_isFull_0 rfl (lv_at hl 0 rfl) ?_
  refine gf_RX4_22 (v := .int (fI u 24 4)) C hO 24 cW_24 rfl dX4_isFull_1 ?_
  refine lv_bipush (v := 30) hx hb dX4_isFull_4 (by decide) ?_
  refine cs_lt (tgt := 13) (X := ((fI u 24 4)).toInt) (Y := 30) hx hb dX4_isFull_6 (by decide) rfl rfl (fun c1 => ?_) (fun c1 => ?_)
  · refine lv_iconst (v := 0) hx hb dX4_isFull_13 (by decide) ?_
    refine hret _ _ _ _ _ _ dX4_isFull_14 rfl ?_ hO
    exact ⟨Or.inl rfl, rfl⟩
  · refine lv_iconst (v := 1) hx hb dX4_isFull_9 (by decide) ?_
    refine lv_goto (tgt := 14) hx hb dX4_isFull_10 (by decide) ?_
    refine hret _ _ _ _ _ _ dX4_isFull_14 rfl ?_ hO
    exact ⟨Or.inr rfl, rfl⟩
theorem dX4_add_0 : decode cX4_add 0 = .ok (.aload_n 0, 1) := by decide +kernel
theorem dX4_add_1 : decode cX4_add 1 = .ok (.getfield 18, 3) := by decide +kernel
theorem dX4_add_4 : decode cX4_add 4 = .ok (.sipush 300, 3) := by decide +kernel
theorem dX4_add_7 : decode cX4_add 7 = .ok (.if_icmp .ge 23, 3) := by decide +kernel
theorem dX4_add_10 : decode cX4_add 10 = .ok (.aload_n 0, 1) := by decide +kernel
theorem dX4_add_11 : decode cX4_add 11 = .ok (.getfield 11, 3) := by decide +kernel
theorem dX4_add_14 : decode cX4_add 14 = .ok (.aload_n 0, 1) := by decide +kernel
theorem dX4_add_15 : decode cX4_add 15 = .ok (.getfield 18, 3) := by decide +kernel
theorem dX4_add_18 : decode cX4_add 18 = .ok (.iload_n 1, 1) := by decide +kernel
theorem dX4_add_19 : decode cX4_add 19 = .ok (.iastore, 1) := by decide +kernel
theorem dX4_add_20 : decode cX4_add 20 = .ok (.aload_n 0, 1) := by decide +kernel
theorem dX4_add_21 : decode cX4_add 21 = .ok (.dup, 1) := by decide +kernel
theorem dX4_add_22 : decode cX4_add 22 = .ok (.getfield 18, 3) := by decide +kernel
theorem dX4_add_25 : decode cX4_add 25 = .ok (.iconst 1, 1) := by decide +kernel
theorem dX4_add_26 : decode cX4_add 26 = .ok (.iadd, 1) := by decide +kernel
theorem dX4_add_27 : decode cX4_add 27 = .ok (.putfield 18, 3) := by decide +kernel
theorem dX4_add_30 : decode cX4_add 30 = .ok (.return_, 1) := by decide +kernel
theorem wd_762 : (Cond.code ⟨"WebCourt$Law", "add", "(I)V"⟩ prog_6_method_4_code (2 : Nat) (Option.none : Option FieldType)) ∈ gtb := gtb_c3 173 (by decide +kernel) rfl
set_option maxHeartbeats 4000000 in
set_option maxRecDepth 100000 in
theorem T_X4_add (l : Launch) (D : va_G) (cy : Nat → ClassId) (a : Nat → Nat) (u : St) (hJ : CI a u) (hW : fR u 2 = a 15) (x1 : Int32)  : Mv l D cy (cW cy a) yX4_add (.code yX4_add cX4_add 2 none) (rmo 0 0) [.ref (a 24), .int x1] u (fun (u' : St) => (CI a u') ∧ (KR u u') ∧ (fR u' 2 = a 15)) := by
  refine Mv.of (own := RX4) rfl (by decide) (Nat.le_of_ble_eq_true rfl) ?_
  have hT : KR u u := KR.rf
  intro p e s m below meth c A Q ls C hret hO hl
  obtain ⟨hx, hb, hml, hown, ht, hK, hA⟩ := id C
  have hl : lv_has ls 2 [(0, .ref (a 24)), (1, .int x1)] := hl
  refine lv_aload_n hx hb dX4_add_0 rfl (lv_at hl 0 rfl) ?_
  have g1 : 0 ≤ (fI u 24 2).toInt ∧ (fI u 24 2).toInt ≤ 300 := by have h := CI_24_2 hJ; exact h
  refine gf_RX4_18 (v := .int (fI u 24 2)) C hO 24 cW_24 rfl dX4_add_1 ?_
  refine lv_sipush (v := 300) hx hb dX4_add_4 (by decide) ?_
  refine cs_ge (tgt := 30) (X := ((fI u 24 2)).toInt) (Y := 300) hx hb dX4_add_7 (by decide) rfl rfl (fun c2 => ?_) (fun c2 => ?_)
  · refine hret _ _ _ _ _ dX4_add_30 ?_ hO
    exact ⟨hJ, hT, hW⟩
  · refine lv_aload_n hx hb dX4_add_10 rfl (lv_at hl 0 rfl) ?_
    refine gf_RX4_11 (v := .ref (a 25)) C hO 24 cW_24 rfl dX4_add_11 ?_
    refine lv_aload_n hx hb dX4_add_14 rfl (lv_at hl 0 rfl) ?_
    refine gf_RX4_18 (v := .int (fI u 24 2)) C hO 24 cW_24 rfl dX4_add_15 ?_
    refine lv_iload_n hx hb dX4_add_18 rfl (lv_at hl 1 rfl) ?_
    refine aIs C hO 25 cW_25 (i_in (X := ((fI u 24 2)).toInt) rfl (by omega) (by omega)) cW_s25 dX4_add_19 (fun H locs hO => ?_)
    have hJ := CIsA hO hJ
    refine lv_aload_n hx hb dX4_add_20 rfl (lv_at hl 0 rfl) ?_
    refine lv_dup hx hb dX4_add_21 rfl ?_
    refine gf_RX4_18 (v := .int (fI u 24 2)) C hO 24 cW_24 rfl dX4_add_22 ?_
    refine lv_iconst (v := 1) hx hb dX4_add_25 (by decide) ?_
    have e3 : (((fI u 24 2) + 1)).toInt = ((fI u 24 2)).toInt + 1 := i_add rfl rfl (by omega)
    refine lv_iadd hx hb dX4_add_26 ?_
    refine pf_RX4_18 C hO 24 cW_24 (Nat.le_of_ble_eq_true rfl) cW_s24_2 dX4_add_27 (fun H locs hO => ?_)
    have hJ := CIs_24_2 (v := ((fI u 24 2) + 1)) hJ (by first | decide | omega)
    refine hret _ _ _ _ _ dX4_add_30 ?_ hO
    exact ⟨hJ, hT, hW⟩
theorem dX9_clear_0 : decode cX9_clear 0 = .ok (.aload_n 0, 1) := by decide +kernel
theorem dX9_clear_1 : decode cX9_clear 1 = .ok (.getfield 40, 3) := by decide +kernel
theorem dX9_clear_4 : decode cX9_clear 4 = .ok (.invokevirtual 44, 3) := by decide +kernel
theorem dX9_clear_7 : decode cX9_clear 7 = .ok (.aload_n 0, 1) := by decide +kernel
theorem dX9_clear_8 : decode cX9_clear 8 = .ok (.iconst 0, 1) := by decide +kernel
theorem dX9_clear_9 : decode cX9_clear 9 = .ok (.putfield 47, 3) := by decide +kernel
theorem dX9_clear_12 : decode cX9_clear 12 = .ok (.aload_n 0, 1) := by decide +kernel
theorem dX9_clear_13 : decode cX9_clear 13 = .ok (.iconst 0, 1) := by decide +kernel
theorem dX9_clear_14 : decode cX9_clear 14 = .ok (.putfield 51, 3) := by decide +kernel
theorem dX9_clear_17 : decode cX9_clear 17 = .ok (.aload_n 0, 1) := by decide +kernel
theorem dX9_clear_18 : decode cX9_clear 18 = .ok (.iconst 0, 1) := by decide +kernel
theorem dX9_clear_19 : decode cX9_clear 19 = .ok (.putfield 54, 3) := by decide +kernel
theorem dX9_clear_22 : decode cX9_clear 22 = .ok (.aload_n 0, 1) := by decide +kernel
theorem dX9_clear_23 : decode cX9_clear 23 = .ok (.iconst 0, 1) := by decide +kernel
theorem dX9_clear_24 : decode cX9_clear 24 = .ok (.putfield 57, 3) := by decide +kernel
theorem dX9_clear_27 : decode cX9_clear 27 = .ok (.aload_n 0, 1) := by decide +kernel
theorem dX9_clear_28 : decode cX9_clear 28 = .ok (.iconst 0, 1) := by decide +kernel
theorem dX9_clear_29 : decode cX9_clear 29 = .ok (.putfield 60, 3) := by decide +kernel
theorem dX9_clear_32 : decode cX9_clear 32 = .ok (.aload_n 0, 1) := by decide +kernel
theorem dX9_clear_33 : decode cX9_clear 33 = .ok (.iconst 0, 1) := by decide +kernel
theorem dX9_clear_34 : decode cX9_clear 34 = .ok (.putfield 63, 3) := by decide +kernel
theorem dX9_clear_37 : decode cX9_clear 37 = .ok (.aload_n 0, 1) := by decide +kernel
theorem dX9_clear_38 : decode cX9_clear 38 = .ok (.iconst 0, 1) := by decide +kernel
theorem dX9_clear_39 : decode cX9_clear 39 = .ok (.putfield 66, 3) := by decide +kernel
theorem dX9_clear_42 : decode cX9_clear 42 = .ok (.aload_n 0, 1) := by decide +kernel
theorem dX9_clear_43 : decode cX9_clear 43 = .ok (.iconst 0, 1) := by decide +kernel
theorem dX9_clear_44 : decode cX9_clear 44 = .ok (.putfield 69, 3) := by decide +kernel
theorem dX9_clear_47 : decode cX9_clear 47 = .ok (.aload_n 0, 1) := by decide +kernel
theorem dX9_clear_48 : decode cX9_clear 48 = .ok (.iconst 0, 1) := by decide +kernel
theorem dX9_clear_49 : decode cX9_clear 49 = .ok (.putfield 72, 3) := by decide +kernel
theorem dX9_clear_52 : decode cX9_clear 52 = .ok (.return_, 1) := by decide +kernel
theorem wd_531 : (Cond.code ⟨"WebCourt$Web", "clear", "()V"⟩ prog_11_method_2_code (1 : Nat) (Option.none : Option FieldType)) ∈ gtb := gtb_c2 182 (by decide +kernel) rfl
theorem wd_532 : (Cond.methodLink "WebCourt$Web" (44 : Nat) ⟨"WebCourt$Law", "clear", "()V"⟩) ∈ gtb := gtb_c2 183 (by decide +kernel) rfl
theorem wd_533 : (Cond.instanceMethod ⟨"WebCourt$Law", "clear", "()V"⟩) ∈ gtb := gtb_c2 184 (by decide +kernel) rfl
theorem wd_534 : (Cond.selects "WebCourt$Law" ⟨"WebCourt$Law", "clear", "()V"⟩ ⟨"WebCourt$Law", "clear", "()V"⟩) ∈ gtb := gtb_c2 185 (by decide +kernel) rfl
theorem hd_yX4_clear : yX4_clear.cls = RX4 ∧ yX4_clear.cls ≠ "java/lang/invoke/MethodHandle" ∧ yX4_clear.cls ≠ "java/lang/invoke/VarHandle" ∧ (parseMethodDescriptor yX4_clear.desc).map (fun d => d.parameters.length) = some 0 := by decide +kernel
theorem wd_251 : (Cond.fieldLink "WebCourt$Web" (47 : Nat) "WebCourt$Web" "knots" "I") ∈ gtb := gtb_c1 142 (by decide +kernel) rfl
theorem pf_RX9_47 {p : Program} {l : Launch} {e : Env} {R : Room} {s : State} {m : MethodId} {args : Array Value} {below : List Frame} {meth : Method} {c : Code} {H : Heap} {locs : List Loc} {cells slots : Nat} {Q : State → Prop} {cc : ByteArray} {pc nL : Nat} {ls : Array Slot} {rest : List Value} {D : va_G} {cy : Nat → ClassId} {A : Nat → Prop} {ws : va_W} {b : Nat} {fs : List Value} {v : Int32} {ws' : va_W} (C : Cx p s m args c cc nL RX9 D cy A) (hO : Wo D A ws s.heap H locs) (q0 : Nat) (he : ws[q0]? = some (b, .inr (9, fs))) (hlen : 9 < fs.length) (hw : ws.set q0 (b, .inr (9, fs.set 9 (.int v))) = ws') (hdg : decode cc pc = .ok (.putfield 47, 3)) (kk : ∀ (H : Heap) (locs : List Loc), Wo D A ws' s.heap H locs → W p l e R s m args below meth c H locs cells slots Q (F0 m (pc + 3) ls rest)) : W p l e R s m args below meth c H locs cells slots Q (F0 m pc ls (.int v :: .ref b :: rest)) := pF (k := 9) (ty := .int) C hO q0 he rfl inFX9 (by decide) wd_251 rfl tyX9 tyX9_ok nmX9 rfl (by decide +kernel) rfl rfl hlen hw hdg kk
theorem pf_RX9_51 {p : Program} {l : Launch} {e : Env} {R : Room} {s : State} {m : MethodId} {args : Array Value} {below : List Frame} {meth : Method} {c : Code} {H : Heap} {locs : List Loc} {cells slots : Nat} {Q : State → Prop} {cc : ByteArray} {pc nL : Nat} {ls : Array Slot} {rest : List Value} {D : va_G} {cy : Nat → ClassId} {A : Nat → Prop} {ws : va_W} {b : Nat} {fs : List Value} {v : Int32} {ws' : va_W} (C : Cx p s m args c cc nL RX9 D cy A) (hO : Wo D A ws s.heap H locs) (q0 : Nat) (he : ws[q0]? = some (b, .inr (9, fs))) (hlen : 10 < fs.length) (hw : ws.set q0 (b, .inr (9, fs.set 10 (.int v))) = ws') (hdg : decode cc pc = .ok (.putfield 51, 3)) (kk : ∀ (H : Heap) (locs : List Loc), Wo D A ws' s.heap H locs → W p l e R s m args below meth c H locs cells slots Q (F0 m (pc + 3) ls rest)) : W p l e R s m args below meth c H locs cells slots Q (F0 m pc ls (.int v :: .ref b :: rest)) := pF (k := 10) (ty := .int) C hO q0 he rfl inFX9 (by decide) wd_256 rfl tyX9 tyX9_ok nmX9 rfl (by decide +kernel) rfl rfl hlen hw hdg kk
theorem pf_RX9_54 {p : Program} {l : Launch} {e : Env} {R : Room} {s : State} {m : MethodId} {args : Array Value} {below : List Frame} {meth : Method} {c : Code} {H : Heap} {locs : List Loc} {cells slots : Nat} {Q : State → Prop} {cc : ByteArray} {pc nL : Nat} {ls : Array Slot} {rest : List Value} {D : va_G} {cy : Nat → ClassId} {A : Nat → Prop} {ws : va_W} {b : Nat} {fs : List Value} {v : Int32} {ws' : va_W} (C : Cx p s m args c cc nL RX9 D cy A) (hO : Wo D A ws s.heap H locs) (q0 : Nat) (he : ws[q0]? = some (b, .inr (9, fs))) (hlen : 11 < fs.length) (hw : ws.set q0 (b, .inr (9, fs.set 11 (.int v))) = ws') (hdg : decode cc pc = .ok (.putfield 54, 3)) (kk : ∀ (H : Heap) (locs : List Loc), Wo D A ws' s.heap H locs → W p l e R s m args below meth c H locs cells slots Q (F0 m (pc + 3) ls rest)) : W p l e R s m args below meth c H locs cells slots Q (F0 m pc ls (.int v :: .ref b :: rest)) := pF (k := 11) (ty := .int) C hO q0 he rfl inFX9 (by decide) wd_261 rfl tyX9 tyX9_ok nmX9 rfl (by decide +kernel) rfl rfl hlen hw hdg kk
theorem pf_RX9_57 {p : Program} {l : Launch} {e : Env} {R : Room} {s : State} {m : MethodId} {args : Array Value} {below : List Frame} {meth : Method} {c : Code} {H : Heap} {locs : List Loc} {cells slots : Nat} {Q : State → Prop} {cc : ByteArray} {pc nL : Nat} {ls : Array Slot} {rest : List Value} {D : va_G} {cy : Nat → ClassId} {A : Nat → Prop} {ws : va_W} {b : Nat} {fs : List Value} {v : Int32} {ws' : va_W} (C : Cx p s m args c cc nL RX9 D cy A) (hO : Wo D A ws s.heap H locs) (q0 : Nat) (he : ws[q0]? = some (b, .inr (9, fs))) (hlen : 12 < fs.length) (hw : ws.set q0 (b, .inr (9, fs.set 12 (.int v))) = ws') (hdg : decode cc pc = .ok (.putfield 57, 3)) (kk : ∀ (H : Heap) (locs : List Loc), Wo D A ws' s.heap H locs → W p l e R s m args below meth c H locs cells slots Q (F0 m (pc + 3) ls rest)) : W p l e R s m args below meth c H locs cells slots Q (F0 m pc ls (.int v :: .ref b :: rest)) := pF (k := 12) (ty := .int) C hO q0 he rfl inFX9 (by decide) wd_268 rfl tyX9 tyX9_ok nmX9 rfl (by decide +kernel) rfl rfl hlen hw hdg kk
theorem wd_274 : (Cond.fieldLink "WebCourt$Web" (60 : Nat) "WebCourt$Web" "sticky" "I") ∈ gtb := gtb_c1 165 (by decide +kernel) rfl
theorem pf_RX9_60 {p : Program} {l : Launch} {e : Env} {R : Room} {s : State} {m : MethodId} {args : Array Value} {below : List Frame} {meth : Method} {c : Code} {H : Heap} {locs : List Loc} {cells slots : Nat} {Q : State → Prop} {cc : ByteArray} {pc nL : Nat} {ls : Array Slot} {rest : List Value} {D : va_G} {cy : Nat → ClassId} {A : Nat → Prop} {ws : va_W} {b : Nat} {fs : List Value} {v : Int32} {ws' : va_W} (C : Cx p s m args c cc nL RX9 D cy A) (hO : Wo D A ws s.heap H locs) (q0 : Nat) (he : ws[q0]? = some (b, .inr (9, fs))) (hlen : 13 < fs.length) (hw : ws.set q0 (b, .inr (9, fs.set 13 (.int v))) = ws') (hdg : decode cc pc = .ok (.putfield 60, 3)) (kk : ∀ (H : Heap) (locs : List Loc), Wo D A ws' s.heap H locs → W p l e R s m args below meth c H locs cells slots Q (F0 m (pc + 3) ls rest)) : W p l e R s m args below meth c H locs cells slots Q (F0 m pc ls (.int v :: .ref b :: rest)) := pF (k := 13) (ty := .int) C hO q0 he rfl inFX9 (by decide) wd_274 rfl tyX9 tyX9_ok nmX9 rfl (by decide +kernel) rfl rfl hlen hw hdg kk
theorem wd_278 : (Cond.fieldLink "WebCourt$Web" (63 : Nat) "WebCourt$Web" "bench" "I") ∈ gtb := gtb_c1 169 (by decide +kernel) rfl
theorem pf_RX9_63 {p : Program} {l : Launch} {e : Env} {R : Room} {s : State} {m : MethodId} {args : Array Value} {below : List Frame} {meth : Method} {c : Code} {H : Heap} {locs : List Loc} {cells slots : Nat} {Q : State → Prop} {cc : ByteArray} {pc nL : Nat} {ls : Array Slot} {rest : List Value} {D : va_G} {cy : Nat → ClassId} {A : Nat → Prop} {ws : va_W} {b : Nat} {fs : List Value} {v : Int32} {ws' : va_W} (C : Cx p s m args c cc nL RX9 D cy A) (hO : Wo D A ws s.heap H locs) (q0 : Nat) (he : ws[q0]? = some (b, .inr (9, fs))) (hlen : 14 < fs.length) (hw : ws.set q0 (b, .inr (9, fs.set 14 (.int v))) = ws') (hdg : decode cc pc = .ok (.putfield 63, 3)) (kk : ∀ (H : Heap) (locs : List Loc), Wo D A ws' s.heap H locs → W p l e R s m args below meth c H locs cells slots Q (F0 m (pc + 3) ls rest)) : W p l e R s m args below meth c H locs cells slots Q (F0 m pc ls (.int v :: .ref b :: rest)) := pF (k := 14) (ty := .int) C hO q0 he rfl inFX9 (by decide) wd_278 rfl tyX9 tyX9_ok nmX9 rfl (by decide +kernel) rfl rfl hlen hw hdg kk
theorem wd_280 : (Cond.fieldLink "WebCourt$Web" (66 : Nat) "WebCourt$Web" "back" "I") ∈ gtb := gtb_c1 171 (by decide +kernel) rfl
theorem pf_RX9_66 {p : Program} {l : Launch} {e : Env} {R : Room} {s : State} {m : MethodId} {args : Array Value} {below : List Frame} {meth : Method} {c : Code} {H : Heap} {locs : List Loc} {cells slots : Nat} {Q : State → Prop} {cc : ByteArray} {pc nL : Nat} {ls : Array Slot} {rest : List Value} {D : va_G} {cy : Nat → ClassId} {A : Nat → Prop} {ws : va_W} {b : Nat} {fs : List Value} {v : Int32} {ws' : va_W} (C : Cx p s m args c cc nL RX9 D cy A) (hO : Wo D A ws s.heap H locs) (q0 : Nat) (he : ws[q0]? = some (b, .inr (9, fs))) (hlen : 15 < fs.length) (hw : ws.set q0 (b, .inr (9, fs.set 15 (.int v))) = ws') (hdg : decode cc pc = .ok (.putfield 66, 3)) (kk : ∀ (H : Heap) (locs : List Loc), Wo D A ws' s.heap H locs → W p l e R s m args below meth c H locs cells slots Q (F0 m (pc + 3) ls rest)) : W p l e R s m args below meth c H locs cells slots Q (F0 m pc ls (.int v :: .ref b :: rest)) := pF (k := 15) (ty := .int) C hO q0 he rfl inFX9 (by decide) wd_280 rfl tyX9 tyX9_ok nmX9 rfl (by decide +kernel) rfl rfl hlen hw hdg kk
theorem wd_284 : (Cond.fieldLink "WebCourt$Web" (69 : Nat) "WebCourt$Web" "draw" "I") ∈ gtb := gtb_c1 175 (by decide +kernel) rfl
theorem pf_RX9_69 {p : Program} {l : Launch} {e : Env} {R : Room} {s : State} {m : MethodId} {args : Array Value} {below : List Frame} {meth : Method} {c : Code} {H : Heap} {locs : List Loc} {cells slots : Nat} {Q : State → Prop} {cc : ByteArray} {pc nL : Nat} {ls : Array Slot} {rest : List Value} {D : va_G} {cy : Nat → ClassId} {A : Nat → Prop} {ws : va_W} {b : Nat} {fs : List Value} {v : Int32} {ws' : va_W} (C : Cx p s m args c cc nL RX9 D cy A) (hO : Wo D A ws s.heap H locs) (q0 : Nat) (he : ws[q0]? = some (b, .inr (9, fs))) (hlen : 16 < fs.length) (hw : ws.set q0 (b, .inr (9, fs.set 16 (.int v))) = ws') (hdg : decode cc pc = .ok (.putfield 69, 3)) (kk : ∀ (H : Heap) (locs : List Loc), Wo D A ws' s.heap H locs → W p l e R s m args below meth c H locs cells slots Q (F0 m (pc + 3) ls rest)) : W p l e R s m args below meth c H locs cells slots Q (F0 m pc ls (.int v :: .ref b :: rest)) := pF (k := 16) (ty := .int) C hO q0 he rfl inFX9 (by decide) wd_284 rfl tyX9 tyX9_ok nmX9 rfl (by decide +kernel) rfl rfl hlen hw hdg kk
theorem wd_287 : (Cond.fieldLink "WebCourt$Web" (72 : Nat) "WebCourt$Web" "toldOnce" "I") ∈ gtb := gtb_c1 178 (by decide +kernel) rfl
theorem pf_RX9_72 {p : Program} {l : Launch} {e : Env} {R : Room} {s : State} {m : MethodId} {args : Array Value} {below : List Frame} {meth : Method} {c : Code} {H : Heap} {locs : List Loc} {cells slots : Nat} {Q : State → Prop} {cc : ByteArray} {pc nL : Nat} {ls : Array Slot} {rest : List Value} {D : va_G} {cy : Nat → ClassId} {A : Nat → Prop} {ws : va_W} {b : Nat} {fs : List Value} {v : Int32} {ws' : va_W} (C : Cx p s m args c cc nL RX9 D cy A) (hO : Wo D A ws s.heap H locs) (q0 : Nat) (he : ws[q0]? = some (b, .inr (9, fs))) (hlen : 17 < fs.length) (hw : ws.set q0 (b, .inr (9, fs.set 17 (.int v))) = ws') (hdg : decode cc pc = .ok (.putfield 72, 3)) (kk : ∀ (H : Heap) (locs : List Loc), Wo D A ws' s.heap H locs → W p l e R s m args below meth c H locs cells slots Q (F0 m (pc + 3) ls rest)) : W p l e R s m args below meth c H locs cells slots Q (F0 m pc ls (.int v :: .ref b :: rest)) := pF (k := 17) (ty := .int) C hO q0 he rfl inFX9 (by decide) wd_287 rfl tyX9 tyX9_ok nmX9 rfl (by decide +kernel) rfl rfl hlen hw hdg kk
set_option maxHeartbeats 4000000 in
set_option maxRecDepth 100000 in
theorem T_X9_clear (l : Launch) (D : va_G) (cy : Nat → ClassId) (a : Nat → Nat) (u : St) (hJ : CI a u) (hW : fR u 2 = a 15)   : Mv l D cy (cW cy a) yX9_clear (.code yX9_clear cX9_clear 1 none) (rmo 1 20) [.ref (a 15)] u (fun (u' : St) => (CI a u') ∧ (KT u u') ∧ (fR u' 2 = a 15)) := by
  refine Mv.of (own := RX9) rfl (by decide) (Nat.le_of_ble_eq_true rfl) ?_
  have hT : KT u u := KT.rf
  intro p e s m below meth c A Q ls C hret hO hl
  obtain ⟨hx, hb, hml, hown, ht, hK, hA⟩ := id C
  have hl : lv_has ls 1 [(0, .ref (a 15))] := hl
  refine lv_aload_n hx hb dX9_clear_0 rfl (lv_at hl 0 rfl) ?_
  refine gf_RX9_40 (v := .ref (a 24)) C hO 15 cW_15 rfl dX9_clear_1 ?_
  refine cVv (w := cW cy a) (As := []) (rest := []) C hO (T_X4_clear l D cy a _ (by exact hJ) (by exact hW)) (cwV 0 ht (gV wd_532 wd_533 wd_534 wd_113 wd_535) rfl rfl rfl hd_yX4_clear ⟨Nat.le_of_ble_eq_true rfl, Nat.le_of_ble_eq_true rfl⟩) 24 rfl cW_24 rfl rfl hl.1 (Nat.le_of_ble_eq_true rfl) dX9_clear_4 rfl ⟨Nat.zero_le _, Nat.zero_le _⟩ (fun u2 H locs hp3 hO => ?_)
  have g4 : 0 ≤ (fI u 15 9).toInt ∧ (fI u 15 9).toInt ≤ 8 := by have h := CI_15_9 hJ; exact h
  have g5 : 0 ≤ (fI u 15 10).toInt ∧ (fI u 15 10).toInt ≤ 14 := by have h := CI_15_10 hJ; exact h
  have g6 : 0 ≤ (fI u 15 11).toInt ∧ (fI u 15 11).toInt ≤ 8 := by have h := CI_15_11 hJ; exact h
  have g7 : 0 ≤ (fI u 15 12).toInt ∧ (fI u 15 12).toInt ≤ 6 := by have h := CI_15_12 hJ; exact h
  obtain ⟨hJ, hTu2, hW⟩ := hp3
  have hT : KT u u2 := KT.tr (by exact hT) hTu2.1
  have hI_15_9_u2 : fI u2 15 9 = (fI u 15 9) := hTu2.2.1
  have hI_15_10_u2 : fI u2 15 10 = (fI u 15 10) := hTu2.2.2.1
  have hI_15_11_u2 : fI u2 15 11 = (fI u 15 11) := hTu2.2.2.2.1
  have hI_15_12_u2 : fI u2 15 12 = (fI u 15 12) := hTu2.2.2.2.2
  refine lv_aload_n hx hb dX9_clear_7 rfl (lv_at hl 0 rfl) ?_
  refine lv_iconst (v := 0) hx hb dX9_clear_8 (by decide) ?_
  refine pf_RX9_47 C hO 15 cW_15 (Nat.le_of_ble_eq_true rfl) cW_s15_9 dX9_clear_9 (fun H locs hO => ?_)
  have hJ := CIs_15_9 (v := 0) hJ (by first | decide | omega)
  refine lv_aload_n hx hb dX9_clear_12 rfl (lv_at hl 0 rfl) ?_
  refine lv_iconst (v := 0) hx hb dX9_clear_13 (by decide) ?_
  refine pf_RX9_51 C hO 15 cW_15 (Nat.le_of_ble_eq_true rfl) cW_s15_10 dX9_clear_14 (fun H locs hO => ?_)
  have hJ := CIs_15_10 (v := 0) hJ (by first | decide | omega)
  refine lv_aload_n hx hb dX9_clear_17 rfl (lv_at hl 0 rfl) ?_
  refine lv_iconst (v := 0) hx hb dX9_clear_18 (by decide) ?_
  refine pf_RX9_54 C hO 15 cW_15 (Nat.le_of_ble_eq_true rfl) cW_s15_11 dX9_clear_19 (fun H locs hO => ?_)
  have hJ := CIs_15_11 (v := 0) hJ (by first | decide | omega)
  refine lv_aload_n hx hb dX9_clear_22 rfl (lv_at hl 0 rfl) ?_
  refine lv_iconst (v := 0) hx hb dX9_clear_23 (by decide) ?_
  refine pf_RX9_57 C hO 15 cW_15 (Nat.le_of_ble_eq_true rfl) cW_s15_12 dX9_clear_24 (fun H locs hO => ?_)
  have hJ := CIs_15_12 (v := 0) hJ (by first | decide | omega)
  refine lv_aload_n hx hb dX9_clear_27 rfl (lv_at hl 0 rfl) ?_
  refine lv_iconst (v := 0) hx hb dX9_clear_28 (by decide) ?_
  refine pf_RX9_60 C hO 15 cW_15 (Nat.le_of_ble_eq_true rfl) cW_s15_13 dX9_clear_29 (fun H locs hO => ?_)
  have hJ := CIs_15_13 (v := 0) hJ
  refine lv_aload_n hx hb dX9_clear_32 rfl (lv_at hl 0 rfl) ?_
  refine lv_iconst (v := 0) hx hb dX9_clear_33 (by decide) ?_
  refine pf_RX9_63 C hO 15 cW_15 (Nat.le_of_ble_eq_true rfl) cW_s15_14 dX9_clear_34 (fun H locs hO => ?_)
  have hJ := CIs_15_14 (v := 0) hJ
  refine lv_aload_n hx hb dX9_clear_37 rfl (lv_at hl 0 rfl) ?_
  refine lv_iconst (v := 0) hx hb dX9_clear_38 (by decide) ?_
  refine pf_RX9_66 C hO 15 cW_15 (Nat.le_of_ble_eq_true rfl) cW_s15_15 dX9_clear_39 (fun H locs hO => ?_)
  have hJ := CIs_15_15 (v := 0) hJ
  refine lv_aload_n hx hb dX9_clear_42 rfl (lv_at hl 0 rfl) ?_
  refine lv_iconst (v := 0) hx hb dX9_clear_43 (by decide) ?_
  refine pf_RX9_69 C hO 15 cW_15 (Nat.le_of_ble_eq_true rfl) cW_s15_16 dX9_clear_44 (fun H locs hO => ?_)
  have hJ := CIs_15_16 (v := 0) hJ
  refine lv_aload_n hx hb dX9_clear_47 rfl (lv_at hl 0 rfl) ?_
  refine lv_iconst (v := 0) hx hb dX9_clear_48 (by decide) ?_
  refine pf_RX9_72 C hO 15 cW_15 (Nat.le_of_ble_eq_true rfl) cW_s15_17 dX9_clear_49 (fun H locs hO => ?_)
  have hJ := CIs_15_17 (v := 0) hJ
  refine hret _ _ _ _ _ dX9_clear_52 ?_ hO
  exact ⟨hJ, hT, hW⟩
