theorem dX5_isTimes_0 : decode cX5_isTimes 0 = .ok (.iload_n 0, 1) := by decide +kernel
theorem dX5_isTimes_1 : decode cX5_isTimes 1 = .ok (.bipush 42, 2) := by decide +kernel
theorem dX5_isTimes_3 : decode cX5_isTimes 3 = .ok (.if_icmp .eq 15, 3) := by decide +kernel
theorem dX5_isTimes_6 : decode cX5_isTimes 6 = .ok (.iload_n 0, 1) := by decide +kernel
theorem dX5_isTimes_7 : decode cX5_isTimes 7 = .ok (.bipush 47, 2) := by decide +kernel
theorem dX5_isTimes_9 : decode cX5_isTimes 9 = .ok (.if_icmp .eq 9, 3) := by decide +kernel
theorem dX5_isTimes_12 : decode cX5_isTimes 12 = .ok (.iload_n 0, 1) := by decide +kernel
theorem dX5_isTimes_13 : decode cX5_isTimes 13 = .ok (.bipush 37, 2) := by decide +kernel
theorem dX5_isTimes_15 : decode cX5_isTimes 15 = .ok (.if_icmp .ne 7, 3) := by decide +kernel
theorem dX5_isTimes_18 : decode cX5_isTimes 18 = .ok (.iconst 1, 1) := by decide +kernel
theorem dX5_isTimes_19 : decode cX5_isTimes 19 = .ok (.goto 4, 3) := by decide +kernel
theorem dX5_isTimes_22 : decode cX5_isTimes 22 = .ok (.iconst 0, 1) := by decide +kernel
theorem dX5_isTimes_23 : decode cX5_isTimes 23 = .ok (.ireturn, 1) := by decide +kernel
theorem wd_788 : (Cond.code ⟨"WebCourt$Reader", "isTimes", "(I)Z"⟩ prog_7_method_26_code (1 : Nat) (Option.some FieldType.boolean)) ∈ gtb := gtb_c3 199 (by decide +kernel) rfl
set_option maxHeartbeats 4000000 in
set_option maxRecDepth 100000 in
theorem T_X5_isTimes (l : Launch) (D : va_G) (cy : Nat → ClassId) (a : Nat → Nat) (u : St) (hJ : CI a u) (x1 : Int32)  : Mi l D cy (cW cy a) yX5_isTimes (.code yX5_isTimes cX5_isTimes 1 (some .boolean)) (rmo 0 0) [.int x1] u (fun (r : Int32) (u' : St) => (r = 0 ∨ r = 1) ∧ (u' = u)) := by
  refine Mi.of (own := RX5) rfl (by decide) (Nat.le_of_ble_eq_true rfl) ?_
  have hT : KT u u := KT.rf
  intro p e s m below meth c A Q ls C hret hO hl
  obtain ⟨hx, hb, hml, hown, ht, hK, hA⟩ := id C
  have hl : lv_has ls 1 [(0, .int x1)] := hl
  refine lv_iload_n hx hb dX5_isTimes_0 rfl (lv_at hl 0 rfl) ?_
  refine lv_bipush (v := 42) hx hb dX5_isTimes_1 (by decide) ?_
  refine cs_eq (tgt := 18) (X := (x1).toInt) (Y := 42) hx hb dX5_isTimes_3 (by decide) rfl rfl (fun c1 => ?_) (fun c1 => ?_)
  · refine lv_iconst (v := 1) hx hb dX5_isTimes_18 (by decide) ?_
    refine lv_goto (tgt := 23) hx hb dX5_isTimes_19 (by decide) ?_
    refine hret _ _ _ _ _ _ dX5_isTimes_23 rfl ?_ hO
    exact ⟨Or.inr rfl, rfl⟩
  · refine lv_iload_n hx hb dX5_isTimes_6 rfl (lv_at hl 0 rfl) ?_
    refine lv_bipush (v := 47) hx hb dX5_isTimes_7 (by decide) ?_
    refine cs_eq (tgt := 18) (X := (x1).toInt) (Y := 47) hx hb dX5_isTimes_9 (by decide) rfl rfl (fun c2 => ?_) (fun c2 => ?_)
    · refine lv_iconst (v := 1) hx hb dX5_isTimes_18 (by decide) ?_
      refine lv_goto (tgt := 23) hx hb dX5_isTimes_19 (by decide) ?_
      refine hret _ _ _ _ _ _ dX5_isTimes_23 rfl ?_ hO
      exact ⟨Or.inr rfl, rfl⟩
    · refine lv_iload_n hx hb dX5_isTimes_12 rfl (lv_at hl 0 rfl) ?_
      refine lv_bipush (v := 37) hx hb dX5_isTimes_13 (by decide) ?_
      refine cs_ne (tgt := 22) (X := (x1).toInt) (Y := 37) hx hb dX5_isTimes_15 (by decide) rfl rfl (fun c3 => ?_) (fun c3 => ?_)
      · refine lv_iconst (v := 0) hx hb dX5_isTimes_22 (by decide) ?_
        refine hret _ _ _ _ _ _ dX5_isTimes_23 rfl ?_ hO
        exact ⟨Or.inl rfl, rfl⟩
      · refine lv_iconst (v := 1) hx hb dX5_isTimes_18 (by decide) ?_
        refine lv_goto (tgt := 23) hx hb dX5_isTimes_19 (by decide) ?_
        refine hret _ _ _ _ _ _ dX5_isTimes_23 rfl ?_ hO
        exact ⟨Or.inr rfl, rfl⟩
theorem dX5_readInner_0 : decode cX5_readInner 0 = .ok (.iload_n 1, 1) := by decide +kernel
theorem dX5_readInner_1 : decode cX5_readInner 1 = .ok (.bipush 6, 2) := by decide +kernel
theorem dX5_readInner_3 : decode cX5_readInner 3 = .ok (.if_icmp .le 9, 3) := by decide +kernel
theorem dX5_readInner_6 : decode cX5_readInner 6 = .ok (.aload_n 0, 1) := by decide +kernel
theorem dX5_readInner_7 : decode cX5_readInner 7 = .ok (.iconst 2, 1) := by decide +kernel
theorem dX5_readInner_8 : decode cX5_readInner 8 = .ok (.invokevirtual 74, 3) := by decide +kernel
theorem dX5_readInner_11 : decode cX5_readInner 11 = .ok (.ireturn, 1) := by decide +kernel
theorem dX5_readInner_12 : decode cX5_readInner 12 = .ok (.aload_n 0, 1) := by decide +kernel
theorem dX5_readInner_13 : decode cX5_readInner 13 = .ok (.getfield 9, 3) := by decide +kernel
theorem dX5_readInner_16 : decode cX5_readInner 16 = .ok (.invokevirtual 80, 3) := by decide +kernel
theorem dX5_readInner_19 : decode cX5_readInner 19 = .ok (.aload_n 0, 1) := by decide +kernel
theorem dX5_readInner_20 : decode cX5_readInner 20 = .ok (.iload_n 1, 1) := by decide +kernel
theorem dX5_readInner_21 : decode cX5_readInner 21 = .ok (.iconst 1, 1) := by decide +kernel
theorem dX5_readInner_22 : decode cX5_readInner 22 = .ok (.iadd, 1) := by decide +kernel
theorem dX5_readInner_23 : decode cX5_readInner 23 = .ok (.invokevirtual 65, 3) := by decide +kernel
theorem dX5_readInner_26 : decode cX5_readInner 26 = .ok (.ifCond .eq 16, 3) := by decide +kernel
theorem dX5_readInner_29 : decode cX5_readInner 29 = .ok (.aload_n 0, 1) := by decide +kernel
theorem dX5_readInner_30 : decode cX5_readInner 30 = .ok (.bipush 41, 2) := by decide +kernel
theorem dX5_readInner_32 : decode cX5_readInner 32 = .ok (.invokevirtual 43, 3) := by decide +kernel
theorem dX5_readInner_35 : decode cX5_readInner 35 = .ok (.ifCond .eq 7, 3) := by decide +kernel
theorem dX5_readInner_38 : decode cX5_readInner 38 = .ok (.iconst 1, 1) := by decide +kernel
theorem dX5_readInner_39 : decode cX5_readInner 39 = .ok (.goto 4, 3) := by decide +kernel
theorem dX5_readInner_42 : decode cX5_readInner 42 = .ok (.iconst 0, 1) := by decide +kernel
theorem dX5_readInner_43 : decode cX5_readInner 43 = .ok (.ireturn, 1) := by decide +kernel
theorem wd_785 : (Cond.code ⟨"WebCourt$Reader", "readInner", "(I)Z"⟩ prog_7_method_28_code (2 : Nat) (Option.some FieldType.boolean)) ∈ gtb := gtb_c3 196 (by decide +kernel) rfl
set_option maxHeartbeats 4000000 in
set_option maxRecDepth 100000 in
theorem T_X5_readInner_7 (l : Launch) (D : va_G) (cy : Nat → ClassId) (a : Nat → Nat) (u : St) (hJ : CI a u) (hW : fR u 2 = a 15)   : Mi l D cy (cW cy a) yX5_readInner (.code yX5_readInner cX5_readInner 2 (some .boolean)) (rmo 1 21) [.ref (a 27), .int 7] u (fun (r : Int32) (u' : St) => (r = 0 ∨ r = 1) ∧ (CI a u') ∧ (KT u u') ∧ (fR u' 2 = a 15)) := by
  refine Mi.of (own := RX5) rfl (by decide) (Nat.le_of_ble_eq_true rfl) ?_
  have hT : KT u u := KT.rf
  intro p e s m below meth c A Q ls C hret hO hl
  obtain ⟨hx, hb, hml, hown, ht, hK, hA⟩ := id C
  have hl : lv_has ls 2 [(0, .ref (a 27)), (1, .int 7)] := hl
  refine lv_iload_n hx hb dX5_readInner_0 rfl (lv_at hl 1 rfl) ?_
  refine lv_bipush (v := 6) hx hb dX5_readInner_1 (by decide) ?_
  refine cn_le (X := 7) (Y := 6) hx hb dX5_readInner_3 rfl rfl (by omega) ?_ (tgt := 12) (by decide)
  refine lv_aload_n hx hb dX5_readInner_6 rfl (lv_at hl 0 rfl) ?_
  refine lv_iconst (v := 2) hx hb dX5_readInner_7 (by decide) ?_
  refine cVi (w := cW cy a) (As := [.int 2]) (rest := []) C hO (T_X5_refuse l D cy a _ (by exact hJ) (by exact hW) (2)) (cwV 1 ht (gV wd_691 wd_693 wd_6 wd_114 wd_694) rfl rfl rfl hd_yX5_refuse ⟨Nat.le_of_ble_eq_true rfl, Nat.le_of_ble_eq_true rfl⟩) 27 rfl cW_27 rfl rfl hl.1 (Nat.le_of_ble_eq_true rfl) dX5_readInner_8 rfl ⟨Nat.zero_le _, Nat.zero_le _⟩ (fun r1 u2 H locs hp3 hO => ?_)
  have g4 : 0 ≤ (fI u 15 9).toInt ∧ (fI u 15 9).toInt ≤ 8 := by have h := CI_15_9 hJ; exact h
  have g5 : 0 ≤ (fI u 15 10).toInt ∧ (fI u 15 10).toInt ≤ 14 := by have h := CI_15_10 hJ; exact h
  have g6 : 0 ≤ (fI u 15 11).toInt ∧ (fI u 15 11).toInt ≤ 8 := by have h := CI_15_11 hJ; exact h
  have g7 : 0 ≤ (fI u 15 12).toInt ∧ (fI u 15 12).toInt ≤ 6 := by have h := CI_15_12 hJ; exact h
  obtain ⟨hr1, hJ, hTu2, hW⟩ := hp3
  subst hr1
  have hT : KT u u2 := KT.tr (by exact hT) hTu2.1
  have hI_15_9_u2 : fI u2 15 9 = (fI u 15 9) := hTu2.2.1
  have hI_15_10_u2 : fI u2 15 10 = (fI u 15 10) := hTu2.2.2.1
  have hI_15_11_u2 : fI u2 15 11 = (fI u 15 11) := hTu2.2.2.2.1
  have hI_15_12_u2 : fI u2 15 12 = (fI u 15 12) := hTu2.2.2.2.2
  refine hret _ _ _ _ _ _ dX5_readInner_11 rfl ?_ hO
  exact ⟨Or.inl rfl, hJ, hT, hW⟩
theorem dX5_readUnit_0 : decode cX5_readUnit 0 = .ok (.aload_n 0, 1) := by decide +kernel
theorem dX5_readUnit_1 : decode cX5_readUnit 1 = .ok (.getfield 9, 3) := by decide +kernel
theorem dX5_readUnit_4 : decode cX5_readUnit 4 = .ok (.getfield 36, 3) := by decide +kernel
theorem dX5_readUnit_7 : decode cX5_readUnit 7 = .ok (.istore_n 2, 1) := by decide +kernel
theorem dX5_readUnit_8 : decode cX5_readUnit 8 = .ok (.aload_n 0, 1) := by decide +kernel
theorem dX5_readUnit_9 : decode cX5_readUnit 9 = .ok (.getfield 15, 3) := by decide +kernel
theorem dX5_readUnit_12 : decode cX5_readUnit 12 = .ok (.getfield 173, 3) := by decide +kernel
theorem dX5_readUnit_15 : decode cX5_readUnit 15 = .ok (.invokevirtual 201, 3) := by decide +kernel
theorem dX5_readUnit_18 : decode cX5_readUnit 18 = .ok (.ifCond .ne 23, 3) := by decide +kernel
theorem dX5_readUnit_21 : decode cX5_readUnit 21 = .ok (.iload_n 2, 1) := by decide +kernel
theorem dX5_readUnit_22 : decode cX5_readUnit 22 = .ok (.sipush 201, 3) := by decide +kernel
theorem dX5_readUnit_25 : decode cX5_readUnit 25 = .ok (.if_icmp .eq 22, 3) := by decide +kernel
theorem dX5_readUnit_28 : decode cX5_readUnit 28 = .ok (.iload_n 2, 1) := by decide +kernel
theorem dX5_readUnit_29 : decode cX5_readUnit 29 = .ok (.bipush 40, 2) := by decide +kernel
theorem dX5_readUnit_31 : decode cX5_readUnit 31 = .ok (.if_icmp .eq 16, 3) := by decide +kernel
theorem dX5_readUnit_34 : decode cX5_readUnit 34 = .ok (.iload_n 2, 1) := by decide +kernel
theorem dX5_readUnit_35 : decode cX5_readUnit 35 = .ok (.invokestatic 204, 3) := by decide +kernel
theorem dX5_readUnit_38 : decode cX5_readUnit 38 = .ok (.ifCond .ne 9, 3) := by decide +kernel
theorem dX5_readUnit_41 : decode cX5_readUnit 41 = .ok (.aload_n 0, 1) := by decide +kernel
theorem dX5_readUnit_42 : decode cX5_readUnit 42 = .ok (.iconst 2, 1) := by decide +kernel
theorem dX5_readUnit_43 : decode cX5_readUnit 43 = .ok (.invokevirtual 74, 3) := by decide +kernel
theorem dX5_readUnit_46 : decode cX5_readUnit 46 = .ok (.ireturn, 1) := by decide +kernel
theorem dX5_readUnit_47 : decode cX5_readUnit 47 = .ok (.aload_n 0, 1) := by decide +kernel
theorem dX5_readUnit_48 : decode cX5_readUnit 48 = .ok (.getfield 15, 3) := by decide +kernel
theorem dX5_readUnit_51 : decode cX5_readUnit 51 = .ok (.getfield 173, 3) := by decide +kernel
theorem dX5_readUnit_54 : decode cX5_readUnit 54 = .ok (.dup, 1) := by decide +kernel
theorem dX5_readUnit_55 : decode cX5_readUnit 55 = .ok (.getfield 207, 3) := by decide +kernel
theorem dX5_readUnit_58 : decode cX5_readUnit 58 = .ok (.iconst 1, 1) := by decide +kernel
theorem dX5_readUnit_59 : decode cX5_readUnit 59 = .ok (.iadd, 1) := by decide +kernel
theorem dX5_readUnit_60 : decode cX5_readUnit 60 = .ok (.putfield 207, 3) := by decide +kernel
theorem dX5_readUnit_63 : decode cX5_readUnit 63 = .ok (.iload_n 2, 1) := by decide +kernel
theorem dX5_readUnit_64 : decode cX5_readUnit 64 = .ok (.bipush 40, 2) := by decide +kernel
theorem dX5_readUnit_66 : decode cX5_readUnit 66 = .ok (.if_icmp .ne 9, 3) := by decide +kernel
theorem dX5_readUnit_69 : decode cX5_readUnit 69 = .ok (.aload_n 0, 1) := by decide +kernel
theorem dX5_readUnit_70 : decode cX5_readUnit 70 = .ok (.iload_n 1, 1) := by decide +kernel
theorem dX5_readUnit_71 : decode cX5_readUnit 71 = .ok (.invokevirtual 210, 3) := by decide +kernel
theorem dX5_readUnit_74 : decode cX5_readUnit 74 = .ok (.ireturn, 1) := by decide +kernel
theorem dX5_readUnit_75 : decode cX5_readUnit 75 = .ok (.aload_n 0, 1) := by decide +kernel
theorem dX5_readUnit_76 : decode cX5_readUnit 76 = .ok (.getfield 15, 3) := by decide +kernel
theorem dX5_readUnit_79 : decode cX5_readUnit 79 = .ok (.getfield 173, 3) := by decide +kernel
theorem dX5_readUnit_82 : decode cX5_readUnit 82 = .ok (.iload_n 2, 1) := by decide +kernel
theorem dX5_readUnit_83 : decode cX5_readUnit 83 = .ok (.sipush 201, 3) := by decide +kernel
theorem dX5_readUnit_86 : decode cX5_readUnit 86 = .ok (.if_icmp .ne 13, 3) := by decide +kernel
theorem dX5_readUnit_89 : decode cX5_readUnit 89 = .ok (.aload_n 0, 1) := by decide +kernel
theorem dX5_readUnit_90 : decode cX5_readUnit 90 = .ok (.getfield 9, 3) := by decide +kernel
theorem dX5_readUnit_93 : decode cX5_readUnit 93 = .ok (.getfield 94, 3) := by decide +kernel
theorem dX5_readUnit_96 : decode cX5_readUnit 96 = .ok (.goto 5, 3) := by decide +kernel
theorem dX5_readUnit_99 : decode cX5_readUnit 99 = .ok (.iload_n 2, 1) := by decide +kernel
theorem dX5_readUnit_100 : decode cX5_readUnit 100 = .ok (.ineg, 1) := by decide +kernel
theorem dX5_readUnit_101 : decode cX5_readUnit 101 = .ok (.invokevirtual 177, 3) := by decide +kernel
theorem dX5_readUnit_104 : decode cX5_readUnit 104 = .ok (.aload_n 0, 1) := by decide +kernel
theorem dX5_readUnit_105 : decode cX5_readUnit 105 = .ok (.getfield 9, 3) := by decide +kernel
theorem dX5_readUnit_108 : decode cX5_readUnit 108 = .ok (.invokevirtual 80, 3) := by decide +kernel
theorem dX5_readUnit_111 : decode cX5_readUnit 111 = .ok (.iconst 1, 1) := by decide +kernel
theorem dX5_readUnit_112 : decode cX5_readUnit 112 = .ok (.ireturn, 1) := by decide +kernel
theorem wd_774 : (Cond.code ⟨"WebCourt$Reader", "readUnit", "(I)Z"⟩ prog_7_method_27_code (3 : Nat) (Option.some FieldType.boolean)) ∈ gtb := gtb_c3 185 (by decide +kernel) rfl
theorem wd_249 : (Cond.fieldLink "WebCourt$Reader" (173 : Nat) "WebCourt$Web" "law" "LWebCourt$Law;") ∈ gtb := gtb_c1 140 (by decide +kernel) rfl
theorem gf_RX5_173 {p : Program} {l : Launch} {e : Env} {R : Room} {s : State} {m : MethodId} {args : Array Value} {below : List Frame} {meth : Method} {c : Code} {H : Heap} {locs : List Loc} {cells slots : Nat} {Q : State → Prop} {cc : ByteArray} {pc nL : Nat} {ls : Array Slot} {rest : List Value} {D : va_G} {cy : Nat → ClassId} {A : Nat → Prop} {ws : va_W} {b : Nat} {fs : List Value} {v : Value} (C : Cx p s m args c cc nL RX5 D cy A) (hO : Wo D A ws s.heap H locs) (q0 : Nat) (he : ws[q0]? = some (b, .inr (9, fs))) (hv : fs[8]? = some v) (hdg : decode cc pc = .ok (.getfield 173, 3)) (kk : W p l e R s m args below meth c H locs cells slots Q (F0 m (pc + 3) ls (v :: rest))) : W p l e R s m args below meth c H locs cells slots Q (F0 m pc ls (.ref b :: rest)) := gF (k := 8) C hO q0 he rfl inFX9 (by decide) wd_249 rfl hv hdg kk
theorem wd_775 : (Cond.methodLink "WebCourt$Reader" (201 : Nat) ⟨"WebCourt$Law", "isFull", "()Z"⟩) ∈ gtb := gtb_c3 186 (by decide +kernel) rfl
theorem wd_776 : (Cond.instanceMethod ⟨"WebCourt$Law", "isFull", "()Z"⟩) ∈ gtb := gtb_c3 187 (by decide +kernel) rfl
theorem wd_777 : (Cond.selects "WebCourt$Law" ⟨"WebCourt$Law", "isFull", "()Z"⟩ ⟨"WebCourt$Law", "isFull", "()Z"⟩) ∈ gtb := gtb_c3 188 (by decide +kernel) rfl
theorem hd_yX4_isFull : yX4_isFull.cls = RX4 ∧ yX4_isFull.cls ≠ "java/lang/invoke/MethodHandle" ∧ yX4_isFull.cls ≠ "java/lang/invoke/VarHandle" ∧ (parseMethodDescriptor yX4_isFull.desc).map (fun d => d.parameters.length) = some 0 := by decide +kernel
theorem wd_188 : (Cond.fieldLink "WebCourt$Reader" (207 : Nat) "WebCourt$Law" "units" "I") ∈ gtb := gtb_c1 79 (by decide +kernel) rfl
theorem gf_RX5_207 {p : Program} {l : Launch} {e : Env} {R : Room} {s : State} {m : MethodId} {args : Array Value} {below : List Frame} {meth : Method} {c : Code} {H : Heap} {locs : List Loc} {cells slots : Nat} {Q : State → Prop} {cc : ByteArray} {pc nL : Nat} {ls : Array Slot} {rest : List Value} {D : va_G} {cy : Nat → ClassId} {A : Nat → Prop} {ws : va_W} {b : Nat} {fs : List Value} {v : Value} (C : Cx p s m args c cc nL RX5 D cy A) (hO : Wo D A ws s.heap H locs) (q0 : Nat) (he : ws[q0]? = some (b, .inr (4, fs))) (hv : fs[4]? = some v) (hdg : decode cc pc = .ok (.getfield 207, 3)) (kk : W p l e R s m args below meth c H locs cells slots Q (F0 m (pc + 3) ls (v :: rest))) : W p l e R s m args below meth c H locs cells slots Q (F0 m pc ls (.ref b :: rest)) := gF (k := 4) C hO q0 he rfl inFX4 (by decide) wd_188 rfl hv hdg kk
theorem pf_RX5_207 {p : Program} {l : Launch} {e : Env} {R : Room} {s : State} {m : MethodId} {args : Array Value} {below : List Frame} {meth : Method} {c : Code} {H : Heap} {locs : List Loc} {cells slots : Nat} {Q : State → Prop} {cc : ByteArray} {pc nL : Nat} {ls : Array Slot} {rest : List Value} {D : va_G} {cy : Nat → ClassId} {A : Nat → Prop} {ws : va_W} {b : Nat} {fs : List Value} {v : Int32} {ws' : va_W} (C : Cx p s m args c cc nL RX5 D cy A) (hO : Wo D A ws s.heap H locs) (q0 : Nat) (he : ws[q0]? = some (b, .inr (4, fs))) (hlen : 4 < fs.length) (hw : ws.set q0 (b, .inr (4, fs.set 4 (.int v))) = ws') (hdg : decode cc pc = .ok (.putfield 207, 3)) (kk : ∀ (H : Heap) (locs : List Loc), Wo D A ws' s.heap H locs → W p l e R s m args below meth c H locs cells slots Q (F0 m (pc + 3) ls rest)) : W p l e R s m args below meth c H locs cells slots Q (F0 m pc ls (.int v :: .ref b :: rest)) := pF (k := 4) (ty := .int) C hO q0 he rfl inFX4 (by decide) wd_188 rfl tyX4 tyX4_ok nmX4 rfl (by decide +kernel) rfl rfl hlen hw hdg kk
theorem wd_759 : (Cond.methodLink "WebCourt$Reader" (177 : Nat) ⟨"WebCourt$Law", "add", "(I)V"⟩) ∈ gtb := gtb_c3 170 (by decide +kernel) rfl
theorem wd_760 : (Cond.instanceMethod ⟨"WebCourt$Law", "add", "(I)V"⟩) ∈ gtb := gtb_c3 171 (by decide +kernel) rfl
theorem wd_761 : (Cond.selects "WebCourt$Law" ⟨"WebCourt$Law", "add", "(I)V"⟩ ⟨"WebCourt$Law", "add", "(I)V"⟩) ∈ gtb := gtb_c3 172 (by decide +kernel) rfl
theorem hd_yX4_add : yX4_add.cls = RX4 ∧ yX4_add.cls ≠ "java/lang/invoke/MethodHandle" ∧ yX4_add.cls ≠ "java/lang/invoke/VarHandle" ∧ (parseMethodDescriptor yX4_add.desc).map (fun d => d.parameters.length) = some 1 := by decide +kernel
theorem wd_782 : (Cond.methodLink "WebCourt$Reader" (210 : Nat) ⟨"WebCourt$Reader", "readInner", "(I)Z"⟩) ∈ gtb := gtb_c3 193 (by decide +kernel) rfl
theorem wd_784 : (Cond.instanceMethod ⟨"WebCourt$Reader", "readInner", "(I)Z"⟩) ∈ gtb := gtb_c3 195 (by decide +kernel) rfl
theorem wd_24 : (Cond.selects "WebCourt$Reader" ⟨"WebCourt$Reader", "readInner", "(I)Z"⟩ ⟨"WebCourt$Reader", "readInner", "(I)Z"⟩) ∈ gtb := gtb_p 24 (by decide +kernel) rfl
theorem hd_yX5_readInner : yX5_readInner.cls = RX5 ∧ yX5_readInner.cls ≠ "java/lang/invoke/MethodHandle" ∧ yX5_readInner.cls ≠ "java/lang/invoke/VarHandle" ∧ (parseMethodDescriptor yX5_readInner.desc).map (fun d => d.parameters.length) = some 1 := by decide +kernel
theorem wd_779 : (Cond.methodLink "WebCourt$Reader" (204 : Nat) ⟨"WebCourt$Law", "isGiven", "(I)Z"⟩) ∈ gtb := gtb_c3 190 (by decide +kernel) rfl
set_option maxHeartbeats 4000000 in
set_option maxRecDepth 100000 in
theorem T_X5_readUnit_7 (l : Launch) (D : va_G) (cy : Nat → ClassId) (a : Nat → Nat) (u : St) (hJ : CI a u) (hW : fR u 2 = a 15)   : Mi l D cy (cW cy a) yX5_readUnit (.code yX5_readUnit cX5_readUnit 3 (some .boolean)) (rmo 6 131) [.ref (a 27), .int 7] u (fun (r : Int32) (u' : St) => (r = 0 ∨ r = 1) ∧ (CI a u') ∧ (KT u u') ∧ (fR u' 2 = a 15)) := by
  refine Mi.of (own := RX5) rfl (by decide) (Nat.le_of_ble_eq_true rfl) ?_
  have hT : KT u u := KT.rf
  intro p e s m below meth c A Q ls C hret hO hl
  obtain ⟨hx, hb, hml, hown, ht, hK, hA⟩ := id C
  have hl : lv_has ls 3 [(0, .ref (a 27)), (1, .int 7)] := hl
  refine lv_aload_n hx hb dX5_readUnit_0 rfl (lv_at hl 0 rfl) ?_
  refine gf_RX5_9 (v := .ref (a 1)) C hO 27 cW_27 rfl dX5_readUnit_1 ?_
  refine gf_RX5_36 (v := .int (fI u 1 4)) C hO 1 cW_1 rfl dX5_readUnit_4 ?_
  refine lv_istore_n (lv' := [(2, .int (fI u 1 4)), (0, .ref (a 27)), (1, .int 7)]) hx hb dX5_readUnit_7 rfl hl (by decide) rfl (fun ls hl => ?_)
  refine lv_aload_n hx hb dX5_readUnit_8 rfl (lv_at hl 1 rfl) ?_
  refine gf_RX5_15 (v := .ref (a 15)) C hO 27 cW_27 (congrArg (fun z : Nat => some (Value.ref z)) hW) dX5_readUnit_9 ?_
  refine gf_RX5_173 (v := .ref (a 24)) C hO 15 cW_15 rfl dX5_readUnit_12 ?_
  refine cVi (w := cW cy a) (As := []) (rest := []) C hO (T_X4_isFull l D cy a _ (by exact hJ)) (cwV 0 ht (gV wd_775 wd_776 wd_777 wd_113 wd_778) rfl rfl rfl hd_yX4_isFull ⟨Nat.le_of_ble_eq_true rfl, Nat.le_of_ble_eq_true rfl⟩) 24 rfl cW_24 rfl rfl hl.1 (Nat.le_of_ble_eq_true rfl) dX5_readUnit_15 rfl ⟨Nat.zero_le _, Nat.zero_le _⟩ (fun r1 u2 H locs hp3 hO => ?_)
  obtain ⟨hr1, hu2⟩ := hp3
  have gr1 : 0 ≤ r1.toInt ∧ r1.toInt ≤ 1 := by rcases hr1 with h | h <;> rw [h] <;> decide
  rw [hu2] at hO
  refine bs_ne (tgt := 41) (X := (r1).toInt) hx hb dX5_readUnit_18 (by decide) rfl (fun c4 => ?_) (fun c4 => ?_)
  · refine lv_aload_n hx hb dX5_readUnit_41 rfl (lv_at hl 1 rfl) ?_
    refine lv_iconst (v := 2) hx hb dX5_readUnit_42 (by decide) ?_
    refine cVi (w := cW cy a) (As := [.int 2]) (rest := []) C hO (T_X5_refuse l D cy a _ (by exact hJ) (by exact hW) (2)) (cwV 1 ht (gV wd_691 wd_693 wd_6 wd_114 wd_694) rfl rfl rfl hd_yX5_refuse ⟨Nat.le_of_ble_eq_true rfl, Nat.le_of_ble_eq_true rfl⟩) 27 rfl cW_27 rfl rfl hl.1 (Nat.le_of_ble_eq_true rfl) dX5_readUnit_43 rfl ⟨Nat.zero_le _, Nat.zero_le _⟩ (fun r5 u6 H locs hp7 hO => ?_)
    have g8 : 0 ≤ (fI u 15 9).toInt ∧ (fI u 15 9).toInt ≤ 8 := by have h := CI_15_9 hJ; exact h
    have g9 : 0 ≤ (fI u 15 10).toInt ∧ (fI u 15 10).toInt ≤ 14 := by have h := CI_15_10 hJ; exact h
    have g10 : 0 ≤ (fI u 15 11).toInt ∧ (fI u 15 11).toInt ≤ 8 := by have h := CI_15_11 hJ; exact h
    have g11 : 0 ≤ (fI u 15 12).toInt ∧ (fI u 15 12).toInt ≤ 6 := by have h := CI_15_12 hJ; exact h
    obtain ⟨hr5, hJ, hTu6, hW⟩ := hp7
    subst hr5
    have hT : KT u u6 := KT.tr (by exact hT) hTu6.1
    have hI_15_9_u6 : fI u6 15 9 = (fI u 15 9) := hTu6.2.1
    have hI_15_10_u6 : fI u6 15 10 = (fI u 15 10) := hTu6.2.2.1
    have hI_15_11_u6 : fI u6 15 11 = (fI u 15 11) := hTu6.2.2.2.1
    have hI_15_12_u6 : fI u6 15 12 = (fI u 15 12) := hTu6.2.2.2.2
    refine hret _ _ _ _ _ _ dX5_readUnit_46 rfl ?_ hO
    exact ⟨Or.inl rfl, hJ, hT, hW⟩
  · refine lv_iload_n hx hb dX5_readUnit_21 rfl (lv_at hl 0 rfl) ?_
    refine lv_sipush (v := 201) hx hb dX5_readUnit_22 (by decide) ?_
    refine cs_eq (tgt := 47) (X := ((fI u 1 4)).toInt) (Y := 201) hx hb dX5_readUnit_25 (by decide) rfl rfl (fun c12 => ?_) (fun c12 => ?_)
    · refine lv_aload_n hx hb dX5_readUnit_47 rfl (lv_at hl 1 rfl) ?_
      refine gf_RX5_15 (v := .ref (a 15)) C hO 27 cW_27 (congrArg (fun z : Nat => some (Value.ref z)) hW) dX5_readUnit_48 ?_
      refine gf_RX5_173 (v := .ref (a 24)) C hO 15 cW_15 rfl dX5_readUnit_51 ?_
      refine lv_dup hx hb dX5_readUnit_54 rfl ?_
      refine gf_RX5_207 (v := .int (fI u 24 4)) C hO 24 cW_24 rfl dX5_readUnit_55 ?_
      refine lv_iconst (v := 1) hx hb dX5_readUnit_58 (by decide) ?_
      refine lv_iadd hx hb dX5_readUnit_59 ?_
      refine pf_RX5_207 C hO 24 cW_24 (Nat.le_of_ble_eq_true rfl) cW_s24_4 dX5_readUnit_60 (fun H locs hO => ?_)
      have hJ := CIs_24_4 (v := ((fI u 24 4) + 1)) hJ
      refine lv_iload_n hx hb dX5_readUnit_63 rfl (lv_at hl 0 rfl) ?_
      refine lv_bipush (v := 40) hx hb dX5_readUnit_64 (by decide) ?_
      refine ct_ne (tgt := 75) (X := ((fI u 1 4)).toInt) (Y := 40) hx hb dX5_readUnit_66 (by decide) rfl rfl (by omega) ?_
      refine lv_aload_n hx hb dX5_readUnit_75 rfl (lv_at hl 1 rfl) ?_
      refine gf_RX5_15 (v := .ref (a 15)) C hO 27 cW_27 (congrArg (fun z : Nat => some (Value.ref z)) hW) dX5_readUnit_76 ?_
      refine gf_RX5_173 (v := .ref (a 24)) C hO 15 cW_15 rfl dX5_readUnit_79 ?_
      refine lv_iload_n hx hb dX5_readUnit_82 rfl (lv_at hl 0 rfl) ?_
      refine lv_sipush (v := 201) hx hb dX5_readUnit_83 (by decide) ?_
      refine cn_ne (X := ((fI u 1 4)).toInt) (Y := 201) hx hb dX5_readUnit_86 rfl rfl (by omega) ?_ (tgt := 99) (by decide)
      refine lv_aload_n hx hb dX5_readUnit_89 rfl (lv_at hl 1 rfl) ?_
      refine gf_RX5_9 (v := .ref (a 1)) C hO 27 cW_27 rfl dX5_readUnit_90 ?_
      refine gf_RX5_94 (v := .int (fI u 1 6)) C hO 1 cW_1 rfl dX5_readUnit_93 ?_
      refine lv_goto (tgt := 101) hx hb dX5_readUnit_96 (by decide) ?_
      refine cVv (w := cW cy a) (As := [.int (fI u 1 6)]) (rest := []) C hO (T_X4_add l D cy a _ (by exact hJ) (by exact hW) ((fI u 1 6))) (cwV 1 ht (gV wd_759 wd_760 wd_761 wd_113 wd_762) rfl rfl rfl hd_yX4_add ⟨Nat.le_of_ble_eq_true rfl, Nat.le_of_ble_eq_true rfl⟩) 24 rfl cW_24 rfl rfl hl.1 (Nat.le_of_ble_eq_true rfl) dX5_readUnit_101 rfl ⟨Nat.zero_le _, Nat.zero_le _⟩ (fun u14 H locs hp15 hO => ?_)
      have g16 : 0 ≤ (fI u 15 9).toInt ∧ (fI u 15 9).toInt ≤ 8 := by have h := CI_15_9 hJ; exact h
      have g17 : 0 ≤ (fI u 15 10).toInt ∧ (fI u 15 10).toInt ≤ 14 := by have h := CI_15_10 hJ; exact h
      have g18 : 0 ≤ (fI u 15 11).toInt ∧ (fI u 15 11).toInt ≤ 8 := by have h := CI_15_11 hJ; exact h
      have g19 : 0 ≤ (fI u 15 12).toInt ∧ (fI u 15 12).toInt ≤ 6 := by have h := CI_15_12 hJ; exact h
      obtain ⟨hJ, hTu14, hW⟩ := hp15
      have hT : KT u u14 := KT.tr (by exact hT) hTu14.1
      have hI_15_9_u14 : fI u14 15 9 = (fI u 15 9) := hTu14.2.1
      have hI_15_10_u14 : fI u14 15 10 = (fI u 15 10) := hTu14.2.2.1
      have hI_15_11_u14 : fI u14 15 11 = (fI u 15 11) := hTu14.2.2.2.1
      have hI_15_12_u14 : fI u14 15 12 = (fI u 15 12) := hTu14.2.2.2.2
      refine lv_aload_n hx hb dX5_readUnit_104 rfl (lv_at hl 1 rfl) ?_
      refine gf_RX5_9 (v := .ref (a 1)) C hO 27 cW_27 rfl dX5_readUnit_105 ?_
      refine cVv (w := cW cy a) (As := []) (rest := []) C hO (T_X7_advance l D cy a _ (by exact hJ) (by exact hW)) (cwV 0 ht (gV wd_695 wd_541 wd_542 wd_111 wd_543) rfl rfl rfl hd_yX7_advance ⟨Nat.le_of_ble_eq_true rfl, Nat.le_of_ble_eq_true rfl⟩) 1 rfl cW_1 rfl rfl hl.1 (Nat.le_of_ble_eq_true rfl) dX5_readUnit_108 rfl ⟨Nat.zero_le _, Nat.zero_le _⟩ (fun u21 H locs hp22 hO => ?_)
      obtain ⟨hJ, hTu21, hW⟩ := hp22
      have hT : KT u u21 := KT.tr (by exact hT) hTu21.1
      have hI_15_9_u21 : fI u21 15 9 = (fI u 15 9) := Eq.trans (hTu21.2.1) (hI_15_9_u14)
      have hI_15_10_u21 : fI u21 15 10 = (fI u 15 10) := Eq.trans (hTu21.2.2.1) (hI_15_10_u14)
      have hI_15_11_u21 : fI u21 15 11 = (fI u 15 11) := Eq.trans (hTu21.2.2.2.1) (hI_15_11_u14)
      have hI_15_12_u21 : fI u21 15 12 = (fI u 15 12) := Eq.trans (hTu21.2.2.2.2) (hI_15_12_u14)
      refine lv_iconst (v := 1) hx hb dX5_readUnit_111 (by decide) ?_
      refine hret _ _ _ _ _ _ dX5_readUnit_112 rfl ?_ hO
      exact ⟨Or.inr rfl, hJ, hT, hW⟩
    · refine lv_iload_n hx hb dX5_readUnit_28 rfl (lv_at hl 0 rfl) ?_
      refine lv_bipush (v := 40) hx hb dX5_readUnit_29 (by decide) ?_
      refine cs_eq (tgt := 47) (X := ((fI u 1 4)).toInt) (Y := 40) hx hb dX5_readUnit_31 (by decide) rfl rfl (fun c23 => ?_) (fun c23 => ?_)
      · refine lv_aload_n hx hb dX5_readUnit_47 rfl (lv_at hl 1 rfl) ?_
        refine gf_RX5_15 (v := .ref (a 15)) C hO 27 cW_27 (congrArg (fun z : Nat => some (Value.ref z)) hW) dX5_readUnit_48 ?_
        refine gf_RX5_173 (v := .ref (a 24)) C hO 15 cW_15 rfl dX5_readUnit_51 ?_
        refine lv_dup hx hb dX5_readUnit_54 rfl ?_
        refine gf_RX5_207 (v := .int (fI u 24 4)) C hO 24 cW_24 rfl dX5_readUnit_55 ?_
        refine lv_iconst (v := 1) hx hb dX5_readUnit_58 (by decide) ?_
        refine lv_iadd hx hb dX5_readUnit_59 ?_
        refine pf_RX5_207 C hO 24 cW_24 (Nat.le_of_ble_eq_true rfl) cW_s24_4 dX5_readUnit_60 (fun H locs hO => ?_)
        have hJ := CIs_24_4 (v := ((fI u 24 4) + 1)) hJ
        refine lv_iload_n hx hb dX5_readUnit_63 rfl (lv_at hl 0 rfl) ?_
        refine lv_bipush (v := 40) hx hb dX5_readUnit_64 (by decide) ?_
        refine cn_ne (X := ((fI u 1 4)).toInt) (Y := 40) hx hb dX5_readUnit_66 rfl rfl (by omega) ?_ (tgt := 75) (by decide)
        refine lv_aload_n hx hb dX5_readUnit_69 rfl (lv_at hl 1 rfl) ?_
        refine lv_iload_n hx hb dX5_readUnit_70 rfl (lv_at hl 2 rfl) ?_
        refine cVi (w := cW cy a) (As := [.int 7]) (rest := []) C hO (T_X5_readInner_7 l D cy a _ (by exact hJ) (by exact hW)) (cwV 1 ht (gV wd_782 wd_784 wd_24 wd_114 wd_785) rfl rfl rfl hd_yX5_readInner ⟨Nat.le_of_ble_eq_true rfl, Nat.le_of_ble_eq_true rfl⟩) 27 rfl cW_27 rfl rfl hl.1 (Nat.le_of_ble_eq_true rfl) dX5_readUnit_71 rfl ⟨Nat.zero_le _, Nat.zero_le _⟩ (fun r24 u25 H locs hp26 hO => ?_)
        obtain ⟨hr24, hJ, hTu25, hW⟩ := hp26
        have gr24 : 0 ≤ r24.toInt ∧ r24.toInt ≤ 1 := by rcases hr24 with h | h <;> rw [h] <;> decide
        have hT : KT u u25 := KT.tr (by exact hT) hTu25
        refine hret _ _ _ _ _ _ dX5_readUnit_74 (by rcases hr24 with h | h <;> rw [h] <;> rfl) ?_ hO
        exact ⟨hr24, hJ, hT, hW⟩
      · refine lv_iload_n hx hb dX5_readUnit_34 rfl (lv_at hl 0 rfl) ?_
        refine cSi (w := cW cy a) (As := [.int (fI u 1 4)]) (rest := []) C hO (T_X4_isGiven l D cy a _ (by exact hJ) ((fI u 1 4))) (va_cwS 1 ht (gSS wd_779 wd_780 wd_113 wd_781) rfl rfl rfl hd_yX4_isGiven ⟨Nat.le_of_ble_eq_true rfl, Nat.le_of_ble_eq_true rfl⟩)  rfl hl.1 (Nat.le_of_ble_eq_true rfl) dX5_readUnit_35 rfl ⟨Nat.zero_le _, Nat.zero_le _⟩ (fun r27 u28 H locs hp29 hO => ?_)
        obtain ⟨hr27, hu28⟩ := hp29
        have gr27 : 0 ≤ r27.toInt ∧ r27.toInt ≤ 1 := by rcases hr27 with h | h <;> rw [h] <;> decide
        rw [hu28] at hO
        refine bs_ne (tgt := 47) (X := (r27).toInt) hx hb dX5_readUnit_38 (by decide) rfl (fun c30 => ?_) (fun c30 => ?_)
        · refine lv_aload_n hx hb dX5_readUnit_47 rfl (lv_at hl 1 rfl) ?_
          refine gf_RX5_15 (v := .ref (a 15)) C hO 27 cW_27 (congrArg (fun z : Nat => some (Value.ref z)) hW) dX5_readUnit_48 ?_
          refine gf_RX5_173 (v := .ref (a 24)) C hO 15 cW_15 rfl dX5_readUnit_51 ?_
          refine lv_dup hx hb dX5_readUnit_54 rfl ?_
          refine gf_RX5_207 (v := .int (fI u 24 4)) C hO 24 cW_24 rfl dX5_readUnit_55 ?_
          refine lv_iconst (v := 1) hx hb dX5_readUnit_58 (by decide) ?_
          refine lv_iadd hx hb dX5_readUnit_59 ?_
          refine pf_RX5_207 C hO 24 cW_24 (Nat.le_of_ble_eq_true rfl) cW_s24_4 dX5_readUnit_60 (fun H locs hO => ?_)
          have hJ := CIs_24_4 (v := ((fI u 24 4) + 1)) hJ
          refine lv_iload_n hx hb dX5_readUnit_63 rfl (lv_at hl 0 rfl) ?_
          refine lv_bipush (v := 40) hx hb dX5_readUnit_64 (by decide) ?_
          refine cs_ne (tgt := 75) (X := ((fI u 1 4)).toInt) (Y := 40) hx hb dX5_readUnit_66 (by decide) rfl rfl (fun c31 => ?_) (fun c31 => ?_)
          · refine lv_aload_n hx hb dX5_readUnit_75 rfl (lv_at hl 1 rfl) ?_
            refine gf_RX5_15 (v := .ref (a 15)) C hO 27 cW_27 (congrArg (fun z : Nat => some (Value.ref z)) hW) dX5_readUnit_76 ?_
            refine gf_RX5_173 (v := .ref (a 24)) C hO 15 cW_15 rfl dX5_readUnit_79 ?_
            refine lv_iload_n hx hb dX5_readUnit_82 rfl (lv_at hl 0 rfl) ?_
            refine lv_sipush (v := 201) hx hb dX5_readUnit_83 (by decide) ?_
            refine cs_ne (tgt := 99) (X := ((fI u 1 4)).toInt) (Y := 201) hx hb dX5_readUnit_86 (by decide) rfl rfl (fun c32 => ?_) (fun c32 => ?_)
            · refine lv_iload_n hx hb dX5_readUnit_99 rfl (lv_at hl 0 rfl) ?_
              refine lv_ineg hx hb dX5_readUnit_100 ?_
              refine lv_topi (fun z33 ez33 => ?_)
              refine cVv (w := cW cy a) (As := [.int z33]) (rest := []) C hO (T_X4_add l D cy a _ (by exact hJ) (by exact hW) (z33)) (cwV 1 ht (gV wd_759 wd_760 wd_761 wd_113 wd_762) rfl rfl rfl hd_yX4_add ⟨Nat.le_of_ble_eq_true rfl, Nat.le_of_ble_eq_true rfl⟩) 24 rfl cW_24 rfl rfl hl.1 (Nat.le_of_ble_eq_true rfl) dX5_readUnit_101 rfl ⟨Nat.zero_le _, Nat.zero_le _⟩ (fun u35 H locs hp36 hO => ?_)
              have g37 : 0 ≤ (fI u 15 9).toInt ∧ (fI u 15 9).toInt ≤ 8 := by have h := CI_15_9 hJ; exact h
              have g38 : 0 ≤ (fI u 15 10).toInt ∧ (fI u 15 10).toInt ≤ 14 := by have h := CI_15_10 hJ; exact h
              have g39 : 0 ≤ (fI u 15 11).toInt ∧ (fI u 15 11).toInt ≤ 8 := by have h := CI_15_11 hJ; exact h
              have g40 : 0 ≤ (fI u 15 12).toInt ∧ (fI u 15 12).toInt ≤ 6 := by have h := CI_15_12 hJ; exact h
              obtain ⟨hJ, hTu35, hW⟩ := hp36
              have hT : KT u u35 := KT.tr (by exact hT) hTu35.1
              have hI_15_9_u35 : fI u35 15 9 = (fI u 15 9) := hTu35.2.1
              have hI_15_10_u35 : fI u35 15 10 = (fI u 15 10) := hTu35.2.2.1
              have hI_15_11_u35 : fI u35 15 11 = (fI u 15 11) := hTu35.2.2.2.1
              have hI_15_12_u35 : fI u35 15 12 = (fI u 15 12) := hTu35.2.2.2.2
              refine lv_aload_n hx hb dX5_readUnit_104 rfl (lv_at hl 1 rfl) ?_
              refine gf_RX5_9 (v := .ref (a 1)) C hO 27 cW_27 rfl dX5_readUnit_105 ?_
              refine cVv (w := cW cy a) (As := []) (rest := []) C hO (T_X7_advance l D cy a _ (by exact hJ) (by exact hW)) (cwV 0 ht (gV wd_695 wd_541 wd_542 wd_111 wd_543) rfl rfl rfl hd_yX7_advance ⟨Nat.le_of_ble_eq_true rfl, Nat.le_of_ble_eq_true rfl⟩) 1 rfl cW_1 rfl rfl hl.1 (Nat.le_of_ble_eq_true rfl) dX5_readUnit_108 rfl ⟨Nat.zero_le _, Nat.zero_le _⟩ (fun u42 H locs hp43 hO => ?_)
              obtain ⟨hJ, hTu42, hW⟩ := hp43
              have hT : KT u u42 := KT.tr (by exact hT) hTu42.1
              have hI_15_9_u42 : fI u42 15 9 = (fI u 15 9) := Eq.trans (hTu42.2.1) (hI_15_9_u35)
              have hI_15_10_u42 : fI u42 15 10 = (fI u 15 10) := Eq.trans (hTu42.2.2.1) (hI_15_10_u35)
              have hI_15_11_u42 : fI u42 15 11 = (fI u 15 11) := Eq.trans (hTu42.2.2.2.1) (hI_15_11_u35)
              have hI_15_12_u42 : fI u42 15 12 = (fI u 15 12) := Eq.trans (hTu42.2.2.2.2) (hI_15_12_u35)
              refine lv_iconst (v := 1) hx hb dX5_readUnit_111 (by decide) ?_
              refine hret _ _ _ _ _ _ dX5_readUnit_112 rfl ?_ hO
              exact ⟨Or.inr rfl, hJ, hT, hW⟩
            · refine lv_aload_n hx hb dX5_readUnit_89 rfl (lv_at hl 1 rfl) ?_
              refine gf_RX5_9 (v := .ref (a 1)) C hO 27 cW_27 rfl dX5_readUnit_90 ?_
              refine gf_RX5_94 (v := .int (fI u 1 6)) C hO 1 cW_1 rfl dX5_readUnit_93 ?_
              refine lv_goto (tgt := 101) hx hb dX5_readUnit_96 (by decide) ?_
              refine cVv (w := cW cy a) (As := [.int (fI u 1 6)]) (rest := []) C hO (T_X4_add l D cy a _ (by exact hJ) (by exact hW) ((fI u 1 6))) (cwV 1 ht (gV wd_759 wd_760 wd_761 wd_113 wd_762) rfl rfl rfl hd_yX4_add ⟨Nat.le_of_ble_eq_true rfl, Nat.le_of_ble_eq_true rfl⟩) 24 rfl cW_24 rfl rfl hl.1 (Nat.le_of_ble_eq_true rfl) dX5_readUnit_101 rfl ⟨Nat.zero_le _, Nat.zero_le _⟩ (fun u45 H locs hp46 hO => ?_)
              have g47 : 0 ≤ (fI u 15 9).toInt ∧ (fI u 15 9).toInt ≤ 8 := by have h := CI_15_9 hJ; exact h
              have g48 : 0 ≤ (fI u 15 10).toInt ∧ (fI u 15 10).toInt ≤ 14 := by have h := CI_15_10 hJ; exact h
              have g49 : 0 ≤ (fI u 15 11).toInt ∧ (fI u 15 11).toInt ≤ 8 := by have h := CI_15_11 hJ; exact h
              have g50 : 0 ≤ (fI u 15 12).toInt ∧ (fI u 15 12).toInt ≤ 6 := by have h := CI_15_12 hJ; exact h
              obtain ⟨hJ, hTu45, hW⟩ := hp46
              have hT : KT u u45 := KT.tr (by exact hT) hTu45.1
              have hI_15_9_u45 : fI u45 15 9 = (fI u 15 9) := hTu45.2.1
              have hI_15_10_u45 : fI u45 15 10 = (fI u 15 10) := hTu45.2.2.1
              have hI_15_11_u45 : fI u45 15 11 = (fI u 15 11) := hTu45.2.2.2.1
              have hI_15_12_u45 : fI u45 15 12 = (fI u 15 12) := hTu45.2.2.2.2
              refine lv_aload_n hx hb dX5_readUnit_104 rfl (lv_at hl 1 rfl) ?_
              refine gf_RX5_9 (v := .ref (a 1)) C hO 27 cW_27 rfl dX5_readUnit_105 ?_
              refine cVv (w := cW cy a) (As := []) (rest := []) C hO (T_X7_advance l D cy a _ (by exact hJ) (by exact hW)) (cwV 0 ht (gV wd_695 wd_541 wd_542 wd_111 wd_543) rfl rfl rfl hd_yX7_advance ⟨Nat.le_of_ble_eq_true rfl, Nat.le_of_ble_eq_true rfl⟩) 1 rfl cW_1 rfl rfl hl.1 (Nat.le_of_ble_eq_true rfl) dX5_readUnit_108 rfl ⟨Nat.zero_le _, Nat.zero_le _⟩ (fun u52 H locs hp53 hO => ?_)
              obtain ⟨hJ, hTu52, hW⟩ := hp53
              have hT : KT u u52 := KT.tr (by exact hT) hTu52.1
              have hI_15_9_u52 : fI u52 15 9 = (fI u 15 9) := Eq.trans (hTu52.2.1) (hI_15_9_u45)
              have hI_15_10_u52 : fI u52 15 10 = (fI u 15 10) := Eq.trans (hTu52.2.2.1) (hI_15_10_u45)
              have hI_15_11_u52 : fI u52 15 11 = (fI u 15 11) := Eq.trans (hTu52.2.2.2.1) (hI_15_11_u45)
              have hI_15_12_u52 : fI u52 15 12 = (fI u 15 12) := Eq.trans (hTu52.2.2.2.2) (hI_15_12_u45)
              refine lv_iconst (v := 1) hx hb dX5_readUnit_111 (by decide) ?_
              refine hret _ _ _ _ _ _ dX5_readUnit_112 rfl ?_ hO
              exact ⟨Or.inr rfl, hJ, hT, hW⟩
          · refine lv_aload_n hx hb dX5_readUnit_69 rfl (lv_at hl 1 rfl) ?_
            refine lv_iload_n hx hb dX5_readUnit_70 rfl (lv_at hl 2 rfl) ?_
            refine cVi (w := cW cy a) (As := [.int 7]) (rest := []) C hO (T_X5_readInner_7 l D cy a _ (by exact hJ) (by exact hW)) (cwV 1 ht (gV wd_782 wd_784 wd_24 wd_114 wd_785) rfl rfl rfl hd_yX5_readInner ⟨Nat.le_of_ble_eq_true rfl, Nat.le_of_ble_eq_true rfl⟩) 27 rfl cW_27 rfl rfl hl.1 (Nat.le_of_ble_eq_true rfl) dX5_readUnit_71 rfl ⟨Nat.zero_le _, Nat.zero_le _⟩ (fun r54 u55 H locs hp56 hO => ?_)
            obtain ⟨hr54, hJ, hTu55, hW⟩ := hp56
            have gr54 : 0 ≤ r54.toInt ∧ r54.toInt ≤ 1 := by rcases hr54 with h | h <;> rw [h] <;> decide
            have hT : KT u u55 := KT.tr (by exact hT) hTu55
            refine hret _ _ _ _ _ _ dX5_readUnit_74 (by rcases hr54 with h | h <;> rw [h] <;> rfl) ?_ hO
            exact ⟨hr54, hJ, hT, hW⟩
        · refine lv_aload_n hx hb dX5_readUnit_41 rfl (lv_at hl 1 rfl) ?_
          refine lv_iconst (v := 2) hx hb dX5_readUnit_42 (by decide) ?_
          refine cVi (w := cW cy a) (As := [.int 2]) (rest := []) C hO (T_X5_refuse l D cy a _ (by exact hJ) (by exact hW) (2)) (cwV 1 ht (gV wd_691 wd_693 wd_6 wd_114 wd_694) rfl rfl rfl hd_yX5_refuse ⟨Nat.le_of_ble_eq_true rfl, Nat.le_of_ble_eq_true rfl⟩) 27 rfl cW_27 rfl rfl hl.1 (Nat.le_of_ble_eq_true rfl) dX5_readUnit_43 rfl ⟨Nat.zero_le _, Nat.zero_le _⟩ (fun r57 u58 H locs hp59 hO => ?_)
          have g60 : 0 ≤ (fI u 15 9).toInt ∧ (fI u 15 9).toInt ≤ 8 := by have h := CI_15_9 hJ; exact h
          have g61 : 0 ≤ (fI u 15 10).toInt ∧ (fI u 15 10).toInt ≤ 14 := by have h := CI_15_10 hJ; exact h
          have g62 : 0 ≤ (fI u 15 11).toInt ∧ (fI u 15 11).toInt ≤ 8 := by have h := CI_15_11 hJ; exact h
          have g63 : 0 ≤ (fI u 15 12).toInt ∧ (fI u 15 12).toInt ≤ 6 := by have h := CI_15_12 hJ; exact h
          obtain ⟨hr57, hJ, hTu58, hW⟩ := hp59
          subst hr57
          have hT : KT u u58 := KT.tr (by exact hT) hTu58.1
          have hI_15_9_u58 : fI u58 15 9 = (fI u 15 9) := hTu58.2.1
          have hI_15_10_u58 : fI u58 15 10 = (fI u 15 10) := hTu58.2.2.1
          have hI_15_11_u58 : fI u58 15 11 = (fI u 15 11) := hTu58.2.2.2.1
          have hI_15_12_u58 : fI u58 15 12 = (fI u 15 12) := hTu58.2.2.2.2
          refine hret _ _ _ _ _ _ dX5_readUnit_46 rfl ?_ hO
          exact ⟨Or.inl rfl, hJ, hT, hW⟩
theorem dX5_readProduct_0 : decode cX5_readProduct 0 = .ok (.aload_n 0, 1) := by decide +kernel
theorem dX5_readProduct_1 : decode cX5_readProduct 1 = .ok (.iload_n 1, 1) := by decide +kernel
theorem dX5_readProduct_2 : decode cX5_readProduct 2 = .ok (.invokevirtual 195, 3) := by decide +kernel
theorem dX5_readProduct_5 : decode cX5_readProduct 5 = .ok (.istore_n 2, 1) := by decide +kernel
theorem dX5_readProduct_6 : decode cX5_readProduct 6 = .ok (.iconst 0, 1) := by decide +kernel
theorem dX5_readProduct_7 : decode cX5_readProduct 7 = .ok (.istore_n 3, 1) := by decide +kernel
theorem dX5_readProduct_8 : decode cX5_readProduct 8 = .ok (.iload_n 3, 1) := by decide +kernel
theorem dX5_readProduct_9 : decode cX5_readProduct 9 = .ok (.sipush 1600, 3) := by decide +kernel
theorem dX5_readProduct_12 : decode cX5_readProduct 12 = .ok (.if_icmp .ge 61, 3) := by decide +kernel
theorem dX5_readProduct_15 : decode cX5_readProduct 15 = .ok (.iload_n 2, 1) := by decide +kernel
theorem dX5_readProduct_16 : decode cX5_readProduct 16 = .ok (.ifCond .eq 57, 3) := by decide +kernel
theorem dX5_readProduct_19 : decode cX5_readProduct 19 = .ok (.aload_n 0, 1) := by decide +kernel
theorem dX5_readProduct_20 : decode cX5_readProduct 20 = .ok (.getfield 9, 3) := by decide +kernel
theorem dX5_readProduct_23 : decode cX5_readProduct 23 = .ok (.getfield 36, 3) := by decide +kernel
theorem dX5_readProduct_26 : decode cX5_readProduct 26 = .ok (.invokestatic 198, 3) := by decide +kernel
theorem dX5_readProduct_29 : decode cX5_readProduct 29 = .ok (.ifCond .eq 44, 3) := by decide +kernel
theorem dX5_readProduct_32 : decode cX5_readProduct 32 = .ok (.aload_n 0, 1) := by decide +kernel
theorem dX5_readProduct_33 : decode cX5_readProduct 33 = .ok (.getfield 9, 3) := by decide +kernel
theorem dX5_readProduct_36 : decode cX5_readProduct 36 = .ok (.getfield 36, 3) := by decide +kernel
theorem dX5_readProduct_39 : decode cX5_readProduct 39 = .ok (.istore 4, 2) := by decide +kernel
theorem dX5_readProduct_41 : decode cX5_readProduct 41 = .ok (.aload_n 0, 1) := by decide +kernel
theorem dX5_readProduct_42 : decode cX5_readProduct 42 = .ok (.getfield 9, 3) := by decide +kernel
theorem dX5_readProduct_45 : decode cX5_readProduct 45 = .ok (.invokevirtual 80, 3) := by decide +kernel
theorem dX5_readProduct_48 : decode cX5_readProduct 48 = .ok (.aload_n 0, 1) := by decide +kernel
theorem dX5_readProduct_49 : decode cX5_readProduct 49 = .ok (.iload_n 1, 1) := by decide +kernel
theorem dX5_readProduct_50 : decode cX5_readProduct 50 = .ok (.invokevirtual 195, 3) := by decide +kernel
theorem dX5_readProduct_53 : decode cX5_readProduct 53 = .ok (.istore_n 2, 1) := by decide +kernel
theorem dX5_readProduct_54 : decode cX5_readProduct 54 = .ok (.aload_n 0, 1) := by decide +kernel
theorem dX5_readProduct_55 : decode cX5_readProduct 55 = .ok (.getfield 15, 3) := by decide +kernel
theorem dX5_readProduct_58 : decode cX5_readProduct 58 = .ok (.getfield 173, 3) := by decide +kernel
theorem dX5_readProduct_61 : decode cX5_readProduct 61 = .ok (.iload 4, 2) := by decide +kernel
theorem dX5_readProduct_63 : decode cX5_readProduct 63 = .ok (.ineg, 1) := by decide +kernel
theorem dX5_readProduct_64 : decode cX5_readProduct 64 = .ok (.invokevirtual 177, 3) := by decide +kernel
theorem dX5_readProduct_67 : decode cX5_readProduct 67 = .ok (.iinc 3 1, 3) := by decide +kernel
theorem dX5_readProduct_70 : decode cX5_readProduct 70 = .ok (.goto (-62), 3) := by decide +kernel
theorem dX5_readProduct_73 : decode cX5_readProduct 73 = .ok (.iload_n 2, 1) := by decide +kernel
theorem dX5_readProduct_74 : decode cX5_readProduct 74 = .ok (.ireturn, 1) := by decide +kernel
theorem wd_770 : (Cond.code ⟨"WebCourt$Reader", "readProduct", "(I)Z"⟩ prog_7_method_25_code (5 : Nat) (Option.some FieldType.boolean)) ∈ gtb := gtb_c3 181 (by decide +kernel) rfl
theorem wd_771 : (Cond.methodLink "WebCourt$Reader" (195 : Nat) ⟨"WebCourt$Reader", "readUnit", "(I)Z"⟩) ∈ gtb := gtb_c3 182 (by decide +kernel) rfl
theorem wd_773 : (Cond.instanceMethod ⟨"WebCourt$Reader", "readUnit", "(I)Z"⟩) ∈ gtb := gtb_c3 184 (by decide +kernel) rfl
theorem wd_23 : (Cond.selects "WebCourt$Reader" ⟨"WebCourt$Reader", "readUnit", "(I)Z"⟩ ⟨"WebCourt$Reader", "readUnit", "(I)Z"⟩) ∈ gtb := gtb_p 23 (by decide +kernel) rfl
theorem hd_yX5_readUnit : yX5_readUnit.cls = RX5 ∧ yX5_readUnit.cls ≠ "java/lang/invoke/MethodHandle" ∧ yX5_readUnit.cls ≠ "java/lang/invoke/VarHandle" ∧ (parseMethodDescriptor yX5_readUnit.desc).map (fun d => d.parameters.length) = some 1 := by decide +kernel
theorem wd_786 : (Cond.methodLink "WebCourt$Reader" (198 : Nat) ⟨"WebCourt$Reader", "isTimes", "(I)Z"⟩) ∈ gtb := gtb_c3 197 (by decide +kernel) rfl
theorem wd_787 : (Cond.static ⟨"WebCourt$Reader", "isTimes", "(I)Z"⟩) ∈ gtb := gtb_c3 198 (by decide +kernel) rfl
theorem hd_yX5_isTimes : yX5_isTimes.cls ≠ "java/lang/invoke/MethodHandle" ∧ yX5_isTimes.cls ≠ "java/lang/invoke/VarHandle" ∧ (parseMethodDescriptor yX5_isTimes.desc).map (fun d => d.parameters.length) = some 1 := by decide +kernel
set_option maxHeartbeats 4000000 in
set_option maxRecDepth 100000 in
theorem T_X5_readProduct_7 (l : Launch) (D : va_G) (cy : Nat → ClassId) (a : Nat → Nat) (u : St) (hJ : CI a u) (hW : fR u 2 = a 15)   : Mi l D cy (cW cy a) yX5_readProduct (.code yX5_readProduct cX5_readProduct 5 (some .boolean)) (rmo 7 153) [.ref (a 27), .int 7] u (fun (r : Int32) (u' : St) => (r = 0 ∨ r = 1) ∧ (CI a u') ∧ (KT u u') ∧ (fR u' 2 = a 15)) := by
  refine Mi.of (own := RX5) rfl (by decide) (Nat.le_of_ble_eq_true rfl) ?_
  have hT : KT u u := KT.rf
  intro p e s m below meth c A Q ls C hret hO hl
  obtain ⟨hx, hb, hml, hown, ht, hK, hA⟩ := id C
  have hl : lv_has ls 5 [(0, .ref (a 27)), (1, .int 7)] := hl
  refine lv_aload_n hx hb dX5_readProduct_0 rfl (lv_at hl 0 rfl) ?_
  refine lv_iload_n hx hb dX5_readProduct_1 rfl (lv_at hl 1 rfl) ?_
  refine cVi (w := cW cy a) (As := [.int 7]) (rest := []) C hO (T_X5_readUnit_7 l D cy a _ (by exact hJ) (by exact hW)) (cwV 1 ht (gV wd_771 wd_773 wd_23 wd_114 wd_774) rfl rfl rfl hd_yX5_readUnit ⟨Nat.le_of_ble_eq_true rfl, Nat.le_of_ble_eq_true rfl⟩) 27 rfl cW_27 rfl rfl hl.1 (Nat.le_of_ble_eq_true rfl) dX5_readProduct_2 rfl ⟨Nat.zero_le _, Nat.zero_le _⟩ (fun r1 u2 H locs hp3 hO => ?_)
  obtain ⟨hr1, hJ, hTu2, hW⟩ := hp3
  have gr1 : 0 ≤ r1.toInt ∧ r1.toInt ≤ 1 := by rcases hr1 with h | h <;> rw [h] <;> decide
  have hT : KT u u2 := KT.tr (by exact hT) hTu2
  refine lv_istore_n (lv' := [(2, .int r1), (0, .ref (a 27)), (1, .int 7)]) hx hb dX5_readProduct_5 rfl hl (by decide) rfl (fun ls hl => ?_)
  refine lv_iconst (v := 0) hx hb dX5_readProduct_6 (by decide) ?_
  refine lv_istore_n (lv' := [(3, .int 0), (2, .int r1), (0, .ref (a 27)), (1, .int 7)]) hx hb dX5_readProduct_7 rfl hl (by decide) rfl (fun ls hl => ?_)
  have LP_8_k5 : ∀ (n : Nat) (u4 : St) (H : Heap) (locs : List Loc) (ls : Array Slot) (i_k5 : Int32) (w2_k5 : Int32), Wo D A (cW cy a u4) s.heap H locs → lv_has ls 5 [(3, .int i_k5), (2, .int w2_k5), (0, .ref (a 27)), (1, .int 7)] → CI a u4 → KT u u4 → fR u4 2 = a 15 → 0 ≤ i_k5.toInt ∧ i_k5.toInt ≤ 1600 → 0 ≤ w2_k5.toInt ∧ w2_k5.toInt ≤ 1 → 1600 - i_k5.toInt < (n : Int) → W p l e (rmo 7 153) s m [.ref (a 27), .int 7].toArray below meth c H locs 0 0 Q (F0 m 8 ls []) := by
    intro n
    induction n with
    | zero =>
      intro u4 H locs ls i_k5 w2_k5 hO hl hJ hT hW iv0_k5 iv1_k5 hm_k5
      exact absurd hm_k5 (by omega)
    | succ n ih_k5 =>
      intro u4 H locs ls i_k5 w2_k5 hO hl hJ hT hW iv0_k5 iv1_k5 hm_k5
      refine lv_iload_n hx hb dX5_readProduct_8 rfl (lv_at hl 0 rfl) ?_
      refine lv_sipush (v := 1600) hx hb dX5_readProduct_9 (by decide) ?_
      refine cs_ge (tgt := 73) (X := (i_k5).toInt) (Y := 1600) hx hb dX5_readProduct_12 (by decide) rfl rfl (fun c6 => ?_) (fun c6 => ?_)
      · refine lv_iload_n hx hb dX5_readProduct_73 rfl (lv_at hl 1 rfl) ?_
        have hw2_k5 : w2_k5 = 0 ∨ w2_k5 = 1 := i_b01 rfl (by omega) (by omega)
        refine hret _ _ _ _ _ _ dX5_readProduct_74 (by rcases hw2_k5 with h | h <;> rw [h] <;> rfl) ?_ hO
        exact ⟨hw2_k5, hJ, hT, hW⟩
      · refine lv_iload_n hx hb dX5_readProduct_15 rfl (lv_at hl 1 rfl) ?_
        refine bs_eq (tgt := 73) (X := (w2_k5).toInt) hx hb dX5_readProduct_16 (by decide) rfl (fun c7 => ?_) (fun c7 => ?_)
        · refine lv_iload_n hx hb dX5_readProduct_73 rfl (lv_at hl 1 rfl) ?_
          have hw2_k5 : w2_k5 = 0 ∨ w2_k5 = 1 := i_b01 rfl (by omega) (by omega)
          refine hret _ _ _ _ _ _ dX5_readProduct_74 (by rcases hw2_k5 with h | h <;> rw [h] <;> rfl) ?_ hO
          exact ⟨hw2_k5, hJ, hT, hW⟩
        · refine lv_aload_n hx hb dX5_readProduct_19 rfl (lv_at hl 2 rfl) ?_
          refine gf_RX5_9 (v := .ref (a 1)) C hO 27 cW_27 rfl dX5_readProduct_20 ?_
          refine gf_RX5_36 (v := .int (fI u4 1 4)) C hO 1 cW_1 rfl dX5_readProduct_23 ?_
          refine cSi (w := cW cy a) (As := [.int (fI u4 1 4)]) (rest := []) C hO (T_X5_isTimes l D cy a _ (by exact hJ) ((fI u4 1 4))) (va_cwS 1 ht (gSS wd_786 wd_787 wd_114 wd_788) rfl rfl rfl hd_yX5_isTimes ⟨Nat.le_of_ble_eq_true rfl, Nat.le_of_ble_eq_true rfl⟩)  rfl hl.1 (Nat.le_of_ble_eq_true rfl) dX5_readProduct_26 rfl ⟨Nat.zero_le _, Nat.zero_le _⟩ (fun r8 u9 H locs hp10 hO => ?_)
          obtain ⟨hr8, hu9⟩ := hp10
          have gr8 : 0 ≤ r8.toInt ∧ r8.toInt ≤ 1 := by rcases hr8 with h | h <;> rw [h] <;> decide
          rw [hu9] at hO
          refine bs_eq (tgt := 73) (X := (r8).toInt) hx hb dX5_readProduct_29 (by decide) rfl (fun c11 => ?_) (fun c11 => ?_)
          · refine lv_iload_n hx hb dX5_readProduct_73 rfl (lv_at hl 1 rfl) ?_
            have hw2_k5 : w2_k5 = 0 ∨ w2_k5 = 1 := i_b01 rfl (by omega) (by omega)
            refine hret _ _ _ _ _ _ dX5_readProduct_74 (by rcases hw2_k5 with h | h <;> rw [h] <;> rfl) ?_ hO
            exact ⟨hw2_k5, hJ, hT, hW⟩
          · refine lv_aload_n hx hb dX5_readProduct_32 rfl (lv_at hl 2 rfl) ?_
            refine gf_RX5_9 (v := .ref (a 1)) C hO 27 cW_27 rfl dX5_readProduct_33 ?_
            refine gf_RX5_36 (v := .int (fI u4 1 4)) C hO 1 cW_1 rfl dX5_readProduct_36 ?_
            refine lv_istore (lv' := [(4, .int (fI u4 1 4)), (3, .int i_k5), (2, .int w2_k5), (0, .ref (a 27)), (1, .int 7)]) hx hb dX5_readProduct_39 hl (by decide) rfl (fun ls hl => ?_)
            refine lv_aload_n hx hb dX5_readProduct_41 rfl (lv_at hl 3 rfl) ?_
            refine gf_RX5_9 (v := .ref (a 1)) C hO 27 cW_27 rfl dX5_readProduct_42 ?_
            refine cVv (w := cW cy a) (As := []) (rest := []) C hO (T_X7_advance l D cy a _ (by exact hJ) (by exact hW)) (cwV 0 ht (gV wd_695 wd_541 wd_542 wd_111 wd_543) rfl rfl rfl hd_yX7_advance ⟨Nat.le_of_ble_eq_true rfl, Nat.le_of_ble_eq_true rfl⟩) 1 rfl cW_1 rfl rfl hl.1 (Nat.le_of_ble_eq_true rfl) dX5_readProduct_45 rfl ⟨Nat.zero_le _, Nat.zero_le _⟩ (fun u13 H locs hp14 hO => ?_)
            have g15 : 0 ≤ (fI u4 15 9).toInt ∧ (fI u4 15 9).toInt ≤ 8 := by have h := CI_15_9 hJ; exact h
            have g16 : 0 ≤ (fI u4 15 10).toInt ∧ (fI u4 15 10).toInt ≤ 14 := by have h := CI_15_10 hJ; exact h
            have g17 : 0 ≤ (fI u4 15 11).toInt ∧ (fI u4 15 11).toInt ≤ 8 := by have h := CI_15_11 hJ; exact h
            have g18 : 0 ≤ (fI u4 15 12).toInt ∧ (fI u4 15 12).toInt ≤ 6 := by have h := CI_15_12 hJ; exact h
            obtain ⟨hJ, hTu13, hW⟩ := hp14
            have hT : KT u u13 := KT.tr (by exact hT) hTu13.1
            have hI_15_9_u13 : fI u13 15 9 = (fI u4 15 9) := hTu13.2.1
            have hI_15_10_u13 : fI u13 15 10 = (fI u4 15 10) := hTu13.2.2.1
            have hI_15_11_u13 : fI u13 15 11 = (fI u4 15 11) := hTu13.2.2.2.1
            have hI_15_12_u13 : fI u13 15 12 = (fI u4 15 12) := hTu13.2.2.2.2
            refine lv_aload_n hx hb dX5_readProduct_48 rfl (lv_at hl 3 rfl) ?_
            refine lv_iload_n hx hb dX5_readProduct_49 rfl (lv_at hl 4 rfl) ?_
            refine cVi (w := cW cy a) (As := [.int 7]) (rest := []) C hO (T_X5_readUnit_7 l D cy a _ (by exact hJ) (by exact hW)) (cwV 1 ht (gV wd_771 wd_773 wd_23 wd_114 wd_774) rfl rfl rfl hd_yX5_readUnit ⟨Nat.le_of_ble_eq_true rfl, Nat.le_of_ble_eq_true rfl⟩) 27 rfl cW_27 rfl rfl hl.1 (Nat.le_of_ble_eq_true rfl) dX5_readProduct_50 rfl ⟨Nat.zero_le _, Nat.zero_le _⟩ (fun r19 u20 H locs hp21 hO => ?_)
            obtain ⟨hr19, hJ, hTu20, hW⟩ := hp21
            have gr19 : 0 ≤ r19.toInt ∧ r19.toInt ≤ 1 := by rcases hr19 with h | h <;> rw [h] <;> decide
            have hT : KT u u20 := KT.tr (by exact hT) hTu20
            refine lv_istore_n (lv' := [(2, .int r19), (4, .int (fI u4 1 4)), (3, .int i_k5), (0, .ref (a 27)), (1, .int 7)]) hx hb dX5_readProduct_53 rfl hl (by decide) rfl (fun ls hl => ?_)
            refine lv_aload_n hx hb dX5_readProduct_54 rfl (lv_at hl 3 rfl) ?_
            refine gf_RX5_15 (v := .ref (a 15)) C hO 27 cW_27 (congrArg (fun z : Nat => some (Value.ref z)) hW) dX5_readProduct_55 ?_
            refine gf_RX5_173 (v := .ref (a 24)) C hO 15 cW_15 rfl dX5_readProduct_58 ?_
            refine lv_iload hx hb dX5_readProduct_61 (lv_at hl 1 rfl) ?_
            refine lv_ineg hx hb dX5_readProduct_63 ?_
            refine lv_topi (fun z22 ez22 => ?_)
            refine cVv (w := cW cy a) (As := [.int z22]) (rest := []) C hO (T_X4_add l D cy a _ (by exact hJ) (by exact hW) (z22)) (cwV 1 ht (gV wd_759 wd_760 wd_761 wd_113 wd_762) rfl rfl rfl hd_yX4_add ⟨Nat.le_of_ble_eq_true rfl, Nat.le_of_ble_eq_true rfl⟩) 24 rfl cW_24 rfl rfl hl.1 (Nat.le_of_ble_eq_true rfl) dX5_readProduct_64 rfl ⟨Nat.zero_le _, Nat.zero_le _⟩ (fun u24 H locs hp25 hO => ?_)
            have g26 : 0 ≤ (fI u20 15 9).toInt ∧ (fI u20 15 9).toInt ≤ 8 := by have h := CI_15_9 hJ; exact h
            have g27 : 0 ≤ (fI u20 15 10).toInt ∧ (fI u20 15 10).toInt ≤ 14 := by have h := CI_15_10 hJ; exact h
            have g28 : 0 ≤ (fI u20 15 11).toInt ∧ (fI u20 15 11).toInt ≤ 8 := by have h := CI_15_11 hJ; exact h
            have g29 : 0 ≤ (fI u20 15 12).toInt ∧ (fI u20 15 12).toInt ≤ 6 := by have h := CI_15_12 hJ; exact h
            obtain ⟨hJ, hTu24, hW⟩ := hp25
            have hT : KT u u24 := KT.tr (by exact hT) hTu24.1
            have hI_15_9_u24 : fI u24 15 9 = (fI u20 15 9) := hTu24.2.1
            have hI_15_10_u24 : fI u24 15 10 = (fI u20 15 10) := hTu24.2.2.1
            have hI_15_11_u24 : fI u24 15 11 = (fI u20 15 11) := hTu24.2.2.2.1
            have hI_15_12_u24 : fI u24 15 12 = (fI u20 15 12) := hTu24.2.2.2.2
            have e30 : ((i_k5 + 1)).toInt = (i_k5).toInt + 1 := i_add rfl rfl (by omega)
            refine lv_iinc (v := (i_k5 + 1)) (lv' := [(3, .int (i_k5 + 1)), (2, .int r19), (4, .int (fI u4 1 4)), (0, .ref (a 27)), (1, .int 7)]) hx hb dX5_readProduct_67 hl (k := 2) rfl rfl (by decide) rfl (fun ls hl => ?_)
            refine lv_goto (tgt := 8) hx hb dX5_readProduct_70 (by decide) ?_
            exact ih_k5 _ _ _ _ ((i_k5 + 1)) (r19) hO (lv_sub hl [0, 1, 3, 4] rfl) (by exact hJ) (by exact hT) (by exact hW) (by first | decide | omega) (by first | decide | omega) (by first | decide | omega)
  exact LP_8_k5 4000 _ _ _ _ (0) (r1) hO (lv_sub hl [0, 1, 2, 3] rfl) (by exact hJ) (by exact hT) (by exact hW) (by first | decide | omega) (by first | decide | omega) (by first | decide | omega)
theorem dX5_readSum_0 : decode cX5_readSum 0 = .ok (.aload_n 0, 1) := by decide +kernel
theorem dX5_readSum_1 : decode cX5_readSum 1 = .ok (.iload_n 1, 1) := by decide +kernel
theorem dX5_readSum_2 : decode cX5_readSum 2 = .ok (.invokevirtual 192, 3) := by decide +kernel
theorem dX5_readSum_5 : decode cX5_readSum 5 = .ok (.istore_n 2, 1) := by decide +kernel
theorem dX5_readSum_6 : decode cX5_readSum 6 = .ok (.iconst 0, 1) := by decide +kernel
theorem dX5_readSum_7 : decode cX5_readSum 7 = .ok (.istore_n 3, 1) := by decide +kernel
theorem dX5_readSum_8 : decode cX5_readSum 8 = .ok (.iload_n 3, 1) := by decide +kernel
theorem dX5_readSum_9 : decode cX5_readSum 9 = .ok (.sipush 1600, 3) := by decide +kernel
theorem dX5_readSum_12 : decode cX5_readSum 12 = .ok (.if_icmp .ge 72, 3) := by decide +kernel
theorem dX5_readSum_15 : decode cX5_readSum 15 = .ok (.iload_n 2, 1) := by decide +kernel
theorem dX5_readSum_16 : decode cX5_readSum 16 = .ok (.ifCond .eq 68, 3) := by decide +kernel
theorem dX5_readSum_19 : decode cX5_readSum 19 = .ok (.aload_n 0, 1) := by decide +kernel
theorem dX5_readSum_20 : decode cX5_readSum 20 = .ok (.getfield 9, 3) := by decide +kernel
theorem dX5_readSum_23 : decode cX5_readSum 23 = .ok (.getfield 36, 3) := by decide +kernel
theorem dX5_readSum_26 : decode cX5_readSum 26 = .ok (.bipush 43, 2) := by decide +kernel
theorem dX5_readSum_28 : decode cX5_readSum 28 = .ok (.if_icmp .eq 15, 3) := by decide +kernel
theorem dX5_readSum_31 : decode cX5_readSum 31 = .ok (.aload_n 0, 1) := by decide +kernel
theorem dX5_readSum_32 : decode cX5_readSum 32 = .ok (.getfield 9, 3) := by decide +kernel
theorem dX5_readSum_35 : decode cX5_readSum 35 = .ok (.getfield 36, 3) := by decide +kernel
theorem dX5_readSum_38 : decode cX5_readSum 38 = .ok (.bipush 45, 2) := by decide +kernel
theorem dX5_readSum_40 : decode cX5_readSum 40 = .ok (.if_icmp .ne 44, 3) := by decide +kernel
theorem dX5_readSum_43 : decode cX5_readSum 43 = .ok (.aload_n 0, 1) := by decide +kernel
theorem dX5_readSum_44 : decode cX5_readSum 44 = .ok (.getfield 9, 3) := by decide +kernel
theorem dX5_readSum_47 : decode cX5_readSum 47 = .ok (.getfield 36, 3) := by decide +kernel
theorem dX5_readSum_50 : decode cX5_readSum 50 = .ok (.istore 4, 2) := by decide +kernel
theorem dX5_readSum_52 : decode cX5_readSum 52 = .ok (.aload_n 0, 1) := by decide +kernel
theorem dX5_readSum_53 : decode cX5_readSum 53 = .ok (.getfield 9, 3) := by decide +kernel
theorem dX5_readSum_56 : decode cX5_readSum 56 = .ok (.invokevirtual 80, 3) := by decide +kernel
theorem dX5_readSum_59 : decode cX5_readSum 59 = .ok (.aload_n 0, 1) := by decide +kernel
theorem dX5_readSum_60 : decode cX5_readSum 60 = .ok (.iload_n 1, 1) := by decide +kernel
theorem dX5_readSum_61 : decode cX5_readSum 61 = .ok (.invokevirtual 192, 3) := by decide +kernel
theorem dX5_readSum_64 : decode cX5_readSum 64 = .ok (.istore_n 2, 1) := by decide +kernel
theorem dX5_readSum_65 : decode cX5_readSum 65 = .ok (.aload_n 0, 1) := by decide +kernel
theorem dX5_readSum_66 : decode cX5_readSum 66 = .ok (.getfield 15, 3) := by decide +kernel
theorem dX5_readSum_69 : decode cX5_readSum 69 = .ok (.getfield 173, 3) := by decide +kernel
theorem dX5_readSum_72 : decode cX5_readSum 72 = .ok (.iload 4, 2) := by decide +kernel
theorem dX5_readSum_74 : decode cX5_readSum 74 = .ok (.ineg, 1) := by decide +kernel
theorem dX5_readSum_75 : decode cX5_readSum 75 = .ok (.invokevirtual 177, 3) := by decide +kernel
theorem dX5_readSum_78 : decode cX5_readSum 78 = .ok (.iinc 3 1, 3) := by decide +kernel
theorem dX5_readSum_81 : decode cX5_readSum 81 = .ok (.goto (-73), 3) := by decide +kernel
theorem dX5_readSum_84 : decode cX5_readSum 84 = .ok (.iload_n 2, 1) := by decide +kernel
theorem dX5_readSum_85 : decode cX5_readSum 85 = .ok (.ireturn, 1) := by decide +kernel
theorem wd_766 : (Cond.code ⟨"WebCourt$Reader", "readSum", "(I)Z"⟩ prog_7_method_24_code (5 : Nat) (Option.some FieldType.boolean)) ∈ gtb := gtb_c3 177 (by decide +kernel) rfl
theorem wd_767 : (Cond.methodLink "WebCourt$Reader" (192 : Nat) ⟨"WebCourt$Reader", "readProduct", "(I)Z"⟩) ∈ gtb := gtb_c3 178 (by decide +kernel) rfl
theorem wd_769 : (Cond.instanceMethod ⟨"WebCourt$Reader", "readProduct", "(I)Z"⟩) ∈ gtb := gtb_c3 180 (by decide +kernel) rfl
theorem wd_22 : (Cond.selects "WebCourt$Reader" ⟨"WebCourt$Reader", "readProduct", "(I)Z"⟩ ⟨"WebCourt$Reader", "readProduct", "(I)Z"⟩) ∈ gtb := gtb_p 22 (by decide +kernel) rfl
theorem hd_yX5_readProduct : yX5_readProduct.cls = RX5 ∧ yX5_readProduct.cls ≠ "java/lang/invoke/MethodHandle" ∧ yX5_readProduct.cls ≠ "java/lang/invoke/VarHandle" ∧ (parseMethodDescriptor yX5_readProduct.desc).map (fun d => d.parameters.length) = some 1 := by decide +kernel
set_option maxHeartbeats 4000000 in
set_option maxRecDepth 100000 in
theorem T_X5_readSum_7 (l : Launch) (D : va_G) (cy : Nat → ClassId) (a : Nat → Nat) (u : St) (hJ : CI a u) (hW : fR u 2 = a 15)   : Mi l D cy (cW cy a) yX5_readSum (.code yX5_readSum cX5_readSum 5 (some .boolean)) (rmo 8 177) [.ref (a 27), .int 7] u (fun (r : Int32) (u' : St) => (r = 0 ∨ r = 1) ∧ (CI a u') ∧ (KT u u') ∧ (fR u' 2 = a 15)) := by
  refine Mi.of (own := RX5) rfl (by decide) (Nat.le_of_ble_eq_true rfl) ?_
  have hT : KT u u := KT.rf
  intro p e s m below meth c A Q ls C hret hO hl
  obtain ⟨hx, hb, hml, hown, ht, hK, hA⟩ := id C
  have hl : lv_has ls 5 [(0, .ref (a 27)), (1, .int 7)] := hl
  refine lv_aload_n hx hb dX5_readSum_0 rfl (lv_at hl 0 rfl) ?_
  refine lv_iload_n hx hb dX5_readSum_1 rfl (lv_at hl 1 rfl) ?_
  refine cVi (w := cW cy a) (As := [.int 7]) (rest := []) C hO (T_X5_readProduct_7 l D cy a _ (by exact hJ) (by exact hW)) (cwV 1 ht (gV wd_767 wd_769 wd_22 wd_114 wd_770) rfl rfl rfl hd_yX5_readProduct ⟨Nat.le_of_ble_eq_true rfl, Nat.le_of_ble_eq_true rfl⟩) 27 rfl cW_27 rfl rfl hl.1 (Nat.le_of_ble_eq_true rfl) dX5_readSum_2 rfl ⟨Nat.zero_le _, Nat.zero_le _⟩ (fun r1 u2 H locs hp3 hO => ?_)
  obtain ⟨hr1, hJ, hTu2, hW⟩ := hp3
  have gr1 : 0 ≤ r1.toInt ∧ r1.toInt ≤ 1 := by rcases hr1 with h | h <;> rw [h] <;> decide
  have hT : KT u u2 := KT.tr (by exact hT) hTu2
  refine lv_istore_n (lv' := [(2, .int r1), (0, .ref (a 27)), (1, .int 7)]) hx hb dX5_readSum_5 rfl hl (by decide) rfl (fun ls hl => ?_)
  refine lv_iconst (v := 0) hx hb dX5_readSum_6 (by decide) ?_
  refine lv_istore_n (lv' := [(3, .int 0), (2, .int r1), (0, .ref (a 27)), (1, .int 7)]) hx hb dX5_readSum_7 rfl hl (by decide) rfl (fun ls hl => ?_)
  have LP_8_k5 : ∀ (n : Nat) (u4 : St) (H : Heap) (locs : List Loc) (ls : Array Slot) (i_k5 : Int32) (w2_k5 : Int32), Wo D A (cW cy a u4) s.heap H locs → lv_has ls 5 [(3, .int i_k5), (2, .int w2_k5), (0, .ref (a 27)), (1, .int 7)] → CI a u4 → KT u u4 → fR u4 2 = a 15 → 0 ≤ i_k5.toInt ∧ i_k5.toInt ≤ 1600 → 0 ≤ w2_k5.toInt ∧ w2_k5.toInt ≤ 1 → 1600 - i_k5.toInt < (n : Int) → W p l e (rmo 8 177) s m [.ref (a 27), .int 7].toArray below meth c H locs 0 0 Q (F0 m 8 ls []) := by
    intro n
    induction n with
    | zero =>
      intro u4 H locs ls i_k5 w2_k5 hO hl hJ hT hW iv0_k5 iv1_k5 hm_k5
      exact absurd hm_k5 (by omega)
    | succ n ih_k5 =>
      intro u4 H locs ls i_k5 w2_k5 hO hl hJ hT hW iv0_k5 iv1_k5 hm_k5
      refine lv_iload_n hx hb dX5_readSum_8 rfl (lv_at hl 0 rfl) ?_
      refine lv_sipush (v := 1600) hx hb dX5_readSum_9 (by decide) ?_
      refine cs_ge (tgt := 84) (X := (i_k5).toInt) (Y := 1600) hx hb dX5_readSum_12 (by decide) rfl rfl (fun c6 => ?_) (fun c6 => ?_)
      · refine lv_iload_n hx hb dX5_readSum_84 rfl (lv_at hl 1 rfl) ?_
        have hw2_k5 : w2_k5 = 0 ∨ w2_k5 = 1 := i_b01 rfl (by omega) (by omega)
        refine hret _ _ _ _ _ _ dX5_readSum_85 (by rcases hw2_k5 with h | h <;> rw [h] <;> rfl) ?_ hO
        exact ⟨hw2_k5, hJ, hT, hW⟩
      · refine lv_iload_n hx hb dX5_readSum_15 rfl (lv_at hl 1 rfl) ?_
        refine bs_eq (tgt := 84) (X := (w2_k5).toInt) hx hb dX5_readSum_16 (by decide) rfl (fun c7 => ?_) (fun c7 => ?_)
        · refine lv_iload_n hx hb dX5_readSum_84 rfl (lv_at hl 1 rfl) ?_
          have hw2_k5 : w2_k5 = 0 ∨ w2_k5 = 1 := i_b01 rfl (by omega) (by omega)
          refine hret _ _ _ _ _ _ dX5_readSum_85 (by rcases hw2_k5 with h | h <;> rw [h] <;> rfl) ?_ hO
          exact ⟨hw2_k5, hJ, hT, hW⟩
        · refine lv_aload_n hx hb dX5_readSum_19 rfl (lv_at hl 2 rfl) ?_
          refine gf_RX5_9 (v := .ref (a 1)) C hO 27 cW_27 rfl dX5_readSum_20 ?_
          refine gf_RX5_36 (v := .int (fI u4 1 4)) C hO 1 cW_1 rfl dX5_readSum_23 ?_
          refine lv_bipush (v := 43) hx hb dX5_readSum_26 (by decide) ?_
          refine cs_eq (tgt := 43) (X := ((fI u4 1 4)).toInt) (Y := 43) hx hb dX5_readSum_28 (by decide) rfl rfl (fun c8 => ?_) (fun c8 => ?_)
          · refine lv_aload_n hx hb dX5_readSum_43 rfl (lv_at hl 2 rfl) ?_
            refine gf_RX5_9 (v := .ref (a 1)) C hO 27 cW_27 rfl dX5_readSum_44 ?_
            refine gf_RX5_36 (v := .int (fI u4 1 4)) C hO 1 cW_1 rfl dX5_readSum_47 ?_
            refine lv_istore (lv' := [(4, .int (fI u4 1 4)), (3, .int i_k5), (2, .int w2_k5), (0, .ref (a 27)), (1, .int 7)]) hx hb dX5_readSum_50 hl (by decide) rfl (fun ls hl => ?_)
            refine lv_aload_n hx hb dX5_readSum_52 rfl (lv_at hl 3 rfl) ?_
            refine gf_RX5_9 (v := .ref (a 1)) C hO 27 cW_27 rfl dX5_readSum_53 ?_
            refine cVv (w := cW cy a) (As := []) (rest := []) C hO (T_X7_advance l D cy a _ (by exact hJ) (by exact hW)) (cwV 0 ht (gV wd_695 wd_541 wd_542 wd_111 wd_543) rfl rfl rfl hd_yX7_advance ⟨Nat.le_of_ble_eq_true rfl, Nat.le_of_ble_eq_true rfl⟩) 1 rfl cW_1 rfl rfl hl.1 (Nat.le_of_ble_eq_true rfl) dX5_readSum_56 rfl ⟨Nat.zero_le _, Nat.zero_le _⟩ (fun u10 H locs hp11 hO => ?_)
            have g12 : 0 ≤ (fI u4 15 9).toInt ∧ (fI u4 15 9).toInt ≤ 8 := by have h := CI_15_9 hJ; exact h
            have g13 : 0 ≤ (fI u4 15 10).toInt ∧ (fI u4 15 10).toInt ≤ 14 := by have h := CI_15_10 hJ; exact h
            have g14 : 0 ≤ (fI u4 15 11).toInt ∧ (fI u4 15 11).toInt ≤ 8 := by have h := CI_15_11 hJ; exact h
            have g15 : 0 ≤ (fI u4 15 12).toInt ∧ (fI u4 15 12).toInt ≤ 6 := by have h := CI_15_12 hJ; exact h
            obtain ⟨hJ, hTu10, hW⟩ := hp11
            have hT : KT u u10 := KT.tr (by exact hT) hTu10.1
            have hI_15_9_u10 : fI u10 15 9 = (fI u4 15 9) := hTu10.2.1
            have hI_15_10_u10 : fI u10 15 10 = (fI u4 15 10) := hTu10.2.2.1
            have hI_15_11_u10 : fI u10 15 11 = (fI u4 15 11) := hTu10.2.2.2.1
            have hI_15_12_u10 : fI u10 15 12 = (fI u4 15 12) := hTu10.2.2.2.2
            refine lv_aload_n hx hb dX5_readSum_59 rfl (lv_at hl 3 rfl) ?_
            refine lv_iload_n hx hb dX5_readSum_60 rfl (lv_at hl 4 rfl) ?_
            refine cVi (w := cW cy a) (As := [.int 7]) (rest := []) C hO (T_X5_readProduct_7 l D cy a _ (by exact hJ) (by exact hW)) (cwV 1 ht (gV wd_767 wd_769 wd_22 wd_114 wd_770) rfl rfl rfl hd_yX5_readProduct ⟨Nat.le_of_ble_eq_true rfl, Nat.le_of_ble_eq_true rfl⟩) 27 rfl cW_27 rfl rfl hl.1 (Nat.le_of_ble_eq_true rfl) dX5_readSum_61 rfl ⟨Nat.zero_le _, Nat.zero_le _⟩ (fun r16 u17 H locs hp18 hO => ?_)
            obtain ⟨hr16, hJ, hTu17, hW⟩ := hp18
            have gr16 : 0 ≤ r16.toInt ∧ r16.toInt ≤ 1 := by rcases hr16 with h | h <;> rw [h] <;> decide
            have hT : KT u u17 := KT.tr (by exact hT) hTu17
            refine lv_istore_n (lv' := [(2, .int r16), (4, .int (fI u4 1 4)), (3, .int i_k5), (0, .ref (a 27)), (1, .int 7)]) hx hb dX5_readSum_64 rfl hl (by decide) rfl (fun ls hl => ?_)
            refine lv_aload_n hx hb dX5_readSum_65 rfl (lv_at hl 3 rfl) ?_
            refine gf_RX5_15 (v := .ref (a 15)) C hO 27 cW_27 (congrArg (fun z : Nat => some (Value.ref z)) hW) dX5_readSum_66 ?_
            refine gf_RX5_173 (v := .ref (a 24)) C hO 15 cW_15 rfl dX5_readSum_69 ?_
            refine lv_iload hx hb dX5_readSum_72 (lv_at hl 1 rfl) ?_
            refine lv_ineg hx hb dX5_readSum_74 ?_
            refine lv_topi (fun z19 ez19 => ?_)
            refine cVv (w := cW cy a) (As := [.int z19]) (rest := []) C hO (T_X4_add l D cy a _ (by exact hJ) (by exact hW) (z19)) (cwV 1 ht (gV wd_759 wd_760 wd_761 wd_113 wd_762) rfl rfl rfl hd_yX4_add ⟨Nat.le_of_ble_eq_true rfl, Nat.le_of_ble_eq_true rfl⟩) 24 rfl cW_24 rfl rfl hl.1 (Nat.le_of_ble_eq_true rfl) dX5_readSum_75 rfl ⟨Nat.zero_le _, Nat.zero_le _⟩ (fun u21 H locs hp22 hO => ?_)
            have g23 : 0 ≤ (fI u17 15 9).toInt ∧ (fI u17 15 9).toInt ≤ 8 := by have h := CI_15_9 hJ; exact h
            have g24 : 0 ≤ (fI u17 15 10).toInt ∧ (fI u17 15 10).toInt ≤ 14 := by have h := CI_15_10 hJ; exact h
            have g25 : 0 ≤ (fI u17 15 11).toInt ∧ (fI u17 15 11).toInt ≤ 8 := by have h := CI_15_11 hJ; exact h
            have g26 : 0 ≤ (fI u17 15 12).toInt ∧ (fI u17 15 12).toInt ≤ 6 := by have h := CI_15_12 hJ; exact h
            obtain ⟨hJ, hTu21, hW⟩ := hp22
            have hT : KT u u21 := KT.tr (by exact hT) hTu21.1
            have hI_15_9_u21 : fI u21 15 9 = (fI u17 15 9) := hTu21.2.1
            have hI_15_10_u21 : fI u21 15 10 = (fI u17 15 10) := hTu21.2.2.1
            have hI_15_11_u21 : fI u21 15 11 = (fI u17 15 11) := hTu21.2.2.2.1
            have hI_15_12_u21 : fI u21 15 12 = (fI u17 15 12) := hTu21.2.2.2.2
            have e27 : ((i_k5 + 1)).toInt = (i_k5).toInt + 1 := i_add rfl rfl (by omega)
            refine lv_iinc (v := (i_k5 + 1)) (lv' := [(3, .int (i_k5 + 1)), (2, .int r16), (4, .int (fI u4 1 4)), (0, .ref (a 27)), (1, .int 7)]) hx hb dX5_readSum_78 hl (k := 2) rfl rfl (by decide) rfl (fun ls hl => ?_)
            refine lv_goto (tgt := 8) hx hb dX5_readSum_81 (by decide) ?_
            exact ih_k5 _ _ _ _ ((i_k5 + 1)) (r16) hO (lv_sub hl [0, 1, 3, 4] rfl) (by exact hJ) (by exact hT) (by exact hW) (by first | decide | omega) (by first | decide | omega) (by first | decide | omega)
          · refine lv_aload_n hx hb dX5_readSum_31 rfl (lv_at hl 2 rfl) ?_
            refine gf_RX5_9 (v := .ref (a 1)) C hO 27 cW_27 rfl dX5_readSum_32 ?_
            refine gf_RX5_36 (v := .int (fI u4 1 4)) C hO 1 cW_1 rfl dX5_readSum_35 ?_
            refine lv_bipush (v := 45) hx hb dX5_readSum_38 (by decide) ?_
            refine cs_ne (tgt := 84) (X := ((fI u4 1 4)).toInt) (Y := 45) hx hb dX5_readSum_40 (by decide) rfl rfl (fun c28 => ?_) (fun c28 => ?_)
            · refine lv_iload_n hx hb dX5_readSum_84 rfl (lv_at hl 1 rfl) ?_
              have hw2_k5 : w2_k5 = 0 ∨ w2_k5 = 1 := i_b01 rfl (by omega) (by omega)
              refine hret _ _ _ _ _ _ dX5_readSum_85 (by rcases hw2_k5 with h | h <;> rw [h] <;> rfl) ?_ hO
              exact ⟨hw2_k5, hJ, hT, hW⟩
            · refine lv_aload_n hx hb dX5_readSum_43 rfl (lv_at hl 2 rfl) ?_
              refine gf_RX5_9 (v := .ref (a 1)) C hO 27 cW_27 rfl dX5_readSum_44 ?_
              refine gf_RX5_36 (v := .int (fI u4 1 4)) C hO 1 cW_1 rfl dX5_readSum_47 ?_
              refine lv_istore (lv' := [(4, .int (fI u4 1 4)), (3, .int i_k5), (2, .int w2_k5), (0, .ref (a 27)), (1, .int 7)]) hx hb dX5_readSum_50 hl (by decide) rfl (fun ls hl => ?_)
              refine lv_aload_n hx hb dX5_readSum_52 rfl (lv_at hl 3 rfl) ?_
              refine gf_RX5_9 (v := .ref (a 1)) C hO 27 cW_27 rfl dX5_readSum_53 ?_
              refine cVv (w := cW cy a) (As := []) (rest := []) C hO (T_X7_advance l D cy a _ (by exact hJ) (by exact hW)) (cwV 0 ht (gV wd_695 wd_541 wd_542 wd_111 wd_543) rfl rfl rfl hd_yX7_advance ⟨Nat.le_of_ble_eq_true rfl, Nat.le_of_ble_eq_true rfl⟩) 1 rfl cW_1 rfl rfl hl.1 (Nat.le_of_ble_eq_true rfl) dX5_readSum_56 rfl ⟨Nat.zero_le _, Nat.zero_le _⟩ (fun u30 H locs hp31 hO => ?_)
              have g32 : 0 ≤ (fI u4 15 9).toInt ∧ (fI u4 15 9).toInt ≤ 8 := by have h := CI_15_9 hJ; exact h
              have g33 : 0 ≤ (fI u4 15 10).toInt ∧ (fI u4 15 10).toInt ≤ 14 := by have h := CI_15_10 hJ; exact h
              have g34 : 0 ≤ (fI u4 15 11).toInt ∧ (fI u4 15 11).toInt ≤ 8 := by have h := CI_15_11 hJ; exact h
              have g35 : 0 ≤ (fI u4 15 12).toInt ∧ (fI u4 15 12).toInt ≤ 6 := by have h := CI_15_12 hJ; exact h
              obtain ⟨hJ, hTu30, hW⟩ := hp31
              have hT : KT u u30 := KT.tr (by exact hT) hTu30.1
              have hI_15_9_u30 : fI u30 15 9 = (fI u4 15 9) := hTu30.2.1
              have hI_15_10_u30 : fI u30 15 10 = (fI u4 15 10) := hTu30.2.2.1
              have hI_15_11_u30 : fI u30 15 11 = (fI u4 15 11) := hTu30.2.2.2.1
              have hI_15_12_u30 : fI u30 15 12 = (fI u4 15 12) := hTu30.2.2.2.2
              refine lv_aload_n hx hb dX5_readSum_59 rfl (lv_at hl 3 rfl) ?_
              refine lv_iload_n hx hb dX5_readSum_60 rfl (lv_at hl 4 rfl) ?_
              refine cVi (w := cW cy a) (As := [.int 7]) (rest := []) C hO (T_X5_readProduct_7 l D cy a _ (by exact hJ) (by exact hW)) (cwV 1 ht (gV wd_767 wd_769 wd_22 wd_114 wd_770) rfl rfl rfl hd_yX5_readProduct ⟨Nat.le_of_ble_eq_true rfl, Nat.le_of_ble_eq_true rfl⟩) 27 rfl cW_27 rfl rfl hl.1 (Nat.le_of_ble_eq_true rfl) dX5_readSum_61 rfl ⟨Nat.zero_le _, Nat.zero_le _⟩ (fun r36 u37 H locs hp38 hO => ?_)
              obtain ⟨hr36, hJ, hTu37, hW⟩ := hp38
              have gr36 : 0 ≤ r36.toInt ∧ r36.toInt ≤ 1 := by rcases hr36 with h | h <;> rw [h] <;> decide
              have hT : KT u u37 := KT.tr (by exact hT) hTu37
              refine lv_istore_n (lv' := [(2, .int r36), (4, .int (fI u4 1 4)), (3, .int i_k5), (0, .ref (a 27)), (1, .int 7)]) hx hb dX5_readSum_64 rfl hl (by decide) rfl (fun ls hl => ?_)
              refine lv_aload_n hx hb dX5_readSum_65 rfl (lv_at hl 3 rfl) ?_
              refine gf_RX5_15 (v := .ref (a 15)) C hO 27 cW_27 (congrArg (fun z : Nat => some (Value.ref z)) hW) dX5_readSum_66 ?_
              refine gf_RX5_173 (v := .ref (a 24)) C hO 15 cW_15 rfl dX5_readSum_69 ?_
              refine lv_iload hx hb dX5_readSum_72 (lv_at hl 1 rfl) ?_
              refine lv_ineg hx hb dX5_readSum_74 ?_
              refine lv_topi (fun z39 ez39 => ?_)
              refine cVv (w := cW cy a) (As := [.int z39]) (rest := []) C hO (T_X4_add l D cy a _ (by exact hJ) (by exact hW) (z39)) (cwV 1 ht (gV wd_759 wd_760 wd_761 wd_113 wd_762) rfl rfl rfl hd_yX4_add ⟨Nat.le_of_ble_eq_true rfl, Nat.le_of_ble_eq_true rfl⟩) 24 rfl cW_24 rfl rfl hl.1 (Nat.le_of_ble_eq_true rfl) dX5_readSum_75 rfl ⟨Nat.zero_le _, Nat.zero_le _⟩ (fun u41 H locs hp42 hO => ?_)
              have g43 : 0 ≤ (fI u37 15 9).toInt ∧ (fI u37 15 9).toInt ≤ 8 := by have h := CI_15_9 hJ; exact h
              have g44 : 0 ≤ (fI u37 15 10).toInt ∧ (fI u37 15 10).toInt ≤ 14 := by have h := CI_15_10 hJ; exact h
              have g45 : 0 ≤ (fI u37 15 11).toInt ∧ (fI u37 15 11).toInt ≤ 8 := by have h := CI_15_11 hJ; exact h
              have g46 : 0 ≤ (fI u37 15 12).toInt ∧ (fI u37 15 12).toInt ≤ 6 := by have h := CI_15_12 hJ; exact h
              obtain ⟨hJ, hTu41, hW⟩ := hp42
              have hT : KT u u41 := KT.tr (by exact hT) hTu41.1
              have hI_15_9_u41 : fI u41 15 9 = (fI u37 15 9) := hTu41.2.1
              have hI_15_10_u41 : fI u41 15 10 = (fI u37 15 10) := hTu41.2.2.1
              have hI_15_11_u41 : fI u41 15 11 = (fI u37 15 11) := hTu41.2.2.2.1
              have hI_15_12_u41 : fI u41 15 12 = (fI u37 15 12) := hTu41.2.2.2.2
              have e47 : ((i_k5 + 1)).toInt = (i_k5).toInt + 1 := i_add rfl rfl (by omega)
              refine lv_iinc (v := (i_k5 + 1)) (lv' := [(3, .int (i_k5 + 1)), (2, .int r36), (4, .int (fI u4 1 4)), (0, .ref (a 27)), (1, .int 7)]) hx hb dX5_readSum_78 hl (k := 2) rfl rfl (by decide) rfl (fun ls hl => ?_)
              refine lv_goto (tgt := 8) hx hb dX5_readSum_81 (by decide) ?_
              exact ih_k5 _ _ _ _ ((i_k5 + 1)) (r36) hO (lv_sub hl [0, 1, 3, 4] rfl) (by exact hJ) (by exact hT) (by exact hW) (by first | decide | omega) (by first | decide | omega) (by first | decide | omega)
  exact LP_8_k5 4000 _ _ _ _ (0) (r1) hO (lv_sub hl [0, 1, 2, 3] rfl) (by exact hJ) (by exact hT) (by exact hW) (by first | decide | omega) (by first | decide | omega) (by first | decide | omega)
theorem dX5_readNot_0 : decode cX5_readNot 0 = .ok (.iload_n 1, 1) := by decide +kernel
theorem dX5_readNot_1 : decode cX5_readNot 1 = .ok (.bipush 6, 2) := by decide +kernel
theorem dX5_readNot_3 : decode cX5_readNot 3 = .ok (.if_icmp .le 9, 3) := by decide +kernel
theorem dX5_readNot_6 : decode cX5_readNot 6 = .ok (.aload_n 0, 1) := by decide +kernel
theorem dX5_readNot_7 : decode cX5_readNot 7 = .ok (.iconst 2, 1) := by decide +kernel
theorem dX5_readNot_8 : decode cX5_readNot 8 = .ok (.invokevirtual 74, 3) := by decide +kernel
theorem dX5_readNot_11 : decode cX5_readNot 11 = .ok (.ireturn, 1) := by decide +kernel
theorem dX5_readNot_12 : decode cX5_readNot 12 = .ok (.aload_n 0, 1) := by decide +kernel
theorem dX5_readNot_13 : decode cX5_readNot 13 = .ok (.getfield 9, 3) := by decide +kernel
theorem dX5_readNot_16 : decode cX5_readNot 16 = .ok (.invokevirtual 80, 3) := by decide +kernel
theorem dX5_readNot_19 : decode cX5_readNot 19 = .ok (.aload_n 0, 1) := by decide +kernel
theorem dX5_readNot_20 : decode cX5_readNot 20 = .ok (.iload_n 1, 1) := by decide +kernel
theorem dX5_readNot_21 : decode cX5_readNot 21 = .ok (.iconst 1, 1) := by decide +kernel
theorem dX5_readNot_22 : decode cX5_readNot 22 = .ok (.iadd, 1) := by decide +kernel
theorem dX5_readNot_23 : decode cX5_readNot 23 = .ok (.invokevirtual 183, 3) := by decide +kernel
theorem dX5_readNot_26 : decode cX5_readNot 26 = .ok (.istore_n 2, 1) := by decide +kernel
theorem dX5_readNot_27 : decode cX5_readNot 27 = .ok (.aload_n 0, 1) := by decide +kernel
theorem dX5_readNot_28 : decode cX5_readNot 28 = .ok (.getfield 15, 3) := by decide +kernel
theorem dX5_readNot_31 : decode cX5_readNot 31 = .ok (.getfield 173, 3) := by decide +kernel
theorem dX5_readNot_34 : decode cX5_readNot 34 = .ok (.bipush (-15), 2) := by decide +kernel
theorem dX5_readNot_36 : decode cX5_readNot 36 = .ok (.invokevirtual 177, 3) := by decide +kernel
theorem dX5_readNot_39 : decode cX5_readNot 39 = .ok (.iload_n 2, 1) := by decide +kernel
theorem dX5_readNot_40 : decode cX5_readNot 40 = .ok (.ireturn, 1) := by decide +kernel
theorem wd_758 : (Cond.code ⟨"WebCourt$Reader", "readNot", "(I)Z"⟩ prog_7_method_23_code (3 : Nat) (Option.some FieldType.boolean)) ∈ gtb := gtb_c3 169 (by decide +kernel) rfl
set_option maxHeartbeats 4000000 in
set_option maxRecDepth 100000 in
theorem T_X5_readNot_7 (l : Launch) (D : va_G) (cy : Nat → ClassId) (a : Nat → Nat) (u : St) (hJ : CI a u) (hW : fR u 2 = a 15)   : Mi l D cy (cW cy a) yX5_readNot (.code yX5_readNot cX5_readNot 3 (some .boolean)) (rmo 1 21) [.ref (a 27), .int 7] u (fun (r : Int32) (u' : St) => (r = 0 ∨ r = 1) ∧ (CI a u') ∧ (KT u u') ∧ (fR u' 2 = a 15)) := by
  refine Mi.of (own := RX5) rfl (by decide) (Nat.le_of_ble_eq_true rfl) ?_
  have hT : KT u u := KT.rf
  intro p e s m below meth c A Q ls C hret hO hl
  obtain ⟨hx, hb, hml, hown, ht, hK, hA⟩ := id C
  have hl : lv_has ls 3 [(0, .ref (a 27)), (1, .int 7)] := hl
  refine lv_iload_n hx hb dX5_readNot_0 rfl (lv_at hl 1 rfl) ?_
  refine lv_bipush (v := 6) hx hb dX5_readNot_1 (by decide) ?_
  refine cn_le (X := 7) (Y := 6) hx hb dX5_readNot_3 rfl rfl (by omega) ?_ (tgt := 12) (by decide)
  refine lv_aload_n hx hb dX5_readNot_6 rfl (lv_at hl 0 rfl) ?_
  refine lv_iconst (v := 2) hx hb dX5_readNot_7 (by decide) ?_
  refine cVi (w := cW cy a) (As := [.int 2]) (rest := []) C hO (T_X5_refuse l D cy a _ (by exact hJ) (by exact hW) (2)) (cwV 1 ht (gV wd_691 wd_693 wd_6 wd_114 wd_694) rfl rfl rfl hd_yX5_refuse ⟨Nat.le_of_ble_eq_true rfl, Nat.le_of_ble_eq_true rfl⟩) 27 rfl cW_27 rfl rfl hl.1 (Nat.le_of_ble_eq_true rfl) dX5_readNot_8 rfl ⟨Nat.zero_le _, Nat.zero_le _⟩ (fun r1 u2 H locs hp3 hO => ?_)
  have g4 : 0 ≤ (fI u 15 9).toInt ∧ (fI u 15 9).toInt ≤ 8 := by have h := CI_15_9 hJ; exact h
  have g5 : 0 ≤ (fI u 15 10).toInt ∧ (fI u 15 10).toInt ≤ 14 := by have h := CI_15_10 hJ; exact h
  have g6 : 0 ≤ (fI u 15 11).toInt ∧ (fI u 15 11).toInt ≤ 8 := by have h := CI_15_11 hJ; exact h
  have g7 : 0 ≤ (fI u 15 12).toInt ∧ (fI u 15 12).toInt ≤ 6 := by have h := CI_15_12 hJ; exact h
  obtain ⟨hr1, hJ, hTu2, hW⟩ := hp3
  subst hr1
  have hT : KT u u2 := KT.tr (by exact hT) hTu2.1
  have hI_15_9_u2 : fI u2 15 9 = (fI u 15 9) := hTu2.2.1
  have hI_15_10_u2 : fI u2 15 10 = (fI u 15 10) := hTu2.2.2.1
  have hI_15_11_u2 : fI u2 15 11 = (fI u 15 11) := hTu2.2.2.2.1
  have hI_15_12_u2 : fI u2 15 12 = (fI u 15 12) := hTu2.2.2.2.2
  refine hret _ _ _ _ _ _ dX5_readNot_11 rfl ?_ hO
  exact ⟨Or.inl rfl, hJ, hT, hW⟩
theorem dX5_readOne_0 : decode cX5_readOne 0 = .ok (.aload_n 0, 1) := by decide +kernel
theorem dX5_readOne_1 : decode cX5_readOne 1 = .ok (.getfield 9, 3) := by decide +kernel
theorem dX5_readOne_4 : decode cX5_readOne 4 = .ok (.getfield 36, 3) := by decide +kernel
theorem dX5_readOne_7 : decode cX5_readOne 7 = .ok (.bipush 15, 2) := by decide +kernel
theorem dX5_readOne_9 : decode cX5_readOne 9 = .ok (.if_icmp .ne 9, 3) := by decide +kernel
theorem dX5_readOne_12 : decode cX5_readOne 12 = .ok (.aload_n 0, 1) := by decide +kernel
theorem dX5_readOne_13 : decode cX5_readOne 13 = .ok (.iload_n 1, 1) := by decide +kernel
theorem dX5_readOne_14 : decode cX5_readOne 14 = .ok (.invokevirtual 186, 3) := by decide +kernel
theorem dX5_readOne_17 : decode cX5_readOne 17 = .ok (.ireturn, 1) := by decide +kernel
theorem dX5_readOne_18 : decode cX5_readOne 18 = .ok (.aload_n 0, 1) := by decide +kernel
theorem dX5_readOne_19 : decode cX5_readOne 19 = .ok (.iload_n 1, 1) := by decide +kernel
theorem dX5_readOne_20 : decode cX5_readOne 20 = .ok (.invokevirtual 189, 3) := by decide +kernel
theorem dX5_readOne_23 : decode cX5_readOne 23 = .ok (.ifCond .ne 5, 3) := by decide +kernel
theorem dX5_readOne_26 : decode cX5_readOne 26 = .ok (.iconst 0, 1) := by decide +kernel
theorem dX5_readOne_27 : decode cX5_readOne 27 = .ok (.ireturn, 1) := by decide +kernel
theorem dX5_readOne_28 : decode cX5_readOne 28 = .ok (.aload_n 0, 1) := by decide +kernel
theorem dX5_readOne_29 : decode cX5_readOne 29 = .ok (.getfield 9, 3) := by decide +kernel
theorem dX5_readOne_32 : decode cX5_readOne 32 = .ok (.getfield 36, 3) := by decide +kernel
theorem dX5_readOne_35 : decode cX5_readOne 35 = .ok (.istore_n 2, 1) := by decide +kernel
theorem dX5_readOne_36 : decode cX5_readOne 36 = .ok (.iload_n 2, 1) := by decide +kernel
theorem dX5_readOne_37 : decode cX5_readOne 37 = .ok (.bipush 60, 2) := by decide +kernel
theorem dX5_readOne_39 : decode cX5_readOne 39 = .ok (.if_icmp .eq 17, 3) := by decide +kernel
theorem dX5_readOne_42 : decode cX5_readOne 42 = .ok (.iload_n 2, 1) := by decide +kernel
theorem dX5_readOne_43 : decode cX5_readOne 43 = .ok (.bipush 62, 2) := by decide +kernel
theorem dX5_readOne_45 : decode cX5_readOne 45 = .ok (.if_icmp .eq 11, 3) := by decide +kernel
theorem dX5_readOne_48 : decode cX5_readOne 48 = .ok (.iload_n 2, 1) := by decide +kernel
theorem dX5_readOne_49 : decode cX5_readOne 49 = .ok (.bipush 61, 2) := by decide +kernel
theorem dX5_readOne_51 : decode cX5_readOne 51 = .ok (.if_icmp .eq 5, 3) := by decide +kernel
theorem dX5_readOne_54 : decode cX5_readOne 54 = .ok (.iconst 1, 1) := by decide +kernel
theorem dX5_readOne_55 : decode cX5_readOne 55 = .ok (.ireturn, 1) := by decide +kernel
theorem dX5_readOne_56 : decode cX5_readOne 56 = .ok (.aload_n 0, 1) := by decide +kernel
theorem dX5_readOne_57 : decode cX5_readOne 57 = .ok (.getfield 9, 3) := by decide +kernel
theorem dX5_readOne_60 : decode cX5_readOne 60 = .ok (.invokevirtual 80, 3) := by decide +kernel
theorem dX5_readOne_63 : decode cX5_readOne 63 = .ok (.aload_n 0, 1) := by decide +kernel
theorem dX5_readOne_64 : decode cX5_readOne 64 = .ok (.iload_n 1, 1) := by decide +kernel
theorem dX5_readOne_65 : decode cX5_readOne 65 = .ok (.invokevirtual 189, 3) := by decide +kernel
theorem dX5_readOne_68 : decode cX5_readOne 68 = .ok (.istore_n 3, 1) := by decide +kernel
theorem dX5_readOne_69 : decode cX5_readOne 69 = .ok (.aload_n 0, 1) := by decide +kernel
theorem dX5_readOne_70 : decode cX5_readOne 70 = .ok (.getfield 15, 3) := by decide +kernel
theorem dX5_readOne_73 : decode cX5_readOne 73 = .ok (.getfield 173, 3) := by decide +kernel
theorem dX5_readOne_76 : decode cX5_readOne 76 = .ok (.iload_n 2, 1) := by decide +kernel
theorem dX5_readOne_77 : decode cX5_readOne 77 = .ok (.ineg, 1) := by decide +kernel
theorem dX5_readOne_78 : decode cX5_readOne 78 = .ok (.invokevirtual 177, 3) := by decide +kernel
theorem dX5_readOne_81 : decode cX5_readOne 81 = .ok (.iload_n 3, 1) := by decide +kernel
theorem dX5_readOne_82 : decode cX5_readOne 82 = .ok (.ireturn, 1) := by decide +kernel
theorem wd_754 : (Cond.code ⟨"WebCourt$Reader", "readOne", "(I)Z"⟩ prog_7_method_22_code (4 : Nat) (Option.some FieldType.boolean)) ∈ gtb := gtb_c3 165 (by decide +kernel) rfl
theorem wd_763 : (Cond.methodLink "WebCourt$Reader" (189 : Nat) ⟨"WebCourt$Reader", "readSum", "(I)Z"⟩) ∈ gtb := gtb_c3 174 (by decide +kernel) rfl
theorem wd_765 : (Cond.instanceMethod ⟨"WebCourt$Reader", "readSum", "(I)Z"⟩) ∈ gtb := gtb_c3 176 (by decide +kernel) rfl
theorem wd_21 : (Cond.selects "WebCourt$Reader" ⟨"WebCourt$Reader", "readSum", "(I)Z"⟩ ⟨"WebCourt$Reader", "readSum", "(I)Z"⟩) ∈ gtb := gtb_p 21 (by decide +kernel) rfl
theorem hd_yX5_readSum : yX5_readSum.cls = RX5 ∧ yX5_readSum.cls ≠ "java/lang/invoke/MethodHandle" ∧ yX5_readSum.cls ≠ "java/lang/invoke/VarHandle" ∧ (parseMethodDescriptor yX5_readSum.desc).map (fun d => d.parameters.length) = some 1 := by decide +kernel
theorem wd_755 : (Cond.methodLink "WebCourt$Reader" (186 : Nat) ⟨"WebCourt$Reader", "readNot", "(I)Z"⟩) ∈ gtb := gtb_c3 166 (by decide +kernel) rfl
theorem wd_757 : (Cond.instanceMethod ⟨"WebCourt$Reader", "readNot", "(I)Z"⟩) ∈ gtb := gtb_c3 168 (by decide +kernel) rfl
theorem wd_20 : (Cond.selects "WebCourt$Reader" ⟨"WebCourt$Reader", "readNot", "(I)Z"⟩ ⟨"WebCourt$Reader", "readNot", "(I)Z"⟩) ∈ gtb := gtb_p 20 (by decide +kernel) rfl
theorem hd_yX5_readNot : yX5_readNot.cls = RX5 ∧ yX5_readNot.cls ≠ "java/lang/invoke/MethodHandle" ∧ yX5_readNot.cls ≠ "java/lang/invoke/VarHandle" ∧ (parseMethodDescriptor yX5_readNot.desc).map (fun d => d.parameters.length) = some 1 := by decide +kernel
set_option maxHeartbeats 4000000 in
set_option maxRecDepth 100000 in
theorem T_X5_readOne_7 (l : Launch) (D : va_G) (cy : Nat → ClassId) (a : Nat → Nat) (u : St) (hJ : CI a u) (hW : fR u 2 = a 15)   : Mi l D cy (cW cy a) yX5_readOne (.code yX5_readOne cX5_readOne 4 (some .boolean)) (rmo 9 201) [.ref (a 27), .int 7] u (fun (r : Int32) (u' : St) => (r = 0 ∨ r = 1) ∧ (CI a u') ∧ (KT u u') ∧ (fR u' 2 = a 15)) := by
  refine Mi.of (own := RX5) rfl (by decide) (Nat.le_of_ble_eq_true rfl) ?_
  have hT : KT u u := KT.rf
  intro p e s m below meth c A Q ls C hret hO hl
  obtain ⟨hx, hb, hml, hown, ht, hK, hA⟩ := id C
  have hl : lv_has ls 4 [(0, .ref (a 27)), (1, .int 7)] := hl
  refine lv_aload_n hx hb dX5_readOne_0 rfl (lv_at hl 0 rfl) ?_
  refine gf_RX5_9 (v := .ref (a 1)) C hO 27 cW_27 rfl dX5_readOne_1 ?_
  refine gf_RX5_36 (v := .int (fI u 1 4)) C hO 1 cW_1 rfl dX5_readOne_4 ?_
  refine lv_bipush (v := 15) hx hb dX5_readOne_7 (by decide) ?_
  refine cs_ne (tgt := 18) (X := ((fI u 1 4)).toInt) (Y := 15) hx hb dX5_readOne_9 (by decide) rfl rfl (fun c1 => ?_) (fun c1 => ?_)
  · refine lv_aload_n hx hb dX5_readOne_18 rfl (lv_at hl 0 rfl) ?_
    refine lv_iload_n hx hb dX5_readOne_19 rfl (lv_at hl 1 rfl) ?_
    refine cVi (w := cW cy a) (As := [.int 7]) (rest := []) C hO (T_X5_readSum_7 l D cy a _ (by exact hJ) (by exact hW)) (cwV 1 ht (gV wd_763 wd_765 wd_21 wd_114 wd_766) rfl rfl rfl hd_yX5_readSum ⟨Nat.le_of_ble_eq_true rfl, Nat.le_of_ble_eq_true rfl⟩) 27 rfl cW_27 rfl rfl hl.1 (Nat.le_of_ble_eq_true rfl) dX5_readOne_20 rfl ⟨Nat.zero_le _, Nat.zero_le _⟩ (fun r2 u3 H locs hp4 hO => ?_)
    obtain ⟨hr2, hJ, hTu3, hW⟩ := hp4
    have gr2 : 0 ≤ r2.toInt ∧ r2.toInt ≤ 1 := by rcases hr2 with h | h <;> rw [h] <;> decide
    have hT : KT u u3 := KT.tr (by exact hT) hTu3
    refine bs_ne (tgt := 28) (X := (r2).toInt) hx hb dX5_readOne_23 (by decide) rfl (fun c5 => ?_) (fun c5 => ?_)
    · refine lv_aload_n hx hb dX5_readOne_28 rfl (lv_at hl 0 rfl) ?_
      refine gf_RX5_9 (v := .ref (a 1)) C hO 27 cW_27 rfl dX5_readOne_29 ?_
      refine gf_RX5_36 (v := .int (fI u3 1 4)) C hO 1 cW_1 rfl dX5_readOne_32 ?_
      refine lv_istore_n (lv' := [(2, .int (fI u3 1 4)), (0, .ref (a 27)), (1, .int 7)]) hx hb dX5_readOne_35 rfl hl (by decide) rfl (fun ls hl => ?_)
      refine lv_iload_n hx hb dX5_readOne_36 rfl (lv_at hl 0 rfl) ?_
      refine lv_bipush (v := 60) hx hb dX5_readOne_37 (by decide) ?_
      refine cs_eq (tgt := 56) (X := ((fI u3 1 4)).toInt) (Y := 60) hx hb dX5_readOne_39 (by decide) rfl rfl (fun c6 => ?_) (fun c6 => ?_)
      · refine lv_aload_n hx hb dX5_readOne_56 rfl (lv_at hl 1 rfl) ?_
        refine gf_RX5_9 (v := .ref (a 1)) C hO 27 cW_27 rfl dX5_readOne_57 ?_
        refine cVv (w := cW cy a) (As := []) (rest := []) C hO (T_X7_advance l D cy a _ (by exact hJ) (by exact hW)) (cwV 0 ht (gV wd_695 wd_541 wd_542 wd_111 wd_543) rfl rfl rfl hd_yX7_advance ⟨Nat.le_of_ble_eq_true rfl, Nat.le_of_ble_eq_true rfl⟩) 1 rfl cW_1 rfl rfl hl.1 (Nat.le_of_ble_eq_true rfl) dX5_readOne_60 rfl ⟨Nat.zero_le _, Nat.zero_le _⟩ (fun u8 H locs hp9 hO => ?_)
        have g10 : 0 ≤ (fI u3 15 9).toInt ∧ (fI u3 15 9).toInt ≤ 8 := by have h := CI_15_9 hJ; exact h
        have g11 : 0 ≤ (fI u3 15 10).toInt ∧ (fI u3 15 10).toInt ≤ 14 := by have h := CI_15_10 hJ; exact h
        have g12 : 0 ≤ (fI u3 15 11).toInt ∧ (fI u3 15 11).toInt ≤ 8 := by have h := CI_15_11 hJ; exact h
        have g13 : 0 ≤ (fI u3 15 12).toInt ∧ (fI u3 15 12).toInt ≤ 6 := by have h := CI_15_12 hJ; exact h
        obtain ⟨hJ, hTu8, hW⟩ := hp9
        have hT : KT u u8 := KT.tr (by exact hT) hTu8.1
        have hI_15_9_u8 : fI u8 15 9 = (fI u3 15 9) := hTu8.2.1
        have hI_15_10_u8 : fI u8 15 10 = (fI u3 15 10) := hTu8.2.2.1
        have hI_15_11_u8 : fI u8 15 11 = (fI u3 15 11) := hTu8.2.2.2.1
        have hI_15_12_u8 : fI u8 15 12 = (fI u3 15 12) := hTu8.2.2.2.2
        refine lv_aload_n hx hb dX5_readOne_63 rfl (lv_at hl 1 rfl) ?_
        refine lv_iload_n hx hb dX5_readOne_64 rfl (lv_at hl 2 rfl) ?_
        refine cVi (w := cW cy a) (As := [.int 7]) (rest := []) C hO (T_X5_readSum_7 l D cy a _ (by exact hJ) (by exact hW)) (cwV 1 ht (gV wd_763 wd_765 wd_21 wd_114 wd_766) rfl rfl rfl hd_yX5_readSum ⟨Nat.le_of_ble_eq_true rfl, Nat.le_of_ble_eq_true rfl⟩) 27 rfl cW_27 rfl rfl hl.1 (Nat.le_of_ble_eq_true rfl) dX5_readOne_65 rfl ⟨Nat.zero_le _, Nat.zero_le _⟩ (fun r14 u15 H locs hp16 hO => ?_)
        obtain ⟨hr14, hJ, hTu15, hW⟩ := hp16
        have gr14 : 0 ≤ r14.toInt ∧ r14.toInt ≤ 1 := by rcases hr14 with h | h <;> rw [h] <;> decide
        have hT : KT u u15 := KT.tr (by exact hT) hTu15
        refine lv_istore_n (lv' := [(3, .int r14), (2, .int (fI u3 1 4)), (0, .ref (a 27)), (1, .int 7)]) hx hb dX5_readOne_68 rfl hl (by decide) rfl (fun ls hl => ?_)
        refine lv_aload_n hx hb dX5_readOne_69 rfl (lv_at hl 2 rfl) ?_
        refine gf_RX5_15 (v := .ref (a 15)) C hO 27 cW_27 (congrArg (fun z : Nat => some (Value.ref z)) hW) dX5_readOne_70 ?_
        refine gf_RX5_173 (v := .ref (a 24)) C hO 15 cW_15 rfl dX5_readOne_73 ?_
        refine lv_iload_n hx hb dX5_readOne_76 rfl (lv_at hl 1 rfl) ?_
        refine lv_ineg hx hb dX5_readOne_77 ?_
        refine lv_topi (fun z17 ez17 => ?_)
        refine cVv (w := cW cy a) (As := [.int z17]) (rest := []) C hO (T_X4_add l D cy a _ (by exact hJ) (by exact hW) (z17)) (cwV 1 ht (gV wd_759 wd_760 wd_761 wd_113 wd_762) rfl rfl rfl hd_yX4_add ⟨Nat.le_of_ble_eq_true rfl, Nat.le_of_ble_eq_true rfl⟩) 24 rfl cW_24 rfl rfl hl.1 (Nat.le_of_ble_eq_true rfl) dX5_readOne_78 rfl ⟨Nat.zero_le _, Nat.zero_le _⟩ (fun u19 H locs hp20 hO => ?_)
        have g21 : 0 ≤ (fI u15 15 9).toInt ∧ (fI u15 15 9).toInt ≤ 8 := by have h := CI_15_9 hJ; exact h
        have g22 : 0 ≤ (fI u15 15 10).toInt ∧ (fI u15 15 10).toInt ≤ 14 := by have h := CI_15_10 hJ; exact h
        have g23 : 0 ≤ (fI u15 15 11).toInt ∧ (fI u15 15 11).toInt ≤ 8 := by have h := CI_15_11 hJ; exact h
        have g24 : 0 ≤ (fI u15 15 12).toInt ∧ (fI u15 15 12).toInt ≤ 6 := by have h := CI_15_12 hJ; exact h
        obtain ⟨hJ, hTu19, hW⟩ := hp20
        have hT : KT u u19 := KT.tr (by exact hT) hTu19.1
        have hI_15_9_u19 : fI u19 15 9 = (fI u15 15 9) := hTu19.2.1
        have hI_15_10_u19 : fI u19 15 10 = (fI u15 15 10) := hTu19.2.2.1
        have hI_15_11_u19 : fI u19 15 11 = (fI u15 15 11) := hTu19.2.2.2.1
        have hI_15_12_u19 : fI u19 15 12 = (fI u15 15 12) := hTu19.2.2.2.2
        refine lv_iload_n hx hb dX5_readOne_81 rfl (lv_at hl 0 rfl) ?_
        refine hret _ _ _ _ _ _ dX5_readOne_82 (by rcases hr14 with h | h <;> rw [h] <;> rfl) ?_ hO
        exact ⟨hr14, hJ, hT, hW⟩
      · refine lv_iload_n hx hb dX5_readOne_42 rfl (lv_at hl 0 rfl) ?_
        refine lv_bipush (v := 62) hx hb dX5_readOne_43 (by decide) ?_
        refine cs_eq (tgt := 56) (X := ((fI u3 1 4)).toInt) (Y := 62) hx hb dX5_readOne_45 (by decide) rfl rfl (fun c25 => ?_) (fun c25 => ?_)
        · refine lv_aload_n hx hb dX5_readOne_56 rfl (lv_at hl 1 rfl) ?_
          refine gf_RX5_9 (v := .ref (a 1)) C hO 27 cW_27 rfl dX5_readOne_57 ?_
          refine cVv (w := cW cy a) (As := []) (rest := []) C hO (T_X7_advance l D cy a _ (by exact hJ) (by exact hW)) (cwV 0 ht (gV wd_695 wd_541 wd_542 wd_111 wd_543) rfl rfl rfl hd_yX7_advance ⟨Nat.le_of_ble_eq_true rfl, Nat.le_of_ble_eq_true rfl⟩) 1 rfl cW_1 rfl rfl hl.1 (Nat.le_of_ble_eq_true rfl) dX5_readOne_60 rfl ⟨Nat.zero_le _, Nat.zero_le _⟩ (fun u27 H locs hp28 hO => ?_)
          have g29 : 0 ≤ (fI u3 15 9).toInt ∧ (fI u3 15 9).toInt ≤ 8 := by have h := CI_15_9 hJ; exact h
          have g30 : 0 ≤ (fI u3 15 10).toInt ∧ (fI u3 15 10).toInt ≤ 14 := by have h := CI_15_10 hJ; exact h
          have g31 : 0 ≤ (fI u3 15 11).toInt ∧ (fI u3 15 11).toInt ≤ 8 := by have h := CI_15_11 hJ; exact h
          have g32 : 0 ≤ (fI u3 15 12).toInt ∧ (fI u3 15 12).toInt ≤ 6 := by have h := CI_15_12 hJ; exact h
          obtain ⟨hJ, hTu27, hW⟩ := hp28
          have hT : KT u u27 := KT.tr (by exact hT) hTu27.1
          have hI_15_9_u27 : fI u27 15 9 = (fI u3 15 9) := hTu27.2.1
          have hI_15_10_u27 : fI u27 15 10 = (fI u3 15 10) := hTu27.2.2.1
          have hI_15_11_u27 : fI u27 15 11 = (fI u3 15 11) := hTu27.2.2.2.1
          have hI_15_12_u27 : fI u27 15 12 = (fI u3 15 12) := hTu27.2.2.2.2
          refine lv_aload_n hx hb dX5_readOne_63 rfl (lv_at hl 1 rfl) ?_
          refine lv_iload_n hx hb dX5_readOne_64 rfl (lv_at hl 2 rfl) ?_
          refine cVi (w := cW cy a) (As := [.int 7]) (rest := []) C hO (T_X5_readSum_7 l D cy a _ (by exact hJ) (by exact hW)) (cwV 1 ht (gV wd_763 wd_765 wd_21 wd_114 wd_766) rfl rfl rfl hd_yX5_readSum ⟨Nat.le_of_ble_eq_true rfl, Nat.le_of_ble_eq_true rfl⟩) 27 rfl cW_27 rfl rfl hl.1 (Nat.le_of_ble_eq_true rfl) dX5_readOne_65 rfl ⟨Nat.zero_le _, Nat.zero_le _⟩ (fun r33 u34 H locs hp35 hO => ?_)
          obtain ⟨hr33, hJ, hTu34, hW⟩ := hp35
          have gr33 : 0 ≤ r33.toInt ∧ r33.toInt ≤ 1 := by rcases hr33 with h | h <;> rw [h] <;> decide
          have hT : KT u u34 := KT.tr (by exact hT) hTu34
          refine lv_istore_n (lv' := [(3, .int r33), (2, .int (fI u3 1 4)), (0, .ref (a 27)), (1, .int 7)]) hx hb dX5_readOne_68 rfl hl (by decide) rfl (fun ls hl => ?_)
          refine lv_aload_n hx hb dX5_readOne_69 rfl (lv_at hl 2 rfl) ?_
          refine gf_RX5_15 (v := .ref (a 15)) C hO 27 cW_27 (congrArg (fun z : Nat => some (Value.ref z)) hW) dX5_readOne_70 ?_
          refine gf_RX5_173 (v := .ref (a 24)) C hO 15 cW_15 rfl dX5_readOne_73 ?_
          refine lv_iload_n hx hb dX5_readOne_76 rfl (lv_at hl 1 rfl) ?_
          refine lv_ineg hx hb dX5_readOne_77 ?_
          refine lv_topi (fun z36 ez36 => ?_)
          refine cVv (w := cW cy a) (As := [.int z36]) (rest := []) C hO (T_X4_add l D cy a _ (by exact hJ) (by exact hW) (z36)) (cwV 1 ht (gV wd_759 wd_760 wd_761 wd_113 wd_762) rfl rfl rfl hd_yX4_add ⟨Nat.le_of_ble_eq_true rfl, Nat.le_of_ble_eq_true rfl⟩) 24 rfl cW_24 rfl rfl hl.1 (Nat.le_of_ble_eq_true rfl) dX5_readOne_78 rfl ⟨Nat.zero_le _, Nat.zero_le _⟩ (fun u38 H locs hp39 hO => ?_)
          have g40 : 0 ≤ (fI u34 15 9).toInt ∧ (fI u34 15 9).toInt ≤ 8 := by have h := CI_15_9 hJ; exact h
          have g41 : 0 ≤ (fI u34 15 10).toInt ∧ (fI u34 15 10).toInt ≤ 14 := by have h := CI_15_10 hJ; exact h
          have g42 : 0 ≤ (fI u34 15 11).toInt ∧ (fI u34 15 11).toInt ≤ 8 := by have h := CI_15_11 hJ; exact h
          have g43 : 0 ≤ (fI u34 15 12).toInt ∧ (fI u34 15 12).toInt ≤ 6 := by have h := CI_15_12 hJ; exact h
          obtain ⟨hJ, hTu38, hW⟩ := hp39
          have hT : KT u u38 := KT.tr (by exact hT) hTu38.1
          have hI_15_9_u38 : fI u38 15 9 = (fI u34 15 9) := hTu38.2.1
          have hI_15_10_u38 : fI u38 15 10 = (fI u34 15 10) := hTu38.2.2.1
          have hI_15_11_u38 : fI u38 15 11 = (fI u34 15 11) := hTu38.2.2.2.1
          have hI_15_12_u38 : fI u38 15 12 = (fI u34 15 12) := hTu38.2.2.2.2
          refine lv_iload_n hx hb dX5_readOne_81 rfl (lv_at hl 0 rfl) ?_
          refine hret _ _ _ _ _ _ dX5_readOne_82 (by rcases hr33 with h | h <;> rw [h] <;> rfl) ?_ hO
          exact ⟨hr33, hJ, hT, hW⟩
        · refine lv_iload_n hx hb dX5_readOne_48 rfl (lv_at hl 0 rfl) ?_
          refine lv_bipush (v := 61) hx hb dX5_readOne_49 (by decide) ?_
          refine cs_eq (tgt := 56) (X := ((fI u3 1 4)).toInt) (Y := 61) hx hb dX5_readOne_51 (by decide) rfl rfl (fun c44 => ?_) (fun c44 => ?_)
          · refine lv_aload_n hx hb dX5_readOne_56 rfl (lv_at hl 1 rfl) ?_
            refine gf_RX5_9 (v := .ref (a 1)) C hO 27 cW_27 rfl dX5_readOne_57 ?_
            refine cVv (w := cW cy a) (As := []) (rest := []) C hO (T_X7_advance l D cy a _ (by exact hJ) (by exact hW)) (cwV 0 ht (gV wd_695 wd_541 wd_542 wd_111 wd_543) rfl rfl rfl hd_yX7_advance ⟨Nat.le_of_ble_eq_true rfl, Nat.le_of_ble_eq_true rfl⟩) 1 rfl cW_1 rfl rfl hl.1 (Nat.le_of_ble_eq_true rfl) dX5_readOne_60 rfl ⟨Nat.zero_le _, Nat.zero_le _⟩ (fun u46 H locs hp47 hO => ?_)
            have g48 : 0 ≤ (fI u3 15 9).toInt ∧ (fI u3 15 9).toInt ≤ 8 := by have h := CI_15_9 hJ; exact h
            have g49 : 0 ≤ (fI u3 15 10).toInt ∧ (fI u3 15 10).toInt ≤ 14 := by have h := CI_15_10 hJ; exact h
            have g50 : 0 ≤ (fI u3 15 11).toInt ∧ (fI u3 15 11).toInt ≤ 8 := by have h := CI_15_11 hJ; exact h
            have g51 : 0 ≤ (fI u3 15 12).toInt ∧ (fI u3 15 12).toInt ≤ 6 := by have h := CI_15_12 hJ; exact h
            obtain ⟨hJ, hTu46, hW⟩ := hp47
            have hT : KT u u46 := KT.tr (by exact hT) hTu46.1
            have hI_15_9_u46 : fI u46 15 9 = (fI u3 15 9) := hTu46.2.1
            have hI_15_10_u46 : fI u46 15 10 = (fI u3 15 10) := hTu46.2.2.1
            have hI_15_11_u46 : fI u46 15 11 = (fI u3 15 11) := hTu46.2.2.2.1
            have hI_15_12_u46 : fI u46 15 12 = (fI u3 15 12) := hTu46.2.2.2.2
            refine lv_aload_n hx hb dX5_readOne_63 rfl (lv_at hl 1 rfl) ?_
            refine lv_iload_n hx hb dX5_readOne_64 rfl (lv_at hl 2 rfl) ?_
            refine cVi (w := cW cy a) (As := [.int 7]) (rest := []) C hO (T_X5_readSum_7 l D cy a _ (by exact hJ) (by exact hW)) (cwV 1 ht (gV wd_763 wd_765 wd_21 wd_114 wd_766) rfl rfl rfl hd_yX5_readSum ⟨Nat.le_of_ble_eq_true rfl, Nat.le_of_ble_eq_true rfl⟩) 27 rfl cW_27 rfl rfl hl.1 (Nat.le_of_ble_eq_true rfl) dX5_readOne_65 rfl ⟨Nat.zero_le _, Nat.zero_le _⟩ (fun r52 u53 H locs hp54 hO => ?_)
            obtain ⟨hr52, hJ, hTu53, hW⟩ := hp54
            have gr52 : 0 ≤ r52.toInt ∧ r52.toInt ≤ 1 := by rcases hr52 with h | h <;> rw [h] <;> decide
            have hT : KT u u53 := KT.tr (by exact hT) hTu53
            refine lv_istore_n (lv' := [(3, .int r52), (2, .int (fI u3 1 4)), (0, .ref (a 27)), (1, .int 7)]) hx hb dX5_readOne_68 rfl hl (by decide) rfl (fun ls hl => ?_)
            refine lv_aload_n hx hb dX5_readOne_69 rfl (lv_at hl 2 rfl) ?_
            refine gf_RX5_15 (v := .ref (a 15)) C hO 27 cW_27 (congrArg (fun z : Nat => some (Value.ref z)) hW) dX5_readOne_70 ?_
            refine gf_RX5_173 (v := .ref (a 24)) C hO 15 cW_15 rfl dX5_readOne_73 ?_
            refine lv_iload_n hx hb dX5_readOne_76 rfl (lv_at hl 1 rfl) ?_
            refine lv_ineg hx hb dX5_readOne_77 ?_
            refine lv_topi (fun z55 ez55 => ?_)
            refine cVv (w := cW cy a) (As := [.int z55]) (rest := []) C hO (T_X4_add l D cy a _ (by exact hJ) (by exact hW) (z55)) (cwV 1 ht (gV wd_759 wd_760 wd_761 wd_113 wd_762) rfl rfl rfl hd_yX4_add ⟨Nat.le_of_ble_eq_true rfl, Nat.le_of_ble_eq_true rfl⟩) 24 rfl cW_24 rfl rfl hl.1 (Nat.le_of_ble_eq_true rfl) dX5_readOne_78 rfl ⟨Nat.zero_le _, Nat.zero_le _⟩ (fun u57 H locs hp58 hO => ?_)
            have g59 : 0 ≤ (fI u53 15 9).toInt ∧ (fI u53 15 9).toInt ≤ 8 := by have h := CI_15_9 hJ; exact h
            have g60 : 0 ≤ (fI u53 15 10).toInt ∧ (fI u53 15 10).toInt ≤ 14 := by have h := CI_15_10 hJ; exact h
            have g61 : 0 ≤ (fI u53 15 11).toInt ∧ (fI u53 15 11).toInt ≤ 8 := by have h := CI_15_11 hJ; exact h
            have g62 : 0 ≤ (fI u53 15 12).toInt ∧ (fI u53 15 12).toInt ≤ 6 := by have h := CI_15_12 hJ; exact h
            obtain ⟨hJ, hTu57, hW⟩ := hp58
            have hT : KT u u57 := KT.tr (by exact hT) hTu57.1
            have hI_15_9_u57 : fI u57 15 9 = (fI u53 15 9) := hTu57.2.1
            have hI_15_10_u57 : fI u57 15 10 = (fI u53 15 10) := hTu57.2.2.1
            have hI_15_11_u57 : fI u57 15 11 = (fI u53 15 11) := hTu57.2.2.2.1
            have hI_15_12_u57 : fI u57 15 12 = (fI u53 15 12) := hTu57.2.2.2.2
            refine lv_iload_n hx hb dX5_readOne_81 rfl (lv_at hl 0 rfl) ?_
            refine hret _ _ _ _ _ _ dX5_readOne_82 (by rcases hr52 with h | h <;> rw [h] <;> rfl) ?_ hO
            exact ⟨hr52, hJ, hT, hW⟩
          · refine lv_iconst (v := 1) hx hb dX5_readOne_54 (by decide) ?_
            refine hret _ _ _ _ _ _ dX5_readOne_55 rfl ?_ hO
            exact ⟨Or.inr rfl, hJ, hT, hW⟩
    · refine lv_iconst (v := 0) hx hb dX5_readOne_26 (by decide) ?_
      refine hret _ _ _ _ _ _ dX5_readOne_27 rfl ?_ hO
      exact ⟨Or.inl rfl, hJ, hT, hW⟩
  · refine lv_aload_n hx hb dX5_readOne_12 rfl (lv_at hl 0 rfl) ?_
    refine lv_iload_n hx hb dX5_readOne_13 rfl (lv_at hl 1 rfl) ?_
    refine cVi (w := cW cy a) (As := [.int 7]) (rest := []) C hO (T_X5_readNot_7 l D cy a _ (by exact hJ) (by exact hW)) (cwV 1 ht (gV wd_755 wd_757 wd_20 wd_114 wd_758) rfl rfl rfl hd_yX5_readNot ⟨Nat.le_of_ble_eq_true rfl, Nat.le_of_ble_eq_true rfl⟩) 27 rfl cW_27 rfl rfl hl.1 (Nat.le_of_ble_eq_true rfl) dX5_readOne_14 rfl ⟨Nat.zero_le _, Nat.zero_le _⟩ (fun r63 u64 H locs hp65 hO => ?_)
    obtain ⟨hr63, hJ, hTu64, hW⟩ := hp65
    have gr63 : 0 ≤ r63.toInt ∧ r63.toInt ≤ 1 := by rcases hr63 with h | h <;> rw [h] <;> decide
    have hT : KT u u64 := KT.tr (by exact hT) hTu64
    refine hret _ _ _ _ _ _ dX5_readOne_17 (by rcases hr63 with h | h <;> rw [h] <;> rfl) ?_ hO
    exact ⟨hr63, hJ, hT, hW⟩
theorem dX5_readBoth_0 : decode cX5_readBoth 0 = .ok (.aload_n 0, 1) := by decide +kernel
theorem dX5_readBoth_1 : decode cX5_readBoth 1 = .ok (.iload_n 1, 1) := by decide +kernel
theorem dX5_readBoth_2 : decode cX5_readBoth 2 = .ok (.invokevirtual 183, 3) := by decide +kernel
theorem dX5_readBoth_5 : decode cX5_readBoth 5 = .ok (.istore_n 2, 1) := by decide +kernel
theorem dX5_readBoth_6 : decode cX5_readBoth 6 = .ok (.iconst 0, 1) := by decide +kernel
theorem dX5_readBoth_7 : decode cX5_readBoth 7 = .ok (.istore_n 3, 1) := by decide +kernel
theorem dX5_readBoth_8 : decode cX5_readBoth 8 = .ok (.iload_n 3, 1) := by decide +kernel
theorem dX5_readBoth_9 : decode cX5_readBoth 9 = .ok (.sipush 1600, 3) := by decide +kernel
theorem dX5_readBoth_12 : decode cX5_readBoth 12 = .ok (.if_icmp .ge 50, 3) := by decide +kernel
theorem dX5_readBoth_15 : decode cX5_readBoth 15 = .ok (.iload_n 2, 1) := by decide +kernel
theorem dX5_readBoth_16 : decode cX5_readBoth 16 = .ok (.ifCond .eq 46, 3) := by decide +kernel
theorem dX5_readBoth_19 : decode cX5_readBoth 19 = .ok (.aload_n 0, 1) := by decide +kernel
theorem dX5_readBoth_20 : decode cX5_readBoth 20 = .ok (.getfield 9, 3) := by decide +kernel
theorem dX5_readBoth_23 : decode cX5_readBoth 23 = .ok (.getfield 36, 3) := by decide +kernel
theorem dX5_readBoth_26 : decode cX5_readBoth 26 = .ok (.bipush 14, 2) := by decide +kernel
theorem dX5_readBoth_28 : decode cX5_readBoth 28 = .ok (.if_icmp .ne 34, 3) := by decide +kernel
theorem dX5_readBoth_31 : decode cX5_readBoth 31 = .ok (.aload_n 0, 1) := by decide +kernel
theorem dX5_readBoth_32 : decode cX5_readBoth 32 = .ok (.getfield 9, 3) := by decide +kernel
theorem dX5_readBoth_35 : decode cX5_readBoth 35 = .ok (.invokevirtual 80, 3) := by decide +kernel
theorem dX5_readBoth_38 : decode cX5_readBoth 38 = .ok (.aload_n 0, 1) := by decide +kernel
theorem dX5_readBoth_39 : decode cX5_readBoth 39 = .ok (.iload_n 1, 1) := by decide +kernel
theorem dX5_readBoth_40 : decode cX5_readBoth 40 = .ok (.invokevirtual 183, 3) := by decide +kernel
theorem dX5_readBoth_43 : decode cX5_readBoth 43 = .ok (.istore_n 2, 1) := by decide +kernel
theorem dX5_readBoth_44 : decode cX5_readBoth 44 = .ok (.aload_n 0, 1) := by decide +kernel
theorem dX5_readBoth_45 : decode cX5_readBoth 45 = .ok (.getfield 15, 3) := by decide +kernel
theorem dX5_readBoth_48 : decode cX5_readBoth 48 = .ok (.getfield 173, 3) := by decide +kernel
theorem dX5_readBoth_51 : decode cX5_readBoth 51 = .ok (.bipush (-14), 2) := by decide +kernel
theorem dX5_readBoth_53 : decode cX5_readBoth 53 = .ok (.invokevirtual 177, 3) := by decide +kernel
theorem dX5_readBoth_56 : decode cX5_readBoth 56 = .ok (.iinc 3 1, 3) := by decide +kernel
theorem dX5_readBoth_59 : decode cX5_readBoth 59 = .ok (.goto (-51), 3) := by decide +kernel
theorem dX5_readBoth_62 : decode cX5_readBoth 62 = .ok (.iload_n 2, 1) := by decide +kernel
theorem dX5_readBoth_63 : decode cX5_readBoth 63 = .ok (.ireturn, 1) := by decide +kernel
theorem wd_750 : (Cond.code ⟨"WebCourt$Reader", "readBoth", "(I)Z"⟩ prog_7_method_21_code (4 : Nat) (Option.some FieldType.boolean)) ∈ gtb := gtb_c3 161 (by decide +kernel) rfl
theorem wd_751 : (Cond.methodLink "WebCourt$Reader" (183 : Nat) ⟨"WebCourt$Reader", "readOne", "(I)Z"⟩) ∈ gtb := gtb_c3 162 (by decide +kernel) rfl
theorem wd_753 : (Cond.instanceMethod ⟨"WebCourt$Reader", "readOne", "(I)Z"⟩) ∈ gtb := gtb_c3 164 (by decide +kernel) rfl
theorem wd_19 : (Cond.selects "WebCourt$Reader" ⟨"WebCourt$Reader", "readOne", "(I)Z"⟩ ⟨"WebCourt$Reader", "readOne", "(I)Z"⟩) ∈ gtb := gtb_p 19 (by decide +kernel) rfl
theorem hd_yX5_readOne : yX5_readOne.cls = RX5 ∧ yX5_readOne.cls ≠ "java/lang/invoke/MethodHandle" ∧ yX5_readOne.cls ≠ "java/lang/invoke/VarHandle" ∧ (parseMethodDescriptor yX5_readOne.desc).map (fun d => d.parameters.length) = some 1 := by decide +kernel
set_option maxHeartbeats 4000000 in
set_option maxRecDepth 100000 in
theorem T_X5_readBoth_7 (l : Launch) (D : va_G) (cy : Nat → ClassId) (a : Nat → Nat) (u : St) (hJ : CI a u) (hW : fR u 2 = a 15)   : Mi l D cy (cW cy a) yX5_readBoth (.code yX5_readBoth cX5_readBoth 4 (some .boolean)) (rmo 10 224) [.ref (a 27), .int 7] u (fun (r : Int32) (u' : St) => (r = 0 ∨ r = 1) ∧ (CI a u') ∧ (KT u u') ∧ (fR u' 2 = a 15)) := by
  refine Mi.of (own := RX5) rfl (by decide) (Nat.le_of_ble_eq_true rfl) ?_
  have hT : KT u u := KT.rf
  intro p e s m below meth c A Q ls C hret hO hl
  obtain ⟨hx, hb, hml, hown, ht, hK, hA⟩ := id C
  have hl : lv_has ls 4 [(0, .ref (a 27)), (1, .int 7)] := hl
  refine lv_aload_n hx hb dX5_readBoth_0 rfl (lv_at hl 0 rfl) ?_
  refine lv_iload_n hx hb dX5_readBoth_1 rfl (lv_at hl 1 rfl) ?_
  refine cVi (w := cW cy a) (As := [.int 7]) (rest := []) C hO (T_X5_readOne_7 l D cy a _ (by exact hJ) (by exact hW)) (cwV 1 ht (gV wd_751 wd_753 wd_19 wd_114 wd_754) rfl rfl rfl hd_yX5_readOne ⟨Nat.le_of_ble_eq_true rfl, Nat.le_of_ble_eq_true rfl⟩) 27 rfl cW_27 rfl rfl hl.1 (Nat.le_of_ble_eq_true rfl) dX5_readBoth_2 rfl ⟨Nat.zero_le _, Nat.zero_le _⟩ (fun r1 u2 H locs hp3 hO => ?_)
  obtain ⟨hr1, hJ, hTu2, hW⟩ := hp3
  have gr1 : 0 ≤ r1.toInt ∧ r1.toInt ≤ 1 := by rcases hr1 with h | h <;> rw [h] <;> decide
  have hT : KT u u2 := KT.tr (by exact hT) hTu2
  refine lv_istore_n (lv' := [(2, .int r1), (0, .ref (a 27)), (1, .int 7)]) hx hb dX5_readBoth_5 rfl hl (by decide) rfl (fun ls hl => ?_)
  refine lv_iconst (v := 0) hx hb dX5_readBoth_6 (by decide) ?_
  refine lv_istore_n (lv' := [(3, .int 0), (2, .int r1), (0, .ref (a 27)), (1, .int 7)]) hx hb dX5_readBoth_7 rfl hl (by decide) rfl (fun ls hl => ?_)
  have LP_8_k5 : ∀ (n : Nat) (u4 : St) (H : Heap) (locs : List Loc) (ls : Array Slot) (i_k5 : Int32) (w2_k5 : Int32), Wo D A (cW cy a u4) s.heap H locs → lv_has ls 4 [(3, .int i_k5), (2, .int w2_k5), (0, .ref (a 27)), (1, .int 7)] → CI a u4 → KT u u4 → fR u4 2 = a 15 → 0 ≤ i_k5.toInt ∧ i_k5.toInt ≤ 1600 → 0 ≤ w2_k5.toInt ∧ w2_k5.toInt ≤ 1 → 1600 - i_k5.toInt < (n : Int) → W p l e (rmo 10 224) s m [.ref (a 27), .int 7].toArray below meth c H locs 0 0 Q (F0 m 8 ls []) := by
    intro n
    induction n with
    | zero =>
      intro u4 H locs ls i_k5 w2_k5 hO hl hJ hT hW iv0_k5 iv1_k5 hm_k5
      exact absurd hm_k5 (by omega)
    | succ n ih_k5 =>
      intro u4 H locs ls i_k5 w2_k5 hO hl hJ hT hW iv0_k5 iv1_k5 hm_k5
      refine lv_iload_n hx hb dX5_readBoth_8 rfl (lv_at hl 0 rfl) ?_
      refine lv_sipush (v := 1600) hx hb dX5_readBoth_9 (by decide) ?_
      refine cs_ge (tgt := 62) (X := (i_k5).toInt) (Y := 1600) hx hb dX5_readBoth_12 (by decide) rfl rfl (fun c6 => ?_) (fun c6 => ?_)
      · refine lv_iload_n hx hb dX5_readBoth_62 rfl (lv_at hl 1 rfl) ?_
        have hw2_k5 : w2_k5 = 0 ∨ w2_k5 = 1 := i_b01 rfl (by omega) (by omega)
        refine hret _ _ _ _ _ _ dX5_readBoth_63 (by rcases hw2_k5 with h | h <;> rw [h] <;> rfl) ?_ hO
        exact ⟨hw2_k5, hJ, hT, hW⟩
      · refine lv_iload_n hx hb dX5_readBoth_15 rfl (lv_at hl 1 rfl) ?_
        refine bs_eq (tgt := 62) (X := (w2_k5).toInt) hx hb dX5_readBoth_16 (by decide) rfl (fun c7 => ?_) (fun c7 => ?_)
        · refine lv_iload_n hx hb dX5_readBoth_62 rfl (lv_at hl 1 rfl) ?_
          have hw2_k5 : w2_k5 = 0 ∨ w2_k5 = 1 := i_b01 rfl (by omega) (by omega)
          refine hret _ _ _ _ _ _ dX5_readBoth_63 (by rcases hw2_k5 with h | h <;> rw [h] <;> rfl) ?_ hO
          exact ⟨hw2_k5, hJ, hT, hW⟩
        · refine lv_aload_n hx hb dX5_readBoth_19 rfl (lv_at hl 2 rfl) ?_
          refine gf_RX5_9 (v := .ref (a 1)) C hO 27 cW_27 rfl dX5_readBoth_20 ?_
          refine gf_RX5_36 (v := .int (fI u4 1 4)) C hO 1 cW_1 rfl dX5_readBoth_23 ?_
          refine lv_bipush (v := 14) hx hb dX5_readBoth_26 (by decide) ?_
          refine cs_ne (tgt := 62) (X := ((fI u4 1 4)).toInt) (Y := 14) hx hb dX5_readBoth_28 (by decide) rfl rfl (fun c8 => ?_) (fun c8 => ?_)
          · refine lv_iload_n hx hb dX5_readBoth_62 rfl (lv_at hl 1 rfl) ?_
            have hw2_k5 : w2_k5 = 0 ∨ w2_k5 = 1 := i_b01 rfl (by omega) (by omega)
            refine hret _ _ _ _ _ _ dX5_readBoth_63 (by rcases hw2_k5 with h | h <;> rw [h] <;> rfl) ?_ hO
            exact ⟨hw2_k5, hJ, hT, hW⟩
          · refine lv_aload_n hx hb dX5_readBoth_31 rfl (lv_at hl 2 rfl) ?_
            refine gf_RX5_9 (v := .ref (a 1)) C hO 27 cW_27 rfl dX5_readBoth_32 ?_
            refine cVv (w := cW cy a) (As := []) (rest := []) C hO (T_X7_advance l D cy a _ (by exact hJ) (by exact hW)) (cwV 0 ht (gV wd_695 wd_541 wd_542 wd_111 wd_543) rfl rfl rfl hd_yX7_advance ⟨Nat.le_of_ble_eq_true rfl, Nat.le_of_ble_eq_true rfl⟩) 1 rfl cW_1 rfl rfl hl.1 (Nat.le_of_ble_eq_true rfl) dX5_readBoth_35 rfl ⟨Nat.zero_le _, Nat.zero_le _⟩ (fun u10 H locs hp11 hO => ?_)
            have g12 : 0 ≤ (fI u4 15 9).toInt ∧ (fI u4 15 9).toInt ≤ 8 := by have h := CI_15_9 hJ; exact h
            have g13 : 0 ≤ (fI u4 15 10).toInt ∧ (fI u4 15 10).toInt ≤ 14 := by have h := CI_15_10 hJ; exact h
            have g14 : 0 ≤ (fI u4 15 11).toInt ∧ (fI u4 15 11).toInt ≤ 8 := by have h := CI_15_11 hJ; exact h
            have g15 : 0 ≤ (fI u4 15 12).toInt ∧ (fI u4 15 12).toInt ≤ 6 := by have h := CI_15_12 hJ; exact h
            obtain ⟨hJ, hTu10, hW⟩ := hp11
            have hT : KT u u10 := KT.tr (by exact hT) hTu10.1
            have hI_15_9_u10 : fI u10 15 9 = (fI u4 15 9) := hTu10.2.1
            have hI_15_10_u10 : fI u10 15 10 = (fI u4 15 10) := hTu10.2.2.1
            have hI_15_11_u10 : fI u10 15 11 = (fI u4 15 11) := hTu10.2.2.2.1
            have hI_15_12_u10 : fI u10 15 12 = (fI u4 15 12) := hTu10.2.2.2.2
            refine lv_aload_n hx hb dX5_readBoth_38 rfl (lv_at hl 2 rfl) ?_
            refine lv_iload_n hx hb dX5_readBoth_39 rfl (lv_at hl 3 rfl) ?_
            refine cVi (w := cW cy a) (As := [.int 7]) (rest := []) C hO (T_X5_readOne_7 l D cy a _ (by exact hJ) (by exact hW)) (cwV 1 ht (gV wd_751 wd_753 wd_19 wd_114 wd_754) rfl rfl rfl hd_yX5_readOne ⟨Nat.le_of_ble_eq_true rfl, Nat.le_of_ble_eq_true rfl⟩) 27 rfl cW_27 rfl rfl hl.1 (Nat.le_of_ble_eq_true rfl) dX5_readBoth_40 rfl ⟨Nat.zero_le _, Nat.zero_le _⟩ (fun r16 u17 H locs hp18 hO => ?_)
            obtain ⟨hr16, hJ, hTu17, hW⟩ := hp18
            have gr16 : 0 ≤ r16.toInt ∧ r16.toInt ≤ 1 := by rcases hr16 with h | h <;> rw [h] <;> decide
            have hT : KT u u17 := KT.tr (by exact hT) hTu17
            refine lv_istore_n (lv' := [(2, .int r16), (3, .int i_k5), (0, .ref (a 27)), (1, .int 7)]) hx hb dX5_readBoth_43 rfl hl (by decide) rfl (fun ls hl => ?_)
            refine lv_aload_n hx hb dX5_readBoth_44 rfl (lv_at hl 2 rfl) ?_
            refine gf_RX5_15 (v := .ref (a 15)) C hO 27 cW_27 (congrArg (fun z : Nat => some (Value.ref z)) hW) dX5_readBoth_45 ?_
            refine gf_RX5_173 (v := .ref (a 24)) C hO 15 cW_15 rfl dX5_readBoth_48 ?_
            refine lv_bipush (v := (-14)) hx hb dX5_readBoth_51 (by decide) ?_
            refine cVv (w := cW cy a) (As := [.int (-14)]) (rest := []) C hO (T_X4_add l D cy a _ (by exact hJ) (by exact hW) ((-14))) (cwV 1 ht (gV wd_759 wd_760 wd_761 wd_113 wd_762) rfl rfl rfl hd_yX4_add ⟨Nat.le_of_ble_eq_true rfl, Nat.le_of_ble_eq_true rfl⟩) 24 rfl cW_24 rfl rfl hl.1 (Nat.le_of_ble_eq_true rfl) dX5_readBoth_53 rfl ⟨Nat.zero_le _, Nat.zero_le _⟩ (fun u20 H locs hp21 hO => ?_)
            have g22 : 0 ≤ (fI u17 15 9).toInt ∧ (fI u17 15 9).toInt ≤ 8 := by have h := CI_15_9 hJ; exact h
            have g23 : 0 ≤ (fI u17 15 10).toInt ∧ (fI u17 15 10).toInt ≤ 14 := by have h := CI_15_10 hJ; exact h
            have g24 : 0 ≤ (fI u17 15 11).toInt ∧ (fI u17 15 11).toInt ≤ 8 := by have h := CI_15_11 hJ; exact h
            have g25 : 0 ≤ (fI u17 15 12).toInt ∧ (fI u17 15 12).toInt ≤ 6 := by have h := CI_15_12 hJ; exact h
            obtain ⟨hJ, hTu20, hW⟩ := hp21
            have hT : KT u u20 := KT.tr (by exact hT) hTu20.1
            have hI_15_9_u20 : fI u20 15 9 = (fI u17 15 9) := hTu20.2.1
            have hI_15_10_u20 : fI u20 15 10 = (fI u17 15 10) := hTu20.2.2.1
            have hI_15_11_u20 : fI u20 15 11 = (fI u17 15 11) := hTu20.2.2.2.1
            have hI_15_12_u20 : fI u20 15 12 = (fI u17 15 12) := hTu20.2.2.2.2
            have e26 : ((i_k5 + 1)).toInt = (i_k5).toInt + 1 := i_add rfl rfl (by omega)
            refine lv_iinc (v := (i_k5 + 1)) (lv' := [(3, .int (i_k5 + 1)), (2, .int r16), (0, .ref (a 27)), (1, .int 7)]) hx hb dX5_readBoth_56 hl (k := 1) rfl rfl (by decide) rfl (fun ls hl => ?_)
            refine lv_goto (tgt := 8) hx hb dX5_readBoth_59 (by decide) ?_
            exact ih_k5 _ _ _ _ ((i_k5 + 1)) (r16) hO (lv_sub hl [0, 1, 2, 3] rfl) (by exact hJ) (by exact hT) (by exact hW) (by first | decide | omega) (by first | decide | omega) (by first | decide | omega)
  exact LP_8_k5 4000 _ _ _ _ (0) (r1) hO (lv_sub hl [0, 1, 2, 3] rfl) (by exact hJ) (by exact hT) (by exact hW) (by first | decide | omega) (by first | decide | omega) (by first | decide | omega)
theorem dX5_readFormula_0 : decode cX5_readFormula 0 = .ok (.aload_n 0, 1) := by decide +kernel
theorem dX5_readFormula_1 : decode cX5_readFormula 1 = .ok (.iload_n 1, 1) := by decide +kernel
theorem dX5_readFormula_2 : decode cX5_readFormula 2 = .ok (.invokevirtual 170, 3) := by decide +kernel
theorem dX5_readFormula_5 : decode cX5_readFormula 5 = .ok (.istore_n 2, 1) := by decide +kernel
theorem dX5_readFormula_6 : decode cX5_readFormula 6 = .ok (.iconst 0, 1) := by decide +kernel
theorem dX5_readFormula_7 : decode cX5_readFormula 7 = .ok (.istore_n 3, 1) := by decide +kernel
theorem dX5_readFormula_8 : decode cX5_readFormula 8 = .ok (.iload_n 3, 1) := by decide +kernel
theorem dX5_readFormula_9 : decode cX5_readFormula 9 = .ok (.sipush 1600, 3) := by decide +kernel
theorem dX5_readFormula_12 : decode cX5_readFormula 12 = .ok (.if_icmp .ge 50, 3) := by decide +kernel
theorem dX5_readFormula_15 : decode cX5_readFormula 15 = .ok (.iload_n 2, 1) := by decide +kernel
theorem dX5_readFormula_16 : decode cX5_readFormula 16 = .ok (.ifCond .eq 46, 3) := by decide +kernel
theorem dX5_readFormula_19 : decode cX5_readFormula 19 = .ok (.aload_n 0, 1) := by decide +kernel
theorem dX5_readFormula_20 : decode cX5_readFormula 20 = .ok (.getfield 9, 3) := by decide +kernel
theorem dX5_readFormula_23 : decode cX5_readFormula 23 = .ok (.getfield 36, 3) := by decide +kernel
theorem dX5_readFormula_26 : decode cX5_readFormula 26 = .ok (.bipush 13, 2) := by decide +kernel
theorem dX5_readFormula_28 : decode cX5_readFormula 28 = .ok (.if_icmp .ne 34, 3) := by decide +kernel
theorem dX5_readFormula_31 : decode cX5_readFormula 31 = .ok (.aload_n 0, 1) := by decide +kernel
theorem dX5_readFormula_32 : decode cX5_readFormula 32 = .ok (.getfield 9, 3) := by decide +kernel
theorem dX5_readFormula_35 : decode cX5_readFormula 35 = .ok (.invokevirtual 80, 3) := by decide +kernel
theorem dX5_readFormula_38 : decode cX5_readFormula 38 = .ok (.aload_n 0, 1) := by decide +kernel
theorem dX5_readFormula_39 : decode cX5_readFormula 39 = .ok (.iload_n 1, 1) := by decide +kernel
theorem dX5_readFormula_40 : decode cX5_readFormula 40 = .ok (.invokevirtual 170, 3) := by decide +kernel
theorem dX5_readFormula_43 : decode cX5_readFormula 43 = .ok (.istore_n 2, 1) := by decide +kernel
theorem dX5_readFormula_44 : decode cX5_readFormula 44 = .ok (.aload_n 0, 1) := by decide +kernel
theorem dX5_readFormula_45 : decode cX5_readFormula 45 = .ok (.getfield 15, 3) := by decide +kernel
theorem dX5_readFormula_48 : decode cX5_readFormula 48 = .ok (.getfield 173, 3) := by decide +kernel
theorem dX5_readFormula_51 : decode cX5_readFormula 51 = .ok (.bipush (-13), 2) := by decide +kernel
theorem dX5_readFormula_53 : decode cX5_readFormula 53 = .ok (.invokevirtual 177, 3) := by decide +kernel
theorem dX5_readFormula_56 : decode cX5_readFormula 56 = .ok (.iinc 3 1, 3) := by decide +kernel
theorem dX5_readFormula_59 : decode cX5_readFormula 59 = .ok (.goto (-51), 3) := by decide +kernel
theorem dX5_readFormula_62 : decode cX5_readFormula 62 = .ok (.iload_n 2, 1) := by decide +kernel
theorem dX5_readFormula_63 : decode cX5_readFormula 63 = .ok (.ireturn, 1) := by decide +kernel
theorem wd_746 : (Cond.code ⟨"WebCourt$Reader", "readFormula", "(I)Z"⟩ prog_7_method_20_code (4 : Nat) (Option.some FieldType.boolean)) ∈ gtb := gtb_c3 157 (by decide +kernel) rfl
theorem wd_747 : (Cond.methodLink "WebCourt$Reader" (170 : Nat) ⟨"WebCourt$Reader", "readBoth", "(I)Z"⟩) ∈ gtb := gtb_c3 158 (by decide +kernel) rfl
theorem wd_749 : (Cond.instanceMethod ⟨"WebCourt$Reader", "readBoth", "(I)Z"⟩) ∈ gtb := gtb_c3 160 (by decide +kernel) rfl
theorem wd_18 : (Cond.selects "WebCourt$Reader" ⟨"WebCourt$Reader", "readBoth", "(I)Z"⟩ ⟨"WebCourt$Reader", "readBoth", "(I)Z"⟩) ∈ gtb := gtb_p 18 (by decide +kernel) rfl
theorem hd_yX5_readBoth : yX5_readBoth.cls = RX5 ∧ yX5_readBoth.cls ≠ "java/lang/invoke/MethodHandle" ∧ yX5_readBoth.cls ≠ "java/lang/invoke/VarHandle" ∧ (parseMethodDescriptor yX5_readBoth.desc).map (fun d => d.parameters.length) = some 1 := by decide +kernel
set_option maxHeartbeats 4000000 in
set_option maxRecDepth 100000 in
theorem T_X5_readFormula_7 (l : Launch) (D : va_G) (cy : Nat → ClassId) (a : Nat → Nat) (u : St) (hJ : CI a u) (hW : fR u 2 = a 15)   : Mi l D cy (cW cy a) yX5_readFormula (.code yX5_readFormula cX5_readFormula 4 (some .boolean)) (rmo 11 247) [.ref (a 27), .int 7] u (fun (r : Int32) (u' : St) => (r = 0 ∨ r = 1) ∧ (CI a u') ∧ (KT u u') ∧ (fR u' 2 = a 15)) := by
  refine Mi.of (own := RX5) rfl (by decide) (Nat.le_of_ble_eq_true rfl) ?_
  have hT : KT u u := KT.rf
  intro p e s m below meth c A Q ls C hret hO hl
  obtain ⟨hx, hb, hml, hown, ht, hK, hA⟩ := id C
  have hl : lv_has ls 4 [(0, .ref (a 27)), (1, .int 7)] := hl
  refine lv_aload_n hx hb dX5_readFormula_0 rfl (lv_at hl 0 rfl) ?_
  refine lv_iload_n hx hb dX5_readFormula_1 rfl (lv_at hl 1 rfl) ?_
  refine cVi (w := cW cy a) (As := [.int 7]) (rest := []) C hO (T_X5_readBoth_7 l D cy a _ (by exact hJ) (by exact hW)) (cwV 1 ht (gV wd_747 wd_749 wd_18 wd_114 wd_750) rfl rfl rfl hd_yX5_readBoth ⟨Nat.le_of_ble_eq_true rfl, Nat.le_of_ble_eq_true rfl⟩) 27 rfl cW_27 rfl rfl hl.1 (Nat.le_of_ble_eq_true rfl) dX5_readFormula_2 rfl ⟨Nat.zero_le _, Nat.zero_le _⟩ (fun r1 u2 H locs hp3 hO => ?_)
  obtain ⟨hr1, hJ, hTu2, hW⟩ := hp3
  have gr1 : 0 ≤ r1.toInt ∧ r1.toInt ≤ 1 := by rcases hr1 with h | h <;> rw [h] <;> decide
  have hT : KT u u2 := KT.tr (by exact hT) hTu2
  refine lv_istore_n (lv' := [(2, .int r1), (0, .ref (a 27)), (1, .int 7)]) hx hb dX5_readFormula_5 rfl hl (by decide) rfl (fun ls hl => ?_)
  refine lv_iconst (v := 0) hx hb dX5_readFormula_6 (by decide) ?_
  refine lv_istore_n (lv' := [(3, .int 0), (2, .int r1), (0, .ref (a 27)), (1, .int 7)]) hx hb dX5_readFormula_7 rfl hl (by decide) rfl (fun ls hl => ?_)
  have LP_8_k5 : ∀ (n : Nat) (u4 : St) (H : Heap) (locs : List Loc) (ls : Array Slot) (i_k5 : Int32) (w2_k5 : Int32), Wo D A (cW cy a u4) s.heap H locs → lv_has ls 4 [(3, .int i_k5), (2, .int w2_k5), (0, .ref (a 27)), (1, .int 7)] → CI a u4 → KT u u4 → fR u4 2 = a 15 → 0 ≤ i_k5.toInt ∧ i_k5.toInt ≤ 1600 → 0 ≤ w2_k5.toInt ∧ w2_k5.toInt ≤ 1 → 1600 - i_k5.toInt < (n : Int) → W p l e (rmo 11 247) s m [.ref (a 27), .int 7].toArray below meth c H locs 0 0 Q (F0 m 8 ls []) := by
    intro n
    induction n with
    | zero =>
      intro u4 H locs ls i_k5 w2_k5 hO hl hJ hT hW iv0_k5 iv1_k5 hm_k5
      exact absurd hm_k5 (by omega)
    | succ n ih_k5 =>
      intro u4 H locs ls i_k5 w2_k5 hO hl hJ hT hW iv0_k5 iv1_k5 hm_k5
      refine lv_iload_n hx hb dX5_readFormula_8 rfl (lv_at hl 0 rfl) ?_
      refine lv_sipush (v := 1600) hx hb dX5_readFormula_9 (by decide) ?_
      refine cs_ge (tgt := 62) (X := (i_k5).toInt) (Y := 1600) hx hb dX5_readFormula_12 (by decide) rfl rfl (fun c6 => ?_) (fun c6 => ?_)
      · refine lv_iload_n hx hb dX5_readFormula_62 rfl (lv_at hl 1 rfl) ?_
        have hw2_k5 : w2_k5 = 0 ∨ w2_k5 = 1 := i_b01 rfl (by omega) (by omega)
        refine hret _ _ _ _ _ _ dX5_readFormula_63 (by rcases hw2_k5 with h | h <;> rw [h] <;> rfl) ?_ hO
        exact ⟨hw2_k5, hJ, hT, hW⟩
      · refine lv_iload_n hx hb dX5_readFormula_15 rfl (lv_at hl 1 rfl) ?_
        refine bs_eq (tgt := 62) (X := (w2_k5).toInt) hx hb dX5_readFormula_16 (by decide) rfl (fun c7 => ?_) (fun c7 => ?_)
        · refine lv_iload_n hx hb dX5_readFormula_62 rfl (lv_at hl 1 rfl) ?_
          have hw2_k5 : w2_k5 = 0 ∨ w2_k5 = 1 := i_b01 rfl (by omega) (by omega)
          refine hret _ _ _ _ _ _ dX5_readFormula_63 (by rcases hw2_k5 with h | h <;> rw [h] <;> rfl) ?_ hO
          exact ⟨hw2_k5, hJ, hT, hW⟩
        · refine lv_aload_n hx hb dX5_readFormula_19 rfl (lv_at hl 2 rfl) ?_
          refine gf_RX5_9 (v := .ref (a 1)) C hO 27 cW_27 rfl dX5_readFormula_20 ?_
          refine gf_RX5_36 (v := .int (fI u4 1 4)) C hO 1 cW_1 rfl dX5_readFormula_23 ?_
          refine lv_bipush (v := 13) hx hb dX5_readFormula_26 (by decide) ?_
          refine cs_ne (tgt := 62) (X := ((fI u4 1 4)).toInt) (Y := 13) hx hb dX5_readFormula_28 (by decide) rfl rfl (fun c8 => ?_) (fun c8 => ?_)
          · refine lv_iload_n hx hb dX5_readFormula_62 rfl (lv_at hl 1 rfl) ?_
            have hw2_k5 : w2_k5 = 0 ∨ w2_k5 = 1 := i_b01 rfl (by omega) (by omega)
            refine hret _ _ _ _ _ _ dX5_readFormula_63 (by rcases hw2_k5 with h | h <;> rw [h] <;> rfl) ?_ hO
            exact ⟨hw2_k5, hJ, hT, hW⟩
          · refine lv_aload_n hx hb dX5_readFormula_31 rfl (lv_at hl 2 rfl) ?_
            refine gf_RX5_9 (v := .ref (a 1)) C hO 27 cW_27 rfl dX5_readFormula_32 ?_
            refine cVv (w := cW cy a) (As := []) (rest := []) C hO (T_X7_advance l D cy a _ (by exact hJ) (by exact hW)) (cwV 0 ht (gV wd_695 wd_541 wd_542 wd_111 wd_543) rfl rfl rfl hd_yX7_advance ⟨Nat.le_of_ble_eq_true rfl, Nat.le_of_ble_eq_true rfl⟩) 1 rfl cW_1 rfl rfl hl.1 (Nat.le_of_ble_eq_true rfl) dX5_readFormula_35 rfl ⟨Nat.zero_le _, Nat.zero_le _⟩ (fun u10 H locs hp11 hO => ?_)
            have g12 : 0 ≤ (fI u4 15 9).toInt ∧ (fI u4 15 9).toInt ≤ 8 := by have h := CI_15_9 hJ; exact h
            have g13 : 0 ≤ (fI u4 15 10).toInt ∧ (fI u4 15 10).toInt ≤ 14 := by have h := CI_15_10 hJ; exact h
            have g14 : 0 ≤ (fI u4 15 11).toInt ∧ (fI u4 15 11).toInt ≤ 8 := by have h := CI_15_11 hJ; exact h
            have g15 : 0 ≤ (fI u4 15 12).toInt ∧ (fI u4 15 12).toInt ≤ 6 := by have h := CI_15_12 hJ; exact h
            obtain ⟨hJ, hTu10, hW⟩ := hp11
            have hT : KT u u10 := KT.tr (by exact hT) hTu10.1
            have hI_15_9_u10 : fI u10 15 9 = (fI u4 15 9) := hTu10.2.1
            have hI_15_10_u10 : fI u10 15 10 = (fI u4 15 10) := hTu10.2.2.1
            have hI_15_11_u10 : fI u10 15 11 = (fI u4 15 11) := hTu10.2.2.2.1
            have hI_15_12_u10 : fI u10 15 12 = (fI u4 15 12) := hTu10.2.2.2.2
            refine lv_aload_n hx hb dX5_readFormula_38 rfl (lv_at hl 2 rfl) ?_
            refine lv_iload_n hx hb dX5_readFormula_39 rfl (lv_at hl 3 rfl) ?_
            refine cVi (w := cW cy a) (As := [.int 7]) (rest := []) C hO (T_X5_readBoth_7 l D cy a _ (by exact hJ) (by exact hW)) (cwV 1 ht (gV wd_747 wd_749 wd_18 wd_114 wd_750) rfl rfl rfl hd_yX5_readBoth ⟨Nat.le_of_ble_eq_true rfl, Nat.le_of_ble_eq_true rfl⟩) 27 rfl cW_27 rfl rfl hl.1 (Nat.le_of_ble_eq_true rfl) dX5_readFormula_40 rfl ⟨Nat.zero_le _, Nat.zero_le _⟩ (fun r16 u17 H locs hp18 hO => ?_)
            obtain ⟨hr16, hJ, hTu17, hW⟩ := hp18
            have gr16 : 0 ≤ r16.toInt ∧ r16.toInt ≤ 1 := by rcases hr16 with h | h <;> rw [h] <;> decide
            have hT : KT u u17 := KT.tr (by exact hT) hTu17
            refine lv_istore_n (lv' := [(2, .int r16), (3, .int i_k5), (0, .ref (a 27)), (1, .int 7)]) hx hb dX5_readFormula_43 rfl hl (by decide) rfl (fun ls hl => ?_)
            refine lv_aload_n hx hb dX5_readFormula_44 rfl (lv_at hl 2 rfl) ?_
            refine gf_RX5_15 (v := .ref (a 15)) C hO 27 cW_27 (congrArg (fun z : Nat => some (Value.ref z)) hW) dX5_readFormula_45 ?_
            refine gf_RX5_173 (v := .ref (a 24)) C hO 15 cW_15 rfl dX5_readFormula_48 ?_
            refine lv_bipush (v := (-13)) hx hb dX5_readFormula_51 (by decide) ?_
            refine cVv (w := cW cy a) (As := [.int (-13)]) (rest := []) C hO (T_X4_add l D cy a _ (by exact hJ) (by exact hW) ((-13))) (cwV 1 ht (gV wd_759 wd_760 wd_761 wd_113 wd_762) rfl rfl rfl hd_yX4_add ⟨Nat.le_of_ble_eq_true rfl, Nat.le_of_ble_eq_true rfl⟩) 24 rfl cW_24 rfl rfl hl.1 (Nat.le_of_ble_eq_true rfl) dX5_readFormula_53 rfl ⟨Nat.zero_le _, Nat.zero_le _⟩ (fun u20 H locs hp21 hO => ?_)
            have g22 : 0 ≤ (fI u17 15 9).toInt ∧ (fI u17 15 9).toInt ≤ 8 := by have h := CI_15_9 hJ; exact h
            have g23 : 0 ≤ (fI u17 15 10).toInt ∧ (fI u17 15 10).toInt ≤ 14 := by have h := CI_15_10 hJ; exact h
            have g24 : 0 ≤ (fI u17 15 11).toInt ∧ (fI u17 15 11).toInt ≤ 8 := by have h := CI_15_11 hJ; exact h
            have g25 : 0 ≤ (fI u17 15 12).toInt ∧ (fI u17 15 12).toInt ≤ 6 := by have h := CI_15_12 hJ; exact h
            obtain ⟨hJ, hTu20, hW⟩ := hp21
            have hT : KT u u20 := KT.tr (by exact hT) hTu20.1
            have hI_15_9_u20 : fI u20 15 9 = (fI u17 15 9) := hTu20.2.1
            have hI_15_10_u20 : fI u20 15 10 = (fI u17 15 10) := hTu20.2.2.1
            have hI_15_11_u20 : fI u20 15 11 = (fI u17 15 11) := hTu20.2.2.2.1
            have hI_15_12_u20 : fI u20 15 12 = (fI u17 15 12) := hTu20.2.2.2.2
            have e26 : ((i_k5 + 1)).toInt = (i_k5).toInt + 1 := i_add rfl rfl (by omega)
            refine lv_iinc (v := (i_k5 + 1)) (lv' := [(3, .int (i_k5 + 1)), (2, .int r16), (0, .ref (a 27)), (1, .int 7)]) hx hb dX5_readFormula_56 hl (k := 1) rfl rfl (by decide) rfl (fun ls hl => ?_)
            refine lv_goto (tgt := 8) hx hb dX5_readFormula_59 (by decide) ?_
            exact ih_k5 _ _ _ _ ((i_k5 + 1)) (r16) hO (lv_sub hl [0, 1, 2, 3] rfl) (by exact hJ) (by exact hT) (by exact hW) (by first | decide | omega) (by first | decide | omega) (by first | decide | omega)
  exact LP_8_k5 4000 _ _ _ _ (0) (r1) hO (lv_sub hl [0, 1, 2, 3] rfl) (by exact hJ) (by exact hT) (by exact hW) (by first | decide | omega) (by first | decide | omega) (by first | decide | omega)
theorem wd_743 : (Cond.methodLink "WebCourt$Reader" (65 : Nat) ⟨"WebCourt$Reader", "readFormula", "(I)Z"⟩) ∈ gtb := gtb_c3 154 (by decide +kernel) rfl
theorem wd_745 : (Cond.instanceMethod ⟨"WebCourt$Reader", "readFormula", "(I)Z"⟩) ∈ gtb := gtb_c3 156 (by decide +kernel) rfl
theorem wd_17 : (Cond.selects "WebCourt$Reader" ⟨"WebCourt$Reader", "readFormula", "(I)Z"⟩ ⟨"WebCourt$Reader", "readFormula", "(I)Z"⟩) ∈ gtb := gtb_p 17 (by decide +kernel) rfl
theorem hd_yX5_readFormula : yX5_readFormula.cls = RX5 ∧ yX5_readFormula.cls ≠ "java/lang/invoke/MethodHandle" ∧ yX5_readFormula.cls ≠ "java/lang/invoke/VarHandle" ∧ (parseMethodDescriptor yX5_readFormula.desc).map (fun d => d.parameters.length) = some 1 := by decide +kernel
set_option maxHeartbeats 4000000 in
set_option maxRecDepth 100000 in
theorem T_X5_readInner_6 (l : Launch) (D : va_G) (cy : Nat → ClassId) (a : Nat → Nat) (u : St) (hJ : CI a u) (hW : fR u 2 = a 15)   : Mi l D cy (cW cy a) yX5_readInner (.code yX5_readInner cX5_readInner 2 (some .boolean)) (rmo 12 270) [.ref (a 27), .int 6] u (fun (r : Int32) (u' : St) => (r = 0 ∨ r = 1) ∧ (CI a u') ∧ (KT u u') ∧ (fR u' 2 = a 15)) := by
  refine Mi.of (own := RX5) rfl (by decide) (Nat.le_of_ble_eq_true rfl) ?_
  have hT : KT u u := KT.rf
  intro p e s m below meth c A Q ls C hret hO hl
  obtain ⟨hx, hb, hml, hown, ht, hK, hA⟩ := id C
  have hl : lv_has ls 2 [(0, .ref (a 27)), (1, .int 6)] := hl
  refine lv_iload_n hx hb dX5_readInner_0 rfl (lv_at hl 1 rfl) ?_
  refine lv_bipush (v := 6) hx hb dX5_readInner_1 (by decide) ?_
  refine ct_le (tgt := 12) (X := 6) (Y := 6) hx hb dX5_readInner_3 (by decide) rfl rfl (by omega) ?_
  refine lv_aload_n hx hb dX5_readInner_12 rfl (lv_at hl 0 rfl) ?_
  refine gf_RX5_9 (v := .ref (a 1)) C hO 27 cW_27 rfl dX5_readInner_13 ?_
  refine cVv (w := cW cy a) (As := []) (rest := []) C hO (T_X7_advance l D cy a _ (by exact hJ) (by exact hW)) (cwV 0 ht (gV wd_695 wd_541 wd_542 wd_111 wd_543) rfl rfl rfl hd_yX7_advance ⟨Nat.le_of_ble_eq_true rfl, Nat.le_of_ble_eq_true rfl⟩) 1 rfl cW_1 rfl rfl hl.1 (Nat.le_of_ble_eq_true rfl) dX5_readInner_16 rfl ⟨Nat.zero_le _, Nat.zero_le _⟩ (fun u2 H locs hp3 hO => ?_)
  have g4 : 0 ≤ (fI u 15 9).toInt ∧ (fI u 15 9).toInt ≤ 8 := by have h := CI_15_9 hJ; exact h
  have g5 : 0 ≤ (fI u 15 10).toInt ∧ (fI u 15 10).toInt ≤ 14 := by have h := CI_15_10 hJ; exact h
  have g6 : 0 ≤ (fI u 15 11).toInt ∧ (fI u 15 11).toInt ≤ 8 := by have h := CI_15_11 hJ; exact h
  have g7 : 0 ≤ (fI u 15 12).toInt ∧ (fI u 15 12).toInt ≤ 6 := by have h := CI_15_12 hJ; exact h
  obtain ⟨hJ, hTu2, hW⟩ := hp3
  have hT : KT u u2 := KT.tr (by exact hT) hTu2.1
  have hI_15_9_u2 : fI u2 15 9 = (fI u 15 9) := hTu2.2.1
  have hI_15_10_u2 : fI u2 15 10 = (fI u 15 10) := hTu2.2.2.1
  have hI_15_11_u2 : fI u2 15 11 = (fI u 15 11) := hTu2.2.2.2.1
  have hI_15_12_u2 : fI u2 15 12 = (fI u 15 12) := hTu2.2.2.2.2
  refine lv_aload_n hx hb dX5_readInner_19 rfl (lv_at hl 0 rfl) ?_
  refine lv_iload_n hx hb dX5_readInner_20 rfl (lv_at hl 1 rfl) ?_
  refine lv_iconst (v := 1) hx hb dX5_readInner_21 (by decide) ?_
  refine lv_iadd hx hb dX5_readInner_22 ?_
  refine tE (y := 7) rfl ?_
  refine cVi (w := cW cy a) (As := [.int 7]) (rest := []) C hO (T_X5_readFormula_7 l D cy a _ (by exact hJ) (by exact hW)) (cwV 1 ht (gV wd_743 wd_745 wd_17 wd_114 wd_746) rfl rfl rfl hd_yX5_readFormula ⟨Nat.le_of_ble_eq_true rfl, Nat.le_of_ble_eq_true rfl⟩) 27 rfl cW_27 rfl rfl hl.1 (Nat.le_of_ble_eq_true rfl) dX5_readInner_23 rfl ⟨Nat.zero_le _, Nat.zero_le _⟩ (fun r8 u9 H locs hp10 hO => ?_)
  obtain ⟨hr8, hJ, hTu9, hW⟩ := hp10
  have gr8 : 0 ≤ r8.toInt ∧ r8.toInt ≤ 1 := by rcases hr8 with h | h <;> rw [h] <;> decide
  have hT : KT u u9 := KT.tr (by exact hT) hTu9
  refine bs_eq (tgt := 42) (X := (r8).toInt) hx hb dX5_readInner_26 (by decide) rfl (fun c11 => ?_) (fun c11 => ?_)
  · refine lv_iconst (v := 0) hx hb dX5_readInner_42 (by decide) ?_
    refine hret _ _ _ _ _ _ dX5_readInner_43 rfl ?_ hO
    exact ⟨Or.inl rfl, hJ, hT, hW⟩
  · refine lv_aload_n hx hb dX5_readInner_29 rfl (lv_at hl 0 rfl) ?_
    refine lv_bipush (v := 41) hx hb dX5_readInner_30 (by decide) ?_
    refine cVi (w := cW cy a) (As := [.int 41]) (rest := []) C hO (T_X5_skip l D cy a _ (by exact hJ) (by exact hW) (41)) (cwV 1 ht (gV wd_719 wd_721 wd_11 wd_114 wd_722) rfl rfl rfl hd_yX5_skip ⟨Nat.le_of_ble_eq_true rfl, Nat.le_of_ble_eq_true rfl⟩) 27 rfl cW_27 rfl rfl hl.1 (Nat.le_of_ble_eq_true rfl) dX5_readInner_32 rfl ⟨Nat.zero_le _, Nat.zero_le _⟩ (fun r12 u13 H locs hp14 hO => ?_)
    have g15 : 0 ≤ (fI u9 15 9).toInt ∧ (fI u9 15 9).toInt ≤ 8 := by have h := CI_15_9 hJ; exact h
    have g16 : 0 ≤ (fI u9 15 10).toInt ∧ (fI u9 15 10).toInt ≤ 14 := by have h := CI_15_10 hJ; exact h
    have g17 : 0 ≤ (fI u9 15 11).toInt ∧ (fI u9 15 11).toInt ≤ 8 := by have h := CI_15_11 hJ; exact h
    have g18 : 0 ≤ (fI u9 15 12).toInt ∧ (fI u9 15 12).toInt ≤ 6 := by have h := CI_15_12 hJ; exact h
    obtain ⟨hr12, hJ, hTu13, hW⟩ := hp14
    have gr12 : 0 ≤ r12.toInt ∧ r12.toInt ≤ 1 := by rcases hr12 with h | h <;> rw [h] <;> decide
    have hT : KT u u13 := KT.tr (by exact hT) hTu13.1
    have hI_15_9_u13 : fI u13 15 9 = (fI u9 15 9) := hTu13.2.1
    have hI_15_10_u13 : fI u13 15 10 = (fI u9 15 10) := hTu13.2.2.1
    have hI_15_11_u13 : fI u13 15 11 = (fI u9 15 11) := hTu13.2.2.2.1
    have hI_15_12_u13 : fI u13 15 12 = (fI u9 15 12) := hTu13.2.2.2.2
    refine bs_eq (tgt := 42) (X := (r12).toInt) hx hb dX5_readInner_35 (by decide) rfl (fun c19 => ?_) (fun c19 => ?_)
    · refine lv_iconst (v := 0) hx hb dX5_readInner_42 (by decide) ?_
      refine hret _ _ _ _ _ _ dX5_readInner_43 rfl ?_ hO
      exact ⟨Or.inl rfl, hJ, hT, hW⟩
    · refine lv_iconst (v := 1) hx hb dX5_readInner_38 (by decide) ?_
      refine lv_goto (tgt := 43) hx hb dX5_readInner_39 (by decide) ?_
      refine hret _ _ _ _ _ _ dX5_readInner_43 rfl ?_ hO
      exact ⟨Or.inr rfl, hJ, hT, hW⟩
set_option maxHeartbeats 4000000 in
set_option maxRecDepth 100000 in
theorem T_X5_readUnit_6 (l : Launch) (D : va_G) (cy : Nat → ClassId) (a : Nat → Nat) (u : St) (hJ : CI a u) (hW : fR u 2 = a 15)   : Mi l D cy (cW cy a) yX5_readUnit (.code yX5_readUnit cX5_readUnit 3 (some .boolean)) (rmo 13 291) [.ref (a 27), .int 6] u (fun (r : Int32) (u' : St) => (r = 0 ∨ r = 1) ∧ (CI a u') ∧ (KT u u') ∧ (fR u' 2 = a 15)) := by
  refine Mi.of (own := RX5) rfl (by decide) (Nat.le_of_ble_eq_true rfl) ?_
  have hT : KT u u := KT.rf
  intro p e s m below meth c A Q ls C hret hO hl
  obtain ⟨hx, hb, hml, hown, ht, hK, hA⟩ := id C
  have hl : lv_has ls 3 [(0, .ref (a 27)), (1, .int 6)] := hl
  refine lv_aload_n hx hb dX5_readUnit_0 rfl (lv_at hl 0 rfl) ?_
  refine gf_RX5_9 (v := .ref (a 1)) C hO 27 cW_27 rfl dX5_readUnit_1 ?_
  refine gf_RX5_36 (v := .int (fI u 1 4)) C hO 1 cW_1 rfl dX5_readUnit_4 ?_
  refine lv_istore_n (lv' := [(2, .int (fI u 1 4)), (0, .ref (a 27)), (1, .int 6)]) hx hb dX5_readUnit_7 rfl hl (by decide) rfl (fun ls hl => ?_)
  refine lv_aload_n hx hb dX5_readUnit_8 rfl (lv_at hl 1 rfl) ?_
  refine gf_RX5_15 (v := .ref (a 15)) C hO 27 cW_27 (congrArg (fun z : Nat => some (Value.ref z)) hW) dX5_readUnit_9 ?_
  refine gf_RX5_173 (v := .ref (a 24)) C hO 15 cW_15 rfl dX5_readUnit_12 ?_
  refine cVi (w := cW cy a) (As := []) (rest := []) C hO (T_X4_isFull l D cy a _ (by exact hJ)) (cwV 0 ht (gV wd_775 wd_776 wd_777 wd_113 wd_778) rfl rfl rfl hd_yX4_isFull ⟨Nat.le_of_ble_eq_true rfl, Nat.le_of_ble_eq_true rfl⟩) 24 rfl cW_24 rfl rfl hl.1 (Nat.le_of_ble_eq_true rfl) dX5_readUnit_15 rfl ⟨Nat.zero_le _, Nat.zero_le _⟩ (fun r1 u2 H locs hp3 hO => ?_)
  obtain ⟨hr1, hu2⟩ := hp3
  have gr1 : 0 ≤ r1.toInt ∧ r1.toInt ≤ 1 := by rcases hr1 with h | h <;> rw [h] <;> decide
  rw [hu2] at hO
  refine bs_ne (tgt := 41) (X := (r1).toInt) hx hb dX5_readUnit_18 (by decide) rfl (fun c4 => ?_) (fun c4 => ?_)
  · refine lv_aload_n hx hb dX5_readUnit_41 rfl (lv_at hl 1 rfl) ?_
    refine lv_iconst (v := 2) hx hb dX5_readUnit_42 (by decide) ?_
    refine cVi (w := cW cy a) (As := [.int 2]) (rest := []) C hO (T_X5_refuse l D cy a _ (by exact hJ) (by exact hW) (2)) (cwV 1 ht (gV wd_691 wd_693 wd_6 wd_114 wd_694) rfl rfl rfl hd_yX5_refuse ⟨Nat.le_of_ble_eq_true rfl, Nat.le_of_ble_eq_true rfl⟩) 27 rfl cW_27 rfl rfl hl.1 (Nat.le_of_ble_eq_true rfl) dX5_readUnit_43 rfl ⟨Nat.zero_le _, Nat.zero_le _⟩ (fun r5 u6 H locs hp7 hO => ?_)
    have g8 : 0 ≤ (fI u 15 9).toInt ∧ (fI u 15 9).toInt ≤ 8 := by have h := CI_15_9 hJ; exact h
    have g9 : 0 ≤ (fI u 15 10).toInt ∧ (fI u 15 10).toInt ≤ 14 := by have h := CI_15_10 hJ; exact h
    have g10 : 0 ≤ (fI u 15 11).toInt ∧ (fI u 15 11).toInt ≤ 8 := by have h := CI_15_11 hJ; exact h
    have g11 : 0 ≤ (fI u 15 12).toInt ∧ (fI u 15 12).toInt ≤ 6 := by have h := CI_15_12 hJ; exact h
    obtain ⟨hr5, hJ, hTu6, hW⟩ := hp7
    subst hr5
    have hT : KT u u6 := KT.tr (by exact hT) hTu6.1
    have hI_15_9_u6 : fI u6 15 9 = (fI u 15 9) := hTu6.2.1
    have hI_15_10_u6 : fI u6 15 10 = (fI u 15 10) := hTu6.2.2.1
    have hI_15_11_u6 : fI u6 15 11 = (fI u 15 11) := hTu6.2.2.2.1
    have hI_15_12_u6 : fI u6 15 12 = (fI u 15 12) := hTu6.2.2.2.2
    refine hret _ _ _ _ _ _ dX5_readUnit_46 rfl ?_ hO
    exact ⟨Or.inl rfl, hJ, hT, hW⟩
  · refine lv_iload_n hx hb dX5_readUnit_21 rfl (lv_at hl 0 rfl) ?_
    refine lv_sipush (v := 201) hx hb dX5_readUnit_22 (by decide) ?_
    refine cs_eq (tgt := 47) (X := ((fI u 1 4)).toInt) (Y := 201) hx hb dX5_readUnit_25 (by decide) rfl rfl (fun c12 => ?_) (fun c12 => ?_)
    · refine lv_aload_n hx hb dX5_readUnit_47 rfl (lv_at hl 1 rfl) ?_
      refine gf_RX5_15 (v := .ref (a 15)) C hO 27 cW_27 (congrArg (fun z : Nat => some (Value.ref z)) hW) dX5_readUnit_48 ?_
      refine gf_RX5_173 (v := .ref (a 24)) C hO 15 cW_15 rfl dX5_readUnit_51 ?_
      refine lv_dup hx hb dX5_readUnit_54 rfl ?_
      refine gf_RX5_207 (v := .int (fI u 24 4)) C hO 24 cW_24 rfl dX5_readUnit_55 ?_
      refine lv_iconst (v := 1) hx hb dX5_readUnit_58 (by decide) ?_
      refine lv_iadd hx hb dX5_readUnit_59 ?_
      refine pf_RX5_207 C hO 24 cW_24 (Nat.le_of_ble_eq_true rfl) cW_s24_4 dX5_readUnit_60 (fun H locs hO => ?_)
      have hJ := CIs_24_4 (v := ((fI u 24 4) + 1)) hJ
      refine lv_iload_n hx hb dX5_readUnit_63 rfl (lv_at hl 0 rfl) ?_
      refine lv_bipush (v := 40) hx hb dX5_readUnit_64 (by decide) ?_
      refine ct_ne (tgt := 75) (X := ((fI u 1 4)).toInt) (Y := 40) hx hb dX5_readUnit_66 (by decide) rfl rfl (by omega) ?_
      refine lv_aload_n hx hb dX5_readUnit_75 rfl (lv_at hl 1 rfl) ?_
      refine gf_RX5_15 (v := .ref (a 15)) C hO 27 cW_27 (congrArg (fun z : Nat => some (Value.ref z)) hW) dX5_readUnit_76 ?_
      refine gf_RX5_173 (v := .ref (a 24)) C hO 15 cW_15 rfl dX5_readUnit_79 ?_
      refine lv_iload_n hx hb dX5_readUnit_82 rfl (lv_at hl 0 rfl) ?_
      refine lv_sipush (v := 201) hx hb dX5_readUnit_83 (by decide) ?_
      refine cn_ne (X := ((fI u 1 4)).toInt) (Y := 201) hx hb dX5_readUnit_86 rfl rfl (by omega) ?_ (tgt := 99) (by decide)
      refine lv_aload_n hx hb dX5_readUnit_89 rfl (lv_at hl 1 rfl) ?_
      refine gf_RX5_9 (v := .ref (a 1)) C hO 27 cW_27 rfl dX5_readUnit_90 ?_
      refine gf_RX5_94 (v := .int (fI u 1 6)) C hO 1 cW_1 rfl dX5_readUnit_93 ?_
      refine lv_goto (tgt := 101) hx hb dX5_readUnit_96 (by decide) ?_
      refine cVv (w := cW cy a) (As := [.int (fI u 1 6)]) (rest := []) C hO (T_X4_add l D cy a _ (by exact hJ) (by exact hW) ((fI u 1 6))) (cwV 1 ht (gV wd_759 wd_760 wd_761 wd_113 wd_762) rfl rfl rfl hd_yX4_add ⟨Nat.le_of_ble_eq_true rfl, Nat.le_of_ble_eq_true rfl⟩) 24 rfl cW_24 rfl rfl hl.1 (Nat.le_of_ble_eq_true rfl) dX5_readUnit_101 rfl ⟨Nat.zero_le _, Nat.zero_le _⟩ (fun u14 H locs hp15 hO => ?_)
      have g16 : 0 ≤ (fI u 15 9).toInt ∧ (fI u 15 9).toInt ≤ 8 := by have h := CI_15_9 hJ; exact h
      have g17 : 0 ≤ (fI u 15 10).toInt ∧ (fI u 15 10).toInt ≤ 14 := by have h := CI_15_10 hJ; exact h
      have g18 : 0 ≤ (fI u 15 11).toInt ∧ (fI u 15 11).toInt ≤ 8 := by have h := CI_15_11 hJ; exact h
      have g19 : 0 ≤ (fI u 15 12).toInt ∧ (fI u 15 12).toInt ≤ 6 := by have h := CI_15_12 hJ; exact h
      obtain ⟨hJ, hTu14, hW⟩ := hp15
      have hT : KT u u14 := KT.tr (by exact hT) hTu14.1
      have hI_15_9_u14 : fI u14 15 9 = (fI u 15 9) := hTu14.2.1
      have hI_15_10_u14 : fI u14 15 10 = (fI u 15 10) := hTu14.2.2.1
      have hI_15_11_u14 : fI u14 15 11 = (fI u 15 11) := hTu14.2.2.2.1
      have hI_15_12_u14 : fI u14 15 12 = (fI u 15 12) := hTu14.2.2.2.2
      refine lv_aload_n hx hb dX5_readUnit_104 rfl (lv_at hl 1 rfl) ?_
      refine gf_RX5_9 (v := .ref (a 1)) C hO 27 cW_27 rfl dX5_readUnit_105 ?_
      refine cVv (w := cW cy a) (As := []) (rest := []) C hO (T_X7_advance l D cy a _ (by exact hJ) (by exact hW)) (cwV 0 ht (gV wd_695 wd_541 wd_542 wd_111 wd_543) rfl rfl rfl hd_yX7_advance ⟨Nat.le_of_ble_eq_true rfl, Nat.le_of_ble_eq_true rfl⟩) 1 rfl cW_1 rfl rfl hl.1 (Nat.le_of_ble_eq_true rfl) dX5_readUnit_108 rfl ⟨Nat.zero_le _, Nat.zero_le _⟩ (fun u21 H locs hp22 hO => ?_)
      obtain ⟨hJ, hTu21, hW⟩ := hp22
      have hT : KT u u21 := KT.tr (by exact hT) hTu21.1
      have hI_15_9_u21 : fI u21 15 9 = (fI u 15 9) := Eq.trans (hTu21.2.1) (hI_15_9_u14)
      have hI_15_10_u21 : fI u21 15 10 = (fI u 15 10) := Eq.trans (hTu21.2.2.1) (hI_15_10_u14)
      have hI_15_11_u21 : fI u21 15 11 = (fI u 15 11) := Eq.trans (hTu21.2.2.2.1) (hI_15_11_u14)
      have hI_15_12_u21 : fI u21 15 12 = (fI u 15 12) := Eq.trans (hTu21.2.2.2.2) (hI_15_12_u14)
      refine lv_iconst (v := 1) hx hb dX5_readUnit_111 (by decide) ?_
      refine hret _ _ _ _ _ _ dX5_readUnit_112 rfl ?_ hO
      exact ⟨Or.inr rfl, hJ, hT, hW⟩
    · refine lv_iload_n hx hb dX5_readUnit_28 rfl (lv_at hl 0 rfl) ?_
      refine lv_bipush (v := 40) hx hb dX5_readUnit_29 (by decide) ?_
      refine cs_eq (tgt := 47) (X := ((fI u 1 4)).toInt) (Y := 40) hx hb dX5_readUnit_31 (by decide) rfl rfl (fun c23 => ?_) (fun c23 => ?_)
      · refine lv_aload_n hx hb dX5_readUnit_47 rfl (lv_at hl 1 rfl) ?_
        refine gf_RX5_15 (v := .ref (a 15)) C hO 27 cW_27 (congrArg (fun z : Nat => some (Value.ref z)) hW) dX5_readUnit_48 ?_
        refine gf_RX5_173 (v := .ref (a 24)) C hO 15 cW_15 rfl dX5_readUnit_51 ?_
        refine lv_dup hx hb dX5_readUnit_54 rfl ?_
        refine gf_RX5_207 (v := .int (fI u 24 4)) C hO 24 cW_24 rfl dX5_readUnit_55 ?_
        refine lv_iconst (v := 1) hx hb dX5_readUnit_58 (by decide) ?_
        refine lv_iadd hx hb dX5_readUnit_59 ?_
        refine pf_RX5_207 C hO 24 cW_24 (Nat.le_of_ble_eq_true rfl) cW_s24_4 dX5_readUnit_60 (fun H locs hO => ?_)
        have hJ := CIs_24_4 (v := ((fI u 24 4) + 1)) hJ
        refine lv_iload_n hx hb dX5_readUnit_63 rfl (lv_at hl 0 rfl) ?_
        refine lv_bipush (v := 40) hx hb dX5_readUnit_64 (by decide) ?_
        refine cn_ne (X := ((fI u 1 4)).toInt) (Y := 40) hx hb dX5_readUnit_66 rfl rfl (by omega) ?_ (tgt := 75) (by decide)
        refine lv_aload_n hx hb dX5_readUnit_69 rfl (lv_at hl 1 rfl) ?_
        refine lv_iload_n hx hb dX5_readUnit_70 rfl (lv_at hl 2 rfl) ?_
        refine cVi (w := cW cy a) (As := [.int 6]) (rest := []) C hO (T_X5_readInner_6 l D cy a _ (by exact hJ) (by exact hW)) (cwV 1 ht (gV wd_782 wd_784 wd_24 wd_114 wd_785) rfl rfl rfl hd_yX5_readInner ⟨Nat.le_of_ble_eq_true rfl, Nat.le_of_ble_eq_true rfl⟩) 27 rfl cW_27 rfl rfl hl.1 (Nat.le_of_ble_eq_true rfl) dX5_readUnit_71 rfl ⟨Nat.zero_le _, Nat.zero_le _⟩ (fun r24 u25 H locs hp26 hO => ?_)
        obtain ⟨hr24, hJ, hTu25, hW⟩ := hp26
        have gr24 : 0 ≤ r24.toInt ∧ r24.toInt ≤ 1 := by rcases hr24 with h | h <;> rw [h] <;> decide
        have hT : KT u u25 := KT.tr (by exact hT) hTu25
        refine hret _ _ _ _ _ _ dX5_readUnit_74 (by rcases hr24 with h | h <;> rw [h] <;> rfl) ?_ hO
        exact ⟨hr24, hJ, hT, hW⟩
      · refine lv_iload_n hx hb dX5_readUnit_34 rfl (lv_at hl 0 rfl) ?_
        refine cSi (w := cW cy a) (As := [.int (fI u 1 4)]) (rest := []) C hO (T_X4_isGiven l D cy a _ (by exact hJ) ((fI u 1 4))) (va_cwS 1 ht (gSS wd_779 wd_780 wd_113 wd_781) rfl rfl rfl hd_yX4_isGiven ⟨Nat.le_of_ble_eq_true rfl, Nat.le_of_ble_eq_true rfl⟩)  rfl hl.1 (Nat.le_of_ble_eq_true rfl) dX5_readUnit_35 rfl ⟨Nat.zero_le _, Nat.zero_le _⟩ (fun r27 u28 H locs hp29 hO => ?_)
        obtain ⟨hr27, hu28⟩ := hp29
        have gr27 : 0 ≤ r27.toInt ∧ r27.toInt ≤ 1 := by rcases hr27 with h | h <;> rw [h] <;> decide
        rw [hu28] at hO
        refine bs_ne (tgt := 47) (X := (r27).toInt) hx hb dX5_readUnit_38 (by decide) rfl (fun c30 => ?_) (fun c30 => ?_)
        · refine lv_aload_n hx hb dX5_readUnit_47 rfl (lv_at hl 1 rfl) ?_
          refine gf_RX5_15 (v := .ref (a 15)) C hO 27 cW_27 (congrArg (fun z : Nat => some (Value.ref z)) hW) dX5_readUnit_48 ?_
          refine gf_RX5_173 (v := .ref (a 24)) C hO 15 cW_15 rfl dX5_readUnit_51 ?_
          refine lv_dup hx hb dX5_readUnit_54 rfl ?_
          refine gf_RX5_207 (v := .int (fI u 24 4)) C hO 24 cW_24 rfl dX5_readUnit_55 ?_
          refine lv_iconst (v := 1) hx hb dX5_readUnit_58 (by decide) ?_
          refine lv_iadd hx hb dX5_readUnit_59 ?_
          refine pf_RX5_207 C hO 24 cW_24 (Nat.le_of_ble_eq_true rfl) cW_s24_4 dX5_readUnit_60 (fun H locs hO => ?_)
          have hJ := CIs_24_4 (v := ((fI u 24 4) + 1)) hJ
          refine lv_iload_n hx hb dX5_readUnit_63 rfl (lv_at hl 0 rfl) ?_
          refine lv_bipush (v := 40) hx hb dX5_readUnit_64 (by decide) ?_
          refine cs_ne (tgt := 75) (X := ((fI u 1 4)).toInt) (Y := 40) hx hb dX5_readUnit_66 (by decide) rfl rfl (fun c31 => ?_) (fun c31 => ?_)
          · refine lv_aload_n hx hb dX5_readUnit_75 rfl (lv_at hl 1 rfl) ?_
            refine gf_RX5_15 (v := .ref (a 15)) C hO 27 cW_27 (congrArg (fun z : Nat => some (Value.ref z)) hW) dX5_readUnit_76 ?_
            refine gf_RX5_173 (v := .ref (a 24)) C hO 15 cW_15 rfl dX5_readUnit_79 ?_
            refine lv_iload_n hx hb dX5_readUnit_82 rfl (lv_at hl 0 rfl) ?_
            refine lv_sipush (v := 201) hx hb dX5_readUnit_83 (by decide) ?_
            refine cs_ne (tgt := 99) (X := ((fI u 1 4)).toInt) (Y := 201) hx hb dX5_readUnit_86 (by decide) rfl rfl (fun c32 => ?_) (fun c32 => ?_)
            · refine lv_iload_n hx hb dX5_readUnit_99 rfl (lv_at hl 0 rfl) ?_
              refine lv_ineg hx hb dX5_readUnit_100 ?_
              refine lv_topi (fun z33 ez33 => ?_)
              refine cVv (w := cW cy a) (As := [.int z33]) (rest := []) C hO (T_X4_add l D cy a _ (by exact hJ) (by exact hW) (z33)) (cwV 1 ht (gV wd_759 wd_760 wd_761 wd_113 wd_762) rfl rfl rfl hd_yX4_add ⟨Nat.le_of_ble_eq_true rfl, Nat.le_of_ble_eq_true rfl⟩) 24 rfl cW_24 rfl rfl hl.1 (Nat.le_of_ble_eq_true rfl) dX5_readUnit_101 rfl ⟨Nat.zero_le _, Nat.zero_le _⟩ (fun u35 H locs hp36 hO => ?_)
              have g37 : 0 ≤ (fI u 15 9).toInt ∧ (fI u 15 9).toInt ≤ 8 := by have h := CI_15_9 hJ; exact h
              have g38 : 0 ≤ (fI u 15 10).toInt ∧ (fI u 15 10).toInt ≤ 14 := by have h := CI_15_10 hJ; exact h
              have g39 : 0 ≤ (fI u 15 11).toInt ∧ (fI u 15 11).toInt ≤ 8 := by have h := CI_15_11 hJ; exact h
              have g40 : 0 ≤ (fI u 15 12).toInt ∧ (fI u 15 12).toInt ≤ 6 := by have h := CI_15_12 hJ; exact h
              obtain ⟨hJ, hTu35, hW⟩ := hp36
              have hT : KT u u35 := KT.tr (by exact hT) hTu35.1
              have hI_15_9_u35 : fI u35 15 9 = (fI u 15 9) := hTu35.2.1
              have hI_15_10_u35 : fI u35 15 10 = (fI u 15 10) := hTu35.2.2.1
              have hI_15_11_u35 : fI u35 15 11 = (fI u 15 11) := hTu35.2.2.2.1
              have hI_15_12_u35 : fI u35 15 12 = (fI u 15 12) := hTu35.2.2.2.2
              refine lv_aload_n hx hb dX5_readUnit_104 rfl (lv_at hl 1 rfl) ?_
              refine gf_RX5_9 (v := .ref (a 1)) C hO 27 cW_27 rfl dX5_readUnit_105 ?_
              refine cVv (w := cW cy a) (As := []) (rest := []) C hO (T_X7_advance l D cy a _ (by exact hJ) (by exact hW)) (cwV 0 ht (gV wd_695 wd_541 wd_542 wd_111 wd_543) rfl rfl rfl hd_yX7_advance ⟨Nat.le_of_ble_eq_true rfl, Nat.le_of_ble_eq_true rfl⟩) 1 rfl cW_1 rfl rfl hl.1 (Nat.le_of_ble_eq_true rfl) dX5_readUnit_108 rfl ⟨Nat.zero_le _, Nat.zero_le _⟩ (fun u42 H locs hp43 hO => ?_)
              obtain ⟨hJ, hTu42, hW⟩ := hp43
              have hT : KT u u42 := KT.tr (by exact hT) hTu42.1
              have hI_15_9_u42 : fI u42 15 9 = (fI u 15 9) := Eq.trans (hTu42.2.1) (hI_15_9_u35)
              have hI_15_10_u42 : fI u42 15 10 = (fI u 15 10) := Eq.trans (hTu42.2.2.1) (hI_15_10_u35)
              have hI_15_11_u42 : fI u42 15 11 = (fI u 15 11) := Eq.trans (hTu42.2.2.2.1) (hI_15_11_u35)
              have hI_15_12_u42 : fI u42 15 12 = (fI u 15 12) := Eq.trans (hTu42.2.2.2.2) (hI_15_12_u35)
              refine lv_iconst (v := 1) hx hb dX5_readUnit_111 (by decide) ?_
              refine hret _ _ _ _ _ _ dX5_readUnit_112 rfl ?_ hO
              exact ⟨Or.inr rfl, hJ, hT, hW⟩
            · refine lv_aload_n hx hb dX5_readUnit_89 rfl (lv_at hl 1 rfl) ?_
              refine gf_RX5_9 (v := .ref (a 1)) C hO 27 cW_27 rfl dX5_readUnit_90 ?_
              refine gf_RX5_94 (v := .int (fI u 1 6)) C hO 1 cW_1 rfl dX5_readUnit_93 ?_
              refine lv_goto (tgt := 101) hx hb dX5_readUnit_96 (by decide) ?_
              refine cVv (w := cW cy a) (As := [.int (fI u 1 6)]) (rest := []) C hO (T_X4_add l D cy a _ (by exact hJ) (by exact hW) ((fI u 1 6))) (cwV 1 ht (gV wd_759 wd_760 wd_761 wd_113 wd_762) rfl rfl rfl hd_yX4_add ⟨Nat.le_of_ble_eq_true rfl, Nat.le_of_ble_eq_true rfl⟩) 24 rfl cW_24 rfl rfl hl.1 (Nat.le_of_ble_eq_true rfl) dX5_readUnit_101 rfl ⟨Nat.zero_le _, Nat.zero_le _⟩ (fun u45 H locs hp46 hO => ?_)
              have g47 : 0 ≤ (fI u 15 9).toInt ∧ (fI u 15 9).toInt ≤ 8 := by have h := CI_15_9 hJ; exact h
              have g48 : 0 ≤ (fI u 15 10).toInt ∧ (fI u 15 10).toInt ≤ 14 := by have h := CI_15_10 hJ; exact h
              have g49 : 0 ≤ (fI u 15 11).toInt ∧ (fI u 15 11).toInt ≤ 8 := by have h := CI_15_11 hJ; exact h
              have g50 : 0 ≤ (fI u 15 12).toInt ∧ (fI u 15 12).toInt ≤ 6 := by have h := CI_15_12 hJ; exact h
              obtain ⟨hJ, hTu45, hW⟩ := hp46
              have hT : KT u u45 := KT.tr (by exact hT) hTu45.1
              have hI_15_9_u45 : fI u45 15 9 = (fI u 15 9) := hTu45.2.1
              have hI_15_10_u45 : fI u45 15 10 = (fI u 15 10) := hTu45.2.2.1
              have hI_15_11_u45 : fI u45 15 11 = (fI u 15 11) := hTu45.2.2.2.1
              have hI_15_12_u45 : fI u45 15 12 = (fI u 15 12) := hTu45.2.2.2.2
              refine lv_aload_n hx hb dX5_readUnit_104 rfl (lv_at hl 1 rfl) ?_
              refine gf_RX5_9 (v := .ref (a 1)) C hO 27 cW_27 rfl dX5_readUnit_105 ?_
              refine cVv (w := cW cy a) (As := []) (rest := []) C hO (T_X7_advance l D cy a _ (by exact hJ) (by exact hW)) (cwV 0 ht (gV wd_695 wd_541 wd_542 wd_111 wd_543) rfl rfl rfl hd_yX7_advance ⟨Nat.le_of_ble_eq_true rfl, Nat.le_of_ble_eq_true rfl⟩) 1 rfl cW_1 rfl rfl hl.1 (Nat.le_of_ble_eq_true rfl) dX5_readUnit_108 rfl ⟨Nat.zero_le _, Nat.zero_le _⟩ (fun u52 H locs hp53 hO => ?_)
              obtain ⟨hJ, hTu52, hW⟩ := hp53
              have hT : KT u u52 := KT.tr (by exact hT) hTu52.1
              have hI_15_9_u52 : fI u52 15 9 = (fI u 15 9) := Eq.trans (hTu52.2.1) (hI_15_9_u45)
              have hI_15_10_u52 : fI u52 15 10 = (fI u 15 10) := Eq.trans (hTu52.2.2.1) (hI_15_10_u45)
              have hI_15_11_u52 : fI u52 15 11 = (fI u 15 11) := Eq.trans (hTu52.2.2.2.1) (hI_15_11_u45)
              have hI_15_12_u52 : fI u52 15 12 = (fI u 15 12) := Eq.trans (hTu52.2.2.2.2) (hI_15_12_u45)
              refine lv_iconst (v := 1) hx hb dX5_readUnit_111 (by decide) ?_
              refine hret _ _ _ _ _ _ dX5_readUnit_112 rfl ?_ hO
              exact ⟨Or.inr rfl, hJ, hT, hW⟩
          · refine lv_aload_n hx hb dX5_readUnit_69 rfl (lv_at hl 1 rfl) ?_
            refine lv_iload_n hx hb dX5_readUnit_70 rfl (lv_at hl 2 rfl) ?_
            refine cVi (w := cW cy a) (As := [.int 6]) (rest := []) C hO (T_X5_readInner_6 l D cy a _ (by exact hJ) (by exact hW)) (cwV 1 ht (gV wd_782 wd_784 wd_24 wd_114 wd_785) rfl rfl rfl hd_yX5_readInner ⟨Nat.le_of_ble_eq_true rfl, Nat.le_of_ble_eq_true rfl⟩) 27 rfl cW_27 rfl rfl hl.1 (Nat.le_of_ble_eq_true rfl) dX5_readUnit_71 rfl ⟨Nat.zero_le _, Nat.zero_le _⟩ (fun r54 u55 H locs hp56 hO => ?_)
            obtain ⟨hr54, hJ, hTu55, hW⟩ := hp56
            have gr54 : 0 ≤ r54.toInt ∧ r54.toInt ≤ 1 := by rcases hr54 with h | h <;> rw [h] <;> decide
            have hT : KT u u55 := KT.tr (by exact hT) hTu55
            refine hret _ _ _ _ _ _ dX5_readUnit_74 (by rcases hr54 with h | h <;> rw [h] <;> rfl) ?_ hO
            exact ⟨hr54, hJ, hT, hW⟩
        · refine lv_aload_n hx hb dX5_readUnit_41 rfl (lv_at hl 1 rfl) ?_
          refine lv_iconst (v := 2) hx hb dX5_readUnit_42 (by decide) ?_
          refine cVi (w := cW cy a) (As := [.int 2]) (rest := []) C hO (T_X5_refuse l D cy a _ (by exact hJ) (by exact hW) (2)) (cwV 1 ht (gV wd_691 wd_693 wd_6 wd_114 wd_694) rfl rfl rfl hd_yX5_refuse ⟨Nat.le_of_ble_eq_true rfl, Nat.le_of_ble_eq_true rfl⟩) 27 rfl cW_27 rfl rfl hl.1 (Nat.le_of_ble_eq_true rfl) dX5_readUnit_43 rfl ⟨Nat.zero_le _, Nat.zero_le _⟩ (fun r57 u58 H locs hp59 hO => ?_)
          have g60 : 0 ≤ (fI u 15 9).toInt ∧ (fI u 15 9).toInt ≤ 8 := by have h := CI_15_9 hJ; exact h
          have g61 : 0 ≤ (fI u 15 10).toInt ∧ (fI u 15 10).toInt ≤ 14 := by have h := CI_15_10 hJ; exact h
          have g62 : 0 ≤ (fI u 15 11).toInt ∧ (fI u 15 11).toInt ≤ 8 := by have h := CI_15_11 hJ; exact h
          have g63 : 0 ≤ (fI u 15 12).toInt ∧ (fI u 15 12).toInt ≤ 6 := by have h := CI_15_12 hJ; exact h
          obtain ⟨hr57, hJ, hTu58, hW⟩ := hp59
          subst hr57
          have hT : KT u u58 := KT.tr (by exact hT) hTu58.1
          have hI_15_9_u58 : fI u58 15 9 = (fI u 15 9) := hTu58.2.1
          have hI_15_10_u58 : fI u58 15 10 = (fI u 15 10) := hTu58.2.2.1
          have hI_15_11_u58 : fI u58 15 11 = (fI u 15 11) := hTu58.2.2.2.1
          have hI_15_12_u58 : fI u58 15 12 = (fI u 15 12) := hTu58.2.2.2.2
          refine hret _ _ _ _ _ _ dX5_readUnit_46 rfl ?_ hO
          exact ⟨Or.inl rfl, hJ, hT, hW⟩
set_option maxHeartbeats 4000000 in
set_option maxRecDepth 100000 in
theorem T_X5_readProduct_6 (l : Launch) (D : va_G) (cy : Nat → ClassId) (a : Nat → Nat) (u : St) (hJ : CI a u) (hW : fR u 2 = a 15)   : Mi l D cy (cW cy a) yX5_readProduct (.code yX5_readProduct cX5_readProduct 5 (some .boolean)) (rmo 14 313) [.ref (a 27), .int 6] u (fun (r : Int32) (u' : St) => (r = 0 ∨ r = 1) ∧ (CI a u') ∧ (KT u u') ∧ (fR u' 2 = a 15)) := by
  refine Mi.of (own := RX5) rfl (by decide) (Nat.le_of_ble_eq_true rfl) ?_
  have hT : KT u u := KT.rf
  intro p e s m below meth c A Q ls C hret hO hl
  obtain ⟨hx, hb, hml, hown, ht, hK, hA⟩ := id C
  have hl : lv_has ls 5 [(0, .ref (a 27)), (1, .int 6)] := hl
  refine lv_aload_n hx hb dX5_readProduct_0 rfl (lv_at hl 0 rfl) ?_
  refine lv_iload_n hx hb dX5_readProduct_1 rfl (lv_at hl 1 rfl) ?_
  refine cVi (w := cW cy a) (As := [.int 6]) (rest := []) C hO (T_X5_readUnit_6 l D cy a _ (by exact hJ) (by exact hW)) (cwV 1 ht (gV wd_771 wd_773 wd_23 wd_114 wd_774) rfl rfl rfl hd_yX5_readUnit ⟨Nat.le_of_ble_eq_true rfl, Nat.le_of_ble_eq_true rfl⟩) 27 rfl cW_27 rfl rfl hl.1 (Nat.le_of_ble_eq_true rfl) dX5_readProduct_2 rfl ⟨Nat.zero_le _, Nat.zero_le _⟩ (fun r1 u2 H locs hp3 hO => ?_)
  obtain ⟨hr1, hJ, hTu2, hW⟩ := hp3
  have gr1 : 0 ≤ r1.toInt ∧ r1.toInt ≤ 1 := by rcases hr1 with h | h <;> rw [h] <;> decide
  have hT : KT u u2 := KT.tr (by exact hT) hTu2
  refine lv_istore_n (lv' := [(2, .int r1), (0, .ref (a 27)), (1, .int 6)]) hx hb dX5_readProduct_5 rfl hl (by decide) rfl (fun ls hl => ?_)
  refine lv_iconst (v := 0) hx hb dX5_readProduct_6 (by decide) ?_
  refine lv_istore_n (lv' := [(3, .int 0), (2, .int r1), (0, .ref (a 27)), (1, .int 6)]) hx hb dX5_readProduct_7 rfl hl (by decide) rfl (fun ls hl => ?_)
  have LP_8_k5 : ∀ (n : Nat) (u4 : St) (H : Heap) (locs : List Loc) (ls : Array Slot) (i_k5 : Int32) (w2_k5 : Int32), Wo D A (cW cy a u4) s.heap H locs → lv_has ls 5 [(3, .int i_k5), (2, .int w2_k5), (0, .ref (a 27)), (1, .int 6)] → CI a u4 → KT u u4 → fR u4 2 = a 15 → 0 ≤ i_k5.toInt ∧ i_k5.toInt ≤ 1600 → 0 ≤ w2_k5.toInt ∧ w2_k5.toInt ≤ 1 → 1600 - i_k5.toInt < (n : Int) → W p l e (rmo 14 313) s m [.ref (a 27), .int 6].toArray below meth c H locs 0 0 Q (F0 m 8 ls []) := by
    intro n
    induction n with
    | zero =>
      intro u4 H locs ls i_k5 w2_k5 hO hl hJ hT hW iv0_k5 iv1_k5 hm_k5
      exact absurd hm_k5 (by omega)
    | succ n ih_k5 =>
      intro u4 H locs ls i_k5 w2_k5 hO hl hJ hT hW iv0_k5 iv1_k5 hm_k5
      refine lv_iload_n hx hb dX5_readProduct_8 rfl (lv_at hl 0 rfl) ?_
      refine lv_sipush (v := 1600) hx hb dX5_readProduct_9 (by decide) ?_
      refine cs_ge (tgt := 73) (X := (i_k5).toInt) (Y := 1600) hx hb dX5_readProduct_12 (by decide) rfl rfl (fun c6 => ?_) (fun c6 => ?_)
      · refine lv_iload_n hx hb dX5_readProduct_73 rfl (lv_at hl 1 rfl) ?_
        have hw2_k5 : w2_k5 = 0 ∨ w2_k5 = 1 := i_b01 rfl (by omega) (by omega)
        refine hret _ _ _ _ _ _ dX5_readProduct_74 (by rcases hw2_k5 with h | h <;> rw [h] <;> rfl) ?_ hO
        exact ⟨hw2_k5, hJ, hT, hW⟩
      · refine lv_iload_n hx hb dX5_readProduct_15 rfl (lv_at hl 1 rfl) ?_
        refine bs_eq (tgt := 73) (X := (w2_k5).toInt) hx hb dX5_readProduct_16 (by decide) rfl (fun c7 => ?_) (fun c7 => ?_)
        · refine lv_iload_n hx hb dX5_readProduct_73 rfl (lv_at hl 1 rfl) ?_
          have hw2_k5 : w2_k5 = 0 ∨ w2_k5 = 1 := i_b01 rfl (by omega) (by omega)
          refine hret _ _ _ _ _ _ dX5_readProduct_74 (by rcases hw2_k5 with h | h <;> rw [h] <;> rfl) ?_ hO
          exact ⟨hw2_k5, hJ, hT, hW⟩
        · refine lv_aload_n hx hb dX5_readProduct_19 rfl (lv_at hl 2 rfl) ?_
          refine gf_RX5_9 (v := .ref (a 1)) C hO 27 cW_27 rfl dX5_readProduct_20 ?_
          refine gf_RX5_36 (v := .int (fI u4 1 4)) C hO 1 cW_1 rfl dX5_readProduct_23 ?_
          refine cSi (w := cW cy a) (As := [.int (fI u4 1 4)]) (rest := []) C hO (T_X5_isTimes l D cy a _ (by exact hJ) ((fI u4 1 4))) (va_cwS 1 ht (gSS wd_786 wd_787 wd_114 wd_788) rfl rfl rfl hd_yX5_isTimes ⟨Nat.le_of_ble_eq_true rfl, Nat.le_of_ble_eq_true rfl⟩)  rfl hl.1 (Nat.le_of_ble_eq_true rfl) dX5_readProduct_26 rfl ⟨Nat.zero_le _, Nat.zero_le _⟩ (fun r8 u9 H locs hp10 hO => ?_)
          obtain ⟨hr8, hu9⟩ := hp10
          have gr8 : 0 ≤ r8.toInt ∧ r8.toInt ≤ 1 := by rcases hr8 with h | h <;> rw [h] <;> decide
          rw [hu9] at hO
          refine bs_eq (tgt := 73) (X := (r8).toInt) hx hb dX5_readProduct_29 (by decide) rfl (fun c11 => ?_) (fun c11 => ?_)
          · refine lv_iload_n hx hb dX5_readProduct_73 rfl (lv_at hl 1 rfl) ?_
            have hw2_k5 : w2_k5 = 0 ∨ w2_k5 = 1 := i_b01 rfl (by omega) (by omega)
            refine hret _ _ _ _ _ _ dX5_readProduct_74 (by rcases hw2_k5 with h | h <;> rw [h] <;> rfl) ?_ hO
            exact ⟨hw2_k5, hJ, hT, hW⟩
          · refine lv_aload_n hx hb dX5_readProduct_32 rfl (lv_at hl 2 rfl) ?_
            refine gf_RX5_9 (v := .ref (a 1)) C hO 27 cW_27 rfl dX5_readProduct_33 ?_
            refine gf_RX5_36 (v := .int (fI u4 1 4)) C hO 1 cW_1 rfl dX5_readProduct_36 ?_
            refine lv_istore (lv' := [(4, .int (fI u4 1 4)), (3, .int i_k5), (2, .int w2_k5), (0, .ref (a 27)), (1, .int 6)]) hx hb dX5_readProduct_39 hl (by decide) rfl (fun ls hl => ?_)
            refine lv_aload_n hx hb dX5_readProduct_41 rfl (lv_at hl 3 rfl) ?_
            refine gf_RX5_9 (v := .ref (a 1)) C hO 27 cW_27 rfl dX5_readProduct_42 ?_
            refine cVv (w := cW cy a) (As := []) (rest := []) C hO (T_X7_advance l D cy a _ (by exact hJ) (by exact hW)) (cwV 0 ht (gV wd_695 wd_541 wd_542 wd_111 wd_543) rfl rfl rfl hd_yX7_advance ⟨Nat.le_of_ble_eq_true rfl, Nat.le_of_ble_eq_true rfl⟩) 1 rfl cW_1 rfl rfl hl.1 (Nat.le_of_ble_eq_true rfl) dX5_readProduct_45 rfl ⟨Nat.zero_le _, Nat.zero_le _⟩ (fun u13 H locs hp14 hO => ?_)
            have g15 : 0 ≤ (fI u4 15 9).toInt ∧ (fI u4 15 9).toInt ≤ 8 := by have h := CI_15_9 hJ; exact h
            have g16 : 0 ≤ (fI u4 15 10).toInt ∧ (fI u4 15 10).toInt ≤ 14 := by have h := CI_15_10 hJ; exact h
            have g17 : 0 ≤ (fI u4 15 11).toInt ∧ (fI u4 15 11).toInt ≤ 8 := by have h := CI_15_11 hJ; exact h
            have g18 : 0 ≤ (fI u4 15 12).toInt ∧ (fI u4 15 12).toInt ≤ 6 := by have h := CI_15_12 hJ; exact h
            obtain ⟨hJ, hTu13, hW⟩ := hp14
            have hT : KT u u13 := KT.tr (by exact hT) hTu13.1
            have hI_15_9_u13 : fI u13 15 9 = (fI u4 15 9) := hTu13.2.1
            have hI_15_10_u13 : fI u13 15 10 = (fI u4 15 10) := hTu13.2.2.1
            have hI_15_11_u13 : fI u13 15 11 = (fI u4 15 11) := hTu13.2.2.2.1
            have hI_15_12_u13 : fI u13 15 12 = (fI u4 15 12) := hTu13.2.2.2.2
            refine lv_aload_n hx hb dX5_readProduct_48 rfl (lv_at hl 3 rfl) ?_
            refine lv_iload_n hx hb dX5_readProduct_49 rfl (lv_at hl 4 rfl) ?_
            refine cVi (w := cW cy a) (As := [.int 6]) (rest := []) C hO (T_X5_readUnit_6 l D cy a _ (by exact hJ) (by exact hW)) (cwV 1 ht (gV wd_771 wd_773 wd_23 wd_114 wd_774) rfl rfl rfl hd_yX5_readUnit ⟨Nat.le_of_ble_eq_true rfl, Nat.le_of_ble_eq_true rfl⟩) 27 rfl cW_27 rfl rfl hl.1 (Nat.le_of_ble_eq_true rfl) dX5_readProduct_50 rfl ⟨Nat.zero_le _, Nat.zero_le _⟩ (fun r19 u20 H locs hp21 hO => ?_)
            obtain ⟨hr19, hJ, hTu20, hW⟩ := hp21
            have gr19 : 0 ≤ r19.toInt ∧ r19.toInt ≤ 1 := by rcases hr19 with h | h <;> rw [h] <;> decide
            have hT : KT u u20 := KT.tr (by exact hT) hTu20
            refine lv_istore_n (lv' := [(2, .int r19), (4, .int (fI u4 1 4)), (3, .int i_k5), (0, .ref (a 27)), (1, .int 6)]) hx hb dX5_readProduct_53 rfl hl (by decide) rfl (fun ls hl => ?_)
            refine lv_aload_n hx hb dX5_readProduct_54 rfl (lv_at hl 3 rfl) ?_
            refine gf_RX5_15 (v := .ref (a 15)) C hO 27 cW_27 (congrArg (fun z : Nat => some (Value.ref z)) hW) dX5_readProduct_55 ?_
            refine gf_RX5_173 (v := .ref (a 24)) C hO 15 cW_15 rfl dX5_readProduct_58 ?_
            refine lv_iload hx hb dX5_readProduct_61 (lv_at hl 1 rfl) ?_
            refine lv_ineg hx hb dX5_readProduct_63 ?_
            refine lv_topi (fun z22 ez22 => ?_)
            refine cVv (w := cW cy a) (As := [.int z22]) (rest := []) C hO (T_X4_add l D cy a _ (by exact hJ) (by exact hW) (z22)) (cwV 1 ht (gV wd_759 wd_760 wd_761 wd_113 wd_762) rfl rfl rfl hd_yX4_add ⟨Nat.le_of_ble_eq_true rfl, Nat.le_of_ble_eq_true rfl⟩) 24 rfl cW_24 rfl rfl hl.1 (Nat.le_of_ble_eq_true rfl) dX5_readProduct_64 rfl ⟨Nat.zero_le _, Nat.zero_le _⟩ (fun u24 H locs hp25 hO => ?_)
            have g26 : 0 ≤ (fI u20 15 9).toInt ∧ (fI u20 15 9).toInt ≤ 8 := by have h := CI_15_9 hJ; exact h
            have g27 : 0 ≤ (fI u20 15 10).toInt ∧ (fI u20 15 10).toInt ≤ 14 := by have h := CI_15_10 hJ; exact h
            have g28 : 0 ≤ (fI u20 15 11).toInt ∧ (fI u20 15 11).toInt ≤ 8 := by have h := CI_15_11 hJ; exact h
            have g29 : 0 ≤ (fI u20 15 12).toInt ∧ (fI u20 15 12).toInt ≤ 6 := by have h := CI_15_12 hJ; exact h
            obtain ⟨hJ, hTu24, hW⟩ := hp25
            have hT : KT u u24 := KT.tr (by exact hT) hTu24.1
            have hI_15_9_u24 : fI u24 15 9 = (fI u20 15 9) := hTu24.2.1
            have hI_15_10_u24 : fI u24 15 10 = (fI u20 15 10) := hTu24.2.2.1
            have hI_15_11_u24 : fI u24 15 11 = (fI u20 15 11) := hTu24.2.2.2.1
            have hI_15_12_u24 : fI u24 15 12 = (fI u20 15 12) := hTu24.2.2.2.2
            have e30 : ((i_k5 + 1)).toInt = (i_k5).toInt + 1 := i_add rfl rfl (by omega)
            refine lv_iinc (v := (i_k5 + 1)) (lv' := [(3, .int (i_k5 + 1)), (2, .int r19), (4, .int (fI u4 1 4)), (0, .ref (a 27)), (1, .int 6)]) hx hb dX5_readProduct_67 hl (k := 2) rfl rfl (by decide) rfl (fun ls hl => ?_)
            refine lv_goto (tgt := 8) hx hb dX5_readProduct_70 (by decide) ?_
            exact ih_k5 _ _ _ _ ((i_k5 + 1)) (r19) hO (lv_sub hl [0, 1, 3, 4] rfl) (by exact hJ) (by exact hT) (by exact hW) (by first | decide | omega) (by first | decide | omega) (by first | decide | omega)
  exact LP_8_k5 4000 _ _ _ _ (0) (r1) hO (lv_sub hl [0, 1, 2, 3] rfl) (by exact hJ) (by exact hT) (by exact hW) (by first | decide | omega) (by first | decide | omega) (by first | decide | omega)
set_option maxHeartbeats 4000000 in
set_option maxRecDepth 100000 in
theorem T_X5_readSum_6 (l : Launch) (D : va_G) (cy : Nat → ClassId) (a : Nat → Nat) (u : St) (hJ : CI a u) (hW : fR u 2 = a 15)   : Mi l D cy (cW cy a) yX5_readSum (.code yX5_readSum cX5_readSum 5 (some .boolean)) (rmo 15 337) [.ref (a 27), .int 6] u (fun (r : Int32) (u' : St) => (r = 0 ∨ r = 1) ∧ (CI a u') ∧ (KT u u') ∧ (fR u' 2 = a 15)) := by
  refine Mi.of (own := RX5) rfl (by decide) (Nat.le_of_ble_eq_true rfl) ?_
  have hT : KT u u := KT.rf
  intro p e s m below meth c A Q ls C hret hO hl
  obtain ⟨hx, hb, hml, hown, ht, hK, hA⟩ := id C
  have hl : lv_has ls 5 [(0, .ref (a 27)), (1, .int 6)] := hl
  refine lv_aload_n hx hb dX5_readSum_0 rfl (lv_at hl 0 rfl) ?_
  refine lv_iload_n hx hb dX5_readSum_1 rfl (lv_at hl 1 rfl) ?_
  refine cVi (w := cW cy a) (As := [.int 6]) (rest := []) C hO (T_X5_readProduct_6 l D cy a _ (by exact hJ) (by exact hW)) (cwV 1 ht (gV wd_767 wd_769 wd_22 wd_114 wd_770) rfl rfl rfl hd_yX5_readProduct ⟨Nat.le_of_ble_eq_true rfl, Nat.le_of_ble_eq_true rfl⟩) 27 rfl cW_27 rfl rfl hl.1 (Nat.le_of_ble_eq_true rfl) dX5_readSum_2 rfl ⟨Nat.zero_le _, Nat.zero_le _⟩ (fun r1 u2 H locs hp3 hO => ?_)
  obtain ⟨hr1, hJ, hTu2, hW⟩ := hp3
  have gr1 : 0 ≤ r1.toInt ∧ r1.toInt ≤ 1 := by rcases hr1 with h | h <;> rw [h] <;> decide
  have hT : KT u u2 := KT.tr (by exact hT) hTu2
  refine lv_istore_n (lv' := [(2, .int r1), (0, .ref (a 27)), (1, .int 6)]) hx hb dX5_readSum_5 rfl hl (by decide) rfl (fun ls hl => ?_)
  refine lv_iconst (v := 0) hx hb dX5_readSum_6 (by decide) ?_
  refine lv_istore_n (lv' := [(3, .int 0), (2, .int r1), (0, .ref (a 27)), (1, .int 6)]) hx hb dX5_readSum_7 rfl hl (by decide) rfl (fun ls hl => ?_)
  have LP_8_k5 : ∀ (n : Nat) (u4 : St) (H : Heap) (locs : List Loc) (ls : Array Slot) (i_k5 : Int32) (w2_k5 : Int32), Wo D A (cW cy a u4) s.heap H locs → lv_has ls 5 [(3, .int i_k5), (2, .int w2_k5), (0, .ref (a 27)), (1, .int 6)] → CI a u4 → KT u u4 → fR u4 2 = a 15 → 0 ≤ i_k5.toInt ∧ i_k5.toInt ≤ 1600 → 0 ≤ w2_k5.toInt ∧ w2_k5.toInt ≤ 1 → 1600 - i_k5.toInt < (n : Int) → W p l e (rmo 15 337) s m [.ref (a 27), .int 6].toArray below meth c H locs 0 0 Q (F0 m 8 ls []) := by
    intro n
    induction n with
    | zero =>
      intro u4 H locs ls i_k5 w2_k5 hO hl hJ hT hW iv0_k5 iv1_k5 hm_k5
      exact absurd hm_k5 (by omega)
    | succ n ih_k5 =>
      intro u4 H locs ls i_k5 w2_k5 hO hl hJ hT hW iv0_k5 iv1_k5 hm_k5
      refine lv_iload_n hx hb dX5_readSum_8 rfl (lv_at hl 0 rfl) ?_
      refine lv_sipush (v := 1600) hx hb dX5_readSum_9 (by decide) ?_
      refine cs_ge (tgt := 84) (X := (i_k5).toInt) (Y := 1600) hx hb dX5_readSum_12 (by decide) rfl rfl (fun c6 => ?_) (fun c6 => ?_)
      · refine lv_iload_n hx hb dX5_readSum_84 rfl (lv_at hl 1 rfl) ?_
        have hw2_k5 : w2_k5 = 0 ∨ w2_k5 = 1 := i_b01 rfl (by omega) (by omega)
        refine hret _ _ _ _ _ _ dX5_readSum_85 (by rcases hw2_k5 with h | h <;> rw [h] <;> rfl) ?_ hO
        exact ⟨hw2_k5, hJ, hT, hW⟩
      · refine lv_iload_n hx hb dX5_readSum_15 rfl (lv_at hl 1 rfl) ?_
        refine bs_eq (tgt := 84) (X := (w2_k5).toInt) hx hb dX5_readSum_16 (by decide) rfl (fun c7 => ?_) (fun c7 => ?_)
        · refine lv_iload_n hx hb dX5_readSum_84 rfl (lv_at hl 1 rfl) ?_
          have hw2_k5 : w2_k5 = 0 ∨ w2_k5 = 1 := i_b01 rfl (by omega) (by omega)
          refine hret _ _ _ _ _ _ dX5_readSum_85 (by rcases hw2_k5 with h | h <;> rw [h] <;> rfl) ?_ hO
          exact ⟨hw2_k5, hJ, hT, hW⟩
        · refine lv_aload_n hx hb dX5_readSum_19 rfl (lv_at hl 2 rfl) ?_
          refine gf_RX5_9 (v := .ref (a 1)) C hO 27 cW_27 rfl dX5_readSum_20 ?_
          refine gf_RX5_36 (v := .int (fI u4 1 4)) C hO 1 cW_1 rfl dX5_readSum_23 ?_
          refine lv_bipush (v := 43) hx hb dX5_readSum_26 (by decide) ?_
          refine cs_eq (tgt := 43) (X := ((fI u4 1 4)).toInt) (Y := 43) hx hb dX5_readSum_28 (by decide) rfl rfl (fun c8 => ?_) (fun c8 => ?_)
          · refine lv_aload_n hx hb dX5_readSum_43 rfl (lv_at hl 2 rfl) ?_
            refine gf_RX5_9 (v := .ref (a 1)) C hO 27 cW_27 rfl dX5_readSum_44 ?_
            refine gf_RX5_36 (v := .int (fI u4 1 4)) C hO 1 cW_1 rfl dX5_readSum_47 ?_
            refine lv_istore (lv' := [(4, .int (fI u4 1 4)), (3, .int i_k5), (2, .int w2_k5), (0, .ref (a 27)), (1, .int 6)]) hx hb dX5_readSum_50 hl (by decide) rfl (fun ls hl => ?_)
            refine lv_aload_n hx hb dX5_readSum_52 rfl (lv_at hl 3 rfl) ?_
            refine gf_RX5_9 (v := .ref (a 1)) C hO 27 cW_27 rfl dX5_readSum_53 ?_
            refine cVv (w := cW cy a) (As := []) (rest := []) C hO (T_X7_advance l D cy a _ (by exact hJ) (by exact hW)) (cwV 0 ht (gV wd_695 wd_541 wd_542 wd_111 wd_543) rfl rfl rfl hd_yX7_advance ⟨Nat.le_of_ble_eq_true rfl, Nat.le_of_ble_eq_true rfl⟩) 1 rfl cW_1 rfl rfl hl.1 (Nat.le_of_ble_eq_true rfl) dX5_readSum_56 rfl ⟨Nat.zero_le _, Nat.zero_le _⟩ (fun u10 H locs hp11 hO => ?_)
            have g12 : 0 ≤ (fI u4 15 9).toInt ∧ (fI u4 15 9).toInt ≤ 8 := by have h := CI_15_9 hJ; exact h
            have g13 : 0 ≤ (fI u4 15 10).toInt ∧ (fI u4 15 10).toInt ≤ 14 := by have h := CI_15_10 hJ; exact h
            have g14 : 0 ≤ (fI u4 15 11).toInt ∧ (fI u4 15 11).toInt ≤ 8 := by have h := CI_15_11 hJ; exact h
            have g15 : 0 ≤ (fI u4 15 12).toInt ∧ (fI u4 15 12).toInt ≤ 6 := by have h := CI_15_12 hJ; exact h
            obtain ⟨hJ, hTu10, hW⟩ := hp11
            have hT : KT u u10 := KT.tr (by exact hT) hTu10.1
            have hI_15_9_u10 : fI u10 15 9 = (fI u4 15 9) := hTu10.2.1
            have hI_15_10_u10 : fI u10 15 10 = (fI u4 15 10) := hTu10.2.2.1
            have hI_15_11_u10 : fI u10 15 11 = (fI u4 15 11) := hTu10.2.2.2.1
            have hI_15_12_u10 : fI u10 15 12 = (fI u4 15 12) := hTu10.2.2.2.2
            refine lv_aload_n hx hb dX5_readSum_59 rfl (lv_at hl 3 rfl) ?_
            refine lv_iload_n hx hb dX5_readSum_60 rfl (lv_at hl 4 rfl) ?_
            refine cVi (w := cW cy a) (As := [.int 6]) (rest := []) C hO (T_X5_readProduct_6 l D cy a _ (by exact hJ) (by exact hW)) (cwV 1 ht (gV wd_767 wd_769 wd_22 wd_114 wd_770) rfl rfl rfl hd_yX5_readProduct ⟨Nat.le_of_ble_eq_true rfl, Nat.le_of_ble_eq_true rfl⟩) 27 rfl cW_27 rfl rfl hl.1 (Nat.le_of_ble_eq_true rfl) dX5_readSum_61 rfl ⟨Nat.zero_le _, Nat.zero_le _⟩ (fun r16 u17 H locs hp18 hO => ?_)
            obtain ⟨hr16, hJ, hTu17, hW⟩ := hp18
            have gr16 : 0 ≤ r16.toInt ∧ r16.toInt ≤ 1 := by rcases hr16 with h | h <;> rw [h] <;> decide
            have hT : KT u u17 := KT.tr (by exact hT) hTu17
            refine lv_istore_n (lv' := [(2, .int r16), (4, .int (fI u4 1 4)), (3, .int i_k5), (0, .ref (a 27)), (1, .int 6)]) hx hb dX5_readSum_64 rfl hl (by decide) rfl (fun ls hl => ?_)
            refine lv_aload_n hx hb dX5_readSum_65 rfl (lv_at hl 3 rfl) ?_
            refine gf_RX5_15 (v := .ref (a 15)) C hO 27 cW_27 (congrArg (fun z : Nat => some (Value.ref z)) hW) dX5_readSum_66 ?_
            refine gf_RX5_173 (v := .ref (a 24)) C hO 15 cW_15 rfl dX5_readSum_69 ?_
            refine lv_iload hx hb dX5_readSum_72 (lv_at hl 1 rfl) ?_
            refine lv_ineg hx hb dX5_readSum_74 ?_
            refine lv_topi (fun z19 ez19 => ?_)
            refine cVv (w := cW cy a) (As := [.int z19]) (rest := []) C hO (T_X4_add l D cy a _ (by exact hJ) (by exact hW) (z19)) (cwV 1 ht (gV wd_759 wd_760 wd_761 wd_113 wd_762) rfl rfl rfl hd_yX4_add ⟨Nat.le_of_ble_eq_true rfl, Nat.le_of_ble_eq_true rfl⟩) 24 rfl cW_24 rfl rfl hl.1 (Nat.le_of_ble_eq_true rfl) dX5_readSum_75 rfl ⟨Nat.zero_le _, Nat.zero_le _⟩ (fun u21 H locs hp22 hO => ?_)
            have g23 : 0 ≤ (fI u17 15 9).toInt ∧ (fI u17 15 9).toInt ≤ 8 := by have h := CI_15_9 hJ; exact h
            have g24 : 0 ≤ (fI u17 15 10).toInt ∧ (fI u17 15 10).toInt ≤ 14 := by have h := CI_15_10 hJ; exact h
            have g25 : 0 ≤ (fI u17 15 11).toInt ∧ (fI u17 15 11).toInt ≤ 8 := by have h := CI_15_11 hJ; exact h
            have g26 : 0 ≤ (fI u17 15 12).toInt ∧ (fI u17 15 12).toInt ≤ 6 := by have h := CI_15_12 hJ; exact h
            obtain ⟨hJ, hTu21, hW⟩ := hp22
            have hT : KT u u21 := KT.tr (by exact hT) hTu21.1
            have hI_15_9_u21 : fI u21 15 9 = (fI u17 15 9) := hTu21.2.1
            have hI_15_10_u21 : fI u21 15 10 = (fI u17 15 10) := hTu21.2.2.1
            have hI_15_11_u21 : fI u21 15 11 = (fI u17 15 11) := hTu21.2.2.2.1
            have hI_15_12_u21 : fI u21 15 12 = (fI u17 15 12) := hTu21.2.2.2.2
            have e27 : ((i_k5 + 1)).toInt = (i_k5).toInt + 1 := i_add rfl rfl (by omega)
            refine lv_iinc (v := (i_k5 + 1)) (lv' := [(3, .int (i_k5 + 1)), (2, .int r16), (4, .int (fI u4 1 4)), (0, .ref (a 27)), (1, .int 6)]) hx hb dX5_readSum_78 hl (k := 2) rfl rfl (by decide) rfl (fun ls hl => ?_)
            refine lv_goto (tgt := 8) hx hb dX5_readSum_81 (by decide) ?_
            exact ih_k5 _ _ _ _ ((i_k5 + 1)) (r16) hO (lv_sub hl [0, 1, 3, 4] rfl) (by exact hJ) (by exact hT) (by exact hW) (by first | decide | omega) (by first | decide | omega) (by first | decide | omega)
          · refine lv_aload_n hx hb dX5_readSum_31 rfl (lv_at hl 2 rfl) ?_
            refine gf_RX5_9 (v := .ref (a 1)) C hO 27 cW_27 rfl dX5_readSum_32 ?_
            refine gf_RX5_36 (v := .int (fI u4 1 4)) C hO 1 cW_1 rfl dX5_readSum_35 ?_
            refine lv_bipush (v := 45) hx hb dX5_readSum_38 (by decide) ?_
            refine cs_ne (tgt := 84) (X := ((fI u4 1 4)).toInt) (Y := 45) hx hb dX5_readSum_40 (by decide) rfl rfl (fun c28 => ?_) (fun c28 => ?_)
            · refine lv_iload_n hx hb dX5_readSum_84 rfl (lv_at hl 1 rfl) ?_
              have hw2_k5 : w2_k5 = 0 ∨ w2_k5 = 1 := i_b01 rfl (by omega) (by omega)
              refine hret _ _ _ _ _ _ dX5_readSum_85 (by rcases hw2_k5 with h | h <;> rw [h] <;> rfl) ?_ hO
              exact ⟨hw2_k5, hJ, hT, hW⟩
            · refine lv_aload_n hx hb dX5_readSum_43 rfl (lv_at hl 2 rfl) ?_
              refine gf_RX5_9 (v := .ref (a 1)) C hO 27 cW_27 rfl dX5_readSum_44 ?_
              refine gf_RX5_36 (v := .int (fI u4 1 4)) C hO 1 cW_1 rfl dX5_readSum_47 ?_
              refine lv_istore (lv' := [(4, .int (fI u4 1 4)), (3, .int i_k5), (2, .int w2_k5), (0, .ref (a 27)), (1, .int 6)]) hx hb dX5_readSum_50 hl (by decide) rfl (fun ls hl => ?_)
              refine lv_aload_n hx hb dX5_readSum_52 rfl (lv_at hl 3 rfl) ?_
              refine gf_RX5_9 (v := .ref (a 1)) C hO 27 cW_27 rfl dX5_readSum_53 ?_
              refine cVv (w := cW cy a) (As := []) (rest := []) C hO (T_X7_advance l D cy a _ (by exact hJ) (by exact hW)) (cwV 0 ht (gV wd_695 wd_541 wd_542 wd_111 wd_543) rfl rfl rfl hd_yX7_advance ⟨Nat.le_of_ble_eq_true rfl, Nat.le_of_ble_eq_true rfl⟩) 1 rfl cW_1 rfl rfl hl.1 (Nat.le_of_ble_eq_true rfl) dX5_readSum_56 rfl ⟨Nat.zero_le _, Nat.zero_le _⟩ (fun u30 H locs hp31 hO => ?_)
              have g32 : 0 ≤ (fI u4 15 9).toInt ∧ (fI u4 15 9).toInt ≤ 8 := by have h := CI_15_9 hJ; exact h
              have g33 : 0 ≤ (fI u4 15 10).toInt ∧ (fI u4 15 10).toInt ≤ 14 := by have h := CI_15_10 hJ; exact h
              have g34 : 0 ≤ (fI u4 15 11).toInt ∧ (fI u4 15 11).toInt ≤ 8 := by have h := CI_15_11 hJ; exact h
              have g35 : 0 ≤ (fI u4 15 12).toInt ∧ (fI u4 15 12).toInt ≤ 6 := by have h := CI_15_12 hJ; exact h
              obtain ⟨hJ, hTu30, hW⟩ := hp31
              have hT : KT u u30 := KT.tr (by exact hT) hTu30.1
              have hI_15_9_u30 : fI u30 15 9 = (fI u4 15 9) := hTu30.2.1
              have hI_15_10_u30 : fI u30 15 10 = (fI u4 15 10) := hTu30.2.2.1
              have hI_15_11_u30 : fI u30 15 11 = (fI u4 15 11) := hTu30.2.2.2.1
              have hI_15_12_u30 : fI u30 15 12 = (fI u4 15 12) := hTu30.2.2.2.2
              refine lv_aload_n hx hb dX5_readSum_59 rfl (lv_at hl 3 rfl) ?_
              refine lv_iload_n hx hb dX5_readSum_60 rfl (lv_at hl 4 rfl) ?_
              refine cVi (w := cW cy a) (As := [.int 6]) (rest := []) C hO (T_X5_readProduct_6 l D cy a _ (by exact hJ) (by exact hW)) (cwV 1 ht (gV wd_767 wd_769 wd_22 wd_114 wd_770) rfl rfl rfl hd_yX5_readProduct ⟨Nat.le_of_ble_eq_true rfl, Nat.le_of_ble_eq_true rfl⟩) 27 rfl cW_27 rfl rfl hl.1 (Nat.le_of_ble_eq_true rfl) dX5_readSum_61 rfl ⟨Nat.zero_le _, Nat.zero_le _⟩ (fun r36 u37 H locs hp38 hO => ?_)
              obtain ⟨hr36, hJ, hTu37, hW⟩ := hp38
              have gr36 : 0 ≤ r36.toInt ∧ r36.toInt ≤ 1 := by rcases hr36 with h | h <;> rw [h] <;> decide
              have hT : KT u u37 := KT.tr (by exact hT) hTu37
              refine lv_istore_n (lv' := [(2, .int r36), (4, .int (fI u4 1 4)), (3, .int i_k5), (0, .ref (a 27)), (1, .int 6)]) hx hb dX5_readSum_64 rfl hl (by decide) rfl (fun ls hl => ?_)
              refine lv_aload_n hx hb dX5_readSum_65 rfl (lv_at hl 3 rfl) ?_
              refine gf_RX5_15 (v := .ref (a 15)) C hO 27 cW_27 (congrArg (fun z : Nat => some (Value.ref z)) hW) dX5_readSum_66 ?_
              refine gf_RX5_173 (v := .ref (a 24)) C hO 15 cW_15 rfl dX5_readSum_69 ?_
              refine lv_iload hx hb dX5_readSum_72 (lv_at hl 1 rfl) ?_
              refine lv_ineg hx hb dX5_readSum_74 ?_
              refine lv_topi (fun z39 ez39 => ?_)
              refine cVv (w := cW cy a) (As := [.int z39]) (rest := []) C hO (T_X4_add l D cy a _ (by exact hJ) (by exact hW) (z39)) (cwV 1 ht (gV wd_759 wd_760 wd_761 wd_113 wd_762) rfl rfl rfl hd_yX4_add ⟨Nat.le_of_ble_eq_true rfl, Nat.le_of_ble_eq_true rfl⟩) 24 rfl cW_24 rfl rfl hl.1 (Nat.le_of_ble_eq_true rfl) dX5_readSum_75 rfl ⟨Nat.zero_le _, Nat.zero_le _⟩ (fun u41 H locs hp42 hO => ?_)
              have g43 : 0 ≤ (fI u37 15 9).toInt ∧ (fI u37 15 9).toInt ≤ 8 := by have h := CI_15_9 hJ; exact h
              have g44 : 0 ≤ (fI u37 15 10).toInt ∧ (fI u37 15 10).toInt ≤ 14 := by have h := CI_15_10 hJ; exact h
              have g45 : 0 ≤ (fI u37 15 11).toInt ∧ (fI u37 15 11).toInt ≤ 8 := by have h := CI_15_11 hJ; exact h
              have g46 : 0 ≤ (fI u37 15 12).toInt ∧ (fI u37 15 12).toInt ≤ 6 := by have h := CI_15_12 hJ; exact h
              obtain ⟨hJ, hTu41, hW⟩ := hp42
              have hT : KT u u41 := KT.tr (by exact hT) hTu41.1
              have hI_15_9_u41 : fI u41 15 9 = (fI u37 15 9) := hTu41.2.1
              have hI_15_10_u41 : fI u41 15 10 = (fI u37 15 10) := hTu41.2.2.1
              have hI_15_11_u41 : fI u41 15 11 = (fI u37 15 11) := hTu41.2.2.2.1
              have hI_15_12_u41 : fI u41 15 12 = (fI u37 15 12) := hTu41.2.2.2.2
              have e47 : ((i_k5 + 1)).toInt = (i_k5).toInt + 1 := i_add rfl rfl (by omega)
              refine lv_iinc (v := (i_k5 + 1)) (lv' := [(3, .int (i_k5 + 1)), (2, .int r36), (4, .int (fI u4 1 4)), (0, .ref (a 27)), (1, .int 6)]) hx hb dX5_readSum_78 hl (k := 2) rfl rfl (by decide) rfl (fun ls hl => ?_)
              refine lv_goto (tgt := 8) hx hb dX5_readSum_81 (by decide) ?_
              exact ih_k5 _ _ _ _ ((i_k5 + 1)) (r36) hO (lv_sub hl [0, 1, 3, 4] rfl) (by exact hJ) (by exact hT) (by exact hW) (by first | decide | omega) (by first | decide | omega) (by first | decide | omega)
  exact LP_8_k5 4000 _ _ _ _ (0) (r1) hO (lv_sub hl [0, 1, 2, 3] rfl) (by exact hJ) (by exact hT) (by exact hW) (by first | decide | omega) (by first | decide | omega) (by first | decide | omega)
set_option maxHeartbeats 4000000 in
set_option maxRecDepth 100000 in
theorem T_X5_readNot_6 (l : Launch) (D : va_G) (cy : Nat → ClassId) (a : Nat → Nat) (u : St) (hJ : CI a u) (hW : fR u 2 = a 15)   : Mi l D cy (cW cy a) yX5_readNot (.code yX5_readNot cX5_readNot 3 (some .boolean)) (rmo 10 224) [.ref (a 27), .int 6] u (fun (r : Int32) (u' : St) => (r = 0 ∨ r = 1) ∧ (CI a u') ∧ (KT u u') ∧ (fR u' 2 = a 15)) := by
  refine Mi.of (own := RX5) rfl (by decide) (Nat.le_of_ble_eq_true rfl) ?_
  have hT : KT u u := KT.rf
  intro p e s m below meth c A Q ls C hret hO hl
  obtain ⟨hx, hb, hml, hown, ht, hK, hA⟩ := id C
  have hl : lv_has ls 3 [(0, .ref (a 27)), (1, .int 6)] := hl
  refine lv_iload_n hx hb dX5_readNot_0 rfl (lv_at hl 1 rfl) ?_
  refine lv_bipush (v := 6) hx hb dX5_readNot_1 (by decide) ?_
  refine ct_le (tgt := 12) (X := 6) (Y := 6) hx hb dX5_readNot_3 (by decide) rfl rfl (by omega) ?_
  refine lv_aload_n hx hb dX5_readNot_12 rfl (lv_at hl 0 rfl) ?_
  refine gf_RX5_9 (v := .ref (a 1)) C hO 27 cW_27 rfl dX5_readNot_13 ?_
  refine cVv (w := cW cy a) (As := []) (rest := []) C hO (T_X7_advance l D cy a _ (by exact hJ) (by exact hW)) (cwV 0 ht (gV wd_695 wd_541 wd_542 wd_111 wd_543) rfl rfl rfl hd_yX7_advance ⟨Nat.le_of_ble_eq_true rfl, Nat.le_of_ble_eq_true rfl⟩) 1 rfl cW_1 rfl rfl hl.1 (Nat.le_of_ble_eq_true rfl) dX5_readNot_16 rfl ⟨Nat.zero_le _, Nat.zero_le _⟩ (fun u2 H locs hp3 hO => ?_)
  have g4 : 0 ≤ (fI u 15 9).toInt ∧ (fI u 15 9).toInt ≤ 8 := by have h := CI_15_9 hJ; exact h
  have g5 : 0 ≤ (fI u 15 10).toInt ∧ (fI u 15 10).toInt ≤ 14 := by have h := CI_15_10 hJ; exact h
  have g6 : 0 ≤ (fI u 15 11).toInt ∧ (fI u 15 11).toInt ≤ 8 := by have h := CI_15_11 hJ; exact h
  have g7 : 0 ≤ (fI u 15 12).toInt ∧ (fI u 15 12).toInt ≤ 6 := by have h := CI_15_12 hJ; exact h
  obtain ⟨hJ, hTu2, hW⟩ := hp3
  have hT : KT u u2 := KT.tr (by exact hT) hTu2.1
  have hI_15_9_u2 : fI u2 15 9 = (fI u 15 9) := hTu2.2.1
  have hI_15_10_u2 : fI u2 15 10 = (fI u 15 10) := hTu2.2.2.1
  have hI_15_11_u2 : fI u2 15 11 = (fI u 15 11) := hTu2.2.2.2.1
  have hI_15_12_u2 : fI u2 15 12 = (fI u 15 12) := hTu2.2.2.2.2
  refine lv_aload_n hx hb dX5_readNot_19 rfl (lv_at hl 0 rfl) ?_
  refine lv_iload_n hx hb dX5_readNot_20 rfl (lv_at hl 1 rfl) ?_
  refine lv_iconst (v := 1) hx hb dX5_readNot_21 (by decide) ?_
  refine lv_iadd hx hb dX5_readNot_22 ?_
  refine tE (y := 7) rfl ?_
  refine cVi (w := cW cy a) (As := [.int 7]) (rest := []) C hO (T_X5_readOne_7 l D cy a _ (by exact hJ) (by exact hW)) (cwV 1 ht (gV wd_751 wd_753 wd_19 wd_114 wd_754) rfl rfl rfl hd_yX5_readOne ⟨Nat.le_of_ble_eq_true rfl, Nat.le_of_ble_eq_true rfl⟩) 27 rfl cW_27 rfl rfl hl.1 (Nat.le_of_ble_eq_true rfl) dX5_readNot_23 rfl ⟨Nat.zero_le _, Nat.zero_le _⟩ (fun r8 u9 H locs hp10 hO => ?_)
  obtain ⟨hr8, hJ, hTu9, hW⟩ := hp10
  have gr8 : 0 ≤ r8.toInt ∧ r8.toInt ≤ 1 := by rcases hr8 with h | h <;> rw [h] <;> decide
  have hT : KT u u9 := KT.tr (by exact hT) hTu9
  refine lv_istore_n (lv' := [(2, .int r8), (0, .ref (a 27)), (1, .int 6)]) hx hb dX5_readNot_26 rfl hl (by decide) rfl (fun ls hl => ?_)
  refine lv_aload_n hx hb dX5_readNot_27 rfl (lv_at hl 1 rfl) ?_
  refine gf_RX5_15 (v := .ref (a 15)) C hO 27 cW_27 (congrArg (fun z : Nat => some (Value.ref z)) hW) dX5_readNot_28 ?_
  refine gf_RX5_173 (v := .ref (a 24)) C hO 15 cW_15 rfl dX5_readNot_31 ?_
  refine lv_bipush (v := (-15)) hx hb dX5_readNot_34 (by decide) ?_
  refine cVv (w := cW cy a) (As := [.int (-15)]) (rest := []) C hO (T_X4_add l D cy a _ (by exact hJ) (by exact hW) ((-15))) (cwV 1 ht (gV wd_759 wd_760 wd_761 wd_113 wd_762) rfl rfl rfl hd_yX4_add ⟨Nat.le_of_ble_eq_true rfl, Nat.le_of_ble_eq_true rfl⟩) 24 rfl cW_24 rfl rfl hl.1 (Nat.le_of_ble_eq_true rfl) dX5_readNot_36 rfl ⟨Nat.zero_le _, Nat.zero_le _⟩ (fun u12 H locs hp13 hO => ?_)
  have g14 : 0 ≤ (fI u9 15 9).toInt ∧ (fI u9 15 9).toInt ≤ 8 := by have h := CI_15_9 hJ; exact h
  have g15 : 0 ≤ (fI u9 15 10).toInt ∧ (fI u9 15 10).toInt ≤ 14 := by have h := CI_15_10 hJ; exact h
  have g16 : 0 ≤ (fI u9 15 11).toInt ∧ (fI u9 15 11).toInt ≤ 8 := by have h := CI_15_11 hJ; exact h
  have g17 : 0 ≤ (fI u9 15 12).toInt ∧ (fI u9 15 12).toInt ≤ 6 := by have h := CI_15_12 hJ; exact h
  obtain ⟨hJ, hTu12, hW⟩ := hp13
  have hT : KT u u12 := KT.tr (by exact hT) hTu12.1
  have hI_15_9_u12 : fI u12 15 9 = (fI u9 15 9) := hTu12.2.1
  have hI_15_10_u12 : fI u12 15 10 = (fI u9 15 10) := hTu12.2.2.1
  have hI_15_11_u12 : fI u12 15 11 = (fI u9 15 11) := hTu12.2.2.2.1
  have hI_15_12_u12 : fI u12 15 12 = (fI u9 15 12) := hTu12.2.2.2.2
  refine lv_iload_n hx hb dX5_readNot_39 rfl (lv_at hl 0 rfl) ?_
  refine hret _ _ _ _ _ _ dX5_readNot_40 (by rcases hr8 with h | h <;> rw [h] <;> rfl) ?_ hO
  exact ⟨hr8, hJ, hT, hW⟩
set_option maxHeartbeats 4000000 in
set_option maxRecDepth 100000 in
theorem T_X5_readOne_6 (l : Launch) (D : va_G) (cy : Nat → ClassId) (a : Nat → Nat) (u : St) (hJ : CI a u) (hW : fR u 2 = a 15)   : Mi l D cy (cW cy a) yX5_readOne (.code yX5_readOne cX5_readOne 4 (some .boolean)) (rmo 16 361) [.ref (a 27), .int 6] u (fun (r : Int32) (u' : St) => (r = 0 ∨ r = 1) ∧ (CI a u') ∧ (KT u u') ∧ (fR u' 2 = a 15)) := by
  refine Mi.of (own := RX5) rfl (by decide) (Nat.le_of_ble_eq_true rfl) ?_
  have hT : KT u u := KT.rf
  intro p e s m below meth c A Q ls C hret hO hl
  obtain ⟨hx, hb, hml, hown, ht, hK, hA⟩ := id C
  have hl : lv_has ls 4 [(0, .ref (a 27)), (1, .int 6)] := hl
  refine lv_aload_n hx hb dX5_readOne_0 rfl (lv_at hl 0 rfl) ?_
  refine gf_RX5_9 (v := .ref (a 1)) C hO 27 cW_27 rfl dX5_readOne_1 ?_
  refine gf_RX5_36 (v := .int (fI u 1 4)) C hO 1 cW_1 rfl dX5_readOne_4 ?_
  refine lv_bipush (v := 15) hx hb dX5_readOne_7 (by decide) ?_
  refine cs_ne (tgt := 18) (X := ((fI u 1 4)).toInt) (Y := 15) hx hb dX5_readOne_9 (by decide) rfl rfl (fun c1 => ?_) (fun c1 => ?_)
  · refine lv_aload_n hx hb dX5_readOne_18 rfl (lv_at hl 0 rfl) ?_
    refine lv_iload_n hx hb dX5_readOne_19 rfl (lv_at hl 1 rfl) ?_
    refine cVi (w := cW cy a) (As := [.int 6]) (rest := []) C hO (T_X5_readSum_6 l D cy a _ (by exact hJ) (by exact hW)) (cwV 1 ht (gV wd_763 wd_765 wd_21 wd_114 wd_766) rfl rfl rfl hd_yX5_readSum ⟨Nat.le_of_ble_eq_true rfl, Nat.le_of_ble_eq_true rfl⟩) 27 rfl cW_27 rfl rfl hl.1 (Nat.le_of_ble_eq_true rfl) dX5_readOne_20 rfl ⟨Nat.zero_le _, Nat.zero_le _⟩ (fun r2 u3 H locs hp4 hO => ?_)
    obtain ⟨hr2, hJ, hTu3, hW⟩ := hp4
    have gr2 : 0 ≤ r2.toInt ∧ r2.toInt ≤ 1 := by rcases hr2 with h | h <;> rw [h] <;> decide
    have hT : KT u u3 := KT.tr (by exact hT) hTu3
    refine bs_ne (tgt := 28) (X := (r2).toInt) hx hb dX5_readOne_23 (by decide) rfl (fun c5 => ?_) (fun c5 => ?_)
    · refine lv_aload_n hx hb dX5_readOne_28 rfl (lv_at hl 0 rfl) ?_
      refine gf_RX5_9 (v := .ref (a 1)) C hO 27 cW_27 rfl dX5_readOne_29 ?_
      refine gf_RX5_36 (v := .int (fI u3 1 4)) C hO 1 cW_1 rfl dX5_readOne_32 ?_
      refine lv_istore_n (lv' := [(2, .int (fI u3 1 4)), (0, .ref (a 27)), (1, .int 6)]) hx hb dX5_readOne_35 rfl hl (by decide) rfl (fun ls hl => ?_)
      refine lv_iload_n hx hb dX5_readOne_36 rfl (lv_at hl 0 rfl) ?_
      refine lv_bipush (v := 60) hx hb dX5_readOne_37 (by decide) ?_
      refine cs_eq (tgt := 56) (X := ((fI u3 1 4)).toInt) (Y := 60) hx hb dX5_readOne_39 (by decide) rfl rfl (fun c6 => ?_) (fun c6 => ?_)
      · refine lv_aload_n hx hb dX5_readOne_56 rfl (lv_at hl 1 rfl) ?_
        refine gf_RX5_9 (v := .ref (a 1)) C hO 27 cW_27 rfl dX5_readOne_57 ?_
        refine cVv (w := cW cy a) (As := []) (rest := []) C hO (T_X7_advance l D cy a _ (by exact hJ) (by exact hW)) (cwV 0 ht (gV wd_695 wd_541 wd_542 wd_111 wd_543) rfl rfl rfl hd_yX7_advance ⟨Nat.le_of_ble_eq_true rfl, Nat.le_of_ble_eq_true rfl⟩) 1 rfl cW_1 rfl rfl hl.1 (Nat.le_of_ble_eq_true rfl) dX5_readOne_60 rfl ⟨Nat.zero_le _, Nat.zero_le _⟩ (fun u8 H locs hp9 hO => ?_)
        have g10 : 0 ≤ (fI u3 15 9).toInt ∧ (fI u3 15 9).toInt ≤ 8 := by have h := CI_15_9 hJ; exact h
        have g11 : 0 ≤ (fI u3 15 10).toInt ∧ (fI u3 15 10).toInt ≤ 14 := by have h := CI_15_10 hJ; exact h
        have g12 : 0 ≤ (fI u3 15 11).toInt ∧ (fI u3 15 11).toInt ≤ 8 := by have h := CI_15_11 hJ; exact h
        have g13 : 0 ≤ (fI u3 15 12).toInt ∧ (fI u3 15 12).toInt ≤ 6 := by have h := CI_15_12 hJ; exact h
        obtain ⟨hJ, hTu8, hW⟩ := hp9
        have hT : KT u u8 := KT.tr (by exact hT) hTu8.1
        have hI_15_9_u8 : fI u8 15 9 = (fI u3 15 9) := hTu8.2.1
        have hI_15_10_u8 : fI u8 15 10 = (fI u3 15 10) := hTu8.2.2.1
        have hI_15_11_u8 : fI u8 15 11 = (fI u3 15 11) := hTu8.2.2.2.1
        have hI_15_12_u8 : fI u8 15 12 = (fI u3 15 12) := hTu8.2.2.2.2
        refine lv_aload_n hx hb dX5_readOne_63 rfl (lv_at hl 1 rfl) ?_
        refine lv_iload_n hx hb dX5_readOne_64 rfl (lv_at hl 2 rfl) ?_
        refine cVi (w := cW cy a) (As := [.int 6]) (rest := []) C hO (T_X5_readSum_6 l D cy a _ (by exact hJ) (by exact hW)) (cwV 1 ht (gV wd_763 wd_765 wd_21 wd_114 wd_766) rfl rfl rfl hd_yX5_readSum ⟨Nat.le_of_ble_eq_true rfl, Nat.le_of_ble_eq_true rfl⟩) 27 rfl cW_27 rfl rfl hl.1 (Nat.le_of_ble_eq_true rfl) dX5_readOne_65 rfl ⟨Nat.zero_le _, Nat.zero_le _⟩ (fun r14 u15 H locs hp16 hO => ?_)
        obtain ⟨hr14, hJ, hTu15, hW⟩ := hp16
        have gr14 : 0 ≤ r14.toInt ∧ r14.toInt ≤ 1 := by rcases hr14 with h | h <;> rw [h] <;> decide
        have hT : KT u u15 := KT.tr (by exact hT) hTu15
        refine lv_istore_n (lv' := [(3, .int r14), (2, .int (fI u3 1 4)), (0, .ref (a 27)), (1, .int 6)]) hx hb dX5_readOne_68 rfl hl (by decide) rfl (fun ls hl => ?_)
        refine lv_aload_n hx hb dX5_readOne_69 rfl (lv_at hl 2 rfl) ?_
        refine gf_RX5_15 (v := .ref (a 15)) C hO 27 cW_27 (congrArg (fun z : Nat => some (Value.ref z)) hW) dX5_readOne_70 ?_
        refine gf_RX5_173 (v := .ref (a 24)) C hO 15 cW_15 rfl dX5_readOne_73 ?_
        refine lv_iload_n hx hb dX5_readOne_76 rfl (lv_at hl 1 rfl) ?_
        refine lv_ineg hx hb dX5_readOne_77 ?_
        refine lv_topi (fun z17 ez17 => ?_)
        refine cVv (w := cW cy a) (As := [.int z17]) (rest := []) C hO (T_X4_add l D cy a _ (by exact hJ) (by exact hW) (z17)) (cwV 1 ht (gV wd_759 wd_760 wd_761 wd_113 wd_762) rfl rfl rfl hd_yX4_add ⟨Nat.le_of_ble_eq_true rfl, Nat.le_of_ble_eq_true rfl⟩) 24 rfl cW_24 rfl rfl hl.1 (Nat.le_of_ble_eq_true rfl) dX5_readOne_78 rfl ⟨Nat.zero_le _, Nat.zero_le _⟩ (fun u19 H locs hp20 hO => ?_)
        have g21 : 0 ≤ (fI u15 15 9).toInt ∧ (fI u15 15 9).toInt ≤ 8 := by have h := CI_15_9 hJ; exact h
        have g22 : 0 ≤ (fI u15 15 10).toInt ∧ (fI u15 15 10).toInt ≤ 14 := by have h := CI_15_10 hJ; exact h
        have g23 : 0 ≤ (fI u15 15 11).toInt ∧ (fI u15 15 11).toInt ≤ 8 := by have h := CI_15_11 hJ; exact h
        have g24 : 0 ≤ (fI u15 15 12).toInt ∧ (fI u15 15 12).toInt ≤ 6 := by have h := CI_15_12 hJ; exact h
        obtain ⟨hJ, hTu19, hW⟩ := hp20
        have hT : KT u u19 := KT.tr (by exact hT) hTu19.1
        have hI_15_9_u19 : fI u19 15 9 = (fI u15 15 9) := hTu19.2.1
        have hI_15_10_u19 : fI u19 15 10 = (fI u15 15 10) := hTu19.2.2.1
        have hI_15_11_u19 : fI u19 15 11 = (fI u15 15 11) := hTu19.2.2.2.1
        have hI_15_12_u19 : fI u19 15 12 = (fI u15 15 12) := hTu19.2.2.2.2
        refine lv_iload_n hx hb dX5_readOne_81 rfl (lv_at hl 0 rfl) ?_
        refine hret _ _ _ _ _ _ dX5_readOne_82 (by rcases hr14 with h | h <;> rw [h] <;> rfl) ?_ hO
        exact ⟨hr14, hJ, hT, hW⟩
      · refine lv_iload_n hx hb dX5_readOne_42 rfl (lv_at hl 0 rfl) ?_
        refine lv_bipush (v := 62) hx hb dX5_readOne_43 (by decide) ?_
        refine cs_eq (tgt := 56) (X := ((fI u3 1 4)).toInt) (Y := 62) hx hb dX5_readOne_45 (by decide) rfl rfl (fun c25 => ?_) (fun c25 => ?_)
        · refine lv_aload_n hx hb dX5_readOne_56 rfl (lv_at hl 1 rfl) ?_
          refine gf_RX5_9 (v := .ref (a 1)) C hO 27 cW_27 rfl dX5_readOne_57 ?_
          refine cVv (w := cW cy a) (As := []) (rest := []) C hO (T_X7_advance l D cy a _ (by exact hJ) (by exact hW)) (cwV 0 ht (gV wd_695 wd_541 wd_542 wd_111 wd_543) rfl rfl rfl hd_yX7_advance ⟨Nat.le_of_ble_eq_true rfl, Nat.le_of_ble_eq_true rfl⟩) 1 rfl cW_1 rfl rfl hl.1 (Nat.le_of_ble_eq_true rfl) dX5_readOne_60 rfl ⟨Nat.zero_le _, Nat.zero_le _⟩ (fun u27 H locs hp28 hO => ?_)
          have g29 : 0 ≤ (fI u3 15 9).toInt ∧ (fI u3 15 9).toInt ≤ 8 := by have h := CI_15_9 hJ; exact h
          have g30 : 0 ≤ (fI u3 15 10).toInt ∧ (fI u3 15 10).toInt ≤ 14 := by have h := CI_15_10 hJ; exact h
          have g31 : 0 ≤ (fI u3 15 11).toInt ∧ (fI u3 15 11).toInt ≤ 8 := by have h := CI_15_11 hJ; exact h
          have g32 : 0 ≤ (fI u3 15 12).toInt ∧ (fI u3 15 12).toInt ≤ 6 := by have h := CI_15_12 hJ; exact h
          obtain ⟨hJ, hTu27, hW⟩ := hp28
          have hT : KT u u27 := KT.tr (by exact hT) hTu27.1
          have hI_15_9_u27 : fI u27 15 9 = (fI u3 15 9) := hTu27.2.1
          have hI_15_10_u27 : fI u27 15 10 = (fI u3 15 10) := hTu27.2.2.1
          have hI_15_11_u27 : fI u27 15 11 = (fI u3 15 11) := hTu27.2.2.2.1
          have hI_15_12_u27 : fI u27 15 12 = (fI u3 15 12) := hTu27.2.2.2.2
          refine lv_aload_n hx hb dX5_readOne_63 rfl (lv_at hl 1 rfl) ?_
          refine lv_iload_n hx hb dX5_readOne_64 rfl (lv_at hl 2 rfl) ?_
          refine cVi (w := cW cy a) (As := [.int 6]) (rest := []) C hO (T_X5_readSum_6 l D cy a _ (by exact hJ) (by exact hW)) (cwV 1 ht (gV wd_763 wd_765 wd_21 wd_114 wd_766) rfl rfl rfl hd_yX5_readSum ⟨Nat.le_of_ble_eq_true rfl, Nat.le_of_ble_eq_true rfl⟩) 27 rfl cW_27 rfl rfl hl.1 (Nat.le_of_ble_eq_true rfl) dX5_readOne_65 rfl ⟨Nat.zero_le _, Nat.zero_le _⟩ (fun r33 u34 H locs hp35 hO => ?_)
          obtain ⟨hr33, hJ, hTu34, hW⟩ := hp35
          have gr33 : 0 ≤ r33.toInt ∧ r33.toInt ≤ 1 := by rcases hr33 with h | h <;> rw [h] <;> decide
          have hT : KT u u34 := KT.tr (by exact hT) hTu34
          refine lv_istore_n (lv' := [(3, .int r33), (2, .int (fI u3 1 4)), (0, .ref (a 27)), (1, .int 6)]) hx hb dX5_readOne_68 rfl hl (by decide) rfl (fun ls hl => ?_)
          refine lv_aload_n hx hb dX5_readOne_69 rfl (lv_at hl 2 rfl) ?_
          refine gf_RX5_15 (v := .ref (a 15)) C hO 27 cW_27 (congrArg (fun z : Nat => some (Value.ref z)) hW) dX5_readOne_70 ?_
          refine gf_RX5_173 (v := .ref (a 24)) C hO 15 cW_15 rfl dX5_readOne_73 ?_
          refine lv_iload_n hx hb dX5_readOne_76 rfl (lv_at hl 1 rfl) ?_
          refine lv_ineg hx hb dX5_readOne_77 ?_
          refine lv_topi (fun z36 ez36 => ?_)
          refine cVv (w := cW cy a) (As := [.int z36]) (rest := []) C hO (T_X4_add l D cy a _ (by exact hJ) (by exact hW) (z36)) (cwV 1 ht (gV wd_759 wd_760 wd_761 wd_113 wd_762) rfl rfl rfl hd_yX4_add ⟨Nat.le_of_ble_eq_true rfl, Nat.le_of_ble_eq_true rfl⟩) 24 rfl cW_24 rfl rfl hl.1 (Nat.le_of_ble_eq_true rfl) dX5_readOne_78 rfl ⟨Nat.zero_le _, Nat.zero_le _⟩ (fun u38 H locs hp39 hO => ?_)
          have g40 : 0 ≤ (fI u34 15 9).toInt ∧ (fI u34 15 9).toInt ≤ 8 := by have h := CI_15_9 hJ; exact h
          have g41 : 0 ≤ (fI u34 15 10).toInt ∧ (fI u34 15 10).toInt ≤ 14 := by have h := CI_15_10 hJ; exact h
          have g42 : 0 ≤ (fI u34 15 11).toInt ∧ (fI u34 15 11).toInt ≤ 8 := by have h := CI_15_11 hJ; exact h
          have g43 : 0 ≤ (fI u34 15 12).toInt ∧ (fI u34 15 12).toInt ≤ 6 := by have h := CI_15_12 hJ; exact h
          obtain ⟨hJ, hTu38, hW⟩ := hp39
          have hT : KT u u38 := KT.tr (by exact hT) hTu38.1
          have hI_15_9_u38 : fI u38 15 9 = (fI u34 15 9) := hTu38.2.1
          have hI_15_10_u38 : fI u38 15 10 = (fI u34 15 10) := hTu38.2.2.1
          have hI_15_11_u38 : fI u38 15 11 = (fI u34 15 11) := hTu38.2.2.2.1
          have hI_15_12_u38 : fI u38 15 12 = (fI u34 15 12) := hTu38.2.2.2.2
          refine lv_iload_n hx hb dX5_readOne_81 rfl (lv_at hl 0 rfl) ?_
          refine hret _ _ _ _ _ _ dX5_readOne_82 (by rcases hr33 with h | h <;> rw [h] <;> rfl) ?_ hO
          exact ⟨hr33, hJ, hT, hW⟩
        · refine lv_iload_n hx hb dX5_readOne_48 rfl (lv_at hl 0 rfl) ?_
          refine lv_bipush (v := 61) hx hb dX5_readOne_49 (by decide) ?_
          refine cs_eq (tgt := 56) (X := ((fI u3 1 4)).toInt) (Y := 61) hx hb dX5_readOne_51 (by decide) rfl rfl (fun c44 => ?_) (fun c44 => ?_)
          · refine lv_aload_n hx hb dX5_readOne_56 rfl (lv_at hl 1 rfl) ?_
            refine gf_RX5_9 (v := .ref (a 1)) C hO 27 cW_27 rfl dX5_readOne_57 ?_
            refine cVv (w := cW cy a) (As := []) (rest := []) C hO (T_X7_advance l D cy a _ (by exact hJ) (by exact hW)) (cwV 0 ht (gV wd_695 wd_541 wd_542 wd_111 wd_543) rfl rfl rfl hd_yX7_advance ⟨Nat.le_of_ble_eq_true rfl, Nat.le_of_ble_eq_true rfl⟩) 1 rfl cW_1 rfl rfl hl.1 (Nat.le_of_ble_eq_true rfl) dX5_readOne_60 rfl ⟨Nat.zero_le _, Nat.zero_le _⟩ (fun u46 H locs hp47 hO => ?_)
            have g48 : 0 ≤ (fI u3 15 9).toInt ∧ (fI u3 15 9).toInt ≤ 8 := by have h := CI_15_9 hJ; exact h
            have g49 : 0 ≤ (fI u3 15 10).toInt ∧ (fI u3 15 10).toInt ≤ 14 := by have h := CI_15_10 hJ; exact h
            have g50 : 0 ≤ (fI u3 15 11).toInt ∧ (fI u3 15 11).toInt ≤ 8 := by have h := CI_15_11 hJ; exact h
            have g51 : 0 ≤ (fI u3 15 12).toInt ∧ (fI u3 15 12).toInt ≤ 6 := by have h := CI_15_12 hJ; exact h
            obtain ⟨hJ, hTu46, hW⟩ := hp47
            have hT : KT u u46 := KT.tr (by exact hT) hTu46.1
            have hI_15_9_u46 : fI u46 15 9 = (fI u3 15 9) := hTu46.2.1
            have hI_15_10_u46 : fI u46 15 10 = (fI u3 15 10) := hTu46.2.2.1
            have hI_15_11_u46 : fI u46 15 11 = (fI u3 15 11) := hTu46.2.2.2.1
            have hI_15_12_u46 : fI u46 15 12 = (fI u3 15 12) := hTu46.2.2.2.2
            refine lv_aload_n hx hb dX5_readOne_63 rfl (lv_at hl 1 rfl) ?_
            refine lv_iload_n hx hb dX5_readOne_64 rfl (lv_at hl 2 rfl) ?_
            refine cVi (w := cW cy a) (As := [.int 6]) (rest := []) C hO (T_X5_readSum_6 l D cy a _ (by exact hJ) (by exact hW)) (cwV 1 ht (gV wd_763 wd_765 wd_21 wd_114 wd_766) rfl rfl rfl hd_yX5_readSum ⟨Nat.le_of_ble_eq_true rfl, Nat.le_of_ble_eq_true rfl⟩) 27 rfl cW_27 rfl rfl hl.1 (Nat.le_of_ble_eq_true rfl) dX5_readOne_65 rfl ⟨Nat.zero_le _, Nat.zero_le _⟩ (fun r52 u53 H locs hp54 hO => ?_)
            obtain ⟨hr52, hJ, hTu53, hW⟩ := hp54
            have gr52 : 0 ≤ r52.toInt ∧ r52.toInt ≤ 1 := by rcases hr52 with h | h <;> rw [h] <;> decide
            have hT : KT u u53 := KT.tr (by exact hT) hTu53
            refine lv_istore_n (lv' := [(3, .int r52), (2, .int (fI u3 1 4)), (0, .ref (a 27)), (1, .int 6)]) hx hb dX5_readOne_68 rfl hl (by decide) rfl (fun ls hl => ?_)
            refine lv_aload_n hx hb dX5_readOne_69 rfl (lv_at hl 2 rfl) ?_
            refine gf_RX5_15 (v := .ref (a 15)) C hO 27 cW_27 (congrArg (fun z : Nat => some (Value.ref z)) hW) dX5_readOne_70 ?_
            refine gf_RX5_173 (v := .ref (a 24)) C hO 15 cW_15 rfl dX5_readOne_73 ?_
            refine lv_iload_n hx hb dX5_readOne_76 rfl (lv_at hl 1 rfl) ?_
            refine lv_ineg hx hb dX5_readOne_77 ?_
            refine lv_topi (fun z55 ez55 => ?_)
            refine cVv (w := cW cy a) (As := [.int z55]) (rest := []) C hO (T_X4_add l D cy a _ (by exact hJ) (by exact hW) (z55)) (cwV 1 ht (gV wd_759 wd_760 wd_761 wd_113 wd_762) rfl rfl rfl hd_yX4_add ⟨Nat.le_of_ble_eq_true rfl, Nat.le_of_ble_eq_true rfl⟩) 24 rfl cW_24 rfl rfl hl.1 (Nat.le_of_ble_eq_true rfl) dX5_readOne_78 rfl ⟨Nat.zero_le _, Nat.zero_le _⟩ (fun u57 H locs hp58 hO => ?_)
            have g59 : 0 ≤ (fI u53 15 9).toInt ∧ (fI u53 15 9).toInt ≤ 8 := by have h := CI_15_9 hJ; exact h
            have g60 : 0 ≤ (fI u53 15 10).toInt ∧ (fI u53 15 10).toInt ≤ 14 := by have h := CI_15_10 hJ; exact h
            have g61 : 0 ≤ (fI u53 15 11).toInt ∧ (fI u53 15 11).toInt ≤ 8 := by have h := CI_15_11 hJ; exact h
            have g62 : 0 ≤ (fI u53 15 12).toInt ∧ (fI u53 15 12).toInt ≤ 6 := by have h := CI_15_12 hJ; exact h
            obtain ⟨hJ, hTu57, hW⟩ := hp58
            have hT : KT u u57 := KT.tr (by exact hT) hTu57.1
            have hI_15_9_u57 : fI u57 15 9 = (fI u53 15 9) := hTu57.2.1
            have hI_15_10_u57 : fI u57 15 10 = (fI u53 15 10) := hTu57.2.2.1
            have hI_15_11_u57 : fI u57 15 11 = (fI u53 15 11) := hTu57.2.2.2.1
            have hI_15_12_u57 : fI u57 15 12 = (fI u53 15 12) := hTu57.2.2.2.2
            refine lv_iload_n hx hb dX5_readOne_81 rfl (lv_at hl 0 rfl) ?_
            refine hret _ _ _ _ _ _ dX5_readOne_82 (by rcases hr52 with h | h <;> rw [h] <;> rfl) ?_ hO
            exact ⟨hr52, hJ, hT, hW⟩
          · refine lv_iconst (v := 1) hx hb dX5_readOne_54 (by decide) ?_
            refine hret _ _ _ _ _ _ dX5_readOne_55 rfl ?_ hO
            exact ⟨Or.inr rfl, hJ, hT, hW⟩
    · refine lv_iconst (v := 0) hx hb dX5_readOne_26 (by decide) ?_
      refine hret _ _ _ _ _ _ dX5_readOne_27 rfl ?_ hO
      exact ⟨Or.inl rfl, hJ, hT, hW⟩
  · refine lv_aload_n hx hb dX5_readOne_12 rfl (lv_at hl 0 rfl) ?_
    refine lv_iload_n hx hb dX5_readOne_13 rfl (lv_at hl 1 rfl) ?_
    refine cVi (w := cW cy a) (As := [.int 6]) (rest := []) C hO (T_X5_readNot_6 l D cy a _ (by exact hJ) (by exact hW)) (cwV 1 ht (gV wd_755 wd_757 wd_20 wd_114 wd_758) rfl rfl rfl hd_yX5_readNot ⟨Nat.le_of_ble_eq_true rfl, Nat.le_of_ble_eq_true rfl⟩) 27 rfl cW_27 rfl rfl hl.1 (Nat.le_of_ble_eq_true rfl) dX5_readOne_14 rfl ⟨Nat.zero_le _, Nat.zero_le _⟩ (fun r63 u64 H locs hp65 hO => ?_)
    obtain ⟨hr63, hJ, hTu64, hW⟩ := hp65
    have gr63 : 0 ≤ r63.toInt ∧ r63.toInt ≤ 1 := by rcases hr63 with h | h <;> rw [h] <;> decide
    have hT : KT u u64 := KT.tr (by exact hT) hTu64
    refine hret _ _ _ _ _ _ dX5_readOne_17 (by rcases hr63 with h | h <;> rw [h] <;> rfl) ?_ hO
    exact ⟨hr63, hJ, hT, hW⟩
set_option maxHeartbeats 4000000 in
set_option maxRecDepth 100000 in
theorem T_X5_readBoth_6 (l : Launch) (D : va_G) (cy : Nat → ClassId) (a : Nat → Nat) (u : St) (hJ : CI a u) (hW : fR u 2 = a 15)   : Mi l D cy (cW cy a) yX5_readBoth (.code yX5_readBoth cX5_readBoth 4 (some .boolean)) (rmo 17 384) [.ref (a 27), .int 6] u (fun (r : Int32) (u' : St) => (r = 0 ∨ r = 1) ∧ (CI a u') ∧ (KT u u') ∧ (fR u' 2 = a 15)) := by
  refine Mi.of (own := RX5) rfl (by decide) (Nat.le_of_ble_eq_true rfl) ?_
  have hT : KT u u := KT.rf
  intro p e s m below meth c A Q ls C hret hO hl
  obtain ⟨hx, hb, hml, hown, ht, hK, hA⟩ := id C
  have hl : lv_has ls 4 [(0, .ref (a 27)), (1, .int 6)] := hl
  refine lv_aload_n hx hb dX5_readBoth_0 rfl (lv_at hl 0 rfl) ?_
  refine lv_iload_n hx hb dX5_readBoth_1 rfl (lv_at hl 1 rfl) ?_
  refine cVi (w := cW cy a) (As := [.int 6]) (rest := []) C hO (T_X5_readOne_6 l D cy a _ (by exact hJ) (by exact hW)) (cwV 1 ht (gV wd_751 wd_753 wd_19 wd_114 wd_754) rfl rfl rfl hd_yX5_readOne ⟨Nat.le_of_ble_eq_true rfl, Nat.le_of_ble_eq_true rfl⟩) 27 rfl cW_27 rfl rfl hl.1 (Nat.le_of_ble_eq_true rfl) dX5_readBoth_2 rfl ⟨Nat.zero_le _, Nat.zero_le _⟩ (fun r1 u2 H locs hp3 hO => ?_)
  obtain ⟨hr1, hJ, hTu2, hW⟩ := hp3
  have gr1 : 0 ≤ r1.toInt ∧ r1.toInt ≤ 1 := by rcases hr1 with h | h <;> rw [h] <;> decide
  have hT : KT u u2 := KT.tr (by exact hT) hTu2
  refine lv_istore_n (lv' := [(2, .int r1), (0, .ref (a 27)), (1, .int 6)]) hx hb dX5_readBoth_5 rfl hl (by decide) rfl (fun ls hl => ?_)
  refine lv_iconst (v := 0) hx hb dX5_readBoth_6 (by decide) ?_
  refine lv_istore_n (lv' := [(3, .int 0), (2, .int r1), (0, .ref (a 27)), (1, .int 6)]) hx hb dX5_readBoth_7 rfl hl (by decide) rfl (fun ls hl => ?_)
  have LP_8_k5 : ∀ (n : Nat) (u4 : St) (H : Heap) (locs : List Loc) (ls : Array Slot) (i_k5 : Int32) (w2_k5 : Int32), Wo D A (cW cy a u4) s.heap H locs → lv_has ls 4 [(3, .int i_k5), (2, .int w2_k5), (0, .ref (a 27)), (1, .int 6)] → CI a u4 → KT u u4 → fR u4 2 = a 15 → 0 ≤ i_k5.toInt ∧ i_k5.toInt ≤ 1600 → 0 ≤ w2_k5.toInt ∧ w2_k5.toInt ≤ 1 → 1600 - i_k5.toInt < (n : Int) → W p l e (rmo 17 384) s m [.ref (a 27), .int 6].toArray below meth c H locs 0 0 Q (F0 m 8 ls []) := by
    intro n
    induction n with
    | zero =>
      intro u4 H locs ls i_k5 w2_k5 hO hl hJ hT hW iv0_k5 iv1_k5 hm_k5
      exact absurd hm_k5 (by omega)
    | succ n ih_k5 =>
      intro u4 H locs ls i_k5 w2_k5 hO hl hJ hT hW iv0_k5 iv1_k5 hm_k5
      refine lv_iload_n hx hb dX5_readBoth_8 rfl (lv_at hl 0 rfl) ?_
      refine lv_sipush (v := 1600) hx hb dX5_readBoth_9 (by decide) ?_
      refine cs_ge (tgt := 62) (X := (i_k5).toInt) (Y := 1600) hx hb dX5_readBoth_12 (by decide) rfl rfl (fun c6 => ?_) (fun c6 => ?_)
      · refine lv_iload_n hx hb dX5_readBoth_62 rfl (lv_at hl 1 rfl) ?_
        have hw2_k5 : w2_k5 = 0 ∨ w2_k5 = 1 := i_b01 rfl (by omega) (by omega)
        refine hret _ _ _ _ _ _ dX5_readBoth_63 (by rcases hw2_k5 with h | h <;> rw [h] <;> rfl) ?_ hO
        exact ⟨hw2_k5, hJ, hT, hW⟩
      · refine lv_iload_n hx hb dX5_readBoth_15 rfl (lv_at hl 1 rfl) ?_
        refine bs_eq (tgt := 62) (X := (w2_k5).toInt) hx hb dX5_readBoth_16 (by decide) rfl (fun c7 => ?_) (fun c7 => ?_)
        · refine lv_iload_n hx hb dX5_readBoth_62 rfl (lv_at hl 1 rfl) ?_
          have hw2_k5 : w2_k5 = 0 ∨ w2_k5 = 1 := i_b01 rfl (by omega) (by omega)
          refine hret _ _ _ _ _ _ dX5_readBoth_63 (by rcases hw2_k5 with h | h <;> rw [h] <;> rfl) ?_ hO
          exact ⟨hw2_k5, hJ, hT, hW⟩
        · refine lv_aload_n hx hb dX5_readBoth_19 rfl (lv_at hl 2 rfl) ?_
          refine gf_RX5_9 (v := .ref (a 1)) C hO 27 cW_27 rfl dX5_readBoth_20 ?_
          refine gf_RX5_36 (v := .int (fI u4 1 4)) C hO 1 cW_1 rfl dX5_readBoth_23 ?_
          refine lv_bipush (v := 14) hx hb dX5_readBoth_26 (by decide) ?_
          refine cs_ne (tgt := 62) (X := ((fI u4 1 4)).toInt) (Y := 14) hx hb dX5_readBoth_28 (by decide) rfl rfl (fun c8 => ?_) (fun c8 => ?_)
          · refine lv_iload_n hx hb dX5_readBoth_62 rfl (lv_at hl 1 rfl) ?_
            have hw2_k5 : w2_k5 = 0 ∨ w2_k5 = 1 := i_b01 rfl (by omega) (by omega)
            refine hret _ _ _ _ _ _ dX5_readBoth_63 (by rcases hw2_k5 with h | h <;> rw [h] <;> rfl) ?_ hO
            exact ⟨hw2_k5, hJ, hT, hW⟩
          · refine lv_aload_n hx hb dX5_readBoth_31 rfl (lv_at hl 2 rfl) ?_
            refine gf_RX5_9 (v := .ref (a 1)) C hO 27 cW_27 rfl dX5_readBoth_32 ?_
            refine cVv (w := cW cy a) (As := []) (rest := []) C hO (T_X7_advance l D cy a _ (by exact hJ) (by exact hW)) (cwV 0 ht (gV wd_695 wd_541 wd_542 wd_111 wd_543) rfl rfl rfl hd_yX7_advance ⟨Nat.le_of_ble_eq_true rfl, Nat.le_of_ble_eq_true rfl⟩) 1 rfl cW_1 rfl rfl hl.1 (Nat.le_of_ble_eq_true rfl) dX5_readBoth_35 rfl ⟨Nat.zero_le _, Nat.zero_le _⟩ (fun u10 H locs hp11 hO => ?_)
            have g12 : 0 ≤ (fI u4 15 9).toInt ∧ (fI u4 15 9).toInt ≤ 8 := by have h := CI_15_9 hJ; exact h
            have g13 : 0 ≤ (fI u4 15 10).toInt ∧ (fI u4 15 10).toInt ≤ 14 := by have h := CI_15_10 hJ; exact h
            have g14 : 0 ≤ (fI u4 15 11).toInt ∧ (fI u4 15 11).toInt ≤ 8 := by have h := CI_15_11 hJ; exact h
            have g15 : 0 ≤ (fI u4 15 12).toInt ∧ (fI u4 15 12).toInt ≤ 6 := by have h := CI_15_12 hJ; exact h
            obtain ⟨hJ, hTu10, hW⟩ := hp11
            have hT : KT u u10 := KT.tr (by exact hT) hTu10.1
            have hI_15_9_u10 : fI u10 15 9 = (fI u4 15 9) := hTu10.2.1
            have hI_15_10_u10 : fI u10 15 10 = (fI u4 15 10) := hTu10.2.2.1
            have hI_15_11_u10 : fI u10 15 11 = (fI u4 15 11) := hTu10.2.2.2.1
            have hI_15_12_u10 : fI u10 15 12 = (fI u4 15 12) := hTu10.2.2.2.2
            refine lv_aload_n hx hb dX5_readBoth_38 rfl (lv_at hl 2 rfl) ?_
            refine lv_iload_n hx hb dX5_readBoth_39 rfl (lv_at hl 3 rfl) ?_
            refine cVi (w := cW cy a) (As := [.int 6]) (rest := []) C hO (T_X5_readOne_6 l D cy a _ (by exact hJ) (by exact hW)) (cwV 1 ht (gV wd_751 wd_753 wd_19 wd_114 wd_754) rfl rfl rfl hd_yX5_readOne ⟨Nat.le_of_ble_eq_true rfl, Nat.le_of_ble_eq_true rfl⟩) 27 rfl cW_27 rfl rfl hl.1 (Nat.le_of_ble_eq_true rfl) dX5_readBoth_40 rfl ⟨Nat.zero_le _, Nat.zero_le _⟩ (fun r16 u17 H locs hp18 hO => ?_)
            obtain ⟨hr16, hJ, hTu17, hW⟩ := hp18
            have gr16 : 0 ≤ r16.toInt ∧ r16.toInt ≤ 1 := by rcases hr16 with h | h <;> rw [h] <;> decide
            have hT : KT u u17 := KT.tr (by exact hT) hTu17
            refine lv_istore_n (lv' := [(2, .int r16), (3, .int i_k5), (0, .ref (a 27)), (1, .int 6)]) hx hb dX5_readBoth_43 rfl hl (by decide) rfl (fun ls hl => ?_)
            refine lv_aload_n hx hb dX5_readBoth_44 rfl (lv_at hl 2 rfl) ?_
            refine gf_RX5_15 (v := .ref (a 15)) C hO 27 cW_27 (congrArg (fun z : Nat => some (Value.ref z)) hW) dX5_readBoth_45 ?_
            refine gf_RX5_173 (v := .ref (a 24)) C hO 15 cW_15 rfl dX5_readBoth_48 ?_
            refine lv_bipush (v := (-14)) hx hb dX5_readBoth_51 (by decide) ?_
            refine cVv (w := cW cy a) (As := [.int (-14)]) (rest := []) C hO (T_X4_add l D cy a _ (by exact hJ) (by exact hW) ((-14))) (cwV 1 ht (gV wd_759 wd_760 wd_761 wd_113 wd_762) rfl rfl rfl hd_yX4_add ⟨Nat.le_of_ble_eq_true rfl, Nat.le_of_ble_eq_true rfl⟩) 24 rfl cW_24 rfl rfl hl.1 (Nat.le_of_ble_eq_true rfl) dX5_readBoth_53 rfl ⟨Nat.zero_le _, Nat.zero_le _⟩ (fun u20 H locs hp21 hO => ?_)
            have g22 : 0 ≤ (fI u17 15 9).toInt ∧ (fI u17 15 9).toInt ≤ 8 := by have h := CI_15_9 hJ; exact h
            have g23 : 0 ≤ (fI u17 15 10).toInt ∧ (fI u17 15 10).toInt ≤ 14 := by have h := CI_15_10 hJ; exact h
            have g24 : 0 ≤ (fI u17 15 11).toInt ∧ (fI u17 15 11).toInt ≤ 8 := by have h := CI_15_11 hJ; exact h
            have g25 : 0 ≤ (fI u17 15 12).toInt ∧ (fI u17 15 12).toInt ≤ 6 := by have h := CI_15_12 hJ; exact h
            obtain ⟨hJ, hTu20, hW⟩ := hp21
            have hT : KT u u20 := KT.tr (by exact hT) hTu20.1
            have hI_15_9_u20 : fI u20 15 9 = (fI u17 15 9) := hTu20.2.1
            have hI_15_10_u20 : fI u20 15 10 = (fI u17 15 10) := hTu20.2.2.1
            have hI_15_11_u20 : fI u20 15 11 = (fI u17 15 11) := hTu20.2.2.2.1
            have hI_15_12_u20 : fI u20 15 12 = (fI u17 15 12) := hTu20.2.2.2.2
            have e26 : ((i_k5 + 1)).toInt = (i_k5).toInt + 1 := i_add rfl rfl (by omega)
            refine lv_iinc (v := (i_k5 + 1)) (lv' := [(3, .int (i_k5 + 1)), (2, .int r16), (0, .ref (a 27)), (1, .int 6)]) hx hb dX5_readBoth_56 hl (k := 1) rfl rfl (by decide) rfl (fun ls hl => ?_)
            refine lv_goto (tgt := 8) hx hb dX5_readBoth_59 (by decide) ?_
            exact ih_k5 _ _ _ _ ((i_k5 + 1)) (r16) hO (lv_sub hl [0, 1, 2, 3] rfl) (by exact hJ) (by exact hT) (by exact hW) (by first | decide | omega) (by first | decide | omega) (by first | decide | omega)
  exact LP_8_k5 4000 _ _ _ _ (0) (r1) hO (lv_sub hl [0, 1, 2, 3] rfl) (by exact hJ) (by exact hT) (by exact hW) (by first | decide | omega) (by first | decide | omega) (by first | decide | omega)
set_option maxHeartbeats 4000000 in
set_option maxRecDepth 100000 in
theorem T_X5_readFormula_6 (l : Launch) (D : va_G) (cy : Nat → ClassId) (a : Nat → Nat) (u : St) (hJ : CI a u) (hW : fR u 2 = a 15)   : Mi l D cy (cW cy a) yX5_readFormula (.code yX5_readFormula cX5_readFormula 4 (some .boolean)) (rmo 18 407) [.ref (a 27), .int 6] u (fun (r : Int32) (u' : St) => (r = 0 ∨ r = 1) ∧ (CI a u') ∧ (KT u u') ∧ (fR u' 2 = a 15)) := by
  refine Mi.of (own := RX5) rfl (by decide) (Nat.le_of_ble_eq_true rfl) ?_
  have hT : KT u u := KT.rf
  intro p e s m below meth c A Q ls C hret hO hl
  obtain ⟨hx, hb, hml, hown, ht, hK, hA⟩ := id C
  have hl : lv_has ls 4 [(0, .ref (a 27)), (1, .int 6)] := hl
  refine lv_aload_n hx hb dX5_readFormula_0 rfl (lv_at hl 0 rfl) ?_
  refine lv_iload_n hx hb dX5_readFormula_1 rfl (lv_at hl 1 rfl) ?_
  refine cVi (w := cW cy a) (As := [.int 6]) (rest := []) C hO (T_X5_readBoth_6 l D cy a _ (by exact hJ) (by exact hW)) (cwV 1 ht (gV wd_747 wd_749 wd_18 wd_114 wd_750) rfl rfl rfl hd_yX5_readBoth ⟨Nat.le_of_ble_eq_true rfl, Nat.le_of_ble_eq_true rfl⟩) 27 rfl cW_27 rfl rfl hl.1 (Nat.le_of_ble_eq_true rfl) dX5_readFormula_2 rfl ⟨Nat.zero_le _, Nat.zero_le _⟩ (fun r1 u2 H locs hp3 hO => ?_)
  obtain ⟨hr1, hJ, hTu2, hW⟩ := hp3
  have gr1 : 0 ≤ r1.toInt ∧ r1.toInt ≤ 1 := by rcases hr1 with h | h <;> rw [h] <;> decide
  have hT : KT u u2 := KT.tr (by exact hT) hTu2
  refine lv_istore_n (lv' := [(2, .int r1), (0, .ref (a 27)), (1, .int 6)]) hx hb dX5_readFormula_5 rfl hl (by decide) rfl (fun ls hl => ?_)
  refine lv_iconst (v := 0) hx hb dX5_readFormula_6 (by decide) ?_
  refine lv_istore_n (lv' := [(3, .int 0), (2, .int r1), (0, .ref (a 27)), (1, .int 6)]) hx hb dX5_readFormula_7 rfl hl (by decide) rfl (fun ls hl => ?_)
  have LP_8_k5 : ∀ (n : Nat) (u4 : St) (H : Heap) (locs : List Loc) (ls : Array Slot) (i_k5 : Int32) (w2_k5 : Int32), Wo D A (cW cy a u4) s.heap H locs → lv_has ls 4 [(3, .int i_k5), (2, .int w2_k5), (0, .ref (a 27)), (1, .int 6)] → CI a u4 → KT u u4 → fR u4 2 = a 15 → 0 ≤ i_k5.toInt ∧ i_k5.toInt ≤ 1600 → 0 ≤ w2_k5.toInt ∧ w2_k5.toInt ≤ 1 → 1600 - i_k5.toInt < (n : Int) → W p l e (rmo 18 407) s m [.ref (a 27), .int 6].toArray below meth c H locs 0 0 Q (F0 m 8 ls []) := by
    intro n
    induction n with
    | zero =>
      intro u4 H locs ls i_k5 w2_k5 hO hl hJ hT hW iv0_k5 iv1_k5 hm_k5
      exact absurd hm_k5 (by omega)
    | succ n ih_k5 =>
      intro u4 H locs ls i_k5 w2_k5 hO hl hJ hT hW iv0_k5 iv1_k5 hm_k5
      refine lv_iload_n hx hb dX5_readFormula_8 rfl (lv_at hl 0 rfl) ?_
      refine lv_sipush (v := 1600) hx hb dX5_readFormula_9 (by decide) ?_
      refine cs_ge (tgt := 62) (X := (i_k5).toInt) (Y := 1600) hx hb dX5_readFormula_12 (by decide) rfl rfl (fun c6 => ?_) (fun c6 => ?_)
      · refine lv_iload_n hx hb dX5_readFormula_62 rfl (lv_at hl 1 rfl) ?_
        have hw2_k5 : w2_k5 = 0 ∨ w2_k5 = 1 := i_b01 rfl (by omega) (by omega)
        refine hret _ _ _ _ _ _ dX5_readFormula_63 (by rcases hw2_k5 with h | h <;> rw [h] <;> rfl) ?_ hO
        exact ⟨hw2_k5, hJ, hT, hW⟩
      · refine lv_iload_n hx hb dX5_readFormula_15 rfl (lv_at hl 1 rfl) ?_
        refine bs_eq (tgt := 62) (X := (w2_k5).toInt) hx hb dX5_readFormula_16 (by decide) rfl (fun c7 => ?_) (fun c7 => ?_)
        · refine lv_iload_n hx hb dX5_readFormula_62 rfl (lv_at hl 1 rfl) ?_
          have hw2_k5 : w2_k5 = 0 ∨ w2_k5 = 1 := i_b01 rfl (by omega) (by omega)
          refine hret _ _ _ _ _ _ dX5_readFormula_63 (by rcases hw2_k5 with h | h <;> rw [h] <;> rfl) ?_ hO
          exact ⟨hw2_k5, hJ, hT, hW⟩
        · refine lv_aload_n hx hb dX5_readFormula_19 rfl (lv_at hl 2 rfl) ?_
          refine gf_RX5_9 (v := .ref (a 1)) C hO 27 cW_27 rfl dX5_readFormula_20 ?_
          refine gf_RX5_36 (v := .int (fI u4 1 4)) C hO 1 cW_1 rfl dX5_readFormula_23 ?_
          refine lv_bipush (v := 13) hx hb dX5_readFormula_26 (by decide) ?_
          refine cs_ne (tgt := 62) (X := ((fI u4 1 4)).toInt) (Y := 13) hx hb dX5_readFormula_28 (by decide) rfl rfl (fun c8 => ?_) (fun c8 => ?_)
          · refine lv_iload_n hx hb dX5_readFormula_62 rfl (lv_at hl 1 rfl) ?_
            have hw2_k5 : w2_k5 = 0 ∨ w2_k5 = 1 := i_b01 rfl (by omega) (by omega)
            refine hret _ _ _ _ _ _ dX5_readFormula_63 (by rcases hw2_k5 with h | h <;> rw [h] <;> rfl) ?_ hO
            exact ⟨hw2_k5, hJ, hT, hW⟩
          · refine lv_aload_n hx hb dX5_readFormula_31 rfl (lv_at hl 2 rfl) ?_
            refine gf_RX5_9 (v := .ref (a 1)) C hO 27 cW_27 rfl dX5_readFormula_32 ?_
            refine cVv (w := cW cy a) (As := []) (rest := []) C hO (T_X7_advance l D cy a _ (by exact hJ) (by exact hW)) (cwV 0 ht (gV wd_695 wd_541 wd_542 wd_111 wd_543) rfl rfl rfl hd_yX7_advance ⟨Nat.le_of_ble_eq_true rfl, Nat.le_of_ble_eq_true rfl⟩) 1 rfl cW_1 rfl rfl hl.1 (Nat.le_of_ble_eq_true rfl) dX5_readFormula_35 rfl ⟨Nat.zero_le _, Nat.zero_le _⟩ (fun u10 H locs hp11 hO => ?_)
            have g12 : 0 ≤ (fI u4 15 9).toInt ∧ (fI u4 15 9).toInt ≤ 8 := by have h := CI_15_9 hJ; exact h
            have g13 : 0 ≤ (fI u4 15 10).toInt ∧ (fI u4 15 10).toInt ≤ 14 := by have h := CI_15_10 hJ; exact h
            have g14 : 0 ≤ (fI u4 15 11).toInt ∧ (fI u4 15 11).toInt ≤ 8 := by have h := CI_15_11 hJ; exact h
            have g15 : 0 ≤ (fI u4 15 12).toInt ∧ (fI u4 15 12).toInt ≤ 6 := by have h := CI_15_12 hJ; exact h
            obtain ⟨hJ, hTu10, hW⟩ := hp11
            have hT : KT u u10 := KT.tr (by exact hT) hTu10.1
            have hI_15_9_u10 : fI u10 15 9 = (fI u4 15 9) := hTu10.2.1
            have hI_15_10_u10 : fI u10 15 10 = (fI u4 15 10) := hTu10.2.2.1
            have hI_15_11_u10 : fI u10 15 11 = (fI u4 15 11) := hTu10.2.2.2.1
            have hI_15_12_u10 : fI u10 15 12 = (fI u4 15 12) := hTu10.2.2.2.2
            refine lv_aload_n hx hb dX5_readFormula_38 rfl (lv_at hl 2 rfl) ?_
            refine lv_iload_n hx hb dX5_readFormula_39 rfl (lv_at hl 3 rfl) ?_
            refine cVi (w := cW cy a) (As := [.int 6]) (rest := []) C hO (T_X5_readBoth_6 l D cy a _ (by exact hJ) (by exact hW)) (cwV 1 ht (gV wd_747 wd_749 wd_18 wd_114 wd_750) rfl rfl rfl hd_yX5_readBoth ⟨Nat.le_of_ble_eq_true rfl, Nat.le_of_ble_eq_true rfl⟩) 27 rfl cW_27 rfl rfl hl.1 (Nat.le_of_ble_eq_true rfl) dX5_readFormula_40 rfl ⟨Nat.zero_le _, Nat.zero_le _⟩ (fun r16 u17 H locs hp18 hO => ?_)
            obtain ⟨hr16, hJ, hTu17, hW⟩ := hp18
            have gr16 : 0 ≤ r16.toInt ∧ r16.toInt ≤ 1 := by rcases hr16 with h | h <;> rw [h] <;> decide
            have hT : KT u u17 := KT.tr (by exact hT) hTu17
            refine lv_istore_n (lv' := [(2, .int r16), (3, .int i_k5), (0, .ref (a 27)), (1, .int 6)]) hx hb dX5_readFormula_43 rfl hl (by decide) rfl (fun ls hl => ?_)
            refine lv_aload_n hx hb dX5_readFormula_44 rfl (lv_at hl 2 rfl) ?_
            refine gf_RX5_15 (v := .ref (a 15)) C hO 27 cW_27 (congrArg (fun z : Nat => some (Value.ref z)) hW) dX5_readFormula_45 ?_
            refine gf_RX5_173 (v := .ref (a 24)) C hO 15 cW_15 rfl dX5_readFormula_48 ?_
            refine lv_bipush (v := (-13)) hx hb dX5_readFormula_51 (by decide) ?_
            refine cVv (w := cW cy a) (As := [.int (-13)]) (rest := []) C hO (T_X4_add l D cy a _ (by exact hJ) (by exact hW) ((-13))) (cwV 1 ht (gV wd_759 wd_760 wd_761 wd_113 wd_762) rfl rfl rfl hd_yX4_add ⟨Nat.le_of_ble_eq_true rfl, Nat.le_of_ble_eq_true rfl⟩) 24 rfl cW_24 rfl rfl hl.1 (Nat.le_of_ble_eq_true rfl) dX5_readFormula_53 rfl ⟨Nat.zero_le _, Nat.zero_le _⟩ (fun u20 H locs hp21 hO => ?_)
            have g22 : 0 ≤ (fI u17 15 9).toInt ∧ (fI u17 15 9).toInt ≤ 8 := by have h := CI_15_9 hJ; exact h
            have g23 : 0 ≤ (fI u17 15 10).toInt ∧ (fI u17 15 10).toInt ≤ 14 := by have h := CI_15_10 hJ; exact h
            have g24 : 0 ≤ (fI u17 15 11).toInt ∧ (fI u17 15 11).toInt ≤ 8 := by have h := CI_15_11 hJ; exact h
            have g25 : 0 ≤ (fI u17 15 12).toInt ∧ (fI u17 15 12).toInt ≤ 6 := by have h := CI_15_12 hJ; exact h
            obtain ⟨hJ, hTu20, hW⟩ := hp21
            have hT : KT u u20 := KT.tr (by exact hT) hTu20.1
            have hI_15_9_u20 : fI u20 15 9 = (fI u17 15 9) := hTu20.2.1
            have hI_15_10_u20 : fI u20 15 10 = (fI u17 15 10) := hTu20.2.2.1
            have hI_15_11_u20 : fI u20 15 11 = (fI u17 15 11) := hTu20.2.2.2.1
            have hI_15_12_u20 : fI u20 15 12 = (fI u17 15 12) := hTu20.2.2.2.2
            have e26 : ((i_k5 + 1)).toInt = (i_k5).toInt + 1 := i_add rfl rfl (by omega)
            refine lv_iinc (v := (i_k5 + 1)) (lv' := [(3, .int (i_k5 + 1)), (2, .int r16), (0, .ref (a 27)), (1, .int 6)]) hx hb dX5_readFormula_56 hl (k := 1) rfl rfl (by decide) rfl (fun ls hl => ?_)
            refine lv_goto (tgt := 8) hx hb dX5_readFormula_59 (by decide) ?_
            exact ih_k5 _ _ _ _ ((i_k5 + 1)) (r16) hO (lv_sub hl [0, 1, 2, 3] rfl) (by exact hJ) (by exact hT) (by exact hW) (by first | decide | omega) (by first | decide | omega) (by first | decide | omega)
  exact LP_8_k5 4000 _ _ _ _ (0) (r1) hO (lv_sub hl [0, 1, 2, 3] rfl) (by exact hJ) (by exact hT) (by exact hW) (by first | decide | omega) (by first | decide | omega) (by first | decide | omega)
set_option maxHeartbeats 4000000 in
set_option maxRecDepth 100000 in
theorem T_X5_readInner_5 (l : Launch) (D : va_G) (cy : Nat → ClassId) (a : Nat → Nat) (u : St) (hJ : CI a u) (hW : fR u 2 = a 15)   : Mi l D cy (cW cy a) yX5_readInner (.code yX5_readInner cX5_readInner 2 (some .boolean)) (rmo 19 430) [.ref (a 27), .int 5] u (fun (r : Int32) (u' : St) => (r = 0 ∨ r = 1) ∧ (CI a u') ∧ (KT u u') ∧ (fR u' 2 = a 15)) := by
  refine Mi.of (own := RX5) rfl (by decide) (Nat.le_of_ble_eq_true rfl) ?_
  have hT : KT u u := KT.rf
  intro p e s m below meth c A Q ls C hret hO hl
  obtain ⟨hx, hb, hml, hown, ht, hK, hA⟩ := id C
  have hl : lv_has ls 2 [(0, .ref (a 27)), (1, .int 5)] := hl
  refine lv_iload_n hx hb dX5_readInner_0 rfl (lv_at hl 1 rfl) ?_
  refine lv_bipush (v := 6) hx hb dX5_readInner_1 (by decide) ?_
  refine ct_le (tgt := 12) (X := 5) (Y := 6) hx hb dX5_readInner_3 (by decide) rfl rfl (by omega) ?_
  refine lv_aload_n hx hb dX5_readInner_12 rfl (lv_at hl 0 rfl) ?_
  refine gf_RX5_9 (v := .ref (a 1)) C hO 27 cW_27 rfl dX5_readInner_13 ?_
  refine cVv (w := cW cy a) (As := []) (rest := []) C hO (T_X7_advance l D cy a _ (by exact hJ) (by exact hW)) (cwV 0 ht (gV wd_695 wd_541 wd_542 wd_111 wd_543) rfl rfl rfl hd_yX7_advance ⟨Nat.le_of_ble_eq_true rfl, Nat.le_of_ble_eq_true rfl⟩) 1 rfl cW_1 rfl rfl hl.1 (Nat.le_of_ble_eq_true rfl) dX5_readInner_16 rfl ⟨Nat.zero_le _, Nat.zero_le _⟩ (fun u2 H locs hp3 hO => ?_)
  have g4 : 0 ≤ (fI u 15 9).toInt ∧ (fI u 15 9).toInt ≤ 8 := by have h := CI_15_9 hJ; exact h
  have g5 : 0 ≤ (fI u 15 10).toInt ∧ (fI u 15 10).toInt ≤ 14 := by have h := CI_15_10 hJ; exact h
  have g6 : 0 ≤ (fI u 15 11).toInt ∧ (fI u 15 11).toInt ≤ 8 := by have h := CI_15_11 hJ; exact h
  have g7 : 0 ≤ (fI u 15 12).toInt ∧ (fI u 15 12).toInt ≤ 6 := by have h := CI_15_12 hJ; exact h
  obtain ⟨hJ, hTu2, hW⟩ := hp3
  have hT : KT u u2 := KT.tr (by exact hT) hTu2.1
  have hI_15_9_u2 : fI u2 15 9 = (fI u 15 9) := hTu2.2.1
  have hI_15_10_u2 : fI u2 15 10 = (fI u 15 10) := hTu2.2.2.1
  have hI_15_11_u2 : fI u2 15 11 = (fI u 15 11) := hTu2.2.2.2.1
  have hI_15_12_u2 : fI u2 15 12 = (fI u 15 12) := hTu2.2.2.2.2
  refine lv_aload_n hx hb dX5_readInner_19 rfl (lv_at hl 0 rfl) ?_
  refine lv_iload_n hx hb dX5_readInner_20 rfl (lv_at hl 1 rfl) ?_
  refine lv_iconst (v := 1) hx hb dX5_readInner_21 (by decide) ?_
  refine lv_iadd hx hb dX5_readInner_22 ?_
  refine tE (y := 6) rfl ?_
  refine cVi (w := cW cy a) (As := [.int 6]) (rest := []) C hO (T_X5_readFormula_6 l D cy a _ (by exact hJ) (by exact hW)) (cwV 1 ht (gV wd_743 wd_745 wd_17 wd_114 wd_746) rfl rfl rfl hd_yX5_readFormula ⟨Nat.le_of_ble_eq_true rfl, Nat.le_of_ble_eq_true rfl⟩) 27 rfl cW_27 rfl rfl hl.1 (Nat.le_of_ble_eq_true rfl) dX5_readInner_23 rfl ⟨Nat.zero_le _, Nat.zero_le _⟩ (fun r8 u9 H locs hp10 hO => ?_)
  obtain ⟨hr8, hJ, hTu9, hW⟩ := hp10
  have gr8 : 0 ≤ r8.toInt ∧ r8.toInt ≤ 1 := by rcases hr8 with h | h <;> rw [h] <;> decide
  have hT : KT u u9 := KT.tr (by exact hT) hTu9
  refine bs_eq (tgt := 42) (X := (r8).toInt) hx hb dX5_readInner_26 (by decide) rfl (fun c11 => ?_) (fun c11 => ?_)
  · refine lv_iconst (v := 0) hx hb dX5_readInner_42 (by decide) ?_
    refine hret _ _ _ _ _ _ dX5_readInner_43 rfl ?_ hO
    exact ⟨Or.inl rfl, hJ, hT, hW⟩
  · refine lv_aload_n hx hb dX5_readInner_29 rfl (lv_at hl 0 rfl) ?_
    refine lv_bipush (v := 41) hx hb dX5_readInner_30 (by decide) ?_
    refine cVi (w := cW cy a) (As := [.int 41]) (rest := []) C hO (T_X5_skip l D cy a _ (by exact hJ) (by exact hW) (41)) (cwV 1 ht (gV wd_719 wd_721 wd_11 wd_114 wd_722) rfl rfl rfl hd_yX5_skip ⟨Nat.le_of_ble_eq_true rfl, Nat.le_of_ble_eq_true rfl⟩) 27 rfl cW_27 rfl rfl hl.1 (Nat.le_of_ble_eq_true rfl) dX5_readInner_32 rfl ⟨Nat.zero_le _, Nat.zero_le _⟩ (fun r12 u13 H locs hp14 hO => ?_)
    have g15 : 0 ≤ (fI u9 15 9).toInt ∧ (fI u9 15 9).toInt ≤ 8 := by have h := CI_15_9 hJ; exact h
    have g16 : 0 ≤ (fI u9 15 10).toInt ∧ (fI u9 15 10).toInt ≤ 14 := by have h := CI_15_10 hJ; exact h
    have g17 : 0 ≤ (fI u9 15 11).toInt ∧ (fI u9 15 11).toInt ≤ 8 := by have h := CI_15_11 hJ; exact h
    have g18 : 0 ≤ (fI u9 15 12).toInt ∧ (fI u9 15 12).toInt ≤ 6 := by have h := CI_15_12 hJ; exact h
    obtain ⟨hr12, hJ, hTu13, hW⟩ := hp14
    have gr12 : 0 ≤ r12.toInt ∧ r12.toInt ≤ 1 := by rcases hr12 with h | h <;> rw [h] <;> decide
    have hT : KT u u13 := KT.tr (by exact hT) hTu13.1
    have hI_15_9_u13 : fI u13 15 9 = (fI u9 15 9) := hTu13.2.1
    have hI_15_10_u13 : fI u13 15 10 = (fI u9 15 10) := hTu13.2.2.1
    have hI_15_11_u13 : fI u13 15 11 = (fI u9 15 11) := hTu13.2.2.2.1
    have hI_15_12_u13 : fI u13 15 12 = (fI u9 15 12) := hTu13.2.2.2.2
    refine bs_eq (tgt := 42) (X := (r12).toInt) hx hb dX5_readInner_35 (by decide) rfl (fun c19 => ?_) (fun c19 => ?_)
    · refine lv_iconst (v := 0) hx hb dX5_readInner_42 (by decide) ?_
      refine hret _ _ _ _ _ _ dX5_readInner_43 rfl ?_ hO
      exact ⟨Or.inl rfl, hJ, hT, hW⟩
    · refine lv_iconst (v := 1) hx hb dX5_readInner_38 (by decide) ?_
      refine lv_goto (tgt := 43) hx hb dX5_readInner_39 (by decide) ?_
      refine hret _ _ _ _ _ _ dX5_readInner_43 rfl ?_ hO
      exact ⟨Or.inr rfl, hJ, hT, hW⟩
set_option maxHeartbeats 4000000 in
set_option maxRecDepth 100000 in
theorem T_X5_readUnit_5 (l : Launch) (D : va_G) (cy : Nat → ClassId) (a : Nat → Nat) (u : St) (hJ : CI a u) (hW : fR u 2 = a 15)   : Mi l D cy (cW cy a) yX5_readUnit (.code yX5_readUnit cX5_readUnit 3 (some .boolean)) (rmo 20 451) [.ref (a 27), .int 5] u (fun (r : Int32) (u' : St) => (r = 0 ∨ r = 1) ∧ (CI a u') ∧ (KT u u') ∧ (fR u' 2 = a 15)) := by
  refine Mi.of (own := RX5) rfl (by decide) (Nat.le_of_ble_eq_true rfl) ?_
  have hT : KT u u := KT.rf
  intro p e s m below meth c A Q ls C hret hO hl
  obtain ⟨hx, hb, hml, hown, ht, hK, hA⟩ := id C
  have hl : lv_has ls 3 [(0, .ref (a 27)), (1, .int 5)] := hl
  refine lv_aload_n hx hb dX5_readUnit_0 rfl (lv_at hl 0 rfl) ?_
  refine gf_RX5_9 (v := .ref (a 1)) C hO 27 cW_27 rfl dX5_readUnit_1 ?_
  refine gf_RX5_36 (v := .int (fI u 1 4)) C hO 1 cW_1 rfl dX5_readUnit_4 ?_
  refine lv_istore_n (lv' := [(2, .int (fI u 1 4)), (0, .ref (a 27)), (1, .int 5)]) hx hb dX5_readUnit_7 rfl hl (by decide) rfl (fun ls hl => ?_)
  refine lv_aload_n hx hb dX5_readUnit_8 rfl (lv_at hl 1 rfl) ?_
  refine gf_RX5_15 (v := .ref (a 15)) C hO 27 cW_27 (congrArg (fun z : Nat => some (Value.ref z)) hW) dX5_readUnit_9 ?_
  refine gf_RX5_173 (v := .ref (a 24)) C hO 15 cW_15 rfl dX5_readUnit_12 ?_
  refine cVi (w := cW cy a) (As := []) (rest := []) C hO (T_X4_isFull l D cy a _ (by exact hJ)) (cwV 0 ht (gV wd_775 wd_776 wd_777 wd_113 wd_778) rfl rfl rfl hd_yX4_isFull ⟨Nat.le_of_ble_eq_true rfl, Nat.le_of_ble_eq_true rfl⟩) 24 rfl cW_24 rfl rfl hl.1 (Nat.le_of_ble_eq_true rfl) dX5_readUnit_15 rfl ⟨Nat.zero_le _, Nat.zero_le _⟩ (fun r1 u2 H locs hp3 hO => ?_)
  obtain ⟨hr1, hu2⟩ := hp3
  have gr1 : 0 ≤ r1.toInt ∧ r1.toInt ≤ 1 := by rcases hr1 with h | h <;> rw [h] <;> decide
  rw [hu2] at hO
  refine bs_ne (tgt := 41) (X := (r1).toInt) hx hb dX5_readUnit_18 (by decide) rfl (fun c4 => ?_) (fun c4 => ?_)
  · refine lv_aload_n hx hb dX5_readUnit_41 rfl (lv_at hl 1 rfl) ?_
    refine lv_iconst (v := 2) hx hb dX5_readUnit_42 (by decide) ?_
    refine cVi (w := cW cy a) (As := [.int 2]) (rest := []) C hO (T_X5_refuse l D cy a _ (by exact hJ) (by exact hW) (2)) (cwV 1 ht (gV wd_691 wd_693 wd_6 wd_114 wd_694) rfl rfl rfl hd_yX5_refuse ⟨Nat.le_of_ble_eq_true rfl, Nat.le_of_ble_eq_true rfl⟩) 27 rfl cW_27 rfl rfl hl.1 (Nat.le_of_ble_eq_true rfl) dX5_readUnit_43 rfl ⟨Nat.zero_le _, Nat.zero_le _⟩ (fun r5 u6 H locs hp7 hO => ?_)
    have g8 : 0 ≤ (fI u 15 9).toInt ∧ (fI u 15 9).toInt ≤ 8 := by have h := CI_15_9 hJ; exact h
    have g9 : 0 ≤ (fI u 15 10).toInt ∧ (fI u 15 10).toInt ≤ 14 := by have h := CI_15_10 hJ; exact h
    have g10 : 0 ≤ (fI u 15 11).toInt ∧ (fI u 15 11).toInt ≤ 8 := by have h := CI_15_11 hJ; exact h
    have g11 : 0 ≤ (fI u 15 12).toInt ∧ (fI u 15 12).toInt ≤ 6 := by have h := CI_15_12 hJ; exact h
    obtain ⟨hr5, hJ, hTu6, hW⟩ := hp7
    subst hr5
    have hT : KT u u6 := KT.tr (by exact hT) hTu6.1
    have hI_15_9_u6 : fI u6 15 9 = (fI u 15 9) := hTu6.2.1
    have hI_15_10_u6 : fI u6 15 10 = (fI u 15 10) := hTu6.2.2.1
    have hI_15_11_u6 : fI u6 15 11 = (fI u 15 11) := hTu6.2.2.2.1
    have hI_15_12_u6 : fI u6 15 12 = (fI u 15 12) := hTu6.2.2.2.2
    refine hret _ _ _ _ _ _ dX5_readUnit_46 rfl ?_ hO
    exact ⟨Or.inl rfl, hJ, hT, hW⟩
  · refine lv_iload_n hx hb dX5_readUnit_21 rfl (lv_at hl 0 rfl) ?_
    refine lv_sipush (v := 201) hx hb dX5_readUnit_22 (by decide) ?_
    refine cs_eq (tgt := 47) (X := ((fI u 1 4)).toInt) (Y := 201) hx hb dX5_readUnit_25 (by decide) rfl rfl (fun c12 => ?_) (fun c12 => ?_)
    · refine lv_aload_n hx hb dX5_readUnit_47 rfl (lv_at hl 1 rfl) ?_
      refine gf_RX5_15 (v := .ref (a 15)) C hO 27 cW_27 (congrArg (fun z : Nat => some (Value.ref z)) hW) dX5_readUnit_48 ?_
      refine gf_RX5_173 (v := .ref (a 24)) C hO 15 cW_15 rfl dX5_readUnit_51 ?_
      refine lv_dup hx hb dX5_readUnit_54 rfl ?_
      refine gf_RX5_207 (v := .int (fI u 24 4)) C hO 24 cW_24 rfl dX5_readUnit_55 ?_
      refine lv_iconst (v := 1) hx hb dX5_readUnit_58 (by decide) ?_
      refine lv_iadd hx hb dX5_readUnit_59 ?_
      refine pf_RX5_207 C hO 24 cW_24 (Nat.le_of_ble_eq_true rfl) cW_s24_4 dX5_readUnit_60 (fun H locs hO => ?_)
      have hJ := CIs_24_4 (v := ((fI u 24 4) + 1)) hJ
      refine lv_iload_n hx hb dX5_readUnit_63 rfl (lv_at hl 0 rfl) ?_
      refine lv_bipush (v := 40) hx hb dX5_readUnit_64 (by decide) ?_
      refine ct_ne (tgt := 75) (X := ((fI u 1 4)).toInt) (Y := 40) hx hb dX5_readUnit_66 (by decide) rfl rfl (by omega) ?_
      refine lv_aload_n hx hb dX5_readUnit_75 rfl (lv_at hl 1 rfl) ?_
      refine gf_RX5_15 (v := .ref (a 15)) C hO 27 cW_27 (congrArg (fun z : Nat => some (Value.ref z)) hW) dX5_readUnit_76 ?_
      refine gf_RX5_173 (v := .ref (a 24)) C hO 15 cW_15 rfl dX5_readUnit_79 ?_
      refine lv_iload_n hx hb dX5_readUnit_82 rfl (lv_at hl 0 rfl) ?_
      refine lv_sipush (v := 201) hx hb dX5_readUnit_83 (by decide) ?_
      refine cn_ne (X := ((fI u 1 4)).toInt) (Y := 201) hx hb dX5_readUnit_86 rfl rfl (by omega) ?_ (tgt := 99) (by decide)
      refine lv_aload_n hx hb dX5_readUnit_89 rfl (lv_at hl 1 rfl) ?_
      refine gf_RX5_9 (v := .ref (a 1)) C hO 27 cW_27 rfl dX5_readUnit_90 ?_
      refine gf_RX5_94 (v := .int (fI u 1 6)) C hO 1 cW_1 rfl dX5_readUnit_93 ?_
      refine lv_goto (tgt := 101) hx hb dX5_readUnit_96 (by decide) ?_
      refine cVv (w := cW cy a) (As := [.int (fI u 1 6)]) (rest := []) C hO (T_X4_add l D cy a _ (by exact hJ) (by exact hW) ((fI u 1 6))) (cwV 1 ht (gV wd_759 wd_760 wd_761 wd_113 wd_762) rfl rfl rfl hd_yX4_add ⟨Nat.le_of_ble_eq_true rfl, Nat.le_of_ble_eq_true rfl⟩) 24 rfl cW_24 rfl rfl hl.1 (Nat.le_of_ble_eq_true rfl) dX5_readUnit_101 rfl ⟨Nat.zero_le _, Nat.zero_le _⟩ (fun u14 H locs hp15 hO => ?_)
      have g16 : 0 ≤ (fI u 15 9).toInt ∧ (fI u 15 9).toInt ≤ 8 := by have h := CI_15_9 hJ; exact h
      have g17 : 0 ≤ (fI u 15 10).toInt ∧ (fI u 15 10).toInt ≤ 14 := by have h := CI_15_10 hJ; exact h
      have g18 : 0 ≤ (fI u 15 11).toInt ∧ (fI u 15 11).toInt ≤ 8 := by have h := CI_15_11 hJ; exact h
      have g19 : 0 ≤ (fI u 15 12).toInt ∧ (fI u 15 12).toInt ≤ 6 := by have h := CI_15_12 hJ; exact h
      obtain ⟨hJ, hTu14, hW⟩ := hp15
      have hT : KT u u14 := KT.tr (by exact hT) hTu14.1
      have hI_15_9_u14 : fI u14 15 9 = (fI u 15 9) := hTu14.2.1
      have hI_15_10_u14 : fI u14 15 10 = (fI u 15 10) := hTu14.2.2.1
      have hI_15_11_u14 : fI u14 15 11 = (fI u 15 11) := hTu14.2.2.2.1
      have hI_15_12_u14 : fI u14 15 12 = (fI u 15 12) := hTu14.2.2.2.2
      refine lv_aload_n hx hb dX5_readUnit_104 rfl (lv_at hl 1 rfl) ?_
      refine gf_RX5_9 (v := .ref (a 1)) C hO 27 cW_27 rfl dX5_readUnit_105 ?_
      refine cVv (w := cW cy a) (As := []) (rest := []) C hO (T_X7_advance l D cy a _ (by exact hJ) (by exact hW)) (cwV 0 ht (gV wd_695 wd_541 wd_542 wd_111 wd_543) rfl rfl rfl hd_yX7_advance ⟨Nat.le_of_ble_eq_true rfl, Nat.le_of_ble_eq_true rfl⟩) 1 rfl cW_1 rfl rfl hl.1 (Nat.le_of_ble_eq_true rfl) dX5_readUnit_108 rfl ⟨Nat.zero_le _, Nat.zero_le _⟩ (fun u21 H locs hp22 hO => ?_)
      obtain ⟨hJ, hTu21, hW⟩ := hp22
      have hT : KT u u21 := KT.tr (by exact hT) hTu21.1
      have hI_15_9_u21 : fI u21 15 9 = (fI u 15 9) := Eq.trans (hTu21.2.1) (hI_15_9_u14)
      have hI_15_10_u21 : fI u21 15 10 = (fI u 15 10) := Eq.trans (hTu21.2.2.1) (hI_15_10_u14)
      have hI_15_11_u21 : fI u21 15 11 = (fI u 15 11) := Eq.trans (hTu21.2.2.2.1) (hI_15_11_u14)
      have hI_15_12_u21 : fI u21 15 12 = (fI u 15 12) := Eq.trans (hTu21.2.2.2.2) (hI_15_12_u14)
      refine lv_iconst (v := 1) hx hb dX5_readUnit_111 (by decide) ?_
      refine hret _ _ _ _ _ _ dX5_readUnit_112 rfl ?_ hO
      exact ⟨Or.inr rfl, hJ, hT, hW⟩
    · refine lv_iload_n hx hb dX5_readUnit_28 rfl (lv_at hl 0 rfl) ?_
      refine lv_bipush (v := 40) hx hb dX5_readUnit_29 (by decide) ?_
      refine cs_eq (tgt := 47) (X := ((fI u 1 4)).toInt) (Y := 40) hx hb dX5_readUnit_31 (by decide) rfl rfl (fun c23 => ?_) (fun c23 => ?_)
      · refine lv_aload_n hx hb dX5_readUnit_47 rfl (lv_at hl 1 rfl) ?_
        refine gf_RX5_15 (v := .ref (a 15)) C hO 27 cW_27 (congrArg (fun z : Nat => some (Value.ref z)) hW) dX5_readUnit_48 ?_
        refine gf_RX5_173 (v := .ref (a 24)) C hO 15 cW_15 rfl dX5_readUnit_51 ?_
        refine lv_dup hx hb dX5_readUnit_54 rfl ?_
        refine gf_RX5_207 (v := .int (fI u 24 4)) C hO 24 cW_24 rfl dX5_readUnit_55 ?_
        refine lv_iconst (v := 1) hx hb dX5_readUnit_58 (by decide) ?_
        refine lv_iadd hx hb dX5_readUnit_59 ?_
        refine pf_RX5_207 C hO 24 cW_24 (Nat.le_of_ble_eq_true rfl) cW_s24_4 dX5_readUnit_60 (fun H locs hO => ?_)
        have hJ := CIs_24_4 (v := ((fI u 24 4) + 1)) hJ
        refine lv_iload_n hx hb dX5_readUnit_63 rfl (lv_at hl 0 rfl) ?_
        refine lv_bipush (v := 40) hx hb dX5_readUnit_64 (by decide) ?_
        refine cn_ne (X := ((fI u 1 4)).toInt) (Y := 40) hx hb dX5_readUnit_66 rfl rfl (by omega) ?_ (tgt := 75) (by decide)
        refine lv_aload_n hx hb dX5_readUnit_69 rfl (lv_at hl 1 rfl) ?_
        refine lv_iload_n hx hb dX5_readUnit_70 rfl (lv_at hl 2 rfl) ?_
        refine cVi (w := cW cy a) (As := [.int 5]) (rest := []) C hO (T_X5_readInner_5 l D cy a _ (by exact hJ) (by exact hW)) (cwV 1 ht (gV wd_782 wd_784 wd_24 wd_114 wd_785) rfl rfl rfl hd_yX5_readInner ⟨Nat.le_of_ble_eq_true rfl, Nat.le_of_ble_eq_true rfl⟩) 27 rfl cW_27 rfl rfl hl.1 (Nat.le_of_ble_eq_true rfl) dX5_readUnit_71 rfl ⟨Nat.zero_le _, Nat.zero_le _⟩ (fun r24 u25 H locs hp26 hO => ?_)
        obtain ⟨hr24, hJ, hTu25, hW⟩ := hp26
        have gr24 : 0 ≤ r24.toInt ∧ r24.toInt ≤ 1 := by rcases hr24 with h | h <;> rw [h] <;> decide
        have hT : KT u u25 := KT.tr (by exact hT) hTu25
        refine hret _ _ _ _ _ _ dX5_readUnit_74 (by rcases hr24 with h | h <;> rw [h] <;> rfl) ?_ hO
        exact ⟨hr24, hJ, hT, hW⟩
      · refine lv_iload_n hx hb dX5_readUnit_34 rfl (lv_at hl 0 rfl) ?_
        refine cSi (w := cW cy a) (As := [.int (fI u 1 4)]) (rest := []) C hO (T_X4_isGiven l D cy a _ (by exact hJ) ((fI u 1 4))) (va_cwS 1 ht (gSS wd_779 wd_780 wd_113 wd_781) rfl rfl rfl hd_yX4_isGiven ⟨Nat.le_of_ble_eq_true rfl, Nat.le_of_ble_eq_true rfl⟩)  rfl hl.1 (Nat.le_of_ble_eq_true rfl) dX5_readUnit_35 rfl ⟨Nat.zero_le _, Nat.zero_le _⟩ (fun r27 u28 H locs hp29 hO => ?_)
        obtain ⟨hr27, hu28⟩ := hp29
        have gr27 : 0 ≤ r27.toInt ∧ r27.toInt ≤ 1 := by rcases hr27 with h | h <;> rw [h] <;> decide
        rw [hu28] at hO
        refine bs_ne (tgt := 47) (X := (r27).toInt) hx hb dX5_readUnit_38 (by decide) rfl (fun c30 => ?_) (fun c30 => ?_)
        · refine lv_aload_n hx hb dX5_readUnit_47 rfl (lv_at hl 1 rfl) ?_
          refine gf_RX5_15 (v := .ref (a 15)) C hO 27 cW_27 (congrArg (fun z : Nat => some (Value.ref z)) hW) dX5_readUnit_48 ?_
          refine gf_RX5_173 (v := .ref (a 24)) C hO 15 cW_15 rfl dX5_readUnit_51 ?_
          refine lv_dup hx hb dX5_readUnit_54 rfl ?_
          refine gf_RX5_207 (v := .int (fI u 24 4)) C hO 24 cW_24 rfl dX5_readUnit_55 ?_
          refine lv_iconst (v := 1) hx hb dX5_readUnit_58 (by decide) ?_
          refine lv_iadd hx hb dX5_readUnit_59 ?_
          refine pf_RX5_207 C hO 24 cW_24 (Nat.le_of_ble_eq_true rfl) cW_s24_4 dX5_readUnit_60 (fun H locs hO => ?_)
          have hJ := CIs_24_4 (v := ((fI u 24 4) + 1)) hJ
          refine lv_iload_n hx hb dX5_readUnit_63 rfl (lv_at hl 0 rfl) ?_
          refine lv_bipush (v := 40) hx hb dX5_readUnit_64 (by decide) ?_
          refine cs_ne (tgt := 75) (X := ((fI u 1 4)).toInt) (Y := 40) hx hb dX5_readUnit_66 (by decide) rfl rfl (fun c31 => ?_) (fun c31 => ?_)
          · refine lv_aload_n hx hb dX5_readUnit_75 rfl (lv_at hl 1 rfl) ?_
            refine gf_RX5_15 (v := .ref (a 15)) C hO 27 cW_27 (congrArg (fun z : Nat => some (Value.ref z)) hW) dX5_readUnit_76 ?_
            refine gf_RX5_173 (v := .ref (a 24)) C hO 15 cW_15 rfl dX5_readUnit_79 ?_
            refine lv_iload_n hx hb dX5_readUnit_82 rfl (lv_at hl 0 rfl) ?_
            refine lv_sipush (v := 201) hx hb dX5_readUnit_83 (by decide) ?_
            refine cs_ne (tgt := 99) (X := ((fI u 1 4)).toInt) (Y := 201) hx hb dX5_readUnit_86 (by decide) rfl rfl (fun c32 => ?_) (fun c32 => ?_)
            · refine lv_iload_n hx hb dX5_readUnit_99 rfl (lv_at hl 0 rfl) ?_
              refine lv_ineg hx hb dX5_readUnit_100 ?_
              refine lv_topi (fun z33 ez33 => ?_)
              refine cVv (w := cW cy a) (As := [.int z33]) (rest := []) C hO (T_X4_add l D cy a _ (by exact hJ) (by exact hW) (z33)) (cwV 1 ht (gV wd_759 wd_760 wd_761 wd_113 wd_762) rfl rfl rfl hd_yX4_add ⟨Nat.le_of_ble_eq_true rfl, Nat.le_of_ble_eq_true rfl⟩) 24 rfl cW_24 rfl rfl hl.1 (Nat.le_of_ble_eq_true rfl) dX5_readUnit_101 rfl ⟨Nat.zero_le _, Nat.zero_le _⟩ (fun u35 H locs hp36 hO => ?_)
              have g37 : 0 ≤ (fI u 15 9).toInt ∧ (fI u 15 9).toInt ≤ 8 := by have h := CI_15_9 hJ; exact h
              have g38 : 0 ≤ (fI u 15 10).toInt ∧ (fI u 15 10).toInt ≤ 14 := by have h := CI_15_10 hJ; exact h
              have g39 : 0 ≤ (fI u 15 11).toInt ∧ (fI u 15 11).toInt ≤ 8 := by have h := CI_15_11 hJ; exact h
              have g40 : 0 ≤ (fI u 15 12).toInt ∧ (fI u 15 12).toInt ≤ 6 := by have h := CI_15_12 hJ; exact h
              obtain ⟨hJ, hTu35, hW⟩ := hp36
              have hT : KT u u35 := KT.tr (by exact hT) hTu35.1
              have hI_15_9_u35 : fI u35 15 9 = (fI u 15 9) := hTu35.2.1
              have hI_15_10_u35 : fI u35 15 10 = (fI u 15 10) := hTu35.2.2.1
              have hI_15_11_u35 : fI u35 15 11 = (fI u 15 11) := hTu35.2.2.2.1
              have hI_15_12_u35 : fI u35 15 12 = (fI u 15 12) := hTu35.2.2.2.2
              refine lv_aload_n hx hb dX5_readUnit_104 rfl (lv_at hl 1 rfl) ?_
              refine gf_RX5_9 (v := .ref (a 1)) C hO 27 cW_27 rfl dX5_readUnit_105 ?_
              refine cVv (w := cW cy a) (As := []) (rest := []) C hO (T_X7_advance l D cy a _ (by exact hJ) (by exact hW)) (cwV 0 ht (gV wd_695 wd_541 wd_542 wd_111 wd_543) rfl rfl rfl hd_yX7_advance ⟨Nat.le_of_ble_eq_true rfl, Nat.le_of_ble_eq_true rfl⟩) 1 rfl cW_1 rfl rfl hl.1 (Nat.le_of_ble_eq_true rfl) dX5_readUnit_108 rfl ⟨Nat.zero_le _, Nat.zero_le _⟩ (fun u42 H locs hp43 hO => ?_)
              obtain ⟨hJ, hTu42, hW⟩ := hp43
              have hT : KT u u42 := KT.tr (by exact hT) hTu42.1
              have hI_15_9_u42 : fI u42 15 9 = (fI u 15 9) := Eq.trans (hTu42.2.1) (hI_15_9_u35)
              have hI_15_10_u42 : fI u42 15 10 = (fI u 15 10) := Eq.trans (hTu42.2.2.1) (hI_15_10_u35)
              have hI_15_11_u42 : fI u42 15 11 = (fI u 15 11) := Eq.trans (hTu42.2.2.2.1) (hI_15_11_u35)
              have hI_15_12_u42 : fI u42 15 12 = (fI u 15 12) := Eq.trans (hTu42.2.2.2.2) (hI_15_12_u35)
              refine lv_iconst (v := 1) hx hb dX5_readUnit_111 (by decide) ?_
              refine hret _ _ _ _ _ _ dX5_readUnit_112 rfl ?_ hO
              exact ⟨Or.inr rfl, hJ, hT, hW⟩
            · refine lv_aload_n hx hb dX5_readUnit_89 rfl (lv_at hl 1 rfl) ?_
              refine gf_RX5_9 (v := .ref (a 1)) C hO 27 cW_27 rfl dX5_readUnit_90 ?_
              refine gf_RX5_94 (v := .int (fI u 1 6)) C hO 1 cW_1 rfl dX5_readUnit_93 ?_
              refine lv_goto (tgt := 101) hx hb dX5_readUnit_96 (by decide) ?_
              refine cVv (w := cW cy a) (As := [.int (fI u 1 6)]) (rest := []) C hO (T_X4_add l D cy a _ (by exact hJ) (by exact hW) ((fI u 1 6))) (cwV 1 ht (gV wd_759 wd_760 wd_761 wd_113 wd_762) rfl rfl rfl hd_yX4_add ⟨Nat.le_of_ble_eq_true rfl, Nat.le_of_ble_eq_true rfl⟩) 24 rfl cW_24 rfl rfl hl.1 (Nat.le_of_ble_eq_true rfl) dX5_readUnit_101 rfl ⟨Nat.zero_le _, Nat.zero_le _⟩ (fun u45 H locs hp46 hO => ?_)
              have g47 : 0 ≤ (fI u 15 9).toInt ∧ (fI u 15 9).toInt ≤ 8 := by have h := CI_15_9 hJ; exact h
              have g48 : 0 ≤ (fI u 15 10).toInt ∧ (fI u 15 10).toInt ≤ 14 := by have h := CI_15_10 hJ; exact h
              have g49 : 0 ≤ (fI u 15 11).toInt ∧ (fI u 15 11).toInt ≤ 8 := by have h := CI_15_11 hJ; exact h
              have g50 : 0 ≤ (fI u 15 12).toInt ∧ (fI u 15 12).toInt ≤ 6 := by have h := CI_15_12 hJ; exact h
              obtain ⟨hJ, hTu45, hW⟩ := hp46
              have hT : KT u u45 := KT.tr (by exact hT) hTu45.1
              have hI_15_9_u45 : fI u45 15 9 = (fI u 15 9) := hTu45.2.1
              have hI_15_10_u45 : fI u45 15 10 = (fI u 15 10) := hTu45.2.2.1
              have hI_15_11_u45 : fI u45 15 11 = (fI u 15 11) := hTu45.2.2.2.1
              have hI_15_12_u45 : fI u45 15 12 = (fI u 15 12) := hTu45.2.2.2.2
              refine lv_aload_n hx hb dX5_readUnit_104 rfl (lv_at hl 1 rfl) ?_
              refine gf_RX5_9 (v := .ref (a 1)) C hO 27 cW_27 rfl dX5_readUnit_105 ?_
              refine cVv (w := cW cy a) (As := []) (rest := []) C hO (T_X7_advance l D cy a _ (by exact hJ) (by exact hW)) (cwV 0 ht (gV wd_695 wd_541 wd_542 wd_111 wd_543) rfl rfl rfl hd_yX7_advance ⟨Nat.le_of_ble_eq_true rfl, Nat.le_of_ble_eq_true rfl⟩) 1 rfl cW_1 rfl rfl hl.1 (Nat.le_of_ble_eq_true rfl) dX5_readUnit_108 rfl ⟨Nat.zero_le _, Nat.zero_le _⟩ (fun u52 H locs hp53 hO => ?_)
              obtain ⟨hJ, hTu52, hW⟩ := hp53
              have hT : KT u u52 := KT.tr (by exact hT) hTu52.1
              have hI_15_9_u52 : fI u52 15 9 = (fI u 15 9) := Eq.trans (hTu52.2.1) (hI_15_9_u45)
              have hI_15_10_u52 : fI u52 15 10 = (fI u 15 10) := Eq.trans (hTu52.2.2.1) (hI_15_10_u45)
              have hI_15_11_u52 : fI u52 15 11 = (fI u 15 11) := Eq.trans (hTu52.2.2.2.1) (hI_15_11_u45)
              have hI_15_12_u52 : fI u52 15 12 = (fI u 15 12) := Eq.trans (hTu52.2.2.2.2) (hI_15_12_u45)
              refine lv_iconst (v := 1) hx hb dX5_readUnit_111 (by decide) ?_
              refine hret _ _ _ _ _ _ dX5_readUnit_112 rfl ?_ hO
              exact ⟨Or.inr rfl, hJ, hT, hW⟩
          · refine lv_aload_n hx hb dX5_readUnit_69 rfl (lv_at hl 1 rfl) ?_
            refine lv_iload_n hx hb dX5_readUnit_70 rfl (lv_at hl 2 rfl) ?_
            refine cVi (w := cW cy a) (As := [.int 5]) (rest := []) C hO (T_X5_readInner_5 l D cy a _ (by exact hJ) (by exact hW)) (cwV 1 ht (gV wd_782 wd_784 wd_24 wd_114 wd_785) rfl rfl rfl hd_yX5_readInner ⟨Nat.le_of_ble_eq_true rfl, Nat.le_of_ble_eq_true rfl⟩) 27 rfl cW_27 rfl rfl hl.1 (Nat.le_of_ble_eq_true rfl) dX5_readUnit_71 rfl ⟨Nat.zero_le _, Nat.zero_le _⟩ (fun r54 u55 H locs hp56 hO => ?_)
            obtain ⟨hr54, hJ, hTu55, hW⟩ := hp56
            have gr54 : 0 ≤ r54.toInt ∧ r54.toInt ≤ 1 := by rcases hr54 with h | h <;> rw [h] <;> decide
            have hT : KT u u55 := KT.tr (by exact hT) hTu55
            refine hret _ _ _ _ _ _ dX5_readUnit_74 (by rcases hr54 with h | h <;> rw [h] <;> rfl) ?_ hO
            exact ⟨hr54, hJ, hT, hW⟩
        · refine lv_aload_n hx hb dX5_readUnit_41 rfl (lv_at hl 1 rfl) ?_
          refine lv_iconst (v := 2) hx hb dX5_readUnit_42 (by decide) ?_
          refine cVi (w := cW cy a) (As := [.int 2]) (rest := []) C hO (T_X5_refuse l D cy a _ (by exact hJ) (by exact hW) (2)) (cwV 1 ht (gV wd_691 wd_693 wd_6 wd_114 wd_694) rfl rfl rfl hd_yX5_refuse ⟨Nat.le_of_ble_eq_true rfl, Nat.le_of_ble_eq_true rfl⟩) 27 rfl cW_27 rfl rfl hl.1 (Nat.le_of_ble_eq_true rfl) dX5_readUnit_43 rfl ⟨Nat.zero_le _, Nat.zero_le _⟩ (fun r57 u58 H locs hp59 hO => ?_)
          have g60 : 0 ≤ (fI u 15 9).toInt ∧ (fI u 15 9).toInt ≤ 8 := by have h := CI_15_9 hJ; exact h
          have g61 : 0 ≤ (fI u 15 10).toInt ∧ (fI u 15 10).toInt ≤ 14 := by have h := CI_15_10 hJ; exact h
          have g62 : 0 ≤ (fI u 15 11).toInt ∧ (fI u 15 11).toInt ≤ 8 := by have h := CI_15_11 hJ; exact h
          have g63 : 0 ≤ (fI u 15 12).toInt ∧ (fI u 15 12).toInt ≤ 6 := by have h := CI_15_12 hJ; exact h
          obtain ⟨hr57, hJ, hTu58, hW⟩ := hp59
          subst hr57
          have hT : KT u u58 := KT.tr (by exact hT) hTu58.1
          have hI_15_9_u58 : fI u58 15 9 = (fI u 15 9) := hTu58.2.1
          have hI_15_10_u58 : fI u58 15 10 = (fI u 15 10) := hTu58.2.2.1
          have hI_15_11_u58 : fI u58 15 11 = (fI u 15 11) := hTu58.2.2.2.1
          have hI_15_12_u58 : fI u58 15 12 = (fI u 15 12) := hTu58.2.2.2.2
          refine hret _ _ _ _ _ _ dX5_readUnit_46 rfl ?_ hO
          exact ⟨Or.inl rfl, hJ, hT, hW⟩
set_option maxHeartbeats 4000000 in
set_option maxRecDepth 100000 in
theorem T_X5_readProduct_5 (l : Launch) (D : va_G) (cy : Nat → ClassId) (a : Nat → Nat) (u : St) (hJ : CI a u) (hW : fR u 2 = a 15)   : Mi l D cy (cW cy a) yX5_readProduct (.code yX5_readProduct cX5_readProduct 5 (some .boolean)) (rmo 21 473) [.ref (a 27), .int 5] u (fun (r : Int32) (u' : St) => (r = 0 ∨ r = 1) ∧ (CI a u') ∧ (KT u u') ∧ (fR u' 2 = a 15)) := by
  refine Mi.of (own := RX5) rfl (by decide) (Nat.le_of_ble_eq_true rfl) ?_
  have hT : KT u u := KT.rf
  intro p e s m below meth c A Q ls C hret hO hl
  obtain ⟨hx, hb, hml, hown, ht, hK, hA⟩ := id C
  have hl : lv_has ls 5 [(0, .ref (a 27)), (1, .int 5)] := hl
  refine lv_aload_n hx hb dX5_readProduct_0 rfl (lv_at hl 0 rfl) ?_
  refine lv_iload_n hx hb dX5_readProduct_1 rfl (lv_at hl 1 rfl) ?_
  refine cVi (w := cW cy a) (As := [.int 5]) (rest := []) C hO (T_X5_readUnit_5 l D cy a _ (by exact hJ) (by exact hW)) (cwV 1 ht (gV wd_771 wd_773 wd_23 wd_114 wd_774) rfl rfl rfl hd_yX5_readUnit ⟨Nat.le_of_ble_eq_true rfl, Nat.le_of_ble_eq_true rfl⟩) 27 rfl cW_27 rfl rfl hl.1 (Nat.le_of_ble_eq_true rfl) dX5_readProduct_2 rfl ⟨Nat.zero_le _, Nat.zero_le _⟩ (fun r1 u2 H locs hp3 hO => ?_)
  obtain ⟨hr1, hJ, hTu2, hW⟩ := hp3
  have gr1 : 0 ≤ r1.toInt ∧ r1.toInt ≤ 1 := by rcases hr1 with h | h <;> rw [h] <;> decide
  have hT : KT u u2 := KT.tr (by exact hT) hTu2
  refine lv_istore_n (lv' := [(2, .int r1), (0, .ref (a 27)), (1, .int 5)]) hx hb dX5_readProduct_5 rfl hl (by decide) rfl (fun ls hl => ?_)
  refine lv_iconst (v := 0) hx hb dX5_readProduct_6 (by decide) ?_
  refine lv_istore_n (lv' := [(3, .int 0), (2, .int r1), (0, .ref (a 27)), (1, .int 5)]) hx hb dX5_readProduct_7 rfl hl (by decide) rfl (fun ls hl => ?_)
  have LP_8_k5 : ∀ (n : Nat) (u4 : St) (H : Heap) (locs : List Loc) (ls : Array Slot) (i_k5 : Int32) (w2_k5 : Int32), Wo D A (cW cy a u4) s.heap H locs → lv_has ls 5 [(3, .int i_k5), (2, .int w2_k5), (0, .ref (a 27)), (1, .int 5)] → CI a u4 → KT u u4 → fR u4 2 = a 15 → 0 ≤ i_k5.toInt ∧ i_k5.toInt ≤ 1600 → 0 ≤ w2_k5.toInt ∧ w2_k5.toInt ≤ 1 → 1600 - i_k5.toInt < (n : Int) → W p l e (rmo 21 473) s m [.ref (a 27), .int 5].toArray below meth c H locs 0 0 Q (F0 m 8 ls []) := by
    intro n
    induction n with
    | zero =>
      intro u4 H locs ls i_k5 w2_k5 hO hl hJ hT hW iv0_k5 iv1_k5 hm_k5
      exact absurd hm_k5 (by omega)
    | succ n ih_k5 =>
      intro u4 H locs ls i_k5 w2_k5 hO hl hJ hT hW iv0_k5 iv1_k5 hm_k5
      refine lv_iload_n hx hb dX5_readProduct_8 rfl (lv_at hl 0 rfl) ?_
      refine lv_sipush (v := 1600) hx hb dX5_readProduct_9 (by decide) ?_
      refine cs_ge (tgt := 73) (X := (i_k5).toInt) (Y := 1600) hx hb dX5_readProduct_12 (by decide) rfl rfl (fun c6 => ?_) (fun c6 => ?_)
      · refine lv_iload_n hx hb dX5_readProduct_73 rfl (lv_at hl 1 rfl) ?_
        have hw2_k5 : w2_k5 = 0 ∨ w2_k5 = 1 := i_b01 rfl (by omega) (by omega)
        refine hret _ _ _ _ _ _ dX5_readProduct_74 (by rcases hw2_k5 with h | h <;> rw [h] <;> rfl) ?_ hO
        exact ⟨hw2_k5, hJ, hT, hW⟩
      · refine lv_iload_n hx hb dX5_readProduct_15 rfl (lv_at hl 1 rfl) ?_
        refine bs_eq (tgt := 73) (X := (w2_k5).toInt) hx hb dX5_readProduct_16 (by decide) rfl (fun c7 => ?_) (fun c7 => ?_)
        · refine lv_iload_n hx hb dX5_readProduct_73 rfl (lv_at hl 1 rfl) ?_
          have hw2_k5 : w2_k5 = 0 ∨ w2_k5 = 1 := i_b01 rfl (by omega) (by omega)
          refine hret _ _ _ _ _ _ dX5_readProduct_74 (by rcases hw2_k5 with h | h <;> rw [h] <;> rfl) ?_ hO
          exact ⟨hw2_k5, hJ, hT, hW⟩
        · refine lv_aload_n hx hb dX5_readProduct_19 rfl (lv_at hl 2 rfl) ?_
          refine gf_RX5_9 (v := .ref (a 1)) C hO 27 cW_27 rfl dX5_readProduct_20 ?_
          refine gf_RX5_36 (v := .int (fI u4 1 4)) C hO 1 cW_1 rfl dX5_readProduct_23 ?_
          refine cSi (w := cW cy a) (As := [.int (fI u4 1 4)]) (rest := []) C hO (T_X5_isTimes l D cy a _ (by exact hJ) ((fI u4 1 4))) (va_cwS 1 ht (gSS wd_786 wd_787 wd_114 wd_788) rfl rfl rfl hd_yX5_isTimes ⟨Nat.le_of_ble_eq_true rfl, Nat.le_of_ble_eq_true rfl⟩)  rfl hl.1 (Nat.le_of_ble_eq_true rfl) dX5_readProduct_26 rfl ⟨Nat.zero_le _, Nat.zero_le _⟩ (fun r8 u9 H locs hp10 hO => ?_)
          obtain ⟨hr8, hu9⟩ := hp10
          have gr8 : 0 ≤ r8.toInt ∧ r8.toInt ≤ 1 := by rcases hr8 with h | h <;> rw [h] <;> decide
          rw [hu9] at hO
          refine bs_eq (tgt := 73) (X := (r8).toInt) hx hb dX5_readProduct_29 (by decide) rfl (fun c11 => ?_) (fun c11 => ?_)
          · refine lv_iload_n hx hb dX5_readProduct_73 rfl (lv_at hl 1 rfl) ?_
            have hw2_k5 : w2_k5 = 0 ∨ w2_k5 = 1 := i_b01 rfl (by omega) (by omega)
            refine hret _ _ _ _ _ _ dX5_readProduct_74 (by rcases hw2_k5 with h | h <;> rw [h] <;> rfl) ?_ hO
            exact ⟨hw2_k5, hJ, hT, hW⟩
          · refine lv_aload_n hx hb dX5_readProduct_32 rfl (lv_at hl 2 rfl) ?_
            refine gf_RX5_9 (v := .ref (a 1)) C hO 27 cW_27 rfl dX5_readProduct_33 ?_
            refine gf_RX5_36 (v := .int (fI u4 1 4)) C hO 1 cW_1 rfl dX5_readProduct_36 ?_
            refine lv_istore (lv' := [(4, .int (fI u4 1 4)), (3, .int i_k5), (2, .int w2_k5), (0, .ref (a 27)), (1, .int 5)]) hx hb dX5_readProduct_39 hl (by decide) rfl (fun ls hl => ?_)
            refine lv_aload_n hx hb dX5_readProduct_41 rfl (lv_at hl 3 rfl) ?_
            refine gf_RX5_9 (v := .ref (a 1)) C hO 27 cW_27 rfl dX5_readProduct_42 ?_
            refine cVv (w := cW cy a) (As := []) (rest := []) C hO (T_X7_advance l D cy a _ (by exact hJ) (by exact hW)) (cwV 0 ht (gV wd_695 wd_541 wd_542 wd_111 wd_543) rfl rfl rfl hd_yX7_advance ⟨Nat.le_of_ble_eq_true rfl, Nat.le_of_ble_eq_true rfl⟩) 1 rfl cW_1 rfl rfl hl.1 (Nat.le_of_ble_eq_true rfl) dX5_readProduct_45 rfl ⟨Nat.zero_le _, Nat.zero_le _⟩ (fun u13 H locs hp14 hO => ?_)
            have g15 : 0 ≤ (fI u4 15 9).toInt ∧ (fI u4 15 9).toInt ≤ 8 := by have h := CI_15_9 hJ; exact h
            have g16 : 0 ≤ (fI u4 15 10).toInt ∧ (fI u4 15 10).toInt ≤ 14 := by have h := CI_15_10 hJ; exact h
            have g17 : 0 ≤ (fI u4 15 11).toInt ∧ (fI u4 15 11).toInt ≤ 8 := by have h := CI_15_11 hJ; exact h
            have g18 : 0 ≤ (fI u4 15 12).toInt ∧ (fI u4 15 12).toInt ≤ 6 := by have h := CI_15_12 hJ; exact h
            obtain ⟨hJ, hTu13, hW⟩ := hp14
            have hT : KT u u13 := KT.tr (by exact hT) hTu13.1
            have hI_15_9_u13 : fI u13 15 9 = (fI u4 15 9) := hTu13.2.1
            have hI_15_10_u13 : fI u13 15 10 = (fI u4 15 10) := hTu13.2.2.1
            have hI_15_11_u13 : fI u13 15 11 = (fI u4 15 11) := hTu13.2.2.2.1
            have hI_15_12_u13 : fI u13 15 12 = (fI u4 15 12) := hTu13.2.2.2.2
            refine lv_aload_n hx hb dX5_readProduct_48 rfl (lv_at hl 3 rfl) ?_
            refine lv_iload_n hx hb dX5_readProduct_49 rfl (lv_at hl 4 rfl) ?_
            refine cVi (w := cW cy a) (As := [.int 5]) (rest := []) C hO (T_X5_readUnit_5 l D cy a _ (by exact hJ) (by exact hW)) (cwV 1 ht (gV wd_771 wd_773 wd_23 wd_114 wd_774) rfl rfl rfl hd_yX5_readUnit ⟨Nat.le_of_ble_eq_true rfl, Nat.le_of_ble_eq_true rfl⟩) 27 rfl cW_27 rfl rfl hl.1 (Nat.le_of_ble_eq_true rfl) dX5_readProduct_50 rfl ⟨Nat.zero_le _, Nat.zero_le _⟩ (fun r19 u20 H locs hp21 hO => ?_)
            obtain ⟨hr19, hJ, hTu20, hW⟩ := hp21
            have gr19 : 0 ≤ r19.toInt ∧ r19.toInt ≤ 1 := by rcases hr19 with h | h <;> rw [h] <;> decide
            have hT : KT u u20 := KT.tr (by exact hT) hTu20
            refine lv_istore_n (lv' := [(2, .int r19), (4, .int (fI u4 1 4)), (3, .int i_k5), (0, .ref (a 27)), (1, .int 5)]) hx hb dX5_readProduct_53 rfl hl (by decide) rfl (fun ls hl => ?_)
            refine lv_aload_n hx hb dX5_readProduct_54 rfl (lv_at hl 3 rfl) ?_
            refine gf_RX5_15 (v := .ref (a 15)) C hO 27 cW_27 (congrArg (fun z : Nat => some (Value.ref z)) hW) dX5_readProduct_55 ?_
            refine gf_RX5_173 (v := .ref (a 24)) C hO 15 cW_15 rfl dX5_readProduct_58 ?_
            refine lv_iload hx hb dX5_readProduct_61 (lv_at hl 1 rfl) ?_
            refine lv_ineg hx hb dX5_readProduct_63 ?_
            refine lv_topi (fun z22 ez22 => ?_)
            refine cVv (w := cW cy a) (As := [.int z22]) (rest := []) C hO (T_X4_add l D cy a _ (by exact hJ) (by exact hW) (z22)) (cwV 1 ht (gV wd_759 wd_760 wd_761 wd_113 wd_762) rfl rfl rfl hd_yX4_add ⟨Nat.le_of_ble_eq_true rfl, Nat.le_of_ble_eq_true rfl⟩) 24 rfl cW_24 rfl rfl hl.1 (Nat.le_of_ble_eq_true rfl) dX5_readProduct_64 rfl ⟨Nat.zero_le _, Nat.zero_le _⟩ (fun u24 H locs hp25 hO => ?_)
            have g26 : 0 ≤ (fI u20 15 9).toInt ∧ (fI u20 15 9).toInt ≤ 8 := by have h := CI_15_9 hJ; exact h
            have g27 : 0 ≤ (fI u20 15 10).toInt ∧ (fI u20 15 10).toInt ≤ 14 := by have h := CI_15_10 hJ; exact h
            have g28 : 0 ≤ (fI u20 15 11).toInt ∧ (fI u20 15 11).toInt ≤ 8 := by have h := CI_15_11 hJ; exact h
            have g29 : 0 ≤ (fI u20 15 12).toInt ∧ (fI u20 15 12).toInt ≤ 6 := by have h := CI_15_12 hJ; exact h
            obtain ⟨hJ, hTu24, hW⟩ := hp25
            have hT : KT u u24 := KT.tr (by exact hT) hTu24.1
            have hI_15_9_u24 : fI u24 15 9 = (fI u20 15 9) := hTu24.2.1
            have hI_15_10_u24 : fI u24 15 10 = (fI u20 15 10) := hTu24.2.2.1
            have hI_15_11_u24 : fI u24 15 11 = (fI u20 15 11) := hTu24.2.2.2.1
            have hI_15_12_u24 : fI u24 15 12 = (fI u20 15 12) := hTu24.2.2.2.2
            have e30 : ((i_k5 + 1)).toInt = (i_k5).toInt + 1 := i_add rfl rfl (by omega)
            refine lv_iinc (v := (i_k5 + 1)) (lv' := [(3, .int (i_k5 + 1)), (2, .int r19), (4, .int (fI u4 1 4)), (0, .ref (a 27)), (1, .int 5)]) hx hb dX5_readProduct_67 hl (k := 2) rfl rfl (by decide) rfl (fun ls hl => ?_)
            refine lv_goto (tgt := 8) hx hb dX5_readProduct_70 (by decide) ?_
            exact ih_k5 _ _ _ _ ((i_k5 + 1)) (r19) hO (lv_sub hl [0, 1, 3, 4] rfl) (by exact hJ) (by exact hT) (by exact hW) (by first | decide | omega) (by first | decide | omega) (by first | decide | omega)
  exact LP_8_k5 4000 _ _ _ _ (0) (r1) hO (lv_sub hl [0, 1, 2, 3] rfl) (by exact hJ) (by exact hT) (by exact hW) (by first | decide | omega) (by first | decide | omega) (by first | decide | omega)
set_option maxHeartbeats 4000000 in
set_option maxRecDepth 100000 in
theorem T_X5_readSum_5 (l : Launch) (D : va_G) (cy : Nat → ClassId) (a : Nat → Nat) (u : St) (hJ : CI a u) (hW : fR u 2 = a 15)   : Mi l D cy (cW cy a) yX5_readSum (.code yX5_readSum cX5_readSum 5 (some .boolean)) (rmo 22 497) [.ref (a 27), .int 5] u (fun (r : Int32) (u' : St) => (r = 0 ∨ r = 1) ∧ (CI a u') ∧ (KT u u') ∧ (fR u' 2 = a 15)) := by
  refine Mi.of (own := RX5) rfl (by decide) (Nat.le_of_ble_eq_true rfl) ?_
  have hT : KT u u := KT.rf
  intro p e s m below meth c A Q ls C hret hO hl
  obtain ⟨hx, hb, hml, hown, ht, hK, hA⟩ := id C
  have hl : lv_has ls 5 [(0, .ref (a 27)), (1, .int 5)] := hl
  refine lv_aload_n hx hb dX5_readSum_0 rfl (lv_at hl 0 rfl) ?_
  refine lv_iload_n hx hb dX5_readSum_1 rfl (lv_at hl 1 rfl) ?_
  refine cVi (w := cW cy a) (As := [.int 5]) (rest := []) C hO (T_X5_readProduct_5 l D cy a _ (by exact hJ) (by exact hW)) (cwV 1 ht (gV wd_767 wd_769 wd_22 wd_114 wd_770) rfl rfl rfl hd_yX5_readProduct ⟨Nat.le_of_ble_eq_true rfl, Nat.le_of_ble_eq_true rfl⟩) 27 rfl cW_27 rfl rfl hl.1 (Nat.le_of_ble_eq_true rfl) dX5_readSum_2 rfl ⟨Nat.zero_le _, Nat.zero_le _⟩ (fun r1 u2 H locs hp3 hO => ?_)
  obtain ⟨hr1, hJ, hTu2, hW⟩ := hp3
  have gr1 : 0 ≤ r1.toInt ∧ r1.toInt ≤ 1 := by rcases hr1 with h | h <;> rw [h] <;> decide
  have hT : KT u u2 := KT.tr (by exact hT) hTu2
  refine lv_istore_n (lv' := [(2, .int r1), (0, .ref (a 27)), (1, .int 5)]) hx hb dX5_readSum_5 rfl hl (by decide) rfl (fun ls hl => ?_)
  refine lv_iconst (v := 0) hx hb dX5_readSum_6 (by decide) ?_
  refine lv_istore_n (lv' := [(3, .int 0), (2, .int r1), (0, .ref (a 27)), (1, .int 5)]) hx hb dX5_readSum_7 rfl hl (by decide) rfl (fun ls hl => ?_)
  have LP_8_k5 : ∀ (n : Nat) (u4 : St) (H : Heap) (locs : List Loc) (ls : Array Slot) (i_k5 : Int32) (w2_k5 : Int32), Wo D A (cW cy a u4) s.heap H locs → lv_has ls 5 [(3, .int i_k5), (2, .int w2_k5), (0, .ref (a 27)), (1, .int 5)] → CI a u4 → KT u u4 → fR u4 2 = a 15 → 0 ≤ i_k5.toInt ∧ i_k5.toInt ≤ 1600 → 0 ≤ w2_k5.toInt ∧ w2_k5.toInt ≤ 1 → 1600 - i_k5.toInt < (n : Int) → W p l e (rmo 22 497) s m [.ref (a 27), .int 5].toArray below meth c H locs 0 0 Q (F0 m 8 ls []) := by
    intro n
    induction n with
    | zero =>
      intro u4 H locs ls i_k5 w2_k5 hO hl hJ hT hW iv0_k5 iv1_k5 hm_k5
      exact absurd hm_k5 (by omega)
    | succ n ih_k5 =>
      intro u4 H locs ls i_k5 w2_k5 hO hl hJ hT hW iv0_k5 iv1_k5 hm_k5
      refine lv_iload_n hx hb dX5_readSum_8 rfl (lv_at hl 0 rfl) ?_
      refine lv_sipush (v := 1600) hx hb dX5_readSum_9 (by decide) ?_
      refine cs_ge (tgt := 84) (X := (i_k5).toInt) (Y := 1600) hx hb dX5_readSum_12 (by decide) rfl rfl (fun c6 => ?_) (fun c6 => ?_)
      · refine lv_iload_n hx hb dX5_readSum_84 rfl (lv_at hl 1 rfl) ?_
        have hw2_k5 : w2_k5 = 0 ∨ w2_k5 = 1 := i_b01 rfl (by omega) (by omega)
        refine hret _ _ _ _ _ _ dX5_readSum_85 (by rcases hw2_k5 with h | h <;> rw [h] <;> rfl) ?_ hO
        exact ⟨hw2_k5, hJ, hT, hW⟩
      · refine lv_iload_n hx hb dX5_readSum_15 rfl (lv_at hl 1 rfl) ?_
        refine bs_eq (tgt := 84) (X := (w2_k5).toInt) hx hb dX5_readSum_16 (by decide) rfl (fun c7 => ?_) (fun c7 => ?_)
        · refine lv_iload_n hx hb dX5_readSum_84 rfl (lv_at hl 1 rfl) ?_
          have hw2_k5 : w2_k5 = 0 ∨ w2_k5 = 1 := i_b01 rfl (by omega) (by omega)
          refine hret _ _ _ _ _ _ dX5_readSum_85 (by rcases hw2_k5 with h | h <;> rw [h] <;> rfl) ?_ hO
          exact ⟨hw2_k5, hJ, hT, hW⟩
        · refine lv_aload_n hx hb dX5_readSum_19 rfl (lv_at hl 2 rfl) ?_
          refine gf_RX5_9 (v := .ref (a 1)) C hO 27 cW_27 rfl dX5_readSum_20 ?_
          refine gf_RX5_36 (v := .int (fI u4 1 4)) C hO 1 cW_1 rfl dX5_readSum_23 ?_
          refine lv_bipush (v := 43) hx hb dX5_readSum_26 (by decide) ?_
          refine cs_eq (tgt := 43) (X := ((fI u4 1 4)).toInt) (Y := 43) hx hb dX5_readSum_28 (by decide) rfl rfl (fun c8 => ?_) (fun c8 => ?_)
          · refine lv_aload_n hx hb dX5_readSum_43 rfl (lv_at hl 2 rfl) ?_
            refine gf_RX5_9 (v := .ref (a 1)) C hO 27 cW_27 rfl dX5_readSum_44 ?_
            refine gf_RX5_36 (v := .int (fI u4 1 4)) C hO 1 cW_1 rfl dX5_readSum_47 ?_
            refine lv_istore (lv' := [(4, .int (fI u4 1 4)), (3, .int i_k5), (2, .int w2_k5), (0, .ref (a 27)), (1, .int 5)]) hx hb dX5_readSum_50 hl (by decide) rfl (fun ls hl => ?_)
            refine lv_aload_n hx hb dX5_readSum_52 rfl (lv_at hl 3 rfl) ?_
            refine gf_RX5_9 (v := .ref (a 1)) C hO 27 cW_27 rfl dX5_readSum_53 ?_
            refine cVv (w := cW cy a) (As := []) (rest := []) C hO (T_X7_advance l D cy a _ (by exact hJ) (by exact hW)) (cwV 0 ht (gV wd_695 wd_541 wd_542 wd_111 wd_543) rfl rfl rfl hd_yX7_advance ⟨Nat.le_of_ble_eq_true rfl, Nat.le_of_ble_eq_true rfl⟩) 1 rfl cW_1 rfl rfl hl.1 (Nat.le_of_ble_eq_true rfl) dX5_readSum_56 rfl ⟨Nat.zero_le _, Nat.zero_le _⟩ (fun u10 H locs hp11 hO => ?_)
            have g12 : 0 ≤ (fI u4 15 9).toInt ∧ (fI u4 15 9).toInt ≤ 8 := by have h := CI_15_9 hJ; exact h
            have g13 : 0 ≤ (fI u4 15 10).toInt ∧ (fI u4 15 10).toInt ≤ 14 := by have h := CI_15_10 hJ; exact h
            have g14 : 0 ≤ (fI u4 15 11).toInt ∧ (fI u4 15 11).toInt ≤ 8 := by have h := CI_15_11 hJ; exact h
            have g15 : 0 ≤ (fI u4 15 12).toInt ∧ (fI u4 15 12).toInt ≤ 6 := by have h := CI_15_12 hJ; exact h
            obtain ⟨hJ, hTu10, hW⟩ := hp11
            have hT : KT u u10 := KT.tr (by exact hT) hTu10.1
            have hI_15_9_u10 : fI u10 15 9 = (fI u4 15 9) := hTu10.2.1
            have hI_15_10_u10 : fI u10 15 10 = (fI u4 15 10) := hTu10.2.2.1
            have hI_15_11_u10 : fI u10 15 11 = (fI u4 15 11) := hTu10.2.2.2.1
            have hI_15_12_u10 : fI u10 15 12 = (fI u4 15 12) := hTu10.2.2.2.2
            refine lv_aload_n hx hb dX5_readSum_59 rfl (lv_at hl 3 rfl) ?_
            refine lv_iload_n hx hb dX5_readSum_60 rfl (lv_at hl 4 rfl) ?_
            refine cVi (w := cW cy a) (As := [.int 5]) (rest := []) C hO (T_X5_readProduct_5 l D cy a _ (by exact hJ) (by exact hW)) (cwV 1 ht (gV wd_767 wd_769 wd_22 wd_114 wd_770) rfl rfl rfl hd_yX5_readProduct ⟨Nat.le_of_ble_eq_true rfl, Nat.le_of_ble_eq_true rfl⟩) 27 rfl cW_27 rfl rfl hl.1 (Nat.le_of_ble_eq_true rfl) dX5_readSum_61 rfl ⟨Nat.zero_le _, Nat.zero_le _⟩ (fun r16 u17 H locs hp18 hO => ?_)
            obtain ⟨hr16, hJ, hTu17, hW⟩ := hp18
            have gr16 : 0 ≤ r16.toInt ∧ r16.toInt ≤ 1 := by rcases hr16 with h | h <;> rw [h] <;> decide
            have hT : KT u u17 := KT.tr (by exact hT) hTu17
            refine lv_istore_n (lv' := [(2, .int r16), (4, .int (fI u4 1 4)), (3, .int i_k5), (0, .ref (a 27)), (1, .int 5)]) hx hb dX5_readSum_64 rfl hl (by decide) rfl (fun ls hl => ?_)
            refine lv_aload_n hx hb dX5_readSum_65 rfl (lv_at hl 3 rfl) ?_
            refine gf_RX5_15 (v := .ref (a 15)) C hO 27 cW_27 (congrArg (fun z : Nat => some (Value.ref z)) hW) dX5_readSum_66 ?_
            refine gf_RX5_173 (v := .ref (a 24)) C hO 15 cW_15 rfl dX5_readSum_69 ?_
            refine lv_iload hx hb dX5_readSum_72 (lv_at hl 1 rfl) ?_
            refine lv_ineg hx hb dX5_readSum_74 ?_
            refine lv_topi (fun z19 ez19 => ?_)
            refine cVv (w := cW cy a) (As := [.int z19]) (rest := []) C hO (T_X4_add l D cy a _ (by exact hJ) (by exact hW) (z19)) (cwV 1 ht (gV wd_759 wd_760 wd_761 wd_113 wd_762) rfl rfl rfl hd_yX4_add ⟨Nat.le_of_ble_eq_true rfl, Nat.le_of_ble_eq_true rfl⟩) 24 rfl cW_24 rfl rfl hl.1 (Nat.le_of_ble_eq_true rfl) dX5_readSum_75 rfl ⟨Nat.zero_le _, Nat.zero_le _⟩ (fun u21 H locs hp22 hO => ?_)
            have g23 : 0 ≤ (fI u17 15 9).toInt ∧ (fI u17 15 9).toInt ≤ 8 := by have h := CI_15_9 hJ; exact h
            have g24 : 0 ≤ (fI u17 15 10).toInt ∧ (fI u17 15 10).toInt ≤ 14 := by have h := CI_15_10 hJ; exact h
            have g25 : 0 ≤ (fI u17 15 11).toInt ∧ (fI u17 15 11).toInt ≤ 8 := by have h := CI_15_11 hJ; exact h
            have g26 : 0 ≤ (fI u17 15 12).toInt ∧ (fI u17 15 12).toInt ≤ 6 := by have h := CI_15_12 hJ; exact h
            obtain ⟨hJ, hTu21, hW⟩ := hp22
            have hT : KT u u21 := KT.tr (by exact hT) hTu21.1
            have hI_15_9_u21 : fI u21 15 9 = (fI u17 15 9) := hTu21.2.1
            have hI_15_10_u21 : fI u21 15 10 = (fI u17 15 10) := hTu21.2.2.1
            have hI_15_11_u21 : fI u21 15 11 = (fI u17 15 11) := hTu21.2.2.2.1
            have hI_15_12_u21 : fI u21 15 12 = (fI u17 15 12) := hTu21.2.2.2.2
            have e27 : ((i_k5 + 1)).toInt = (i_k5).toInt + 1 := i_add rfl rfl (by omega)
            refine lv_iinc (v := (i_k5 + 1)) (lv' := [(3, .int (i_k5 + 1)), (2, .int r16), (4, .int (fI u4 1 4)), (0, .ref (a 27)), (1, .int 5)]) hx hb dX5_readSum_78 hl (k := 2) rfl rfl (by decide) rfl (fun ls hl => ?_)
            refine lv_goto (tgt := 8) hx hb dX5_readSum_81 (by decide) ?_
            exact ih_k5 _ _ _ _ ((i_k5 + 1)) (r16) hO (lv_sub hl [0, 1, 3, 4] rfl) (by exact hJ) (by exact hT) (by exact hW) (by first | decide | omega) (by first | decide | omega) (by first | decide | omega)
          · refine lv_aload_n hx hb dX5_readSum_31 rfl (lv_at hl 2 rfl) ?_
            refine gf_RX5_9 (v := .ref (a 1)) C hO 27 cW_27 rfl dX5_readSum_32 ?_
            refine gf_RX5_36 (v := .int (fI u4 1 4)) C hO 1 cW_1 rfl dX5_readSum_35 ?_
            refine lv_bipush (v := 45) hx hb dX5_readSum_38 (by decide) ?_
            refine cs_ne (tgt := 84) (X := ((fI u4 1 4)).toInt) (Y := 45) hx hb dX5_readSum_40 (by decide) rfl rfl (fun c28 => ?_) (fun c28 => ?_)
            · refine lv_iload_n hx hb dX5_readSum_84 rfl (lv_at hl 1 rfl) ?_
              have hw2_k5 : w2_k5 = 0 ∨ w2_k5 = 1 := i_b01 rfl (by omega) (by omega)
              refine hret _ _ _ _ _ _ dX5_readSum_85 (by rcases hw2_k5 with h | h <;> rw [h] <;> rfl) ?_ hO
              exact ⟨hw2_k5, hJ, hT, hW⟩
            · refine lv_aload_n hx hb dX5_readSum_43 rfl (lv_at hl 2 rfl) ?_
              refine gf_RX5_9 (v := .ref (a 1)) C hO 27 cW_27 rfl dX5_readSum_44 ?_
              refine gf_RX5_36 (v := .int (fI u4 1 4)) C hO 1 cW_1 rfl dX5_readSum_47 ?_
              refine lv_istore (lv' := [(4, .int (fI u4 1 4)), (3, .int i_k5), (2, .int w2_k5), (0, .ref (a 27)), (1, .int 5)]) hx hb dX5_readSum_50 hl (by decide) rfl (fun ls hl => ?_)
              refine lv_aload_n hx hb dX5_readSum_52 rfl (lv_at hl 3 rfl) ?_
              refine gf_RX5_9 (v := .ref (a 1)) C hO 27 cW_27 rfl dX5_readSum_53 ?_
              refine cVv (w := cW cy a) (As := []) (rest := []) C hO (T_X7_advance l D cy a _ (by exact hJ) (by exact hW)) (cwV 0 ht (gV wd_695 wd_541 wd_542 wd_111 wd_543) rfl rfl rfl hd_yX7_advance ⟨Nat.le_of_ble_eq_true rfl, Nat.le_of_ble_eq_true rfl⟩) 1 rfl cW_1 rfl rfl hl.1 (Nat.le_of_ble_eq_true rfl) dX5_readSum_56 rfl ⟨Nat.zero_le _, Nat.zero_le _⟩ (fun u30 H locs hp31 hO => ?_)
              have g32 : 0 ≤ (fI u4 15 9).toInt ∧ (fI u4 15 9).toInt ≤ 8 := by have h := CI_15_9 hJ; exact h
              have g33 : 0 ≤ (fI u4 15 10).toInt ∧ (fI u4 15 10).toInt ≤ 14 := by have h := CI_15_10 hJ; exact h
              have g34 : 0 ≤ (fI u4 15 11).toInt ∧ (fI u4 15 11).toInt ≤ 8 := by have h := CI_15_11 hJ; exact h
              have g35 : 0 ≤ (fI u4 15 12).toInt ∧ (fI u4 15 12).toInt ≤ 6 := by have h := CI_15_12 hJ; exact h
              obtain ⟨hJ, hTu30, hW⟩ := hp31
              have hT : KT u u30 := KT.tr (by exact hT) hTu30.1
              have hI_15_9_u30 : fI u30 15 9 = (fI u4 15 9) := hTu30.2.1
              have hI_15_10_u30 : fI u30 15 10 = (fI u4 15 10) := hTu30.2.2.1
              have hI_15_11_u30 : fI u30 15 11 = (fI u4 15 11) := hTu30.2.2.2.1
              have hI_15_12_u30 : fI u30 15 12 = (fI u4 15 12) := hTu30.2.2.2.2
              refine lv_aload_n hx hb dX5_readSum_59 rfl (lv_at hl 3 rfl) ?_
              refine lv_iload_n hx hb dX5_readSum_60 rfl (lv_at hl 4 rfl) ?_
              refine cVi (w := cW cy a) (As := [.int 5]) (rest := []) C hO (T_X5_readProduct_5 l D cy a _ (by exact hJ) (by exact hW)) (cwV 1 ht (gV wd_767 wd_769 wd_22 wd_114 wd_770) rfl rfl rfl hd_yX5_readProduct ⟨Nat.le_of_ble_eq_true rfl, Nat.le_of_ble_eq_true rfl⟩) 27 rfl cW_27 rfl rfl hl.1 (Nat.le_of_ble_eq_true rfl) dX5_readSum_61 rfl ⟨Nat.zero_le _, Nat.zero_le _⟩ (fun r36 u37 H locs hp38 hO => ?_)
              obtain ⟨hr36, hJ, hTu37, hW⟩ := hp38
              have gr36 : 0 ≤ r36.toInt ∧ r36.toInt ≤ 1 := by rcases hr36 with h | h <;> rw [h] <;> decide
              have hT : KT u u37 := KT.tr (by exact hT) hTu37
              refine lv_istore_n (lv' := [(2, .int r36), (4, .int (fI u4 1 4)), (3, .int i_k5), (0, .ref (a 27)), (1, .int 5)]) hx hb dX5_readSum_64 rfl hl (by decide) rfl (fun ls hl => ?_)
              refine lv_aload_n hx hb dX5_readSum_65 rfl (lv_at hl 3 rfl) ?_
              refine gf_RX5_15 (v := .ref (a 15)) C hO 27 cW_27 (congrArg (fun z : Nat => some (Value.ref z)) hW) dX5_readSum_66 ?_
              refine gf_RX5_173 (v := .ref (a 24)) C hO 15 cW_15 rfl dX5_readSum_69 ?_
              refine lv_iload hx hb dX5_readSum_72 (lv_at hl 1 rfl) ?_
              refine lv_ineg hx hb dX5_readSum_74 ?_
              refine lv_topi (fun z39 ez39 => ?_)
              refine cVv (w := cW cy a) (As := [.int z39]) (rest := []) C hO (T_X4_add l D cy a _ (by exact hJ) (by exact hW) (z39)) (cwV 1 ht (gV wd_759 wd_760 wd_761 wd_113 wd_762) rfl rfl rfl hd_yX4_add ⟨Nat.le_of_ble_eq_true rfl, Nat.le_of_ble_eq_true rfl⟩) 24 rfl cW_24 rfl rfl hl.1 (Nat.le_of_ble_eq_true rfl) dX5_readSum_75 rfl ⟨Nat.zero_le _, Nat.zero_le _⟩ (fun u41 H locs hp42 hO => ?_)
              have g43 : 0 ≤ (fI u37 15 9).toInt ∧ (fI u37 15 9).toInt ≤ 8 := by have h := CI_15_9 hJ; exact h
              have g44 : 0 ≤ (fI u37 15 10).toInt ∧ (fI u37 15 10).toInt ≤ 14 := by have h := CI_15_10 hJ; exact h
              have g45 : 0 ≤ (fI u37 15 11).toInt ∧ (fI u37 15 11).toInt ≤ 8 := by have h := CI_15_11 hJ; exact h
              have g46 : 0 ≤ (fI u37 15 12).toInt ∧ (fI u37 15 12).toInt ≤ 6 := by have h := CI_15_12 hJ; exact h
              obtain ⟨hJ, hTu41, hW⟩ := hp42
              have hT : KT u u41 := KT.tr (by exact hT) hTu41.1
              have hI_15_9_u41 : fI u41 15 9 = (fI u37 15 9) := hTu41.2.1
              have hI_15_10_u41 : fI u41 15 10 = (fI u37 15 10) := hTu41.2.2.1
              have hI_15_11_u41 : fI u41 15 11 = (fI u37 15 11) := hTu41.2.2.2.1
              have hI_15_12_u41 : fI u41 15 12 = (fI u37 15 12) := hTu41.2.2.2.2
              have e47 : ((i_k5 + 1)).toInt = (i_k5).toInt + 1 := i_add rfl rfl (by omega)
              refine lv_iinc (v := (i_k5 + 1)) (lv' := [(3, .int (i_k5 + 1)), (2, .int r36), (4, .int (fI u4 1 4)), (0, .ref (a 27)), (1, .int 5)]) hx hb dX5_readSum_78 hl (k := 2) rfl rfl (by decide) rfl (fun ls hl => ?_)
              refine lv_goto (tgt := 8) hx hb dX5_readSum_81 (by decide) ?_
              exact ih_k5 _ _ _ _ ((i_k5 + 1)) (r36) hO (lv_sub hl [0, 1, 3, 4] rfl) (by exact hJ) (by exact hT) (by exact hW) (by first | decide | omega) (by first | decide | omega) (by first | decide | omega)
  exact LP_8_k5 4000 _ _ _ _ (0) (r1) hO (lv_sub hl [0, 1, 2, 3] rfl) (by exact hJ) (by exact hT) (by exact hW) (by first | decide | omega) (by first | decide | omega) (by first | decide | omega)
set_option maxHeartbeats 4000000 in
set_option maxRecDepth 100000 in
theorem T_X5_readNot_5 (l : Launch) (D : va_G) (cy : Nat → ClassId) (a : Nat → Nat) (u : St) (hJ : CI a u) (hW : fR u 2 = a 15)   : Mi l D cy (cW cy a) yX5_readNot (.code yX5_readNot cX5_readNot 3 (some .boolean)) (rmo 17 384) [.ref (a 27), .int 5] u (fun (r : Int32) (u' : St) => (r = 0 ∨ r = 1) ∧ (CI a u') ∧ (KT u u') ∧ (fR u' 2 = a 15)) := by
  refine Mi.of (own := RX5) rfl (by decide) (Nat.le_of_ble_eq_true rfl) ?_
  have hT : KT u u := KT.rf
  intro p e s m below meth c A Q ls C hret hO hl
  obtain ⟨hx, hb, hml, hown, ht, hK, hA⟩ := id C
  have hl : lv_has ls 3 [(0, .ref (a 27)), (1, .int 5)] := hl
  refine lv_iload_n hx hb dX5_readNot_0 rfl (lv_at hl 1 rfl) ?_
  refine lv_bipush (v := 6) hx hb dX5_readNot_1 (by decide) ?_
  refine ct_le (tgt := 12) (X := 5) (Y := 6) hx hb dX5_readNot_3 (by decide) rfl rfl (by omega) ?_
  refine lv_aload_n hx hb dX5_readNot_12 rfl (lv_at hl 0 rfl) ?_
  refine gf_RX5_9 (v := .ref (a 1)) C hO 27 cW_27 rfl dX5_readNot_13 ?_
  refine cVv (w := cW cy a) (As := []) (rest := []) C hO (T_X7_advance l D cy a _ (by exact hJ) (by exact hW)) (cwV 0 ht (gV wd_695 wd_541 wd_542 wd_111 wd_543) rfl rfl rfl hd_yX7_advance ⟨Nat.le_of_ble_eq_true rfl, Nat.le_of_ble_eq_true rfl⟩) 1 rfl cW_1 rfl rfl hl.1 (Nat.le_of_ble_eq_true rfl) dX5_readNot_16 rfl ⟨Nat.zero_le _, Nat.zero_le _⟩ (fun u2 H locs hp3 hO => ?_)
  have g4 : 0 ≤ (fI u 15 9).toInt ∧ (fI u 15 9).toInt ≤ 8 := by have h := CI_15_9 hJ; exact h
  have g5 : 0 ≤ (fI u 15 10).toInt ∧ (fI u 15 10).toInt ≤ 14 := by have h := CI_15_10 hJ; exact h
  have g6 : 0 ≤ (fI u 15 11).toInt ∧ (fI u 15 11).toInt ≤ 8 := by have h := CI_15_11 hJ; exact h
  have g7 : 0 ≤ (fI u 15 12).toInt ∧ (fI u 15 12).toInt ≤ 6 := by have h := CI_15_12 hJ; exact h
  obtain ⟨hJ, hTu2, hW⟩ := hp3
  have hT : KT u u2 := KT.tr (by exact hT) hTu2.1
  have hI_15_9_u2 : fI u2 15 9 = (fI u 15 9) := hTu2.2.1
  have hI_15_10_u2 : fI u2 15 10 = (fI u 15 10) := hTu2.2.2.1
  have hI_15_11_u2 : fI u2 15 11 = (fI u 15 11) := hTu2.2.2.2.1
  have hI_15_12_u2 : fI u2 15 12 = (fI u 15 12) := hTu2.2.2.2.2
  refine lv_aload_n hx hb dX5_readNot_19 rfl (lv_at hl 0 rfl) ?_
  refine lv_iload_n hx hb dX5_readNot_20 rfl (lv_at hl 1 rfl) ?_
  refine lv_iconst (v := 1) hx hb dX5_readNot_21 (by decide) ?_
  refine lv_iadd hx hb dX5_readNot_22 ?_
  refine tE (y := 6) rfl ?_
  refine cVi (w := cW cy a) (As := [.int 6]) (rest := []) C hO (T_X5_readOne_6 l D cy a _ (by exact hJ) (by exact hW)) (cwV 1 ht (gV wd_751 wd_753 wd_19 wd_114 wd_754) rfl rfl rfl hd_yX5_readOne ⟨Nat.le_of_ble_eq_true rfl, Nat.le_of_ble_eq_true rfl⟩) 27 rfl cW_27 rfl rfl hl.1 (Nat.le_of_ble_eq_true rfl) dX5_readNot_23 rfl ⟨Nat.zero_le _, Nat.zero_le _⟩ (fun r8 u9 H locs hp10 hO => ?_)
  obtain ⟨hr8, hJ, hTu9, hW⟩ := hp10
  have gr8 : 0 ≤ r8.toInt ∧ r8.toInt ≤ 1 := by rcases hr8 with h | h <;> rw [h] <;> decide
  have hT : KT u u9 := KT.tr (by exact hT) hTu9
  refine lv_istore_n (lv' := [(2, .int r8), (0, .ref (a 27)), (1, .int 5)]) hx hb dX5_readNot_26 rfl hl (by decide) rfl (fun ls hl => ?_)
  refine lv_aload_n hx hb dX5_readNot_27 rfl (lv_at hl 1 rfl) ?_
  refine gf_RX5_15 (v := .ref (a 15)) C hO 27 cW_27 (congrArg (fun z : Nat => some (Value.ref z)) hW) dX5_readNot_28 ?_
  refine gf_RX5_173 (v := .ref (a 24)) C hO 15 cW_15 rfl dX5_readNot_31 ?_
  refine lv_bipush (v := (-15)) hx hb dX5_readNot_34 (by decide) ?_
  refine cVv (w := cW cy a) (As := [.int (-15)]) (rest := []) C hO (T_X4_add l D cy a _ (by exact hJ) (by exact hW) ((-15))) (cwV 1 ht (gV wd_759 wd_760 wd_761 wd_113 wd_762) rfl rfl rfl hd_yX4_add ⟨Nat.le_of_ble_eq_true rfl, Nat.le_of_ble_eq_true rfl⟩) 24 rfl cW_24 rfl rfl hl.1 (Nat.le_of_ble_eq_true rfl) dX5_readNot_36 rfl ⟨Nat.zero_le _, Nat.zero_le _⟩ (fun u12 H locs hp13 hO => ?_)
  have g14 : 0 ≤ (fI u9 15 9).toInt ∧ (fI u9 15 9).toInt ≤ 8 := by have h := CI_15_9 hJ; exact h
  have g15 : 0 ≤ (fI u9 15 10).toInt ∧ (fI u9 15 10).toInt ≤ 14 := by have h := CI_15_10 hJ; exact h
  have g16 : 0 ≤ (fI u9 15 11).toInt ∧ (fI u9 15 11).toInt ≤ 8 := by have h := CI_15_11 hJ; exact h
  have g17 : 0 ≤ (fI u9 15 12).toInt ∧ (fI u9 15 12).toInt ≤ 6 := by have h := CI_15_12 hJ; exact h
  obtain ⟨hJ, hTu12, hW⟩ := hp13
  have hT : KT u u12 := KT.tr (by exact hT) hTu12.1
  have hI_15_9_u12 : fI u12 15 9 = (fI u9 15 9) := hTu12.2.1
  have hI_15_10_u12 : fI u12 15 10 = (fI u9 15 10) := hTu12.2.2.1
  have hI_15_11_u12 : fI u12 15 11 = (fI u9 15 11) := hTu12.2.2.2.1
  have hI_15_12_u12 : fI u12 15 12 = (fI u9 15 12) := hTu12.2.2.2.2
  refine lv_iload_n hx hb dX5_readNot_39 rfl (lv_at hl 0 rfl) ?_
  refine hret _ _ _ _ _ _ dX5_readNot_40 (by rcases hr8 with h | h <;> rw [h] <;> rfl) ?_ hO
  exact ⟨hr8, hJ, hT, hW⟩
set_option maxHeartbeats 4000000 in
set_option maxRecDepth 100000 in
theorem T_X5_readOne_5 (l : Launch) (D : va_G) (cy : Nat → ClassId) (a : Nat → Nat) (u : St) (hJ : CI a u) (hW : fR u 2 = a 15)   : Mi l D cy (cW cy a) yX5_readOne (.code yX5_readOne cX5_readOne 4 (some .boolean)) (rmo 23 521) [.ref (a 27), .int 5] u (fun (r : Int32) (u' : St) => (r = 0 ∨ r = 1) ∧ (CI a u') ∧ (KT u u') ∧ (fR u' 2 = a 15)) := by
  refine Mi.of (own := RX5) rfl (by decide) (Nat.le_of_ble_eq_true rfl) ?_
  have hT : KT u u := KT.rf
  intro p e s m below meth c A Q ls C hret hO hl
  obtain ⟨hx, hb, hml, hown, ht, hK, hA⟩ := id C
  have hl : lv_has ls 4 [(0, .ref (a 27)), (1, .int 5)] := hl
  refine lv_aload_n hx hb dX5_readOne_0 rfl (lv_at hl 0 rfl) ?_
  refine gf_RX5_9 (v := .ref (a 1)) C hO 27 cW_27 rfl dX5_readOne_1 ?_
  refine gf_RX5_36 (v := .int (fI u 1 4)) C hO 1 cW_1 rfl dX5_readOne_4 ?_
  refine lv_bipush (v := 15) hx hb dX5_readOne_7 (by decide) ?_
  refine cs_ne (tgt := 18) (X := ((fI u 1 4)).toInt) (Y := 15) hx hb dX5_readOne_9 (by decide) rfl rfl (fun c1 => ?_) (fun c1 => ?_)
  · refine lv_aload_n hx hb dX5_readOne_18 rfl (lv_at hl 0 rfl) ?_
    refine lv_iload_n hx hb dX5_readOne_19 rfl (lv_at hl 1 rfl) ?_
    refine cVi (w := cW cy a) (As := [.int 5]) (rest := []) C hO (T_X5_readSum_5 l D cy a _ (by exact hJ) (by exact hW)) (cwV 1 ht (gV wd_763 wd_765 wd_21 wd_114 wd_766) rfl rfl rfl hd_yX5_readSum ⟨Nat.le_of_ble_eq_true rfl, Nat.le_of_ble_eq_true rfl⟩) 27 rfl cW_27 rfl rfl hl.1 (Nat.le_of_ble_eq_true rfl) dX5_readOne_20 rfl ⟨Nat.zero_le _, Nat.zero_le _⟩ (fun r2 u3 H locs hp4 hO => ?_)
    obtain ⟨hr2, hJ, hTu3, hW⟩ := hp4
    have gr2 : 0 ≤ r2.toInt ∧ r2.toInt ≤ 1 := by rcases hr2 with h | h <;> rw [h] <;> decide
    have hT : KT u u3 := KT.tr (by exact hT) hTu3
    refine bs_ne (tgt := 28) (X := (r2).toInt) hx hb dX5_readOne_23 (by decide) rfl (fun c5 => ?_) (fun c5 => ?_)
    · refine lv_aload_n hx hb dX5_readOne_28 rfl (lv_at hl 0 rfl) ?_
      refine gf_RX5_9 (v := .ref (a 1)) C hO 27 cW_27 rfl dX5_readOne_29 ?_
      refine gf_RX5_36 (v := .int (fI u3 1 4)) C hO 1 cW_1 rfl dX5_readOne_32 ?_
      refine lv_istore_n (lv' := [(2, .int (fI u3 1 4)), (0, .ref (a 27)), (1, .int 5)]) hx hb dX5_readOne_35 rfl hl (by decide) rfl (fun ls hl => ?_)
      refine lv_iload_n hx hb dX5_readOne_36 rfl (lv_at hl 0 rfl) ?_
      refine lv_bipush (v := 60) hx hb dX5_readOne_37 (by decide) ?_
      refine cs_eq (tgt := 56) (X := ((fI u3 1 4)).toInt) (Y := 60) hx hb dX5_readOne_39 (by decide) rfl rfl (fun c6 => ?_) (fun c6 => ?_)
      · refine lv_aload_n hx hb dX5_readOne_56 rfl (lv_at hl 1 rfl) ?_
        refine gf_RX5_9 (v := .ref (a 1)) C hO 27 cW_27 rfl dX5_readOne_57 ?_
        refine cVv (w := cW cy a) (As := []) (rest := []) C hO (T_X7_advance l D cy a _ (by exact hJ) (by exact hW)) (cwV 0 ht (gV wd_695 wd_541 wd_542 wd_111 wd_543) rfl rfl rfl hd_yX7_advance ⟨Nat.le_of_ble_eq_true rfl, Nat.le_of_ble_eq_true rfl⟩) 1 rfl cW_1 rfl rfl hl.1 (Nat.le_of_ble_eq_true rfl) dX5_readOne_60 rfl ⟨Nat.zero_le _, Nat.zero_le _⟩ (fun u8 H locs hp9 hO => ?_)
        have g10 : 0 ≤ (fI u3 15 9).toInt ∧ (fI u3 15 9).toInt ≤ 8 := by have h := CI_15_9 hJ; exact h
        have g11 : 0 ≤ (fI u3 15 10).toInt ∧ (fI u3 15 10).toInt ≤ 14 := by have h := CI_15_10 hJ; exact h
        have g12 : 0 ≤ (fI u3 15 11).toInt ∧ (fI u3 15 11).toInt ≤ 8 := by have h := CI_15_11 hJ; exact h
        have g13 : 0 ≤ (fI u3 15 12).toInt ∧ (fI u3 15 12).toInt ≤ 6 := by have h := CI_15_12 hJ; exact h
        obtain ⟨hJ, hTu8, hW⟩ := hp9
        have hT : KT u u8 := KT.tr (by exact hT) hTu8.1
        have hI_15_9_u8 : fI u8 15 9 = (fI u3 15 9) := hTu8.2.1
        have hI_15_10_u8 : fI u8 15 10 = (fI u3 15 10) := hTu8.2.2.1
        have hI_15_11_u8 : fI u8 15 11 = (fI u3 15 11) := hTu8.2.2.2.1
        have hI_15_12_u8 : fI u8 15 12 = (fI u3 15 12) := hTu8.2.2.2.2
        refine lv_aload_n hx hb dX5_readOne_63 rfl (lv_at hl 1 rfl) ?_
        refine lv_iload_n hx hb dX5_readOne_64 rfl (lv_at hl 2 rfl) ?_
        refine cVi (w := cW cy a) (As := [.int 5]) (rest := []) C hO (T_X5_readSum_5 l D cy a _ (by exact hJ) (by exact hW)) (cwV 1 ht (gV wd_763 wd_765 wd_21 wd_114 wd_766) rfl rfl rfl hd_yX5_readSum ⟨Nat.le_of_ble_eq_true rfl, Nat.le_of_ble_eq_true rfl⟩) 27 rfl cW_27 rfl rfl hl.1 (Nat.le_of_ble_eq_true rfl) dX5_readOne_65 rfl ⟨Nat.zero_le _, Nat.zero_le _⟩ (fun r14 u15 H locs hp16 hO => ?_)
        obtain ⟨hr14, hJ, hTu15, hW⟩ := hp16
        have gr14 : 0 ≤ r14.toInt ∧ r14.toInt ≤ 1 := by rcases hr14 with h | h <;> rw [h] <;> decide
        have hT : KT u u15 := KT.tr (by exact hT) hTu15
        refine lv_istore_n (lv' := [(3, .int r14), (2, .int (fI u3 1 4)), (0, .ref (a 27)), (1, .int 5)]) hx hb dX5_readOne_68 rfl hl (by decide) rfl (fun ls hl => ?_)
        refine lv_aload_n hx hb dX5_readOne_69 rfl (lv_at hl 2 rfl) ?_
        refine gf_RX5_15 (v := .ref (a 15)) C hO 27 cW_27 (congrArg (fun z : Nat => some (Value.ref z)) hW) dX5_readOne_70 ?_
        refine gf_RX5_173 (v := .ref (a 24)) C hO 15 cW_15 rfl dX5_readOne_73 ?_
        refine lv_iload_n hx hb dX5_readOne_76 rfl (lv_at hl 1 rfl) ?_
        refine lv_ineg hx hb dX5_readOne_77 ?_
        refine lv_topi (fun z17 ez17 => ?_)
        refine cVv (w := cW cy a) (As := [.int z17]) (rest := []) C hO (T_X4_add l D cy a _ (by exact hJ) (by exact hW) (z17)) (cwV 1 ht (gV wd_759 wd_760 wd_761 wd_113 wd_762) rfl rfl rfl hd_yX4_add ⟨Nat.le_of_ble_eq_true rfl, Nat.le_of_ble_eq_true rfl⟩) 24 rfl cW_24 rfl rfl hl.1 (Nat.le_of_ble_eq_true rfl) dX5_readOne_78 rfl ⟨Nat.zero_le _, Nat.zero_le _⟩ (fun u19 H locs hp20 hO => ?_)
        have g21 : 0 ≤ (fI u15 15 9).toInt ∧ (fI u15 15 9).toInt ≤ 8 := by have h := CI_15_9 hJ; exact h
        have g22 : 0 ≤ (fI u15 15 10).toInt ∧ (fI u15 15 10).toInt ≤ 14 := by have h := CI_15_10 hJ; exact h
        have g23 : 0 ≤ (fI u15 15 11).toInt ∧ (fI u15 15 11).toInt ≤ 8 := by have h := CI_15_11 hJ; exact h
        have g24 : 0 ≤ (fI u15 15 12).toInt ∧ (fI u15 15 12).toInt ≤ 6 := by have h := CI_15_12 hJ; exact h
        obtain ⟨hJ, hTu19, hW⟩ := hp20
        have hT : KT u u19 := KT.tr (by exact hT) hTu19.1
        have hI_15_9_u19 : fI u19 15 9 = (fI u15 15 9) := hTu19.2.1
        have hI_15_10_u19 : fI u19 15 10 = (fI u15 15 10) := hTu19.2.2.1
        have hI_15_11_u19 : fI u19 15 11 = (fI u15 15 11) := hTu19.2.2.2.1
        have hI_15_12_u19 : fI u19 15 12 = (fI u15 15 12) := hTu19.2.2.2.2
        refine lv_iload_n hx hb dX5_readOne_81 rfl (lv_at hl 0 rfl) ?_
        refine hret _ _ _ _ _ _ dX5_readOne_82 (by rcases hr14 with h | h <;> rw [h] <;> rfl) ?_ hO
        exact ⟨hr14, hJ, hT, hW⟩
      · refine lv_iload_n hx hb dX5_readOne_42 rfl (lv_at hl 0 rfl) ?_
        refine lv_bipush (v := 62) hx hb dX5_readOne_43 (by decide) ?_
        refine cs_eq (tgt := 56) (X := ((fI u3 1 4)).toInt) (Y := 62) hx hb dX5_readOne_45 (by decide) rfl rfl (fun c25 => ?_) (fun c25 => ?_)
        · refine lv_aload_n hx hb dX5_readOne_56 rfl (lv_at hl 1 rfl) ?_
          refine gf_RX5_9 (v := .ref (a 1)) C hO 27 cW_27 rfl dX5_readOne_57 ?_
          refine cVv (w := cW cy a) (As := []) (rest := []) C hO (T_X7_advance l D cy a _ (by exact hJ) (by exact hW)) (cwV 0 ht (gV wd_695 wd_541 wd_542 wd_111 wd_543) rfl rfl rfl hd_yX7_advance ⟨Nat.le_of_ble_eq_true rfl, Nat.le_of_ble_eq_true rfl⟩) 1 rfl cW_1 rfl rfl hl.1 (Nat.le_of_ble_eq_true rfl) dX5_readOne_60 rfl ⟨Nat.zero_le _, Nat.zero_le _⟩ (fun u27 H locs hp28 hO => ?_)
          have g29 : 0 ≤ (fI u3 15 9).toInt ∧ (fI u3 15 9).toInt ≤ 8 := by have h := CI_15_9 hJ; exact h
          have g30 : 0 ≤ (fI u3 15 10).toInt ∧ (fI u3 15 10).toInt ≤ 14 := by have h := CI_15_10 hJ; exact h
          have g31 : 0 ≤ (fI u3 15 11).toInt ∧ (fI u3 15 11).toInt ≤ 8 := by have h := CI_15_11 hJ; exact h
          have g32 : 0 ≤ (fI u3 15 12).toInt ∧ (fI u3 15 12).toInt ≤ 6 := by have h := CI_15_12 hJ; exact h
          obtain ⟨hJ, hTu27, hW⟩ := hp28
          have hT : KT u u27 := KT.tr (by exact hT) hTu27.1
          have hI_15_9_u27 : fI u27 15 9 = (fI u3 15 9) := hTu27.2.1
          have hI_15_10_u27 : fI u27 15 10 = (fI u3 15 10) := hTu27.2.2.1
          have hI_15_11_u27 : fI u27 15 11 = (fI u3 15 11) := hTu27.2.2.2.1
          have hI_15_12_u27 : fI u27 15 12 = (fI u3 15 12) := hTu27.2.2.2.2
          refine lv_aload_n hx hb dX5_readOne_63 rfl (lv_at hl 1 rfl) ?_
          refine lv_iload_n hx hb dX5_readOne_64 rfl (lv_at hl 2 rfl) ?_
          refine cVi (w := cW cy a) (As := [.int 5]) (rest := []) C hO (T_X5_readSum_5 l D cy a _ (by exact hJ) (by exact hW)) (cwV 1 ht (gV wd_763 wd_765 wd_21 wd_114 wd_766) rfl rfl rfl hd_yX5_readSum ⟨Nat.le_of_ble_eq_true rfl, Nat.le_of_ble_eq_true rfl⟩) 27 rfl cW_27 rfl rfl hl.1 (Nat.le_of_ble_eq_true rfl) dX5_readOne_65 rfl ⟨Nat.zero_le _, Nat.zero_le _⟩ (fun r33 u34 H locs hp35 hO => ?_)
          obtain ⟨hr33, hJ, hTu34, hW⟩ := hp35
          have gr33 : 0 ≤ r33.toInt ∧ r33.toInt ≤ 1 := by rcases hr33 with h | h <;> rw [h] <;> decide
          have hT : KT u u34 := KT.tr (by exact hT) hTu34
          refine lv_istore_n (lv' := [(3, .int r33), (2, .int (fI u3 1 4)), (0, .ref (a 27)), (1, .int 5)]) hx hb dX5_readOne_68 rfl hl (by decide) rfl (fun ls hl => ?_)
          refine lv_aload_n hx hb dX5_readOne_69 rfl (lv_at hl 2 rfl) ?_
          refine gf_RX5_15 (v := .ref (a 15)) C hO 27 cW_27 (congrArg (fun z : Nat => some (Value.ref z)) hW) dX5_readOne_70 ?_
          refine gf_RX5_173 (v := .ref (a 24)) C hO 15 cW_15 rfl dX5_readOne_73 ?_
          refine lv_iload_n hx hb dX5_readOne_76 rfl (lv_at hl 1 rfl) ?_
          refine lv_ineg hx hb dX5_readOne_77 ?_
          refine lv_topi (fun z36 ez36 => ?_)
          refine cVv (w := cW cy a) (As := [.int z36]) (rest := []) C hO (T_X4_add l D cy a _ (by exact hJ) (by exact hW) (z36)) (cwV 1 ht (gV wd_759 wd_760 wd_761 wd_113 wd_762) rfl rfl rfl hd_yX4_add ⟨Nat.le_of_ble_eq_true rfl, Nat.le_of_ble_eq_true rfl⟩) 24 rfl cW_24 rfl rfl hl.1 (Nat.le_of_ble_eq_true rfl) dX5_readOne_78 rfl ⟨Nat.zero_le _, Nat.zero_le _⟩ (fun u38 H locs hp39 hO => ?_)
          have g40 : 0 ≤ (fI u34 15 9).toInt ∧ (fI u34 15 9).toInt ≤ 8 := by have h := CI_15_9 hJ; exact h
          have g41 : 0 ≤ (fI u34 15 10).toInt ∧ (fI u34 15 10).toInt ≤ 14 := by have h := CI_15_10 hJ; exact h
          have g42 : 0 ≤ (fI u34 15 11).toInt ∧ (fI u34 15 11).toInt ≤ 8 := by have h := CI_15_11 hJ; exact h
          have g43 : 0 ≤ (fI u34 15 12).toInt ∧ (fI u34 15 12).toInt ≤ 6 := by have h := CI_15_12 hJ; exact h
          obtain ⟨hJ, hTu38, hW⟩ := hp39
          have hT : KT u u38 := KT.tr (by exact hT) hTu38.1
          have hI_15_9_u38 : fI u38 15 9 = (fI u34 15 9) := hTu38.2.1
          have hI_15_10_u38 : fI u38 15 10 = (fI u34 15 10) := hTu38.2.2.1
          have hI_15_11_u38 : fI u38 15 11 = (fI u34 15 11) := hTu38.2.2.2.1
          have hI_15_12_u38 : fI u38 15 12 = (fI u34 15 12) := hTu38.2.2.2.2
          refine lv_iload_n hx hb dX5_readOne_81 rfl (lv_at hl 0 rfl) ?_
          refine hret _ _ _ _ _ _ dX5_readOne_82 (by rcases hr33 with h | h <;> rw [h] <;> rfl) ?_ hO
          exact ⟨hr33, hJ, hT, hW⟩
        · refine lv_iload_n hx hb dX5_readOne_48 rfl (lv_at hl 0 rfl) ?_
          refine lv_bipush (v := 61) hx hb dX5_readOne_49 (by decide) ?_
          refine cs_eq (tgt := 56) (X := ((fI u3 1 4)).toInt) (Y := 61) hx hb dX5_readOne_51 (by decide) rfl rfl (fun c44 => ?_) (fun c44 => ?_)
          · refine lv_aload_n hx hb dX5_readOne_56 rfl (lv_at hl 1 rfl) ?_
            refine gf_RX5_9 (v := .ref (a 1)) C hO 27 cW_27 rfl dX5_readOne_57 ?_
            refine cVv (w := cW cy a) (As := []) (rest := []) C hO (T_X7_advance l D cy a _ (by exact hJ) (by exact hW)) (cwV 0 ht (gV wd_695 wd_541 wd_542 wd_111 wd_543) rfl rfl rfl hd_yX7_advance ⟨Nat.le_of_ble_eq_true rfl, Nat.le_of_ble_eq_true rfl⟩) 1 rfl cW_1 rfl rfl hl.1 (Nat.le_of_ble_eq_true rfl) dX5_readOne_60 rfl ⟨Nat.zero_le _, Nat.zero_le _⟩ (fun u46 H locs hp47 hO => ?_)
            have g48 : 0 ≤ (fI u3 15 9).toInt ∧ (fI u3 15 9).toInt ≤ 8 := by have h := CI_15_9 hJ; exact h
            have g49 : 0 ≤ (fI u3 15 10).toInt ∧ (fI u3 15 10).toInt ≤ 14 := by have h := CI_15_10 hJ; exact h
            have g50 : 0 ≤ (fI u3 15 11).toInt ∧ (fI u3 15 11).toInt ≤ 8 := by have h := CI_15_11 hJ; exact h
            have g51 : 0 ≤ (fI u3 15 12).toInt ∧ (fI u3 15 12).toInt ≤ 6 := by have h := CI_15_12 hJ; exact h
            obtain ⟨hJ, hTu46, hW⟩ := hp47
            have hT : KT u u46 := KT.tr (by exact hT) hTu46.1
            have hI_15_9_u46 : fI u46 15 9 = (fI u3 15 9) := hTu46.2.1
            have hI_15_10_u46 : fI u46 15 10 = (fI u3 15 10) := hTu46.2.2.1
            have hI_15_11_u46 : fI u46 15 11 = (fI u3 15 11) := hTu46.2.2.2.1
            have hI_15_12_u46 : fI u46 15 12 = (fI u3 15 12) := hTu46.2.2.2.2
            refine lv_aload_n hx hb dX5_readOne_63 rfl (lv_at hl 1 rfl) ?_
            refine lv_iload_n hx hb dX5_readOne_64 rfl (lv_at hl 2 rfl) ?_
            refine cVi (w := cW cy a) (As := [.int 5]) (rest := []) C hO (T_X5_readSum_5 l D cy a _ (by exact hJ) (by exact hW)) (cwV 1 ht (gV wd_763 wd_765 wd_21 wd_114 wd_766) rfl rfl rfl hd_yX5_readSum ⟨Nat.le_of_ble_eq_true rfl, Nat.le_of_ble_eq_true rfl⟩) 27 rfl cW_27 rfl rfl hl.1 (Nat.le_of_ble_eq_true rfl) dX5_readOne_65 rfl ⟨Nat.zero_le _, Nat.zero_le _⟩ (fun r52 u53 H locs hp54 hO => ?_)
            obtain ⟨hr52, hJ, hTu53, hW⟩ := hp54
            have gr52 : 0 ≤ r52.toInt ∧ r52.toInt ≤ 1 := by rcases hr52 with h | h <;> rw [h] <;> decide
            have hT : KT u u53 := KT.tr (by exact hT) hTu53
            refine lv_istore_n (lv' := [(3, .int r52), (2, .int (fI u3 1 4)), (0, .ref (a 27)), (1, .int 5)]) hx hb dX5_readOne_68 rfl hl (by decide) rfl (fun ls hl => ?_)
            refine lv_aload_n hx hb dX5_readOne_69 rfl (lv_at hl 2 rfl) ?_
            refine gf_RX5_15 (v := .ref (a 15)) C hO 27 cW_27 (congrArg (fun z : Nat => some (Value.ref z)) hW) dX5_readOne_70 ?_
            refine gf_RX5_173 (v := .ref (a 24)) C hO 15 cW_15 rfl dX5_readOne_73 ?_
            refine lv_iload_n hx hb dX5_readOne_76 rfl (lv_at hl 1 rfl) ?_
            refine lv_ineg hx hb dX5_readOne_77 ?_
            refine lv_topi (fun z55 ez55 => ?_)
            refine cVv (w := cW cy a) (As := [.int z55]) (rest := []) C hO (T_X4_add l D cy a _ (by exact hJ) (by exact hW) (z55)) (cwV 1 ht (gV wd_759 wd_760 wd_761 wd_113 wd_762) rfl rfl rfl hd_yX4_add ⟨Nat.le_of_ble_eq_true rfl, Nat.le_of_ble_eq_true rfl⟩) 24 rfl cW_24 rfl rfl hl.1 (Nat.le_of_ble_eq_true rfl) dX5_readOne_78 rfl ⟨Nat.zero_le _, Nat.zero_le _⟩ (fun u57 H locs hp58 hO => ?_)
            have g59 : 0 ≤ (fI u53 15 9).toInt ∧ (fI u53 15 9).toInt ≤ 8 := by have h := CI_15_9 hJ; exact h
            have g60 : 0 ≤ (fI u53 15 10).toInt ∧ (fI u53 15 10).toInt ≤ 14 := by have h := CI_15_10 hJ; exact h
            have g61 : 0 ≤ (fI u53 15 11).toInt ∧ (fI u53 15 11).toInt ≤ 8 := by have h := CI_15_11 hJ; exact h
            have g62 : 0 ≤ (fI u53 15 12).toInt ∧ (fI u53 15 12).toInt ≤ 6 := by have h := CI_15_12 hJ; exact h
            obtain ⟨hJ, hTu57, hW⟩ := hp58
            have hT : KT u u57 := KT.tr (by exact hT) hTu57.1
            have hI_15_9_u57 : fI u57 15 9 = (fI u53 15 9) := hTu57.2.1
            have hI_15_10_u57 : fI u57 15 10 = (fI u53 15 10) := hTu57.2.2.1
            have hI_15_11_u57 : fI u57 15 11 = (fI u53 15 11) := hTu57.2.2.2.1
            have hI_15_12_u57 : fI u57 15 12 = (fI u53 15 12) := hTu57.2.2.2.2
            refine lv_iload_n hx hb dX5_readOne_81 rfl (lv_at hl 0 rfl) ?_
            refine hret _ _ _ _ _ _ dX5_readOne_82 (by rcases hr52 with h | h <;> rw [h] <;> rfl) ?_ hO
            exact ⟨hr52, hJ, hT, hW⟩
          · refine lv_iconst (v := 1) hx hb dX5_readOne_54 (by decide) ?_
            refine hret _ _ _ _ _ _ dX5_readOne_55 rfl ?_ hO
            exact ⟨Or.inr rfl, hJ, hT, hW⟩
    · refine lv_iconst (v := 0) hx hb dX5_readOne_26 (by decide) ?_
      refine hret _ _ _ _ _ _ dX5_readOne_27 rfl ?_ hO
      exact ⟨Or.inl rfl, hJ, hT, hW⟩
  · refine lv_aload_n hx hb dX5_readOne_12 rfl (lv_at hl 0 rfl) ?_
    refine lv_iload_n hx hb dX5_readOne_13 rfl (lv_at hl 1 rfl) ?_
    refine cVi (w := cW cy a) (As := [.int 5]) (rest := []) C hO (T_X5_readNot_5 l D cy a _ (by exact hJ) (by exact hW)) (cwV 1 ht (gV wd_755 wd_757 wd_20 wd_114 wd_758) rfl rfl rfl hd_yX5_readNot ⟨Nat.le_of_ble_eq_true rfl, Nat.le_of_ble_eq_true rfl⟩) 27 rfl cW_27 rfl rfl hl.1 (Nat.le_of_ble_eq_true rfl) dX5_readOne_14 rfl ⟨Nat.zero_le _, Nat.zero_le _⟩ (fun r63 u64 H locs hp65 hO => ?_)
    obtain ⟨hr63, hJ, hTu64, hW⟩ := hp65
    have gr63 : 0 ≤ r63.toInt ∧ r63.toInt ≤ 1 := by rcases hr63 with h | h <;> rw [h] <;> decide
    have hT : KT u u64 := KT.tr (by exact hT) hTu64
    refine hret _ _ _ _ _ _ dX5_readOne_17 (by rcases hr63 with h | h <;> rw [h] <;> rfl) ?_ hO
    exact ⟨hr63, hJ, hT, hW⟩
set_option maxHeartbeats 4000000 in
set_option maxRecDepth 100000 in
theorem T_X5_readBoth_5 (l : Launch) (D : va_G) (cy : Nat → ClassId) (a : Nat → Nat) (u : St) (hJ : CI a u) (hW : fR u 2 = a 15)   : Mi l D cy (cW cy a) yX5_readBoth (.code yX5_readBoth cX5_readBoth 4 (some .boolean)) (rmo 24 544) [.ref (a 27), .int 5] u (fun (r : Int32) (u' : St) => (r = 0 ∨ r = 1) ∧ (CI a u') ∧ (KT u u') ∧ (fR u' 2 = a 15)) := by
  refine Mi.of (own := RX5) rfl (by decide) (Nat.le_of_ble_eq_true rfl) ?_
  have hT : KT u u := KT.rf
  intro p e s m below meth c A Q ls C hret hO hl
  obtain ⟨hx, hb, hml, hown, ht, hK, hA⟩ := id C
  have hl : lv_has ls 4 [(0, .ref (a 27)), (1, .int 5)] := hl
  refine lv_aload_n hx hb dX5_readBoth_0 rfl (lv_at hl 0 rfl) ?_
  refine lv_iload_n hx hb dX5_readBoth_1 rfl (lv_at hl 1 rfl) ?_
  refine cVi (w := cW cy a) (As := [.int 5]) (rest := []) C hO (T_X5_readOne_5 l D cy a _ (by exact hJ) (by exact hW)) (cwV 1 ht (gV wd_751 wd_753 wd_19 wd_114 wd_754) rfl rfl rfl hd_yX5_readOne ⟨Nat.le_of_ble_eq_true rfl, Nat.le_of_ble_eq_true rfl⟩) 27 rfl cW_27 rfl rfl hl.1 (Nat.le_of_ble_eq_true rfl) dX5_readBoth_2 rfl ⟨Nat.zero_le _, Nat.zero_le _⟩ (fun r1 u2 H locs hp3 hO => ?_)
  obtain ⟨hr1, hJ, hTu2, hW⟩ := hp3
  have gr1 : 0 ≤ r1.toInt ∧ r1.toInt ≤ 1 := by rcases hr1 with h | h <;> rw [h] <;> decide
  have hT : KT u u2 := KT.tr (by exact hT) hTu2
  refine lv_istore_n (lv' := [(2, .int r1), (0, .ref (a 27)), (1, .int 5)]) hx hb dX5_readBoth_5 rfl hl (by decide) rfl (fun ls hl => ?_)
  refine lv_iconst (v := 0) hx hb dX5_readBoth_6 (by decide) ?_
  refine lv_istore_n (lv' := [(3, .int 0), (2, .int r1), (0, .ref (a 27)), (1, .int 5)]) hx hb dX5_readBoth_7 rfl hl (by decide) rfl (fun ls hl => ?_)
  have LP_8_k5 : ∀ (n : Nat) (u4 : St) (H : Heap) (locs : List Loc) (ls : Array Slot) (i_k5 : Int32) (w2_k5 : Int32), Wo D A (cW cy a u4) s.heap H locs → lv_has ls 4 [(3, .int i_k5), (2, .int w2_k5), (0, .ref (a 27)), (1, .int 5)] → CI a u4 → KT u u4 → fR u4 2 = a 15 → 0 ≤ i_k5.toInt ∧ i_k5.toInt ≤ 1600 → 0 ≤ w2_k5.toInt ∧ w2_k5.toInt ≤ 1 → 1600 - i_k5.toInt < (n : Int) → W p l e (rmo 24 544) s m [.ref (a 27), .int 5].toArray below meth c H locs 0 0 Q (F0 m 8 ls []) := by
    intro n
    induction n with
    | zero =>
      intro u4 H locs ls i_k5 w2_k5 hO hl hJ hT hW iv0_k5 iv1_k5 hm_k5
      exact absurd hm_k5 (by omega)
    | succ n ih_k5 =>
      intro u4 H locs ls i_k5 w2_k5 hO hl hJ hT hW iv0_k5 iv1_k5 hm_k5
      refine lv_iload_n hx hb dX5_readBoth_8 rfl (lv_at hl 0 rfl) ?_
      refine lv_sipush (v := 1600) hx hb dX5_readBoth_9 (by decide) ?_
      refine cs_ge (tgt := 62) (X := (i_k5).toInt) (Y := 1600) hx hb dX5_readBoth_12 (by decide) rfl rfl (fun c6 => ?_) (fun c6 => ?_)
      · refine lv_iload_n hx hb dX5_readBoth_62 rfl (lv_at hl 1 rfl) ?_
        have hw2_k5 : w2_k5 = 0 ∨ w2_k5 = 1 := i_b01 rfl (by omega) (by omega)
        refine hret _ _ _ _ _ _ dX5_readBoth_63 (by rcases hw2_k5 with h | h <;> rw [h] <;> rfl) ?_ hO
        exact ⟨hw2_k5, hJ, hT, hW⟩
      · refine lv_iload_n hx hb dX5_readBoth_15 rfl (lv_at hl 1 rfl) ?_
        refine bs_eq (tgt := 62) (X := (w2_k5).toInt) hx hb dX5_readBoth_16 (by decide) rfl (fun c7 => ?_) (fun c7 => ?_)
        · refine lv_iload_n hx hb dX5_readBoth_62 rfl (lv_at hl 1 rfl) ?_
          have hw2_k5 : w2_k5 = 0 ∨ w2_k5 = 1 := i_b01 rfl (by omega) (by omega)
          refine hret _ _ _ _ _ _ dX5_readBoth_63 (by rcases hw2_k5 with h | h <;> rw [h] <;> rfl) ?_ hO
          exact ⟨hw2_k5, hJ, hT, hW⟩
        · refine lv_aload_n hx hb dX5_readBoth_19 rfl (lv_at hl 2 rfl) ?_
          refine gf_RX5_9 (v := .ref (a 1)) C hO 27 cW_27 rfl dX5_readBoth_20 ?_
          refine gf_RX5_36 (v := .int (fI u4 1 4)) C hO 1 cW_1 rfl dX5_readBoth_23 ?_
          refine lv_bipush (v := 14) hx hb dX5_readBoth_26 (by decide) ?_
          refine cs_ne (tgt := 62) (X := ((fI u4 1 4)).toInt) (Y := 14) hx hb dX5_readBoth_28 (by decide) rfl rfl (fun c8 => ?_) (fun c8 => ?_)
          · refine lv_iload_n hx hb dX5_readBoth_62 rfl (lv_at hl 1 rfl) ?_
            have hw2_k5 : w2_k5 = 0 ∨ w2_k5 = 1 := i_b01 rfl (by omega) (by omega)
            refine hret _ _ _ _ _ _ dX5_readBoth_63 (by rcases hw2_k5 with h | h <;> rw [h] <;> rfl) ?_ hO
            exact ⟨hw2_k5, hJ, hT, hW⟩
          · refine lv_aload_n hx hb dX5_readBoth_31 rfl (lv_at hl 2 rfl) ?_
            refine gf_RX5_9 (v := .ref (a 1)) C hO 27 cW_27 rfl dX5_readBoth_32 ?_
            refine cVv (w := cW cy a) (As := []) (rest := []) C hO (T_X7_advance l D cy a _ (by exact hJ) (by exact hW)) (cwV 0 ht (gV wd_695 wd_541 wd_542 wd_111 wd_543) rfl rfl rfl hd_yX7_advance ⟨Nat.le_of_ble_eq_true rfl, Nat.le_of_ble_eq_true rfl⟩) 1 rfl cW_1 rfl rfl hl.1 (Nat.le_of_ble_eq_true rfl) dX5_readBoth_35 rfl ⟨Nat.zero_le _, Nat.zero_le _⟩ (fun u10 H locs hp11 hO => ?_)
            have g12 : 0 ≤ (fI u4 15 9).toInt ∧ (fI u4 15 9).toInt ≤ 8 := by have h := CI_15_9 hJ; exact h
            have g13 : 0 ≤ (fI u4 15 10).toInt ∧ (fI u4 15 10).toInt ≤ 14 := by have h := CI_15_10 hJ; exact h
            have g14 : 0 ≤ (fI u4 15 11).toInt ∧ (fI u4 15 11).toInt ≤ 8 := by have h := CI_15_11 hJ; exact h
            have g15 : 0 ≤ (fI u4 15 12).toInt ∧ (fI u4 15 12).toInt ≤ 6 := by have h := CI_15_12 hJ; exact h
            obtain ⟨hJ, hTu10, hW⟩ := hp11
            have hT : KT u u10 := KT.tr (by exact hT) hTu10.1
            have hI_15_9_u10 : fI u10 15 9 = (fI u4 15 9) := hTu10.2.1
            have hI_15_10_u10 : fI u10 15 10 = (fI u4 15 10) := hTu10.2.2.1
            have hI_15_11_u10 : fI u10 15 11 = (fI u4 15 11) := hTu10.2.2.2.1
            have hI_15_12_u10 : fI u10 15 12 = (fI u4 15 12) := hTu10.2.2.2.2
            refine lv_aload_n hx hb dX5_readBoth_38 rfl (lv_at hl 2 rfl) ?_
            refine lv_iload_n hx hb dX5_readBoth_39 rfl (lv_at hl 3 rfl) ?_
            refine cVi (w := cW cy a) (As := [.int 5]) (rest := []) C hO (T_X5_readOne_5 l D cy a _ (by exact hJ) (by exact hW)) (cwV 1 ht (gV wd_751 wd_753 wd_19 wd_114 wd_754) rfl rfl rfl hd_yX5_readOne ⟨Nat.le_of_ble_eq_true rfl, Nat.le_of_ble_eq_true rfl⟩) 27 rfl cW_27 rfl rfl hl.1 (Nat.le_of_ble_eq_true rfl) dX5_readBoth_40 rfl ⟨Nat.zero_le _, Nat.zero_le _⟩ (fun r16 u17 H locs hp18 hO => ?_)
            obtain ⟨hr16, hJ, hTu17, hW⟩ := hp18
            have gr16 : 0 ≤ r16.toInt ∧ r16.toInt ≤ 1 := by rcases hr16 with h | h <;> rw [h] <;> decide
            have hT : KT u u17 := KT.tr (by exact hT) hTu17
            refine lv_istore_n (lv' := [(2, .int r16), (3, .int i_k5), (0, .ref (a 27)), (1, .int 5)]) hx hb dX5_readBoth_43 rfl hl (by decide) rfl (fun ls hl => ?_)
            refine lv_aload_n hx hb dX5_readBoth_44 rfl (lv_at hl 2 rfl) ?_
            refine gf_RX5_15 (v := .ref (a 15)) C hO 27 cW_27 (congrArg (fun z : Nat => some (Value.ref z)) hW) dX5_readBoth_45 ?_
            refine gf_RX5_173 (v := .ref (a 24)) C hO 15 cW_15 rfl dX5_readBoth_48 ?_
            refine lv_bipush (v := (-14)) hx hb dX5_readBoth_51 (by decide) ?_
            refine cVv (w := cW cy a) (As := [.int (-14)]) (rest := []) C hO (T_X4_add l D cy a _ (by exact hJ) (by exact hW) ((-14))) (cwV 1 ht (gV wd_759 wd_760 wd_761 wd_113 wd_762) rfl rfl rfl hd_yX4_add ⟨Nat.le_of_ble_eq_true rfl, Nat.le_of_ble_eq_true rfl⟩) 24 rfl cW_24 rfl rfl hl.1 (Nat.le_of_ble_eq_true rfl) dX5_readBoth_53 rfl ⟨Nat.zero_le _, Nat.zero_le _⟩ (fun u20 H locs hp21 hO => ?_)
            have g22 : 0 ≤ (fI u17 15 9).toInt ∧ (fI u17 15 9).toInt ≤ 8 := by have h := CI_15_9 hJ; exact h
            have g23 : 0 ≤ (fI u17 15 10).toInt ∧ (fI u17 15 10).toInt ≤ 14 := by have h := CI_15_10 hJ; exact h
            have g24 : 0 ≤ (fI u17 15 11).toInt ∧ (fI u17 15 11).toInt ≤ 8 := by have h := CI_15_11 hJ; exact h
            have g25 : 0 ≤ (fI u17 15 12).toInt ∧ (fI u17 15 12).toInt ≤ 6 := by have h := CI_15_12 hJ; exact h
            obtain ⟨hJ, hTu20, hW⟩ := hp21
            have hT : KT u u20 := KT.tr (by exact hT) hTu20.1
            have hI_15_9_u20 : fI u20 15 9 = (fI u17 15 9) := hTu20.2.1
            have hI_15_10_u20 : fI u20 15 10 = (fI u17 15 10) := hTu20.2.2.1
            have hI_15_11_u20 : fI u20 15 11 = (fI u17 15 11) := hTu20.2.2.2.1
            have hI_15_12_u20 : fI u20 15 12 = (fI u17 15 12) := hTu20.2.2.2.2
            have e26 : ((i_k5 + 1)).toInt = (i_k5).toInt + 1 := i_add rfl rfl (by omega)
            refine lv_iinc (v := (i_k5 + 1)) (lv' := [(3, .int (i_k5 + 1)), (2, .int r16), (0, .ref (a 27)), (1, .int 5)]) hx hb dX5_readBoth_56 hl (k := 1) rfl rfl (by decide) rfl (fun ls hl => ?_)
            refine lv_goto (tgt := 8) hx hb dX5_readBoth_59 (by decide) ?_
            exact ih_k5 _ _ _ _ ((i_k5 + 1)) (r16) hO (lv_sub hl [0, 1, 2, 3] rfl) (by exact hJ) (by exact hT) (by exact hW) (by first | decide | omega) (by first | decide | omega) (by first | decide | omega)
  exact LP_8_k5 4000 _ _ _ _ (0) (r1) hO (lv_sub hl [0, 1, 2, 3] rfl) (by exact hJ) (by exact hT) (by exact hW) (by first | decide | omega) (by first | decide | omega) (by first | decide | omega)
set_option maxHeartbeats 4000000 in
set_option maxRecDepth 100000 in
theorem T_X5_readFormula_5 (l : Launch) (D : va_G) (cy : Nat → ClassId) (a : Nat → Nat) (u : St) (hJ : CI a u) (hW : fR u 2 = a 15)   : Mi l D cy (cW cy a) yX5_readFormula (.code yX5_readFormula cX5_readFormula 4 (some .boolean)) (rmo 25 567) [.ref (a 27), .int 5] u (fun (r : Int32) (u' : St) => (r = 0 ∨ r = 1) ∧ (CI a u') ∧ (KT u u') ∧ (fR u' 2 = a 15)) := by
  refine Mi.of (own := RX5) rfl (by decide) (Nat.le_of_ble_eq_true rfl) ?_
  have hT : KT u u := KT.rf
  intro p e s m below meth c A Q ls C hret hO hl
  obtain ⟨hx, hb, hml, hown, ht, hK, hA⟩ := id C
  have hl : lv_has ls 4 [(0, .ref (a 27)), (1, .int 5)] := hl
  refine lv_aload_n hx hb dX5_readFormula_0 rfl (lv_at hl 0 rfl) ?_
  refine lv_iload_n hx hb dX5_readFormula_1 rfl (lv_at hl 1 rfl) ?_
  refine cVi (w := cW cy a) (As := [.int 5]) (rest := []) C hO (T_X5_readBoth_5 l D cy a _ (by exact hJ) (by exact hW)) (cwV 1 ht (gV wd_747 wd_749 wd_18 wd_114 wd_750) rfl rfl rfl hd_yX5_readBoth ⟨Nat.le_of_ble_eq_true rfl, Nat.le_of_ble_eq_true rfl⟩) 27 rfl cW_27 rfl rfl hl.1 (Nat.le_of_ble_eq_true rfl) dX5_readFormula_2 rfl ⟨Nat.zero_le _, Nat.zero_le _⟩ (fun r1 u2 H locs hp3 hO => ?_)
  obtain ⟨hr1, hJ, hTu2, hW⟩ := hp3
  have gr1 : 0 ≤ r1.toInt ∧ r1.toInt ≤ 1 := by rcases hr1 with h | h <;> rw [h] <;> decide
  have hT : KT u u2 := KT.tr (by exact hT) hTu2
  refine lv_istore_n (lv' := [(2, .int r1), (0, .ref (a 27)), (1, .int 5)]) hx hb dX5_readFormula_5 rfl hl (by decide) rfl (fun ls hl => ?_)
  refine lv_iconst (v := 0) hx hb dX5_readFormula_6 (by decide) ?_
  refine lv_istore_n (lv' := [(3, .int 0), (2, .int r1), (0, .ref (a 27)), (1, .int 5)]) hx hb dX5_readFormula_7 rfl hl (by decide) rfl (fun ls hl => ?_)
  have LP_8_k5 : ∀ (n : Nat) (u4 : St) (H : Heap) (locs : List Loc) (ls : Array Slot) (i_k5 : Int32) (w2_k5 : Int32), Wo D A (cW cy a u4) s.heap H locs → lv_has ls 4 [(3, .int i_k5), (2, .int w2_k5), (0, .ref (a 27)), (1, .int 5)] → CI a u4 → KT u u4 → fR u4 2 = a 15 → 0 ≤ i_k5.toInt ∧ i_k5.toInt ≤ 1600 → 0 ≤ w2_k5.toInt ∧ w2_k5.toInt ≤ 1 → 1600 - i_k5.toInt < (n : Int) → W p l e (rmo 25 567) s m [.ref (a 27), .int 5].toArray below meth c H locs 0 0 Q (F0 m 8 ls []) := by
    intro n
    induction n with
    | zero =>
      intro u4 H locs ls i_k5 w2_k5 hO hl hJ hT hW iv0_k5 iv1_k5 hm_k5
      exact absurd hm_k5 (by omega)
    | succ n ih_k5 =>
      intro u4 H locs ls i_k5 w2_k5 hO hl hJ hT hW iv0_k5 iv1_k5 hm_k5
      refine lv_iload_n hx hb dX5_readFormula_8 rfl (lv_at hl 0 rfl) ?_
      refine lv_sipush (v := 1600) hx hb dX5_readFormula_9 (by decide) ?_
      refine cs_ge (tgt := 62) (X := (i_k5).toInt) (Y := 1600) hx hb dX5_readFormula_12 (by decide) rfl rfl (fun c6 => ?_) (fun c6 => ?_)
      · refine lv_iload_n hx hb dX5_readFormula_62 rfl (lv_at hl 1 rfl) ?_
        have hw2_k5 : w2_k5 = 0 ∨ w2_k5 = 1 := i_b01 rfl (by omega) (by omega)
        refine hret _ _ _ _ _ _ dX5_readFormula_63 (by rcases hw2_k5 with h | h <;> rw [h] <;> rfl) ?_ hO
        exact ⟨hw2_k5, hJ, hT, hW⟩
      · refine lv_iload_n hx hb dX5_readFormula_15 rfl (lv_at hl 1 rfl) ?_
        refine bs_eq (tgt := 62) (X := (w2_k5).toInt) hx hb dX5_readFormula_16 (by decide) rfl (fun c7 => ?_) (fun c7 => ?_)
        · refine lv_iload_n hx hb dX5_readFormula_62 rfl (lv_at hl 1 rfl) ?_
          have hw2_k5 : w2_k5 = 0 ∨ w2_k5 = 1 := i_b01 rfl (by omega) (by omega)
          refine hret _ _ _ _ _ _ dX5_readFormula_63 (by rcases hw2_k5 with h | h <;> rw [h] <;> rfl) ?_ hO
          exact ⟨hw2_k5, hJ, hT, hW⟩
        · refine lv_aload_n hx hb dX5_readFormula_19 rfl (lv_at hl 2 rfl) ?_
          refine gf_RX5_9 (v := .ref (a 1)) C hO 27 cW_27 rfl dX5_readFormula_20 ?_
          refine gf_RX5_36 (v := .int (fI u4 1 4)) C hO 1 cW_1 rfl dX5_readFormula_23 ?_
          refine lv_bipush (v := 13) hx hb dX5_readFormula_26 (by decide) ?_
          refine cs_ne (tgt := 62) (X := ((fI u4 1 4)).toInt) (Y := 13) hx hb dX5_readFormula_28 (by decide) rfl rfl (fun c8 => ?_) (fun c8 => ?_)
          · refine lv_iload_n hx hb dX5_readFormula_62 rfl (lv_at hl 1 rfl) ?_
            have hw2_k5 : w2_k5 = 0 ∨ w2_k5 = 1 := i_b01 rfl (by omega) (by omega)
            refine hret _ _ _ _ _ _ dX5_readFormula_63 (by rcases hw2_k5 with h | h <;> rw [h] <;> rfl) ?_ hO
            exact ⟨hw2_k5, hJ, hT, hW⟩
          · refine lv_aload_n hx hb dX5_readFormula_31 rfl (lv_at hl 2 rfl) ?_
            refine gf_RX5_9 (v := .ref (a 1)) C hO 27 cW_27 rfl dX5_readFormula_32 ?_
            refine cVv (w := cW cy a) (As := []) (rest := []) C hO (T_X7_advance l D cy a _ (by exact hJ) (by exact hW)) (cwV 0 ht (gV wd_695 wd_541 wd_542 wd_111 wd_543) rfl rfl rfl hd_yX7_advance ⟨Nat.le_of_ble_eq_true rfl, Nat.le_of_ble_eq_true rfl⟩) 1 rfl cW_1 rfl rfl hl.1 (Nat.le_of_ble_eq_true rfl) dX5_readFormula_35 rfl ⟨Nat.zero_le _, Nat.zero_le _⟩ (fun u10 H locs hp11 hO => ?_)
            have g12 : 0 ≤ (fI u4 15 9).toInt ∧ (fI u4 15 9).toInt ≤ 8 := by have h := CI_15_9 hJ; exact h
            have g13 : 0 ≤ (fI u4 15 10).toInt ∧ (fI u4 15 10).toInt ≤ 14 := by have h := CI_15_10 hJ; exact h
            have g14 : 0 ≤ (fI u4 15 11).toInt ∧ (fI u4 15 11).toInt ≤ 8 := by have h := CI_15_11 hJ; exact h
            have g15 : 0 ≤ (fI u4 15 12).toInt ∧ (fI u4 15 12).toInt ≤ 6 := by have h := CI_15_12 hJ; exact h
            obtain ⟨hJ, hTu10, hW⟩ := hp11
            have hT : KT u u10 := KT.tr (by exact hT) hTu10.1
            have hI_15_9_u10 : fI u10 15 9 = (fI u4 15 9) := hTu10.2.1
            have hI_15_10_u10 : fI u10 15 10 = (fI u4 15 10) := hTu10.2.2.1
            have hI_15_11_u10 : fI u10 15 11 = (fI u4 15 11) := hTu10.2.2.2.1
            have hI_15_12_u10 : fI u10 15 12 = (fI u4 15 12) := hTu10.2.2.2.2
            refine lv_aload_n hx hb dX5_readFormula_38 rfl (lv_at hl 2 rfl) ?_
            refine lv_iload_n hx hb dX5_readFormula_39 rfl (lv_at hl 3 rfl) ?_
            refine cVi (w := cW cy a) (As := [.int 5]) (rest := []) C hO (T_X5_readBoth_5 l D cy a _ (by exact hJ) (by exact hW)) (cwV 1 ht (gV wd_747 wd_749 wd_18 wd_114 wd_750) rfl rfl rfl hd_yX5_readBoth ⟨Nat.le_of_ble_eq_true rfl, Nat.le_of_ble_eq_true rfl⟩) 27 rfl cW_27 rfl rfl hl.1 (Nat.le_of_ble_eq_true rfl) dX5_readFormula_40 rfl ⟨Nat.zero_le _, Nat.zero_le _⟩ (fun r16 u17 H locs hp18 hO => ?_)
            obtain ⟨hr16, hJ, hTu17, hW⟩ := hp18
            have gr16 : 0 ≤ r16.toInt ∧ r16.toInt ≤ 1 := by rcases hr16 with h | h <;> rw [h] <;> decide
            have hT : KT u u17 := KT.tr (by exact hT) hTu17
            refine lv_istore_n (lv' := [(2, .int r16), (3, .int i_k5), (0, .ref (a 27)), (1, .int 5)]) hx hb dX5_readFormula_43 rfl hl (by decide) rfl (fun ls hl => ?_)
            refine lv_aload_n hx hb dX5_readFormula_44 rfl (lv_at hl 2 rfl) ?_
            refine gf_RX5_15 (v := .ref (a 15)) C hO 27 cW_27 (congrArg (fun z : Nat => some (Value.ref z)) hW) dX5_readFormula_45 ?_
            refine gf_RX5_173 (v := .ref (a 24)) C hO 15 cW_15 rfl dX5_readFormula_48 ?_
            refine lv_bipush (v := (-13)) hx hb dX5_readFormula_51 (by decide) ?_
            refine cVv (w := cW cy a) (As := [.int (-13)]) (rest := []) C hO (T_X4_add l D cy a _ (by exact hJ) (by exact hW) ((-13))) (cwV 1 ht (gV wd_759 wd_760 wd_761 wd_113 wd_762) rfl rfl rfl hd_yX4_add ⟨Nat.le_of_ble_eq_true rfl, Nat.le_of_ble_eq_true rfl⟩) 24 rfl cW_24 rfl rfl hl.1 (Nat.le_of_ble_eq_true rfl) dX5_readFormula_53 rfl ⟨Nat.zero_le _, Nat.zero_le _⟩ (fun u20 H locs hp21 hO => ?_)
            have g22 : 0 ≤ (fI u17 15 9).toInt ∧ (fI u17 15 9).toInt ≤ 8 := by have h := CI_15_9 hJ; exact h
            have g23 : 0 ≤ (fI u17 15 10).toInt ∧ (fI u17 15 10).toInt ≤ 14 := by have h := CI_15_10 hJ; exact h
            have g24 : 0 ≤ (fI u17 15 11).toInt ∧ (fI u17 15 11).toInt ≤ 8 := by have h := CI_15_11 hJ; exact h
            have g25 : 0 ≤ (fI u17 15 12).toInt ∧ (fI u17 15 12).toInt ≤ 6 := by have h := CI_15_12 hJ; exact h
            obtain ⟨hJ, hTu20, hW⟩ := hp21
            have hT : KT u u20 := KT.tr (by exact hT) hTu20.1
            have hI_15_9_u20 : fI u20 15 9 = (fI u17 15 9) := hTu20.2.1
            have hI_15_10_u20 : fI u20 15 10 = (fI u17 15 10) := hTu20.2.2.1
            have hI_15_11_u20 : fI u20 15 11 = (fI u17 15 11) := hTu20.2.2.2.1
            have hI_15_12_u20 : fI u20 15 12 = (fI u17 15 12) := hTu20.2.2.2.2
            have e26 : ((i_k5 + 1)).toInt = (i_k5).toInt + 1 := i_add rfl rfl (by omega)
            refine lv_iinc (v := (i_k5 + 1)) (lv' := [(3, .int (i_k5 + 1)), (2, .int r16), (0, .ref (a 27)), (1, .int 5)]) hx hb dX5_readFormula_56 hl (k := 1) rfl rfl (by decide) rfl (fun ls hl => ?_)
            refine lv_goto (tgt := 8) hx hb dX5_readFormula_59 (by decide) ?_
            exact ih_k5 _ _ _ _ ((i_k5 + 1)) (r16) hO (lv_sub hl [0, 1, 2, 3] rfl) (by exact hJ) (by exact hT) (by exact hW) (by first | decide | omega) (by first | decide | omega) (by first | decide | omega)
  exact LP_8_k5 4000 _ _ _ _ (0) (r1) hO (lv_sub hl [0, 1, 2, 3] rfl) (by exact hJ) (by exact hT) (by exact hW) (by first | decide | omega) (by first | decide | omega) (by first | decide | omega)
set_option maxHeartbeats 4000000 in
set_option maxRecDepth 100000 in
theorem T_X5_readInner_4 (l : Launch) (D : va_G) (cy : Nat → ClassId) (a : Nat → Nat) (u : St) (hJ : CI a u) (hW : fR u 2 = a 15)   : Mi l D cy (cW cy a) yX5_readInner (.code yX5_readInner cX5_readInner 2 (some .boolean)) (rmo 26 590) [.ref (a 27), .int 4] u (fun (r : Int32) (u' : St) => (r = 0 ∨ r = 1) ∧ (CI a u') ∧ (KT u u') ∧ (fR u' 2 = a 15)) := by
  refine Mi.of (own := RX5) rfl (by decide) (Nat.le_of_ble_eq_true rfl) ?_
  have hT : KT u u := KT.rf
  intro p e s m below meth c A Q ls C hret hO hl
  obtain ⟨hx, hb, hml, hown, ht, hK, hA⟩ := id C
  have hl : lv_has ls 2 [(0, .ref (a 27)), (1, .int 4)] := hl
  refine lv_iload_n hx hb dX5_readInner_0 rfl (lv_at hl 1 rfl) ?_
  refine lv_bipush (v := 6) hx hb dX5_readInner_1 (by decide) ?_
  refine ct_le (tgt := 12) (X := 4) (Y := 6) hx hb dX5_readInner_3 (by decide) rfl rfl (by omega) ?_
  refine lv_aload_n hx hb dX5_readInner_12 rfl (lv_at hl 0 rfl) ?_
  refine gf_RX5_9 (v := .ref (a 1)) C hO 27 cW_27 rfl dX5_readInner_13 ?_
  refine cVv (w := cW cy a) (As := []) (rest := []) C hO (T_X7_advance l D cy a _ (by exact hJ) (by exact hW)) (cwV 0 ht (gV wd_695 wd_541 wd_542 wd_111 wd_543) rfl rfl rfl hd_yX7_advance ⟨Nat.le_of_ble_eq_true rfl, Nat.le_of_ble_eq_true rfl⟩) 1 rfl cW_1 rfl rfl hl.1 (Nat.le_of_ble_eq_true rfl) dX5_readInner_16 rfl ⟨Nat.zero_le _, Nat.zero_le _⟩ (fun u2 H locs hp3 hO => ?_)
  have g4 : 0 ≤ (fI u 15 9).toInt ∧ (fI u 15 9).toInt ≤ 8 := by have h := CI_15_9 hJ; exact h
  have g5 : 0 ≤ (fI u 15 10).toInt ∧ (fI u 15 10).toInt ≤ 14 := by have h := CI_15_10 hJ; exact h
  have g6 : 0 ≤ (fI u 15 11).toInt ∧ (fI u 15 11).toInt ≤ 8 := by have h := CI_15_11 hJ; exact h
  have g7 : 0 ≤ (fI u 15 12).toInt ∧ (fI u 15 12).toInt ≤ 6 := by have h := CI_15_12 hJ; exact h
  obtain ⟨hJ, hTu2, hW⟩ := hp3
  have hT : KT u u2 := KT.tr (by exact hT) hTu2.1
  have hI_15_9_u2 : fI u2 15 9 = (fI u 15 9) := hTu2.2.1
  have hI_15_10_u2 : fI u2 15 10 = (fI u 15 10) := hTu2.2.2.1
  have hI_15_11_u2 : fI u2 15 11 = (fI u 15 11) := hTu2.2.2.2.1
  have hI_15_12_u2 : fI u2 15 12 = (fI u 15 12) := hTu2.2.2.2.2
  refine lv_aload_n hx hb dX5_readInner_19 rfl (lv_at hl 0 rfl) ?_
  refine lv_iload_n hx hb dX5_readInner_20 rfl (lv_at hl 1 rfl) ?_
  refine lv_iconst (v := 1) hx hb dX5_readInner_21 (by decide) ?_
  refine lv_iadd hx hb dX5_readInner_22 ?_
  refine tE (y := 5) rfl ?_
  refine cVi (w := cW cy a) (As := [.int 5]) (rest := []) C hO (T_X5_readFormula_5 l D cy a _ (by exact hJ) (by exact hW)) (cwV 1 ht (gV wd_743 wd_745 wd_17 wd_114 wd_746) rfl rfl rfl hd_yX5_readFormula ⟨Nat.le_of_ble_eq_true rfl, Nat.le_of_ble_eq_true rfl⟩) 27 rfl cW_27 rfl rfl hl.1 (Nat.le_of_ble_eq_true rfl) dX5_readInner_23 rfl ⟨Nat.zero_le _, Nat.zero_le _⟩ (fun r8 u9 H locs hp10 hO => ?_)
  obtain ⟨hr8, hJ, hTu9, hW⟩ := hp10
  have gr8 : 0 ≤ r8.toInt ∧ r8.toInt ≤ 1 := by rcases hr8 with h | h <;> rw [h] <;> decide
  have hT : KT u u9 := KT.tr (by exact hT) hTu9
  refine bs_eq (tgt := 42) (X := (r8).toInt) hx hb dX5_readInner_26 (by decide) rfl (fun c11 => ?_) (fun c11 => ?_)
  · refine lv_iconst (v := 0) hx hb dX5_readInner_42 (by decide) ?_
    refine hret _ _ _ _ _ _ dX5_readInner_43 rfl ?_ hO
    exact ⟨Or.inl rfl, hJ, hT, hW⟩
  · refine lv_aload_n hx hb dX5_readInner_29 rfl (lv_at hl 0 rfl) ?_
    refine lv_bipush (v := 41) hx hb dX5_readInner_30 (by decide) ?_
    refine cVi (w := cW cy a) (As := [.int 41]) (rest := []) C hO (T_X5_skip l D cy a _ (by exact hJ) (by exact hW) (41)) (cwV 1 ht (gV wd_719 wd_721 wd_11 wd_114 wd_722) rfl rfl rfl hd_yX5_skip ⟨Nat.le_of_ble_eq_true rfl, Nat.le_of_ble_eq_true rfl⟩) 27 rfl cW_27 rfl rfl hl.1 (Nat.le_of_ble_eq_true rfl) dX5_readInner_32 rfl ⟨Nat.zero_le _, Nat.zero_le _⟩ (fun r12 u13 H locs hp14 hO => ?_)
    have g15 : 0 ≤ (fI u9 15 9).toInt ∧ (fI u9 15 9).toInt ≤ 8 := by have h := CI_15_9 hJ; exact h
    have g16 : 0 ≤ (fI u9 15 10).toInt ∧ (fI u9 15 10).toInt ≤ 14 := by have h := CI_15_10 hJ; exact h
    have g17 : 0 ≤ (fI u9 15 11).toInt ∧ (fI u9 15 11).toInt ≤ 8 := by have h := CI_15_11 hJ; exact h
    have g18 : 0 ≤ (fI u9 15 12).toInt ∧ (fI u9 15 12).toInt ≤ 6 := by have h := CI_15_12 hJ; exact h
    obtain ⟨hr12, hJ, hTu13, hW⟩ := hp14
    have gr12 : 0 ≤ r12.toInt ∧ r12.toInt ≤ 1 := by rcases hr12 with h | h <;> rw [h] <;> decide
    have hT : KT u u13 := KT.tr (by exact hT) hTu13.1
    have hI_15_9_u13 : fI u13 15 9 = (fI u9 15 9) := hTu13.2.1
    have hI_15_10_u13 : fI u13 15 10 = (fI u9 15 10) := hTu13.2.2.1
    have hI_15_11_u13 : fI u13 15 11 = (fI u9 15 11) := hTu13.2.2.2.1
    have hI_15_12_u13 : fI u13 15 12 = (fI u9 15 12) := hTu13.2.2.2.2
    refine bs_eq (tgt := 42) (X := (r12).toInt) hx hb dX5_readInner_35 (by decide) rfl (fun c19 => ?_) (fun c19 => ?_)
    · refine lv_iconst (v := 0) hx hb dX5_readInner_42 (by decide) ?_
      refine hret _ _ _ _ _ _ dX5_readInner_43 rfl ?_ hO
      exact ⟨Or.inl rfl, hJ, hT, hW⟩
    · refine lv_iconst (v := 1) hx hb dX5_readInner_38 (by decide) ?_
      refine lv_goto (tgt := 43) hx hb dX5_readInner_39 (by decide) ?_
      refine hret _ _ _ _ _ _ dX5_readInner_43 rfl ?_ hO
      exact ⟨Or.inr rfl, hJ, hT, hW⟩
set_option maxHeartbeats 4000000 in
set_option maxRecDepth 100000 in
theorem T_X5_readUnit_4 (l : Launch) (D : va_G) (cy : Nat → ClassId) (a : Nat → Nat) (u : St) (hJ : CI a u) (hW : fR u 2 = a 15)   : Mi l D cy (cW cy a) yX5_readUnit (.code yX5_readUnit cX5_readUnit 3 (some .boolean)) (rmo 27 611) [.ref (a 27), .int 4] u (fun (r : Int32) (u' : St) => (r = 0 ∨ r = 1) ∧ (CI a u') ∧ (KT u u') ∧ (fR u' 2 = a 15)) := by
  refine Mi.of (own := RX5) rfl (by decide) (Nat.le_of_ble_eq_true rfl) ?_
  have hT : KT u u := KT.rf
  intro p e s m below meth c A Q ls C hret hO hl
  obtain ⟨hx, hb, hml, hown, ht, hK, hA⟩ := id C
  have hl : lv_has ls 3 [(0, .ref (a 27)), (1, .int 4)] := hl
  refine lv_aload_n hx hb dX5_readUnit_0 rfl (lv_at hl 0 rfl) ?_
  refine gf_RX5_9 (v := .ref (a 1)) C hO 27 cW_27 rfl dX5_readUnit_1 ?_
  refine gf_RX5_36 (v := .int (fI u 1 4)) C hO 1 cW_1 rfl dX5_readUnit_4 ?_
  refine lv_istore_n (lv' := [(2, .int (fI u 1 4)), (0, .ref (a 27)), (1, .int 4)]) hx hb dX5_readUnit_7 rfl hl (by decide) rfl (fun ls hl => ?_)
  refine lv_aload_n hx hb dX5_readUnit_8 rfl (lv_at hl 1 rfl) ?_
  refine gf_RX5_15 (v := .ref (a 15)) C hO 27 cW_27 (congrArg (fun z : Nat => some (Value.ref z)) hW) dX5_readUnit_9 ?_
  refine gf_RX5_173 (v := .ref (a 24)) C hO 15 cW_15 rfl dX5_readUnit_12 ?_
  refine cVi (w := cW cy a) (As := []) (rest := []) C hO (T_X4_isFull l D cy a _ (by exact hJ)) (cwV 0 ht (gV wd_775 wd_776 wd_777 wd_113 wd_778) rfl rfl rfl hd_yX4_isFull ⟨Nat.le_of_ble_eq_true rfl, Nat.le_of_ble_eq_true rfl⟩) 24 rfl cW_24 rfl rfl hl.1 (Nat.le_of_ble_eq_true rfl) dX5_readUnit_15 rfl ⟨Nat.zero_le _, Nat.zero_le _⟩ (fun r1 u2 H locs hp3 hO => ?_)
  obtain ⟨hr1, hu2⟩ := hp3
  have gr1 : 0 ≤ r1.toInt ∧ r1.toInt ≤ 1 := by rcases hr1 with h | h <;> rw [h] <;> decide
  rw [hu2] at hO
  refine bs_ne (tgt := 41) (X := (r1).toInt) hx hb dX5_readUnit_18 (by decide) rfl (fun c4 => ?_) (fun c4 => ?_)
  · refine lv_aload_n hx hb dX5_readUnit_41 rfl (lv_at hl 1 rfl) ?_
    refine lv_iconst (v := 2) hx hb dX5_readUnit_42 (by decide) ?_
    refine cVi (w := cW cy a) (As := [.int 2]) (rest := []) C hO (T_X5_refuse l D cy a _ (by exact hJ) (by exact hW) (2)) (cwV 1 ht (gV wd_691 wd_693 wd_6 wd_114 wd_694) rfl rfl rfl hd_yX5_refuse ⟨Nat.le_of_ble_eq_true rfl, Nat.le_of_ble_eq_true rfl⟩) 27 rfl cW_27 rfl rfl hl.1 (Nat.le_of_ble_eq_true rfl) dX5_readUnit_43 rfl ⟨Nat.zero_le _, Nat.zero_le _⟩ (fun r5 u6 H locs hp7 hO => ?_)
    have g8 : 0 ≤ (fI u 15 9).toInt ∧ (fI u 15 9).toInt ≤ 8 := by have h := CI_15_9 hJ; exact h
    have g9 : 0 ≤ (fI u 15 10).toInt ∧ (fI u 15 10).toInt ≤ 14 := by have h := CI_15_10 hJ; exact h
    have g10 : 0 ≤ (fI u 15 11).toInt ∧ (fI u 15 11).toInt ≤ 8 := by have h := CI_15_11 hJ; exact h
    have g11 : 0 ≤ (fI u 15 12).toInt ∧ (fI u 15 12).toInt ≤ 6 := by have h := CI_15_12 hJ; exact h
    obtain ⟨hr5, hJ, hTu6, hW⟩ := hp7
    subst hr5
    have hT : KT u u6 := KT.tr (by exact hT) hTu6.1
    have hI_15_9_u6 : fI u6 15 9 = (fI u 15 9) := hTu6.2.1
    have hI_15_10_u6 : fI u6 15 10 = (fI u 15 10) := hTu6.2.2.1
    have hI_15_11_u6 : fI u6 15 11 = (fI u 15 11) := hTu6.2.2.2.1
    have hI_15_12_u6 : fI u6 15 12 = (fI u 15 12) := hTu6.2.2.2.2
    refine hret _ _ _ _ _ _ dX5_readUnit_46 rfl ?_ hO
    exact ⟨Or.inl rfl, hJ, hT, hW⟩
  · refine lv_iload_n hx hb dX5_readUnit_21 rfl (lv_at hl 0 rfl) ?_
    refine lv_sipush (v := 201) hx hb dX5_readUnit_22 (by decide) ?_
    refine cs_eq (tgt := 47) (X := ((fI u 1 4)).toInt) (Y := 201) hx hb dX5_readUnit_25 (by decide) rfl rfl (fun c12 => ?_) (fun c12 => ?_)
    · refine lv_aload_n hx hb dX5_readUnit_47 rfl (lv_at hl 1 rfl) ?_
      refine gf_RX5_15 (v := .ref (a 15)) C hO 27 cW_27 (congrArg (fun z : Nat => some (Value.ref z)) hW) dX5_readUnit_48 ?_
      refine gf_RX5_173 (v := .ref (a 24)) C hO 15 cW_15 rfl dX5_readUnit_51 ?_
      refine lv_dup hx hb dX5_readUnit_54 rfl ?_
      refine gf_RX5_207 (v := .int (fI u 24 4)) C hO 24 cW_24 rfl dX5_readUnit_55 ?_
      refine lv_iconst (v := 1) hx hb dX5_readUnit_58 (by decide) ?_
      refine lv_iadd hx hb dX5_readUnit_59 ?_
      refine pf_RX5_207 C hO 24 cW_24 (Nat.le_of_ble_eq_true rfl) cW_s24_4 dX5_readUnit_60 (fun H locs hO => ?_)
      have hJ := CIs_24_4 (v := ((fI u 24 4) + 1)) hJ
      refine lv_iload_n hx hb dX5_readUnit_63 rfl (lv_at hl 0 rfl) ?_
      refine lv_bipush (v := 40) hx hb dX5_readUnit_64 (by decide) ?_
      refine ct_ne (tgt := 75) (X := ((fI u 1 4)).toInt) (Y := 40) hx hb dX5_readUnit_66 (by decide) rfl rfl (by omega) ?_
      refine lv_aload_n hx hb dX5_readUnit_75 rfl (lv_at hl 1 rfl) ?_
      refine gf_RX5_15 (v := .ref (a 15)) C hO 27 cW_27 (congrArg (fun z : Nat => some (Value.ref z)) hW) dX5_readUnit_76 ?_
      refine gf_RX5_173 (v := .ref (a 24)) C hO 15 cW_15 rfl dX5_readUnit_79 ?_
      refine lv_iload_n hx hb dX5_readUnit_82 rfl (lv_at hl 0 rfl) ?_
      refine lv_sipush (v := 201) hx hb dX5_readUnit_83 (by decide) ?_
      refine cn_ne (X := ((fI u 1 4)).toInt) (Y := 201) hx hb dX5_readUnit_86 rfl rfl (by omega) ?_ (tgt := 99) (by decide)
      refine lv_aload_n hx hb dX5_readUnit_89 rfl (lv_at hl 1 rfl) ?_
      refine gf_RX5_9 (v := .ref (a 1)) C hO 27 cW_27 rfl dX5_readUnit_90 ?_
      refine gf_RX5_94 (v := .int (fI u 1 6)) C hO 1 cW_1 rfl dX5_readUnit_93 ?_
      refine lv_goto (tgt := 101) hx hb dX5_readUnit_96 (by decide) ?_
      refine cVv (w := cW cy a) (As := [.int (fI u 1 6)]) (rest := []) C hO (T_X4_add l D cy a _ (by exact hJ) (by exact hW) ((fI u 1 6))) (cwV 1 ht (gV wd_759 wd_760 wd_761 wd_113 wd_762) rfl rfl rfl hd_yX4_add ⟨Nat.le_of_ble_eq_true rfl, Nat.le_of_ble_eq_true rfl⟩) 24 rfl cW_24 rfl rfl hl.1 (Nat.le_of_ble_eq_true rfl) dX5_readUnit_101 rfl ⟨Nat.zero_le _, Nat.zero_le _⟩ (fun u14 H locs hp15 hO => ?_)
      have g16 : 0 ≤ (fI u 15 9).toInt ∧ (fI u 15 9).toInt ≤ 8 := by have h := CI_15_9 hJ; exact h
      have g17 : 0 ≤ (fI u 15 10).toInt ∧ (fI u 15 10).toInt ≤ 14 := by have h := CI_15_10 hJ; exact h
      have g18 : 0 ≤ (fI u 15 11).toInt ∧ (fI u 15 11).toInt ≤ 8 := by have h := CI_15_11 hJ; exact h
      have g19 : 0 ≤ (fI u 15 12).toInt ∧ (fI u 15 12).toInt ≤ 6 := by have h := CI_15_12 hJ; exact h
      obtain ⟨hJ, hTu14, hW⟩ := hp15
      have hT : KT u u14 := KT.tr (by exact hT) hTu14.1
      have hI_15_9_u14 : fI u14 15 9 = (fI u 15 9) := hTu14.2.1
      have hI_15_10_u14 : fI u14 15 10 = (fI u 15 10) := hTu14.2.2.1
      have hI_15_11_u14 : fI u14 15 11 = (fI u 15 11) := hTu14.2.2.2.1
      have hI_15_12_u14 : fI u14 15 12 = (fI u 15 12) := hTu14.2.2.2.2
      refine lv_aload_n hx hb dX5_readUnit_104 rfl (lv_at hl 1 rfl) ?_
      refine gf_RX5_9 (v := .ref (a 1)) C hO 27 cW_27 rfl dX5_readUnit_105 ?_
      refine cVv (w := cW cy a) (As := []) (rest := []) C hO (T_X7_advance l D cy a _ (by exact hJ) (by exact hW)) (cwV 0 ht (gV wd_695 wd_541 wd_542 wd_111 wd_543) rfl rfl rfl hd_yX7_advance ⟨Nat.le_of_ble_eq_true rfl, Nat.le_of_ble_eq_true rfl⟩) 1 rfl cW_1 rfl rfl hl.1 (Nat.le_of_ble_eq_true rfl) dX5_readUnit_108 rfl ⟨Nat.zero_le _, Nat.zero_le _⟩ (fun u21 H locs hp22 hO => ?_)
      obtain ⟨hJ, hTu21, hW⟩ := hp22
      have hT : KT u u21 := KT.tr (by exact hT) hTu21.1
      have hI_15_9_u21 : fI u21 15 9 = (fI u 15 9) := Eq.trans (hTu21.2.1) (hI_15_9_u14)
      have hI_15_10_u21 : fI u21 15 10 = (fI u 15 10) := Eq.trans (hTu21.2.2.1) (hI_15_10_u14)
      have hI_15_11_u21 : fI u21 15 11 = (fI u 15 11) := Eq.trans (hTu21.2.2.2.1) (hI_15_11_u14)
      have hI_15_12_u21 : fI u21 15 12 = (fI u 15 12) := Eq.trans (hTu21.2.2.2.2) (hI_15_12_u14)
      refine lv_iconst (v := 1) hx hb dX5_readUnit_111 (by decide) ?_
      refine hret _ _ _ _ _ _ dX5_readUnit_112 rfl ?_ hO
      exact ⟨Or.inr rfl, hJ, hT, hW⟩
    · refine lv_iload_n hx hb dX5_readUnit_28 rfl (lv_at hl 0 rfl) ?_
      refine lv_bipush (v := 40) hx hb dX5_readUnit_29 (by decide) ?_
      refine cs_eq (tgt := 47) (X := ((fI u 1 4)).toInt) (Y := 40) hx hb dX5_readUnit_31 (by decide) rfl rfl (fun c23 => ?_) (fun c23 => ?_)
      · refine lv_aload_n hx hb dX5_readUnit_47 rfl (lv_at hl 1 rfl) ?_
        refine gf_RX5_15 (v := .ref (a 15)) C hO 27 cW_27 (congrArg (fun z : Nat => some (Value.ref z)) hW) dX5_readUnit_48 ?_
        refine gf_RX5_173 (v := .ref (a 24)) C hO 15 cW_15 rfl dX5_readUnit_51 ?_
        refine lv_dup hx hb dX5_readUnit_54 rfl ?_
        refine gf_RX5_207 (v := .int (fI u 24 4)) C hO 24 cW_24 rfl dX5_readUnit_55 ?_
        refine lv_iconst (v := 1) hx hb dX5_readUnit_58 (by decide) ?_
        refine lv_iadd hx hb dX5_readUnit_59 ?_
        refine pf_RX5_207 C hO 24 cW_24 (Nat.le_of_ble_eq_true rfl) cW_s24_4 dX5_readUnit_60 (fun H locs hO => ?_)
        have hJ := CIs_24_4 (v := ((fI u 24 4) + 1)) hJ
        refine lv_iload_n hx hb dX5_readUnit_63 rfl (lv_at hl 0 rfl) ?_
        refine lv_bipush (v := 40) hx hb dX5_readUnit_64 (by decide) ?_
        refine cn_ne (X := ((fI u 1 4)).toInt) (Y := 40) hx hb dX5_readUnit_66 rfl rfl (by omega) ?_ (tgt := 75) (by decide)
        refine lv_aload_n hx hb dX5_readUnit_69 rfl (lv_at hl 1 rfl) ?_
        refine lv_iload_n hx hb dX5_readUnit_70 rfl (lv_at hl 2 rfl) ?_
        refine cVi (w := cW cy a) (As := [.int 4]) (rest := []) C hO (T_X5_readInner_4 l D cy a _ (by exact hJ) (by exact hW)) (cwV 1 ht (gV wd_782 wd_784 wd_24 wd_114 wd_785) rfl rfl rfl hd_yX5_readInner ⟨Nat.le_of_ble_eq_true rfl, Nat.le_of_ble_eq_true rfl⟩) 27 rfl cW_27 rfl rfl hl.1 (Nat.le_of_ble_eq_true rfl) dX5_readUnit_71 rfl ⟨Nat.zero_le _, Nat.zero_le _⟩ (fun r24 u25 H locs hp26 hO => ?_)
        obtain ⟨hr24, hJ, hTu25, hW⟩ := hp26
        have gr24 : 0 ≤ r24.toInt ∧ r24.toInt ≤ 1 := by rcases hr24 with h | h <;> rw [h] <;> decide
        have hT : KT u u25 := KT.tr (by exact hT) hTu25
        refine hret _ _ _ _ _ _ dX5_readUnit_74 (by rcases hr24 with h | h <;> rw [h] <;> rfl) ?_ hO
        exact ⟨hr24, hJ, hT, hW⟩
      · refine lv_iload_n hx hb dX5_readUnit_34 rfl (lv_at hl 0 rfl) ?_
        refine cSi (w := cW cy a) (As := [.int (fI u 1 4)]) (rest := []) C hO (T_X4_isGiven l D cy a _ (by exact hJ) ((fI u 1 4))) (va_cwS 1 ht (gSS wd_779 wd_780 wd_113 wd_781) rfl rfl rfl hd_yX4_isGiven ⟨Nat.le_of_ble_eq_true rfl, Nat.le_of_ble_eq_true rfl⟩)  rfl hl.1 (Nat.le_of_ble_eq_true rfl) dX5_readUnit_35 rfl ⟨Nat.zero_le _, Nat.zero_le _⟩ (fun r27 u28 H locs hp29 hO => ?_)
        obtain ⟨hr27, hu28⟩ := hp29
        have gr27 : 0 ≤ r27.toInt ∧ r27.toInt ≤ 1 := by rcases hr27 with h | h <;> rw [h] <;> decide
        rw [hu28] at hO
        refine bs_ne (tgt := 47) (X := (r27).toInt) hx hb dX5_readUnit_38 (by decide) rfl (fun c30 => ?_) (fun c30 => ?_)
        · refine lv_aload_n hx hb dX5_readUnit_47 rfl (lv_at hl 1 rfl) ?_
          refine gf_RX5_15 (v := .ref (a 15)) C hO 27 cW_27 (congrArg (fun z : Nat => some (Value.ref z)) hW) dX5_readUnit_48 ?_
          refine gf_RX5_173 (v := .ref (a 24)) C hO 15 cW_15 rfl dX5_readUnit_51 ?_
          refine lv_dup hx hb dX5_readUnit_54 rfl ?_
          refine gf_RX5_207 (v := .int (fI u 24 4)) C hO 24 cW_24 rfl dX5_readUnit_55 ?_
          refine lv_iconst (v := 1) hx hb dX5_readUnit_58 (by decide) ?_
          refine lv_iadd hx hb dX5_readUnit_59 ?_
          refine pf_RX5_207 C hO 24 cW_24 (Nat.le_of_ble_eq_true rfl) cW_s24_4 dX5_readUnit_60 (fun H locs hO => ?_)
          have hJ := CIs_24_4 (v := ((fI u 24 4) + 1)) hJ
          refine lv_iload_n hx hb dX5_readUnit_63 rfl (lv_at hl 0 rfl) ?_
          refine lv_bipush (v := 40) hx hb dX5_readUnit_64 (by decide) ?_
          refine cs_ne (tgt := 75) (X := ((fI u 1 4)).toInt) (Y := 40) hx hb dX5_readUnit_66 (by decide) rfl rfl (fun c31 => ?_) (fun c31 => ?_)
          · refine lv_aload_n hx hb dX5_readUnit_75 rfl (lv_at hl 1 rfl) ?_
            refine gf_RX5_15 (v := .ref (a 15)) C hO 27 cW_27 (congrArg (fun z : Nat => some (Value.ref z)) hW) dX5_readUnit_76 ?_
            refine gf_RX5_173 (v := .ref (a 24)) C hO 15 cW_15 rfl dX5_readUnit_79 ?_
            refine lv_iload_n hx hb dX5_readUnit_82 rfl (lv_at hl 0 rfl) ?_
            refine lv_sipush (v := 201) hx hb dX5_readUnit_83 (by decide) ?_
            refine cs_ne (tgt := 99) (X := ((fI u 1 4)).toInt) (Y := 201) hx hb dX5_readUnit_86 (by decide) rfl rfl (fun c32 => ?_) (fun c32 => ?_)
            · refine lv_iload_n hx hb dX5_readUnit_99 rfl (lv_at hl 0 rfl) ?_
              refine lv_ineg hx hb dX5_readUnit_100 ?_
              refine lv_topi (fun z33 ez33 => ?_)
              refine cVv (w := cW cy a) (As := [.int z33]) (rest := []) C hO (T_X4_add l D cy a _ (by exact hJ) (by exact hW) (z33)) (cwV 1 ht (gV wd_759 wd_760 wd_761 wd_113 wd_762) rfl rfl rfl hd_yX4_add ⟨Nat.le_of_ble_eq_true rfl, Nat.le_of_ble_eq_true rfl⟩) 24 rfl cW_24 rfl rfl hl.1 (Nat.le_of_ble_eq_true rfl) dX5_readUnit_101 rfl ⟨Nat.zero_le _, Nat.zero_le _⟩ (fun u35 H locs hp36 hO => ?_)
              have g37 : 0 ≤ (fI u 15 9).toInt ∧ (fI u 15 9).toInt ≤ 8 := by have h := CI_15_9 hJ; exact h
              have g38 : 0 ≤ (fI u 15 10).toInt ∧ (fI u 15 10).toInt ≤ 14 := by have h := CI_15_10 hJ; exact h
              have g39 : 0 ≤ (fI u 15 11).toInt ∧ (fI u 15 11).toInt ≤ 8 := by have h := CI_15_11 hJ; exact h
              have g40 : 0 ≤ (fI u 15 12).toInt ∧ (fI u 15 12).toInt ≤ 6 := by have h := CI_15_12 hJ; exact h
              obtain ⟨hJ, hTu35, hW⟩ := hp36
              have hT : KT u u35 := KT.tr (by exact hT) hTu35.1
              have hI_15_9_u35 : fI u35 15 9 = (fI u 15 9) := hTu35.2.1
              have hI_15_10_u35 : fI u35 15 10 = (fI u 15 10) := hTu35.2.2.1
              have hI_15_11_u35 : fI u35 15 11 = (fI u 15 11) := hTu35.2.2.2.1
              have hI_15_12_u35 : fI u35 15 12 = (fI u 15 12) := hTu35.2.2.2.2
              refine lv_aload_n hx hb dX5_readUnit_104 rfl (lv_at hl 1 rfl) ?_
              refine gf_RX5_9 (v := .ref (a 1)) C hO 27 cW_27 rfl dX5_readUnit_105 ?_
              refine cVv (w := cW cy a) (As := []) (rest := []) C hO (T_X7_advance l D cy a _ (by exact hJ) (by exact hW)) (cwV 0 ht (gV wd_695 wd_541 wd_542 wd_111 wd_543) rfl rfl rfl hd_yX7_advance ⟨Nat.le_of_ble_eq_true rfl, Nat.le_of_ble_eq_true rfl⟩) 1 rfl cW_1 rfl rfl hl.1 (Nat.le_of_ble_eq_true rfl) dX5_readUnit_108 rfl ⟨Nat.zero_le _, Nat.zero_le _⟩ (fun u42 H locs hp43 hO => ?_)
              obtain ⟨hJ, hTu42, hW⟩ := hp43
              have hT : KT u u42 := KT.tr (by exact hT) hTu42.1
              have hI_15_9_u42 : fI u42 15 9 = (fI u 15 9) := Eq.trans (hTu42.2.1) (hI_15_9_u35)
              have hI_15_10_u42 : fI u42 15 10 = (fI u 15 10) := Eq.trans (hTu42.2.2.1) (hI_15_10_u35)
              have hI_15_11_u42 : fI u42 15 11 = (fI u 15 11) := Eq.trans (hTu42.2.2.2.1) (hI_15_11_u35)
              have hI_15_12_u42 : fI u42 15 12 = (fI u 15 12) := Eq.trans (hTu42.2.2.2.2) (hI_15_12_u35)
              refine lv_iconst (v := 1) hx hb dX5_readUnit_111 (by decide) ?_
              refine hret _ _ _ _ _ _ dX5_readUnit_112 rfl ?_ hO
              exact ⟨Or.inr rfl, hJ, hT, hW⟩
            · refine lv_aload_n hx hb dX5_readUnit_89 rfl (lv_at hl 1 rfl) ?_
              refine gf_RX5_9 (v := .ref (a 1)) C hO 27 cW_27 rfl dX5_readUnit_90 ?_
              refine gf_RX5_94 (v := .int (fI u 1 6)) C hO 1 cW_1 rfl dX5_readUnit_93 ?_
              refine lv_goto (tgt := 101) hx hb dX5_readUnit_96 (by decide) ?_
              refine cVv (w := cW cy a) (As := [.int (fI u 1 6)]) (rest := []) C hO (T_X4_add l D cy a _ (by exact hJ) (by exact hW) ((fI u 1 6))) (cwV 1 ht (gV wd_759 wd_760 wd_761 wd_113 wd_762) rfl rfl rfl hd_yX4_add ⟨Nat.le_of_ble_eq_true rfl, Nat.le_of_ble_eq_true rfl⟩) 24 rfl cW_24 rfl rfl hl.1 (Nat.le_of_ble_eq_true rfl) dX5_readUnit_101 rfl ⟨Nat.zero_le _, Nat.zero_le _⟩ (fun u45 H locs hp46 hO => ?_)
              have g47 : 0 ≤ (fI u 15 9).toInt ∧ (fI u 15 9).toInt ≤ 8 := by have h := CI_15_9 hJ; exact h
              have g48 : 0 ≤ (fI u 15 10).toInt ∧ (fI u 15 10).toInt ≤ 14 := by have h := CI_15_10 hJ; exact h
              have g49 : 0 ≤ (fI u 15 11).toInt ∧ (fI u 15 11).toInt ≤ 8 := by have h := CI_15_11 hJ; exact h
              have g50 : 0 ≤ (fI u 15 12).toInt ∧ (fI u 15 12).toInt ≤ 6 := by have h := CI_15_12 hJ; exact h
              obtain ⟨hJ, hTu45, hW⟩ := hp46
              have hT : KT u u45 := KT.tr (by exact hT) hTu45.1
              have hI_15_9_u45 : fI u45 15 9 = (fI u 15 9) := hTu45.2.1
              have hI_15_10_u45 : fI u45 15 10 = (fI u 15 10) := hTu45.2.2.1
              have hI_15_11_u45 : fI u45 15 11 = (fI u 15 11) := hTu45.2.2.2.1
              have hI_15_12_u45 : fI u45 15 12 = (fI u 15 12) := hTu45.2.2.2.2
              refine lv_aload_n hx hb dX5_readUnit_104 rfl (lv_at hl 1 rfl) ?_
              refine gf_RX5_9 (v := .ref (a 1)) C hO 27 cW_27 rfl dX5_readUnit_105 ?_
              refine cVv (w := cW cy a) (As := []) (rest := []) C hO (T_X7_advance l D cy a _ (by exact hJ) (by exact hW)) (cwV 0 ht (gV wd_695 wd_541 wd_542 wd_111 wd_543) rfl rfl rfl hd_yX7_advance ⟨Nat.le_of_ble_eq_true rfl, Nat.le_of_ble_eq_true rfl⟩) 1 rfl cW_1 rfl rfl hl.1 (Nat.le_of_ble_eq_true rfl) dX5_readUnit_108 rfl ⟨Nat.zero_le _, Nat.zero_le _⟩ (fun u52 H locs hp53 hO => ?_)
              obtain ⟨hJ, hTu52, hW⟩ := hp53
              have hT : KT u u52 := KT.tr (by exact hT) hTu52.1
              have hI_15_9_u52 : fI u52 15 9 = (fI u 15 9) := Eq.trans (hTu52.2.1) (hI_15_9_u45)
              have hI_15_10_u52 : fI u52 15 10 = (fI u 15 10) := Eq.trans (hTu52.2.2.1) (hI_15_10_u45)
              have hI_15_11_u52 : fI u52 15 11 = (fI u 15 11) := Eq.trans (hTu52.2.2.2.1) (hI_15_11_u45)
              have hI_15_12_u52 : fI u52 15 12 = (fI u 15 12) := Eq.trans (hTu52.2.2.2.2) (hI_15_12_u45)
              refine lv_iconst (v := 1) hx hb dX5_readUnit_111 (by decide) ?_
              refine hret _ _ _ _ _ _ dX5_readUnit_112 rfl ?_ hO
              exact ⟨Or.inr rfl, hJ, hT, hW⟩
          · refine lv_aload_n hx hb dX5_readUnit_69 rfl (lv_at hl 1 rfl) ?_
            refine lv_iload_n hx hb dX5_readUnit_70 rfl (lv_at hl 2 rfl) ?_
            refine cVi (w := cW cy a) (As := [.int 4]) (rest := []) C hO (T_X5_readInner_4 l D cy a _ (by exact hJ) (by exact hW)) (cwV 1 ht (gV wd_782 wd_784 wd_24 wd_114 wd_785) rfl rfl rfl hd_yX5_readInner ⟨Nat.le_of_ble_eq_true rfl, Nat.le_of_ble_eq_true rfl⟩) 27 rfl cW_27 rfl rfl hl.1 (Nat.le_of_ble_eq_true rfl) dX5_readUnit_71 rfl ⟨Nat.zero_le _, Nat.zero_le _⟩ (fun r54 u55 H locs hp56 hO => ?_)
            obtain ⟨hr54, hJ, hTu55, hW⟩ := hp56
            have gr54 : 0 ≤ r54.toInt ∧ r54.toInt ≤ 1 := by rcases hr54 with h | h <;> rw [h] <;> decide
            have hT : KT u u55 := KT.tr (by exact hT) hTu55
            refine hret _ _ _ _ _ _ dX5_readUnit_74 (by rcases hr54 with h | h <;> rw [h] <;> rfl) ?_ hO
            exact ⟨hr54, hJ, hT, hW⟩
        · refine lv_aload_n hx hb dX5_readUnit_41 rfl (lv_at hl 1 rfl) ?_
          refine lv_iconst (v := 2) hx hb dX5_readUnit_42 (by decide) ?_
          refine cVi (w := cW cy a) (As := [.int 2]) (rest := []) C hO (T_X5_refuse l D cy a _ (by exact hJ) (by exact hW) (2)) (cwV 1 ht (gV wd_691 wd_693 wd_6 wd_114 wd_694) rfl rfl rfl hd_yX5_refuse ⟨Nat.le_of_ble_eq_true rfl, Nat.le_of_ble_eq_true rfl⟩) 27 rfl cW_27 rfl rfl hl.1 (Nat.le_of_ble_eq_true rfl) dX5_readUnit_43 rfl ⟨Nat.zero_le _, Nat.zero_le _⟩ (fun r57 u58 H locs hp59 hO => ?_)
          have g60 : 0 ≤ (fI u 15 9).toInt ∧ (fI u 15 9).toInt ≤ 8 := by have h := CI_15_9 hJ; exact h
          have g61 : 0 ≤ (fI u 15 10).toInt ∧ (fI u 15 10).toInt ≤ 14 := by have h := CI_15_10 hJ; exact h
          have g62 : 0 ≤ (fI u 15 11).toInt ∧ (fI u 15 11).toInt ≤ 8 := by have h := CI_15_11 hJ; exact h
          have g63 : 0 ≤ (fI u 15 12).toInt ∧ (fI u 15 12).toInt ≤ 6 := by have h := CI_15_12 hJ; exact h
          obtain ⟨hr57, hJ, hTu58, hW⟩ := hp59
          subst hr57
          have hT : KT u u58 := KT.tr (by exact hT) hTu58.1
          have hI_15_9_u58 : fI u58 15 9 = (fI u 15 9) := hTu58.2.1
          have hI_15_10_u58 : fI u58 15 10 = (fI u 15 10) := hTu58.2.2.1
          have hI_15_11_u58 : fI u58 15 11 = (fI u 15 11) := hTu58.2.2.2.1
          have hI_15_12_u58 : fI u58 15 12 = (fI u 15 12) := hTu58.2.2.2.2
          refine hret _ _ _ _ _ _ dX5_readUnit_46 rfl ?_ hO
          exact ⟨Or.inl rfl, hJ, hT, hW⟩
set_option maxHeartbeats 4000000 in
set_option maxRecDepth 100000 in
theorem T_X5_readProduct_4 (l : Launch) (D : va_G) (cy : Nat → ClassId) (a : Nat → Nat) (u : St) (hJ : CI a u) (hW : fR u 2 = a 15)   : Mi l D cy (cW cy a) yX5_readProduct (.code yX5_readProduct cX5_readProduct 5 (some .boolean)) (rmo 28 633) [.ref (a 27), .int 4] u (fun (r : Int32) (u' : St) => (r = 0 ∨ r = 1) ∧ (CI a u') ∧ (KT u u') ∧ (fR u' 2 = a 15)) := by
  refine Mi.of (own := RX5) rfl (by decide) (Nat.le_of_ble_eq_true rfl) ?_
  have hT : KT u u := KT.rf
  intro p e s m below meth c A Q ls C hret hO hl
  obtain ⟨hx, hb, hml, hown, ht, hK, hA⟩ := id C
  have hl : lv_has ls 5 [(0, .ref (a 27)), (1, .int 4)] := hl
  refine lv_aload_n hx hb dX5_readProduct_0 rfl (lv_at hl 0 rfl) ?_
  refine lv_iload_n hx hb dX5_readProduct_1 rfl (lv_at hl 1 rfl) ?_
  refine cVi (w := cW cy a) (As := [.int 4]) (rest := []) C hO (T_X5_readUnit_4 l D cy a _ (by exact hJ) (by exact hW)) (cwV 1 ht (gV wd_771 wd_773 wd_23 wd_114 wd_774) rfl rfl rfl hd_yX5_readUnit ⟨Nat.le_of_ble_eq_true rfl, Nat.le_of_ble_eq_true rfl⟩) 27 rfl cW_27 rfl rfl hl.1 (Nat.le_of_ble_eq_true rfl) dX5_readProduct_2 rfl ⟨Nat.zero_le _, Nat.zero_le _⟩ (fun r1 u2 H locs hp3 hO => ?_)
  obtain ⟨hr1, hJ, hTu2, hW⟩ := hp3
  have gr1 : 0 ≤ r1.toInt ∧ r1.toInt ≤ 1 := by rcases hr1 with h | h <;> rw [h] <;> decide
  have hT : KT u u2 := KT.tr (by exact hT) hTu2
  refine lv_istore_n (lv' := [(2, .int r1), (0, .ref (a 27)), (1, .int 4)]) hx hb dX5_readProduct_5 rfl hl (by decide) rfl (fun ls hl => ?_)
  refine lv_iconst (v := 0) hx hb dX5_readProduct_6 (by decide) ?_
  refine lv_istore_n (lv' := [(3, .int 0), (2, .int r1), (0, .ref (a 27)), (1, .int 4)]) hx hb dX5_readProduct_7 rfl hl (by decide) rfl (fun ls hl => ?_)
  have LP_8_k5 : ∀ (n : Nat) (u4 : St) (H : Heap) (locs : List Loc) (ls : Array Slot) (i_k5 : Int32) (w2_k5 : Int32), Wo D A (cW cy a u4) s.heap H locs → lv_has ls 5 [(3, .int i_k5), (2, .int w2_k5), (0, .ref (a 27)), (1, .int 4)] → CI a u4 → KT u u4 → fR u4 2 = a 15 → 0 ≤ i_k5.toInt ∧ i_k5.toInt ≤ 1600 → 0 ≤ w2_k5.toInt ∧ w2_k5.toInt ≤ 1 → 1600 - i_k5.toInt < (n : Int) → W p l e (rmo 28 633) s m [.ref (a 27), .int 4].toArray below meth c H locs 0 0 Q (F0 m 8 ls []) := by
    intro n
    induction n with
    | zero =>
      intro u4 H locs ls i_k5 w2_k5 hO hl hJ hT hW iv0_k5 iv1_k5 hm_k5
      exact absurd hm_k5 (by omega)
    | succ n ih_k5 =>
      intro u4 H locs ls i_k5 w2_k5 hO hl hJ hT hW iv0_k5 iv1_k5 hm_k5
      refine lv_iload_n hx hb dX5_readProduct_8 rfl (lv_at hl 0 rfl) ?_
      refine lv_sipush (v := 1600) hx hb dX5_readProduct_9 (by decide) ?_
      refine cs_ge (tgt := 73) (X := (i_k5).toInt) (Y := 1600) hx hb dX5_readProduct_12 (by decide) rfl rfl (fun c6 => ?_) (fun c6 => ?_)
      · refine lv_iload_n hx hb dX5_readProduct_73 rfl (lv_at hl 1 rfl) ?_
        have hw2_k5 : w2_k5 = 0 ∨ w2_k5 = 1 := i_b01 rfl (by omega) (by omega)
        refine hret _ _ _ _ _ _ dX5_readProduct_74 (by rcases hw2_k5 with h | h <;> rw [h] <;> rfl) ?_ hO
        exact ⟨hw2_k5, hJ, hT, hW⟩
      · refine lv_iload_n hx hb dX5_readProduct_15 rfl (lv_at hl 1 rfl) ?_
        refine bs_eq (tgt := 73) (X := (w2_k5).toInt) hx hb dX5_readProduct_16 (by decide) rfl (fun c7 => ?_) (fun c7 => ?_)
        · refine lv_iload_n hx hb dX5_readProduct_73 rfl (lv_at hl 1 rfl) ?_
          have hw2_k5 : w2_k5 = 0 ∨ w2_k5 = 1 := i_b01 rfl (by omega) (by omega)
          refine hret _ _ _ _ _ _ dX5_readProduct_74 (by rcases hw2_k5 with h | h <;> rw [h] <;> rfl) ?_ hO
          exact ⟨hw2_k5, hJ, hT, hW⟩
        · refine lv_aload_n hx hb dX5_readProduct_19 rfl (lv_at hl 2 rfl) ?_
          refine gf_RX5_9 (v := .ref (a 1)) C hO 27 cW_27 rfl dX5_readProduct_20 ?_
          refine gf_RX5_36 (v := .int (fI u4 1 4)) C hO 1 cW_1 rfl dX5_readProduct_23 ?_
          refine cSi (w := cW cy a) (As := [.int (fI u4 1 4)]) (rest := []) C hO (T_X5_isTimes l D cy a _ (by exact hJ) ((fI u4 1 4))) (va_cwS 1 ht (gSS wd_786 wd_787 wd_114 wd_788) rfl rfl rfl hd_yX5_isTimes ⟨Nat.le_of_ble_eq_true rfl, Nat.le_of_ble_eq_true rfl⟩)  rfl hl.1 (Nat.le_of_ble_eq_true rfl) dX5_readProduct_26 rfl ⟨Nat.zero_le _, Nat.zero_le _⟩ (fun r8 u9 H locs hp10 hO => ?_)
          obtain ⟨hr8, hu9⟩ := hp10
          have gr8 : 0 ≤ r8.toInt ∧ r8.toInt ≤ 1 := by rcases hr8 with h | h <;> rw [h] <;> decide
          rw [hu9] at hO
          refine bs_eq (tgt := 73) (X := (r8).toInt) hx hb dX5_readProduct_29 (by decide) rfl (fun c11 => ?_) (fun c11 => ?_)
          · refine lv_iload_n hx hb dX5_readProduct_73 rfl (lv_at hl 1 rfl) ?_
            have hw2_k5 : w2_k5 = 0 ∨ w2_k5 = 1 := i_b01 rfl (by omega) (by omega)
            refine hret _ _ _ _ _ _ dX5_readProduct_74 (by rcases hw2_k5 with h | h <;> rw [h] <;> rfl) ?_ hO
            exact ⟨hw2_k5, hJ, hT, hW⟩
          · refine lv_aload_n hx hb dX5_readProduct_32 rfl (lv_at hl 2 rfl) ?_
            refine gf_RX5_9 (v := .ref (a 1)) C hO 27 cW_27 rfl dX5_readProduct_33 ?_
            refine gf_RX5_36 (v := .int (fI u4 1 4)) C hO 1 cW_1 rfl dX5_readProduct_36 ?_
            refine lv_istore (lv' := [(4, .int (fI u4 1 4)), (3, .int i_k5), (2, .int w2_k5), (0, .ref (a 27)), (1, .int 4)]) hx hb dX5_readProduct_39 hl (by decide) rfl (fun ls hl => ?_)
            refine lv_aload_n hx hb dX5_readProduct_41 rfl (lv_at hl 3 rfl) ?_
            refine gf_RX5_9 (v := .ref (a 1)) C hO 27 cW_27 rfl dX5_readProduct_42 ?_
            refine cVv (w := cW cy a) (As := []) (rest := []) C hO (T_X7_advance l D cy a _ (by exact hJ) (by exact hW)) (cwV 0 ht (gV wd_695 wd_541 wd_542 wd_111 wd_543) rfl rfl rfl hd_yX7_advance ⟨Nat.le_of_ble_eq_true rfl, Nat.le_of_ble_eq_true rfl⟩) 1 rfl cW_1 rfl rfl hl.1 (Nat.le_of_ble_eq_true rfl) dX5_readProduct_45 rfl ⟨Nat.zero_le _, Nat.zero_le _⟩ (fun u13 H locs hp14 hO => ?_)
            have g15 : 0 ≤ (fI u4 15 9).toInt ∧ (fI u4 15 9).toInt ≤ 8 := by have h := CI_15_9 hJ; exact h
            have g16 : 0 ≤ (fI u4 15 10).toInt ∧ (fI u4 15 10).toInt ≤ 14 := by have h := CI_15_10 hJ; exact h
            have g17 : 0 ≤ (fI u4 15 11).toInt ∧ (fI u4 15 11).toInt ≤ 8 := by have h := CI_15_11 hJ; exact h
            have g18 : 0 ≤ (fI u4 15 12).toInt ∧ (fI u4 15 12).toInt ≤ 6 := by have h := CI_15_12 hJ; exact h
            obtain ⟨hJ, hTu13, hW⟩ := hp14
            have hT : KT u u13 := KT.tr (by exact hT) hTu13.1
            have hI_15_9_u13 : fI u13 15 9 = (fI u4 15 9) := hTu13.2.1
            have hI_15_10_u13 : fI u13 15 10 = (fI u4 15 10) := hTu13.2.2.1
            have hI_15_11_u13 : fI u13 15 11 = (fI u4 15 11) := hTu13.2.2.2.1
            have hI_15_12_u13 : fI u13 15 12 = (fI u4 15 12) := hTu13.2.2.2.2
            refine lv_aload_n hx hb dX5_readProduct_48 rfl (lv_at hl 3 rfl) ?_
            refine lv_iload_n hx hb dX5_readProduct_49 rfl (lv_at hl 4 rfl) ?_
            refine cVi (w := cW cy a) (As := [.int 4]) (rest := []) C hO (T_X5_readUnit_4 l D cy a _ (by exact hJ) (by exact hW)) (cwV 1 ht (gV wd_771 wd_773 wd_23 wd_114 wd_774) rfl rfl rfl hd_yX5_readUnit ⟨Nat.le_of_ble_eq_true rfl, Nat.le_of_ble_eq_true rfl⟩) 27 rfl cW_27 rfl rfl hl.1 (Nat.le_of_ble_eq_true rfl) dX5_readProduct_50 rfl ⟨Nat.zero_le _, Nat.zero_le _⟩ (fun r19 u20 H locs hp21 hO => ?_)
            obtain ⟨hr19, hJ, hTu20, hW⟩ := hp21
            have gr19 : 0 ≤ r19.toInt ∧ r19.toInt ≤ 1 := by rcases hr19 with h | h <;> rw [h] <;> decide
            have hT : KT u u20 := KT.tr (by exact hT) hTu20
            refine lv_istore_n (lv' := [(2, .int r19), (4, .int (fI u4 1 4)), (3, .int i_k5), (0, .ref (a 27)), (1, .int 4)]) hx hb dX5_readProduct_53 rfl hl (by decide) rfl (fun ls hl => ?_)
            refine lv_aload_n hx hb dX5_readProduct_54 rfl (lv_at hl 3 rfl) ?_
            refine gf_RX5_15 (v := .ref (a 15)) C hO 27 cW_27 (congrArg (fun z : Nat => some (Value.ref z)) hW) dX5_readProduct_55 ?_
            refine gf_RX5_173 (v := .ref (a 24)) C hO 15 cW_15 rfl dX5_readProduct_58 ?_
            refine lv_iload hx hb dX5_readProduct_61 (lv_at hl 1 rfl) ?_
            refine lv_ineg hx hb dX5_readProduct_63 ?_
            refine lv_topi (fun z22 ez22 => ?_)
            refine cVv (w := cW cy a) (As := [.int z22]) (rest := []) C hO (T_X4_add l D cy a _ (by exact hJ) (by exact hW) (z22)) (cwV 1 ht (gV wd_759 wd_760 wd_761 wd_113 wd_762) rfl rfl rfl hd_yX4_add ⟨Nat.le_of_ble_eq_true rfl, Nat.le_of_ble_eq_true rfl⟩) 24 rfl cW_24 rfl rfl hl.1 (Nat.le_of_ble_eq_true rfl) dX5_readProduct_64 rfl ⟨Nat.zero_le _, Nat.zero_le _⟩ (fun u24 H locs hp25 hO => ?_)
            have g26 : 0 ≤ (fI u20 15 9).toInt ∧ (fI u20 15 9).toInt ≤ 8 := by have h := CI_15_9 hJ; exact h
            have g27 : 0 ≤ (fI u20 15 10).toInt ∧ (fI u20 15 10).toInt ≤ 14 := by have h := CI_15_10 hJ; exact h
            have g28 : 0 ≤ (fI u20 15 11).toInt ∧ (fI u20 15 11).toInt ≤ 8 := by have h := CI_15_11 hJ; exact h
            have g29 : 0 ≤ (fI u20 15 12).toInt ∧ (fI u20 15 12).toInt ≤ 6 := by have h := CI_15_12 hJ; exact h
            obtain ⟨hJ, hTu24, hW⟩ := hp25
            have hT : KT u u24 := KT.tr (by exact hT) hTu24.1
            have hI_15_9_u24 : fI u24 15 9 = (fI u20 15 9) := hTu24.2.1
            have hI_15_10_u24 : fI u24 15 10 = (fI u20 15 10) := hTu24.2.2.1
            have hI_15_11_u24 : fI u24 15 11 = (fI u20 15 11) := hTu24.2.2.2.1
            have hI_15_12_u24 : fI u24 15 12 = (fI u20 15 12) := hTu24.2.2.2.2
            have e30 : ((i_k5 + 1)).toInt = (i_k5).toInt + 1 := i_add rfl rfl (by omega)
            refine lv_iinc (v := (i_k5 + 1)) (lv' := [(3, .int (i_k5 + 1)), (2, .int r19), (4, .int (fI u4 1 4)), (0, .ref (a 27)), (1, .int 4)]) hx hb dX5_readProduct_67 hl (k := 2) rfl rfl (by decide) rfl (fun ls hl => ?_)
            refine lv_goto (tgt := 8) hx hb dX5_readProduct_70 (by decide) ?_
            exact ih_k5 _ _ _ _ ((i_k5 + 1)) (r19) hO (lv_sub hl [0, 1, 3, 4] rfl) (by exact hJ) (by exact hT) (by exact hW) (by first | decide | omega) (by first | decide | omega) (by first | decide | omega)
  exact LP_8_k5 4000 _ _ _ _ (0) (r1) hO (lv_sub hl [0, 1, 2, 3] rfl) (by exact hJ) (by exact hT) (by exact hW) (by first | decide | omega) (by first | decide | omega) (by first | decide | omega)
set_option maxHeartbeats 4000000 in
set_option maxRecDepth 100000 in
theorem T_X5_readSum_4 (l : Launch) (D : va_G) (cy : Nat → ClassId) (a : Nat → Nat) (u : St) (hJ : CI a u) (hW : fR u 2 = a 15)   : Mi l D cy (cW cy a) yX5_readSum (.code yX5_readSum cX5_readSum 5 (some .boolean)) (rmo 29 657) [.ref (a 27), .int 4] u (fun (r : Int32) (u' : St) => (r = 0 ∨ r = 1) ∧ (CI a u') ∧ (KT u u') ∧ (fR u' 2 = a 15)) := by
  refine Mi.of (own := RX5) rfl (by decide) (Nat.le_of_ble_eq_true rfl) ?_
  have hT : KT u u := KT.rf
  intro p e s m below meth c A Q ls C hret hO hl
  obtain ⟨hx, hb, hml, hown, ht, hK, hA⟩ := id C
  have hl : lv_has ls 5 [(0, .ref (a 27)), (1, .int 4)] := hl
  refine lv_aload_n hx hb dX5_readSum_0 rfl (lv_at hl 0 rfl) ?_
  refine lv_iload_n hx hb dX5_readSum_1 rfl (lv_at hl 1 rfl) ?_
  refine cVi (w := cW cy a) (As := [.int 4]) (rest := []) C hO (T_X5_readProduct_4 l D cy a _ (by exact hJ) (by exact hW)) (cwV 1 ht (gV wd_767 wd_769 wd_22 wd_114 wd_770) rfl rfl rfl hd_yX5_readProduct ⟨Nat.le_of_ble_eq_true rfl, Nat.le_of_ble_eq_true rfl⟩) 27 rfl cW_27 rfl rfl hl.1 (Nat.le_of_ble_eq_true rfl) dX5_readSum_2 rfl ⟨Nat.zero_le _, Nat.zero_le _⟩ (fun r1 u2 H locs hp3 hO => ?_)
  obtain ⟨hr1, hJ, hTu2, hW⟩ := hp3
  have gr1 : 0 ≤ r1.toInt ∧ r1.toInt ≤ 1 := by rcases hr1 with h | h <;> rw [h] <;> decide
  have hT : KT u u2 := KT.tr (by exact hT) hTu2
  refine lv_istore_n (lv' := [(2, .int r1), (0, .ref (a 27)), (1, .int 4)]) hx hb dX5_readSum_5 rfl hl (by decide) rfl (fun ls hl => ?_)
  refine lv_iconst (v := 0) hx hb dX5_readSum_6 (by decide) ?_
  refine lv_istore_n (lv' := [(3, .int 0), (2, .int r1), (0, .ref (a 27)), (1, .int 4)]) hx hb dX5_readSum_7 rfl hl (by decide) rfl (fun ls hl => ?_)
  have LP_8_k5 : ∀ (n : Nat) (u4 : St) (H : Heap) (locs : List Loc) (ls : Array Slot) (i_k5 : Int32) (w2_k5 : Int32), Wo D A (cW cy a u4) s.heap H locs → lv_has ls 5 [(3, .int i_k5), (2, .int w2_k5), (0, .ref (a 27)), (1, .int 4)] → CI a u4 → KT u u4 → fR u4 2 = a 15 → 0 ≤ i_k5.toInt ∧ i_k5.toInt ≤ 1600 → 0 ≤ w2_k5.toInt ∧ w2_k5.toInt ≤ 1 → 1600 - i_k5.toInt < (n : Int) → W p l e (rmo 29 657) s m [.ref (a 27), .int 4].toArray below meth c H locs 0 0 Q (F0 m 8 ls []) := by
    intro n
    induction n with
    | zero =>
      intro u4 H locs ls i_k5 w2_k5 hO hl hJ hT hW iv0_k5 iv1_k5 hm_k5
      exact absurd hm_k5 (by omega)
    | succ n ih_k5 =>
      intro u4 H locs ls i_k5 w2_k5 hO hl hJ hT hW iv0_k5 iv1_k5 hm_k5
      refine lv_iload_n hx hb dX5_readSum_8 rfl (lv_at hl 0 rfl) ?_
      refine lv_sipush (v := 1600) hx hb dX5_readSum_9 (by decide) ?_
      refine cs_ge (tgt := 84) (X := (i_k5).toInt) (Y := 1600) hx hb dX5_readSum_12 (by decide) rfl rfl (fun c6 => ?_) (fun c6 => ?_)
      · refine lv_iload_n hx hb dX5_readSum_84 rfl (lv_at hl 1 rfl) ?_
        have hw2_k5 : w2_k5 = 0 ∨ w2_k5 = 1 := i_b01 rfl (by omega) (by omega)
        refine hret _ _ _ _ _ _ dX5_readSum_85 (by rcases hw2_k5 with h | h <;> rw [h] <;> rfl) ?_ hO
        exact ⟨hw2_k5, hJ, hT, hW⟩
      · refine lv_iload_n hx hb dX5_readSum_15 rfl (lv_at hl 1 rfl) ?_
        refine bs_eq (tgt := 84) (X := (w2_k5).toInt) hx hb dX5_readSum_16 (by decide) rfl (fun c7 => ?_) (fun c7 => ?_)
        · refine lv_iload_n hx hb dX5_readSum_84 rfl (lv_at hl 1 rfl) ?_
          have hw2_k5 : w2_k5 = 0 ∨ w2_k5 = 1 := i_b01 rfl (by omega) (by omega)
          refine hret _ _ _ _ _ _ dX5_readSum_85 (by rcases hw2_k5 with h | h <;> rw [h] <;> rfl) ?_ hO
          exact ⟨hw2_k5, hJ, hT, hW⟩
        · refine lv_aload_n hx hb dX5_readSum_19 rfl (lv_at hl 2 rfl) ?_
          refine gf_RX5_9 (v := .ref (a 1)) C hO 27 cW_27 rfl dX5_readSum_20 ?_
          refine gf_RX5_36 (v := .int (fI u4 1 4)) C hO 1 cW_1 rfl dX5_readSum_23 ?_
          refine lv_bipush (v := 43) hx hb dX5_readSum_26 (by decide) ?_
          refine cs_eq (tgt := 43) (X := ((fI u4 1 4)).toInt) (Y := 43) hx hb dX5_readSum_28 (by decide) rfl rfl (fun c8 => ?_) (fun c8 => ?_)
          · refine lv_aload_n hx hb dX5_readSum_43 rfl (lv_at hl 2 rfl) ?_
            refine gf_RX5_9 (v := .ref (a 1)) C hO 27 cW_27 rfl dX5_readSum_44 ?_
            refine gf_RX5_36 (v := .int (fI u4 1 4)) C hO 1 cW_1 rfl dX5_readSum_47 ?_
            refine lv_istore (lv' := [(4, .int (fI u4 1 4)), (3, .int i_k5), (2, .int w2_k5), (0, .ref (a 27)), (1, .int 4)]) hx hb dX5_readSum_50 hl (by decide) rfl (fun ls hl => ?_)
            refine lv_aload_n hx hb dX5_readSum_52 rfl (lv_at hl 3 rfl) ?_
            refine gf_RX5_9 (v := .ref (a 1)) C hO 27 cW_27 rfl dX5_readSum_53 ?_
            refine cVv (w := cW cy a) (As := []) (rest := []) C hO (T_X7_advance l D cy a _ (by exact hJ) (by exact hW)) (cwV 0 ht (gV wd_695 wd_541 wd_542 wd_111 wd_543) rfl rfl rfl hd_yX7_advance ⟨Nat.le_of_ble_eq_true rfl, Nat.le_of_ble_eq_true rfl⟩) 1 rfl cW_1 rfl rfl hl.1 (Nat.le_of_ble_eq_true rfl) dX5_readSum_56 rfl ⟨Nat.zero_le _, Nat.zero_le _⟩ (fun u10 H locs hp11 hO => ?_)
            have g12 : 0 ≤ (fI u4 15 9).toInt ∧ (fI u4 15 9).toInt ≤ 8 := by have h := CI_15_9 hJ; exact h
            have g13 : 0 ≤ (fI u4 15 10).toInt ∧ (fI u4 15 10).toInt ≤ 14 := by have h := CI_15_10 hJ; exact h
            have g14 : 0 ≤ (fI u4 15 11).toInt ∧ (fI u4 15 11).toInt ≤ 8 := by have h := CI_15_11 hJ; exact h
            have g15 : 0 ≤ (fI u4 15 12).toInt ∧ (fI u4 15 12).toInt ≤ 6 := by have h := CI_15_12 hJ; exact h
            obtain ⟨hJ, hTu10, hW⟩ := hp11
            have hT : KT u u10 := KT.tr (by exact hT) hTu10.1
            have hI_15_9_u10 : fI u10 15 9 = (fI u4 15 9) := hTu10.2.1
            have hI_15_10_u10 : fI u10 15 10 = (fI u4 15 10) := hTu10.2.2.1
            have hI_15_11_u10 : fI u10 15 11 = (fI u4 15 11) := hTu10.2.2.2.1
            have hI_15_12_u10 : fI u10 15 12 = (fI u4 15 12) := hTu10.2.2.2.2
            refine lv_aload_n hx hb dX5_readSum_59 rfl (lv_at hl 3 rfl) ?_
            refine lv_iload_n hx hb dX5_readSum_60 rfl (lv_at hl 4 rfl) ?_
            refine cVi (w := cW cy a) (As := [.int 4]) (rest := []) C hO (T_X5_readProduct_4 l D cy a _ (by exact hJ) (by exact hW)) (cwV 1 ht (gV wd_767 wd_769 wd_22 wd_114 wd_770) rfl rfl rfl hd_yX5_readProduct ⟨Nat.le_of_ble_eq_true rfl, Nat.le_of_ble_eq_true rfl⟩) 27 rfl cW_27 rfl rfl hl.1 (Nat.le_of_ble_eq_true rfl) dX5_readSum_61 rfl ⟨Nat.zero_le _, Nat.zero_le _⟩ (fun r16 u17 H locs hp18 hO => ?_)
            obtain ⟨hr16, hJ, hTu17, hW⟩ := hp18
            have gr16 : 0 ≤ r16.toInt ∧ r16.toInt ≤ 1 := by rcases hr16 with h | h <;> rw [h] <;> decide
            have hT : KT u u17 := KT.tr (by exact hT) hTu17
            refine lv_istore_n (lv' := [(2, .int r16), (4, .int (fI u4 1 4)), (3, .int i_k5), (0, .ref (a 27)), (1, .int 4)]) hx hb dX5_readSum_64 rfl hl (by decide) rfl (fun ls hl => ?_)
            refine lv_aload_n hx hb dX5_readSum_65 rfl (lv_at hl 3 rfl) ?_
            refine gf_RX5_15 (v := .ref (a 15)) C hO 27 cW_27 (congrArg (fun z : Nat => some (Value.ref z)) hW) dX5_readSum_66 ?_
            refine gf_RX5_173 (v := .ref (a 24)) C hO 15 cW_15 rfl dX5_readSum_69 ?_
            refine lv_iload hx hb dX5_readSum_72 (lv_at hl 1 rfl) ?_
            refine lv_ineg hx hb dX5_readSum_74 ?_
            refine lv_topi (fun z19 ez19 => ?_)
            refine cVv (w := cW cy a) (As := [.int z19]) (rest := []) C hO (T_X4_add l D cy a _ (by exact hJ) (by exact hW) (z19)) (cwV 1 ht (gV wd_759 wd_760 wd_761 wd_113 wd_762) rfl rfl rfl hd_yX4_add ⟨Nat.le_of_ble_eq_true rfl, Nat.le_of_ble_eq_true rfl⟩) 24 rfl cW_24 rfl rfl hl.1 (Nat.le_of_ble_eq_true rfl) dX5_readSum_75 rfl ⟨Nat.zero_le _, Nat.zero_le _⟩ (fun u21 H locs hp22 hO => ?_)
            have g23 : 0 ≤ (fI u17 15 9).toInt ∧ (fI u17 15 9).toInt ≤ 8 := by have h := CI_15_9 hJ; exact h
            have g24 : 0 ≤ (fI u17 15 10).toInt ∧ (fI u17 15 10).toInt ≤ 14 := by have h := CI_15_10 hJ; exact h
            have g25 : 0 ≤ (fI u17 15 11).toInt ∧ (fI u17 15 11).toInt ≤ 8 := by have h := CI_15_11 hJ; exact h
            have g26 : 0 ≤ (fI u17 15 12).toInt ∧ (fI u17 15 12).toInt ≤ 6 := by have h := CI_15_12 hJ; exact h
            obtain ⟨hJ, hTu21, hW⟩ := hp22
            have hT : KT u u21 := KT.tr (by exact hT) hTu21.1
            have hI_15_9_u21 : fI u21 15 9 = (fI u17 15 9) := hTu21.2.1
            have hI_15_10_u21 : fI u21 15 10 = (fI u17 15 10) := hTu21.2.2.1
            have hI_15_11_u21 : fI u21 15 11 = (fI u17 15 11) := hTu21.2.2.2.1
            have hI_15_12_u21 : fI u21 15 12 = (fI u17 15 12) := hTu21.2.2.2.2
            have e27 : ((i_k5 + 1)).toInt = (i_k5).toInt + 1 := i_add rfl rfl (by omega)
            refine lv_iinc (v := (i_k5 + 1)) (lv' := [(3, .int (i_k5 + 1)), (2, .int r16), (4, .int (fI u4 1 4)), (0, .ref (a 27)), (1, .int 4)]) hx hb dX5_readSum_78 hl (k := 2) rfl rfl (by decide) rfl (fun ls hl => ?_)
            refine lv_goto (tgt := 8) hx hb dX5_readSum_81 (by decide) ?_
            exact ih_k5 _ _ _ _ ((i_k5 + 1)) (r16) hO (lv_sub hl [0, 1, 3, 4] rfl) (by exact hJ) (by exact hT) (by exact hW) (by first | decide | omega) (by first | decide | omega) (by first | decide | omega)
          · refine lv_aload_n hx hb dX5_readSum_31 rfl (lv_at hl 2 rfl) ?_
            refine gf_RX5_9 (v := .ref (a 1)) C hO 27 cW_27 rfl dX5_readSum_32 ?_
            refine gf_RX5_36 (v := .int (fI u4 1 4)) C hO 1 cW_1 rfl dX5_readSum_35 ?_
            refine lv_bipush (v := 45) hx hb dX5_readSum_38 (by decide) ?_
            refine cs_ne (tgt := 84) (X := ((fI u4 1 4)).toInt) (Y := 45) hx hb dX5_readSum_40 (by decide) rfl rfl (fun c28 => ?_) (fun c28 => ?_)
            · refine lv_iload_n hx hb dX5_readSum_84 rfl (lv_at hl 1 rfl) ?_
              have hw2_k5 : w2_k5 = 0 ∨ w2_k5 = 1 := i_b01 rfl (by omega) (by omega)
              refine hret _ _ _ _ _ _ dX5_readSum_85 (by rcases hw2_k5 with h | h <;> rw [h] <;> rfl) ?_ hO
              exact ⟨hw2_k5, hJ, hT, hW⟩
            · refine lv_aload_n hx hb dX5_readSum_43 rfl (lv_at hl 2 rfl) ?_
              refine gf_RX5_9 (v := .ref (a 1)) C hO 27 cW_27 rfl dX5_readSum_44 ?_
              refine gf_RX5_36 (v := .int (fI u4 1 4)) C hO 1 cW_1 rfl dX5_readSum_47 ?_
              refine lv_istore (lv' := [(4, .int (fI u4 1 4)), (3, .int i_k5), (2, .int w2_k5), (0, .ref (a 27)), (1, .int 4)]) hx hb dX5_readSum_50 hl (by decide) rfl (fun ls hl => ?_)
              refine lv_aload_n hx hb dX5_readSum_52 rfl (lv_at hl 3 rfl) ?_
              refine gf_RX5_9 (v := .ref (a 1)) C hO 27 cW_27 rfl dX5_readSum_53 ?_
              refine cVv (w := cW cy a) (As := []) (rest := []) C hO (T_X7_advance l D cy a _ (by exact hJ) (by exact hW)) (cwV 0 ht (gV wd_695 wd_541 wd_542 wd_111 wd_543) rfl rfl rfl hd_yX7_advance ⟨Nat.le_of_ble_eq_true rfl, Nat.le_of_ble_eq_true rfl⟩) 1 rfl cW_1 rfl rfl hl.1 (Nat.le_of_ble_eq_true rfl) dX5_readSum_56 rfl ⟨Nat.zero_le _, Nat.zero_le _⟩ (fun u30 H locs hp31 hO => ?_)
              have g32 : 0 ≤ (fI u4 15 9).toInt ∧ (fI u4 15 9).toInt ≤ 8 := by have h := CI_15_9 hJ; exact h
              have g33 : 0 ≤ (fI u4 15 10).toInt ∧ (fI u4 15 10).toInt ≤ 14 := by have h := CI_15_10 hJ; exact h
              have g34 : 0 ≤ (fI u4 15 11).toInt ∧ (fI u4 15 11).toInt ≤ 8 := by have h := CI_15_11 hJ; exact h
              have g35 : 0 ≤ (fI u4 15 12).toInt ∧ (fI u4 15 12).toInt ≤ 6 := by have h := CI_15_12 hJ; exact h
              obtain ⟨hJ, hTu30, hW⟩ := hp31
              have hT : KT u u30 := KT.tr (by exact hT) hTu30.1
              have hI_15_9_u30 : fI u30 15 9 = (fI u4 15 9) := hTu30.2.1
              have hI_15_10_u30 : fI u30 15 10 = (fI u4 15 10) := hTu30.2.2.1
              have hI_15_11_u30 : fI u30 15 11 = (fI u4 15 11) := hTu30.2.2.2.1
              have hI_15_12_u30 : fI u30 15 12 = (fI u4 15 12) := hTu30.2.2.2.2
              refine lv_aload_n hx hb dX5_readSum_59 rfl (lv_at hl 3 rfl) ?_
              refine lv_iload_n hx hb dX5_readSum_60 rfl (lv_at hl 4 rfl) ?_
              refine cVi (w := cW cy a) (As := [.int 4]) (rest := []) C hO (T_X5_readProduct_4 l D cy a _ (by exact hJ) (by exact hW)) (cwV 1 ht (gV wd_767 wd_769 wd_22 wd_114 wd_770) rfl rfl rfl hd_yX5_readProduct ⟨Nat.le_of_ble_eq_true rfl, Nat.le_of_ble_eq_true rfl⟩) 27 rfl cW_27 rfl rfl hl.1 (Nat.le_of_ble_eq_true rfl) dX5_readSum_61 rfl ⟨Nat.zero_le _, Nat.zero_le _⟩ (fun r36 u37 H locs hp38 hO => ?_)
              obtain ⟨hr36, hJ, hTu37, hW⟩ := hp38
              have gr36 : 0 ≤ r36.toInt ∧ r36.toInt ≤ 1 := by rcases hr36 with h | h <;> rw [h] <;> decide
              have hT : KT u u37 := KT.tr (by exact hT) hTu37
              refine lv_istore_n (lv' := [(2, .int r36), (4, .int (fI u4 1 4)), (3, .int i_k5), (0, .ref (a 27)), (1, .int 4)]) hx hb dX5_readSum_64 rfl hl (by decide) rfl (fun ls hl => ?_)
              refine lv_aload_n hx hb dX5_readSum_65 rfl (lv_at hl 3 rfl) ?_
              refine gf_RX5_15 (v := .ref (a 15)) C hO 27 cW_27 (congrArg (fun z : Nat => some (Value.ref z)) hW) dX5_readSum_66 ?_
              refine gf_RX5_173 (v := .ref (a 24)) C hO 15 cW_15 rfl dX5_readSum_69 ?_
              refine lv_iload hx hb dX5_readSum_72 (lv_at hl 1 rfl) ?_
              refine lv_ineg hx hb dX5_readSum_74 ?_
              refine lv_topi (fun z39 ez39 => ?_)
              refine cVv (w := cW cy a) (As := [.int z39]) (rest := []) C hO (T_X4_add l D cy a _ (by exact hJ) (by exact hW) (z39)) (cwV 1 ht (gV wd_759 wd_760 wd_761 wd_113 wd_762) rfl rfl rfl hd_yX4_add ⟨Nat.le_of_ble_eq_true rfl, Nat.le_of_ble_eq_true rfl⟩) 24 rfl cW_24 rfl rfl hl.1 (Nat.le_of_ble_eq_true rfl) dX5_readSum_75 rfl ⟨Nat.zero_le _, Nat.zero_le _⟩ (fun u41 H locs hp42 hO => ?_)
              have g43 : 0 ≤ (fI u37 15 9).toInt ∧ (fI u37 15 9).toInt ≤ 8 := by have h := CI_15_9 hJ; exact h
              have g44 : 0 ≤ (fI u37 15 10).toInt ∧ (fI u37 15 10).toInt ≤ 14 := by have h := CI_15_10 hJ; exact h
              have g45 : 0 ≤ (fI u37 15 11).toInt ∧ (fI u37 15 11).toInt ≤ 8 := by have h := CI_15_11 hJ; exact h
              have g46 : 0 ≤ (fI u37 15 12).toInt ∧ (fI u37 15 12).toInt ≤ 6 := by have h := CI_15_12 hJ; exact h
              obtain ⟨hJ, hTu41, hW⟩ := hp42
              have hT : KT u u41 := KT.tr (by exact hT) hTu41.1
              have hI_15_9_u41 : fI u41 15 9 = (fI u37 15 9) := hTu41.2.1
              have hI_15_10_u41 : fI u41 15 10 = (fI u37 15 10) := hTu41.2.2.1
              have hI_15_11_u41 : fI u41 15 11 = (fI u37 15 11) := hTu41.2.2.2.1
              have hI_15_12_u41 : fI u41 15 12 = (fI u37 15 12) := hTu41.2.2.2.2
              have e47 : ((i_k5 + 1)).toInt = (i_k5).toInt + 1 := i_add rfl rfl (by omega)
              refine lv_iinc (v := (i_k5 + 1)) (lv' := [(3, .int (i_k5 + 1)), (2, .int r36), (4, .int (fI u4 1 4)), (0, .ref (a 27)), (1, .int 4)]) hx hb dX5_readSum_78 hl (k := 2) rfl rfl (by decide) rfl (fun ls hl => ?_)
              refine lv_goto (tgt := 8) hx hb dX5_readSum_81 (by decide) ?_
              exact ih_k5 _ _ _ _ ((i_k5 + 1)) (r36) hO (lv_sub hl [0, 1, 3, 4] rfl) (by exact hJ) (by exact hT) (by exact hW) (by first | decide | omega) (by first | decide | omega) (by first | decide | omega)
  exact LP_8_k5 4000 _ _ _ _ (0) (r1) hO (lv_sub hl [0, 1, 2, 3] rfl) (by exact hJ) (by exact hT) (by exact hW) (by first | decide | omega) (by first | decide | omega) (by first | decide | omega)
set_option maxHeartbeats 4000000 in
set_option maxRecDepth 100000 in
theorem T_X5_readNot_4 (l : Launch) (D : va_G) (cy : Nat → ClassId) (a : Nat → Nat) (u : St) (hJ : CI a u) (hW : fR u 2 = a 15)   : Mi l D cy (cW cy a) yX5_readNot (.code yX5_readNot cX5_readNot 3 (some .boolean)) (rmo 24 544) [.ref (a 27), .int 4] u (fun (r : Int32) (u' : St) => (r = 0 ∨ r = 1) ∧ (CI a u') ∧ (KT u u') ∧ (fR u' 2 = a 15)) := by
  refine Mi.of (own := RX5) rfl (by decide) (Nat.le_of_ble_eq_true rfl) ?_
  have hT : KT u u := KT.rf
  intro p e s m below meth c A Q ls C hret hO hl
  obtain ⟨hx, hb, hml, hown, ht, hK, hA⟩ := id C
  have hl : lv_has ls 3 [(0, .ref (a 27)), (1, .int 4)] := hl
  refine lv_iload_n hx hb dX5_readNot_0 rfl (lv_at hl 1 rfl) ?_
  refine lv_bipush (v := 6) hx hb dX5_readNot_1 (by decide) ?_
  refine ct_le (tgt := 12) (X := 4) (Y := 6) hx hb dX5_readNot_3 (by decide) rfl rfl (by omega) ?_
  refine lv_aload_n hx hb dX5_readNot_12 rfl (lv_at hl 0 rfl) ?_
  refine gf_RX5_9 (v := .ref (a 1)) C hO 27 cW_27 rfl dX5_readNot_13 ?_
  refine cVv (w := cW cy a) (As := []) (rest := []) C hO (T_X7_advance l D cy a _ (by exact hJ) (by exact hW)) (cwV 0 ht (gV wd_695 wd_541 wd_542 wd_111 wd_543) rfl rfl rfl hd_yX7_advance ⟨Nat.le_of_ble_eq_true rfl, Nat.le_of_ble_eq_true rfl⟩) 1 rfl cW_1 rfl rfl hl.1 (Nat.le_of_ble_eq_true rfl) dX5_readNot_16 rfl ⟨Nat.zero_le _, Nat.zero_le _⟩ (fun u2 H locs hp3 hO => ?_)
  have g4 : 0 ≤ (fI u 15 9).toInt ∧ (fI u 15 9).toInt ≤ 8 := by have h := CI_15_9 hJ; exact h
  have g5 : 0 ≤ (fI u 15 10).toInt ∧ (fI u 15 10).toInt ≤ 14 := by have h := CI_15_10 hJ; exact h
  have g6 : 0 ≤ (fI u 15 11).toInt ∧ (fI u 15 11).toInt ≤ 8 := by have h := CI_15_11 hJ; exact h
  have g7 : 0 ≤ (fI u 15 12).toInt ∧ (fI u 15 12).toInt ≤ 6 := by have h := CI_15_12 hJ; exact h
  obtain ⟨hJ, hTu2, hW⟩ := hp3
  have hT : KT u u2 := KT.tr (by exact hT) hTu2.1
  have hI_15_9_u2 : fI u2 15 9 = (fI u 15 9) := hTu2.2.1
  have hI_15_10_u2 : fI u2 15 10 = (fI u 15 10) := hTu2.2.2.1
  have hI_15_11_u2 : fI u2 15 11 = (fI u 15 11) := hTu2.2.2.2.1
  have hI_15_12_u2 : fI u2 15 12 = (fI u 15 12) := hTu2.2.2.2.2
  refine lv_aload_n hx hb dX5_readNot_19 rfl (lv_at hl 0 rfl) ?_
  refine lv_iload_n hx hb dX5_readNot_20 rfl (lv_at hl 1 rfl) ?_
  refine lv_iconst (v := 1) hx hb dX5_readNot_21 (by decide) ?_
  refine lv_iadd hx hb dX5_readNot_22 ?_
  refine tE (y := 5) rfl ?_
  refine cVi (w := cW cy a) (As := [.int 5]) (rest := []) C hO (T_X5_readOne_5 l D cy a _ (by exact hJ) (by exact hW)) (cwV 1 ht (gV wd_751 wd_753 wd_19 wd_114 wd_754) rfl rfl rfl hd_yX5_readOne ⟨Nat.le_of_ble_eq_true rfl, Nat.le_of_ble_eq_true rfl⟩) 27 rfl cW_27 rfl rfl hl.1 (Nat.le_of_ble_eq_true rfl) dX5_readNot_23 rfl ⟨Nat.zero_le _, Nat.zero_le _⟩ (fun r8 u9 H locs hp10 hO => ?_)
  obtain ⟨hr8, hJ, hTu9, hW⟩ := hp10
  have gr8 : 0 ≤ r8.toInt ∧ r8.toInt ≤ 1 := by rcases hr8 with h | h <;> rw [h] <;> decide
  have hT : KT u u9 := KT.tr (by exact hT) hTu9
  refine lv_istore_n (lv' := [(2, .int r8), (0, .ref (a 27)), (1, .int 4)]) hx hb dX5_readNot_26 rfl hl (by decide) rfl (fun ls hl => ?_)
  refine lv_aload_n hx hb dX5_readNot_27 rfl (lv_at hl 1 rfl) ?_
  refine gf_RX5_15 (v := .ref (a 15)) C hO 27 cW_27 (congrArg (fun z : Nat => some (Value.ref z)) hW) dX5_readNot_28 ?_
  refine gf_RX5_173 (v := .ref (a 24)) C hO 15 cW_15 rfl dX5_readNot_31 ?_
  refine lv_bipush (v := (-15)) hx hb dX5_readNot_34 (by decide) ?_
  refine cVv (w := cW cy a) (As := [.int (-15)]) (rest := []) C hO (T_X4_add l D cy a _ (by exact hJ) (by exact hW) ((-15))) (cwV 1 ht (gV wd_759 wd_760 wd_761 wd_113 wd_762) rfl rfl rfl hd_yX4_add ⟨Nat.le_of_ble_eq_true rfl, Nat.le_of_ble_eq_true rfl⟩) 24 rfl cW_24 rfl rfl hl.1 (Nat.le_of_ble_eq_true rfl) dX5_readNot_36 rfl ⟨Nat.zero_le _, Nat.zero_le _⟩ (fun u12 H locs hp13 hO => ?_)
  have g14 : 0 ≤ (fI u9 15 9).toInt ∧ (fI u9 15 9).toInt ≤ 8 := by have h := CI_15_9 hJ; exact h
  have g15 : 0 ≤ (fI u9 15 10).toInt ∧ (fI u9 15 10).toInt ≤ 14 := by have h := CI_15_10 hJ; exact h
  have g16 : 0 ≤ (fI u9 15 11).toInt ∧ (fI u9 15 11).toInt ≤ 8 := by have h := CI_15_11 hJ; exact h
  have g17 : 0 ≤ (fI u9 15 12).toInt ∧ (fI u9 15 12).toInt ≤ 6 := by have h := CI_15_12 hJ; exact h
  obtain ⟨hJ, hTu12, hW⟩ := hp13
  have hT : KT u u12 := KT.tr (by exact hT) hTu12.1
  have hI_15_9_u12 : fI u12 15 9 = (fI u9 15 9) := hTu12.2.1
  have hI_15_10_u12 : fI u12 15 10 = (fI u9 15 10) := hTu12.2.2.1
  have hI_15_11_u12 : fI u12 15 11 = (fI u9 15 11) := hTu12.2.2.2.1
  have hI_15_12_u12 : fI u12 15 12 = (fI u9 15 12) := hTu12.2.2.2.2
  refine lv_iload_n hx hb dX5_readNot_39 rfl (lv_at hl 0 rfl) ?_
  refine hret _ _ _ _ _ _ dX5_readNot_40 (by rcases hr8 with h | h <;> rw [h] <;> rfl) ?_ hO
  exact ⟨hr8, hJ, hT, hW⟩
set_option maxHeartbeats 4000000 in
set_option maxRecDepth 100000 in
theorem T_X5_readOne_4 (l : Launch) (D : va_G) (cy : Nat → ClassId) (a : Nat → Nat) (u : St) (hJ : CI a u) (hW : fR u 2 = a 15)   : Mi l D cy (cW cy a) yX5_readOne (.code yX5_readOne cX5_readOne 4 (some .boolean)) (rmo 30 681) [.ref (a 27), .int 4] u (fun (r : Int32) (u' : St) => (r = 0 ∨ r = 1) ∧ (CI a u') ∧ (KT u u') ∧ (fR u' 2 = a 15)) := by
  refine Mi.of (own := RX5) rfl (by decide) (Nat.le_of_ble_eq_true rfl) ?_
  have hT : KT u u := KT.rf
  intro p e s m below meth c A Q ls C hret hO hl
  obtain ⟨hx, hb, hml, hown, ht, hK, hA⟩ := id C
  have hl : lv_has ls 4 [(0, .ref (a 27)), (1, .int 4)] := hl
  refine lv_aload_n hx hb dX5_readOne_0 rfl (lv_at hl 0 rfl) ?_
  refine gf_RX5_9 (v := .ref (a 1)) C hO 27 cW_27 rfl dX5_readOne_1 ?_
  refine gf_RX5_36 (v := .int (fI u 1 4)) C hO 1 cW_1 rfl dX5_readOne_4 ?_
  refine lv_bipush (v := 15) hx hb dX5_readOne_7 (by decide) ?_
  refine cs_ne (tgt := 18) (X := ((fI u 1 4)).toInt) (Y := 15) hx hb dX5_readOne_9 (by decide) rfl rfl (fun c1 => ?_) (fun c1 => ?_)
  · refine lv_aload_n hx hb dX5_readOne_18 rfl (lv_at hl 0 rfl) ?_
    refine lv_iload_n hx hb dX5_readOne_19 rfl (lv_at hl 1 rfl) ?_
    refine cVi (w := cW cy a) (As := [.int 4]) (rest := []) C hO (T_X5_readSum_4 l D cy a _ (by exact hJ) (by exact hW)) (cwV 1 ht (gV wd_763 wd_765 wd_21 wd_114 wd_766) rfl rfl rfl hd_yX5_readSum ⟨Nat.le_of_ble_eq_true rfl, Nat.le_of_ble_eq_true rfl⟩) 27 rfl cW_27 rfl rfl hl.1 (Nat.le_of_ble_eq_true rfl) dX5_readOne_20 rfl ⟨Nat.zero_le _, Nat.zero_le _⟩ (fun r2 u3 H locs hp4 hO => ?_)
    obtain ⟨hr2, hJ, hTu3, hW⟩ := hp4
    have gr2 : 0 ≤ r2.toInt ∧ r2.toInt ≤ 1 := by rcases hr2 with h | h <;> rw [h] <;> decide
    have hT : KT u u3 := KT.tr (by exact hT) hTu3
    refine bs_ne (tgt := 28) (X := (r2).toInt) hx hb dX5_readOne_23 (by decide) rfl (fun c5 => ?_) (fun c5 => ?_)
    · refine lv_aload_n hx hb dX5_readOne_28 rfl (lv_at hl 0 rfl) ?_
      refine gf_RX5_9 (v := .ref (a 1)) C hO 27 cW_27 rfl dX5_readOne_29 ?_
      refine gf_RX5_36 (v := .int (fI u3 1 4)) C hO 1 cW_1 rfl dX5_readOne_32 ?_
      refine lv_istore_n (lv' := [(2, .int (fI u3 1 4)), (0, .ref (a 27)), (1, .int 4)]) hx hb dX5_readOne_35 rfl hl (by decide) rfl (fun ls hl => ?_)
      refine lv_iload_n hx hb dX5_readOne_36 rfl (lv_at hl 0 rfl) ?_
      refine lv_bipush (v := 60) hx hb dX5_readOne_37 (by decide) ?_
      refine cs_eq (tgt := 56) (X := ((fI u3 1 4)).toInt) (Y := 60) hx hb dX5_readOne_39 (by decide) rfl rfl (fun c6 => ?_) (fun c6 => ?_)
      · refine lv_aload_n hx hb dX5_readOne_56 rfl (lv_at hl 1 rfl) ?_
        refine gf_RX5_9 (v := .ref (a 1)) C hO 27 cW_27 rfl dX5_readOne_57 ?_
        refine cVv (w := cW cy a) (As := []) (rest := []) C hO (T_X7_advance l D cy a _ (by exact hJ) (by exact hW)) (cwV 0 ht (gV wd_695 wd_541 wd_542 wd_111 wd_543) rfl rfl rfl hd_yX7_advance ⟨Nat.le_of_ble_eq_true rfl, Nat.le_of_ble_eq_true rfl⟩) 1 rfl cW_1 rfl rfl hl.1 (Nat.le_of_ble_eq_true rfl) dX5_readOne_60 rfl ⟨Nat.zero_le _, Nat.zero_le _⟩ (fun u8 H locs hp9 hO => ?_)
        have g10 : 0 ≤ (fI u3 15 9).toInt ∧ (fI u3 15 9).toInt ≤ 8 := by have h := CI_15_9 hJ; exact h
        have g11 : 0 ≤ (fI u3 15 10).toInt ∧ (fI u3 15 10).toInt ≤ 14 := by have h := CI_15_10 hJ; exact h
        have g12 : 0 ≤ (fI u3 15 11).toInt ∧ (fI u3 15 11).toInt ≤ 8 := by have h := CI_15_11 hJ; exact h
        have g13 : 0 ≤ (fI u3 15 12).toInt ∧ (fI u3 15 12).toInt ≤ 6 := by have h := CI_15_12 hJ; exact h
        obtain ⟨hJ, hTu8, hW⟩ := hp9
        have hT : KT u u8 := KT.tr (by exact hT) hTu8.1
        have hI_15_9_u8 : fI u8 15 9 = (fI u3 15 9) := hTu8.2.1
        have hI_15_10_u8 : fI u8 15 10 = (fI u3 15 10) := hTu8.2.2.1
        have hI_15_11_u8 : fI u8 15 11 = (fI u3 15 11) := hTu8.2.2.2.1
        have hI_15_12_u8 : fI u8 15 12 = (fI u3 15 12) := hTu8.2.2.2.2
        refine lv_aload_n hx hb dX5_readOne_63 rfl (lv_at hl 1 rfl) ?_
        refine lv_iload_n hx hb dX5_readOne_64 rfl (lv_at hl 2 rfl) ?_
        refine cVi (w := cW cy a) (As := [.int 4]) (rest := []) C hO (T_X5_readSum_4 l D cy a _ (by exact hJ) (by exact hW)) (cwV 1 ht (gV wd_763 wd_765 wd_21 wd_114 wd_766) rfl rfl rfl hd_yX5_readSum ⟨Nat.le_of_ble_eq_true rfl, Nat.le_of_ble_eq_true rfl⟩) 27 rfl cW_27 rfl rfl hl.1 (Nat.le_of_ble_eq_true rfl) dX5_readOne_65 rfl ⟨Nat.zero_le _, Nat.zero_le _⟩ (fun r14 u15 H locs hp16 hO => ?_)
        obtain ⟨hr14, hJ, hTu15, hW⟩ := hp16
        have gr14 : 0 ≤ r14.toInt ∧ r14.toInt ≤ 1 := by rcases hr14 with h | h <;> rw [h] <;> decide
        have hT : KT u u15 := KT.tr (by exact hT) hTu15
        refine lv_istore_n (lv' := [(3, .int r14), (2, .int (fI u3 1 4)), (0, .ref (a 27)), (1, .int 4)]) hx hb dX5_readOne_68 rfl hl (by decide) rfl (fun ls hl => ?_)
        refine lv_aload_n hx hb dX5_readOne_69 rfl (lv_at hl 2 rfl) ?_
        refine gf_RX5_15 (v := .ref (a 15)) C hO 27 cW_27 (congrArg (fun z : Nat => some (Value.ref z)) hW) dX5_readOne_70 ?_
        refine gf_RX5_173 (v := .ref (a 24)) C hO 15 cW_15 rfl dX5_readOne_73 ?_
        refine lv_iload_n hx hb dX5_readOne_76 rfl (lv_at hl 1 rfl) ?_
        refine lv_ineg hx hb dX5_readOne_77 ?_
        refine lv_topi (fun z17 ez17 => ?_)
        refine cVv (w := cW cy a) (As := [.int z17]) (rest := []) C hO (T_X4_add l D cy a _ (by exact hJ) (by exact hW) (z17)) (cwV 1 ht (gV wd_759 wd_760 wd_761 wd_113 wd_762) rfl rfl rfl hd_yX4_add ⟨Nat.le_of_ble_eq_true rfl, Nat.le_of_ble_eq_true rfl⟩) 24 rfl cW_24 rfl rfl hl.1 (Nat.le_of_ble_eq_true rfl) dX5_readOne_78 rfl ⟨Nat.zero_le _, Nat.zero_le _⟩ (fun u19 H locs hp20 hO => ?_)
        have g21 : 0 ≤ (fI u15 15 9).toInt ∧ (fI u15 15 9).toInt ≤ 8 := by have h := CI_15_9 hJ; exact h
        have g22 : 0 ≤ (fI u15 15 10).toInt ∧ (fI u15 15 10).toInt ≤ 14 := by have h := CI_15_10 hJ; exact h
        have g23 : 0 ≤ (fI u15 15 11).toInt ∧ (fI u15 15 11).toInt ≤ 8 := by have h := CI_15_11 hJ; exact h
        have g24 : 0 ≤ (fI u15 15 12).toInt ∧ (fI u15 15 12).toInt ≤ 6 := by have h := CI_15_12 hJ; exact h
        obtain ⟨hJ, hTu19, hW⟩ := hp20
        have hT : KT u u19 := KT.tr (by exact hT) hTu19.1
        have hI_15_9_u19 : fI u19 15 9 = (fI u15 15 9) := hTu19.2.1
        have hI_15_10_u19 : fI u19 15 10 = (fI u15 15 10) := hTu19.2.2.1
        have hI_15_11_u19 : fI u19 15 11 = (fI u15 15 11) := hTu19.2.2.2.1
        have hI_15_12_u19 : fI u19 15 12 = (fI u15 15 12) := hTu19.2.2.2.2
        refine lv_iload_n hx hb dX5_readOne_81 rfl (lv_at hl 0 rfl) ?_
        refine hret _ _ _ _ _ _ dX5_readOne_82 (by rcases hr14 with h | h <;> rw [h] <;> rfl) ?_ hO
        exact ⟨hr14, hJ, hT, hW⟩
      · refine lv_iload_n hx hb dX5_readOne_42 rfl (lv_at hl 0 rfl) ?_
        refine lv_bipush (v := 62) hx hb dX5_readOne_43 (by decide) ?_
        refine cs_eq (tgt := 56) (X := ((fI u3 1 4)).toInt) (Y := 62) hx hb dX5_readOne_45 (by decide) rfl rfl (fun c25 => ?_) (fun c25 => ?_)
        · refine lv_aload_n hx hb dX5_readOne_56 rfl (lv_at hl 1 rfl) ?_
          refine gf_RX5_9 (v := .ref (a 1)) C hO 27 cW_27 rfl dX5_readOne_57 ?_
          refine cVv (w := cW cy a) (As := []) (rest := []) C hO (T_X7_advance l D cy a _ (by exact hJ) (by exact hW)) (cwV 0 ht (gV wd_695 wd_541 wd_542 wd_111 wd_543) rfl rfl rfl hd_yX7_advance ⟨Nat.le_of_ble_eq_true rfl, Nat.le_of_ble_eq_true rfl⟩) 1 rfl cW_1 rfl rfl hl.1 (Nat.le_of_ble_eq_true rfl) dX5_readOne_60 rfl ⟨Nat.zero_le _, Nat.zero_le _⟩ (fun u27 H locs hp28 hO => ?_)
          have g29 : 0 ≤ (fI u3 15 9).toInt ∧ (fI u3 15 9).toInt ≤ 8 := by have h := CI_15_9 hJ; exact h
          have g30 : 0 ≤ (fI u3 15 10).toInt ∧ (fI u3 15 10).toInt ≤ 14 := by have h := CI_15_10 hJ; exact h
          have g31 : 0 ≤ (fI u3 15 11).toInt ∧ (fI u3 15 11).toInt ≤ 8 := by have h := CI_15_11 hJ; exact h
          have g32 : 0 ≤ (fI u3 15 12).toInt ∧ (fI u3 15 12).toInt ≤ 6 := by have h := CI_15_12 hJ; exact h
          obtain ⟨hJ, hTu27, hW⟩ := hp28
          have hT : KT u u27 := KT.tr (by exact hT) hTu27.1
          have hI_15_9_u27 : fI u27 15 9 = (fI u3 15 9) := hTu27.2.1
          have hI_15_10_u27 : fI u27 15 10 = (fI u3 15 10) := hTu27.2.2.1
          have hI_15_11_u27 : fI u27 15 11 = (fI u3 15 11) := hTu27.2.2.2.1
          have hI_15_12_u27 : fI u27 15 12 = (fI u3 15 12) := hTu27.2.2.2.2
          refine lv_aload_n hx hb dX5_readOne_63 rfl (lv_at hl 1 rfl) ?_
          refine lv_iload_n hx hb dX5_readOne_64 rfl (lv_at hl 2 rfl) ?_
          refine cVi (w := cW cy a) (As := [.int 4]) (rest := []) C hO (T_X5_readSum_4 l D cy a _ (by exact hJ) (by exact hW)) (cwV 1 ht (gV wd_763 wd_765 wd_21 wd_114 wd_766) rfl rfl rfl hd_yX5_readSum ⟨Nat.le_of_ble_eq_true rfl, Nat.le_of_ble_eq_true rfl⟩) 27 rfl cW_27 rfl rfl hl.1 (Nat.le_of_ble_eq_true rfl) dX5_readOne_65 rfl ⟨Nat.zero_le _, Nat.zero_le _⟩ (fun r33 u34 H locs hp35 hO => ?_)
          obtain ⟨hr33, hJ, hTu34, hW⟩ := hp35
          have gr33 : 0 ≤ r33.toInt ∧ r33.toInt ≤ 1 := by rcases hr33 with h | h <;> rw [h] <;> decide
          have hT : KT u u34 := KT.tr (by exact hT) hTu34
          refine lv_istore_n (lv' := [(3, .int r33), (2, .int (fI u3 1 4)), (0, .ref (a 27)), (1, .int 4)]) hx hb dX5_readOne_68 rfl hl (by decide) rfl (fun ls hl => ?_)
          refine lv_aload_n hx hb dX5_readOne_69 rfl (lv_at hl 2 rfl) ?_
          refine gf_RX5_15 (v := .ref (a 15)) C hO 27 cW_27 (congrArg (fun z : Nat => some (Value.ref z)) hW) dX5_readOne_70 ?_
          refine gf_RX5_173 (v := .ref (a 24)) C hO 15 cW_15 rfl dX5_readOne_73 ?_
          refine lv_iload_n hx hb dX5_readOne_76 rfl (lv_at hl 1 rfl) ?_
          refine lv_ineg hx hb dX5_readOne_77 ?_
          refine lv_topi (fun z36 ez36 => ?_)
          refine cVv (w := cW cy a) (As := [.int z36]) (rest := []) C hO (T_X4_add l D cy a _ (by exact hJ) (by exact hW) (z36)) (cwV 1 ht (gV wd_759 wd_760 wd_761 wd_113 wd_762) rfl rfl rfl hd_yX4_add ⟨Nat.le_of_ble_eq_true rfl, Nat.le_of_ble_eq_true rfl⟩) 24 rfl cW_24 rfl rfl hl.1 (Nat.le_of_ble_eq_true rfl) dX5_readOne_78 rfl ⟨Nat.zero_le _, Nat.zero_le _⟩ (fun u38 H locs hp39 hO => ?_)
          have g40 : 0 ≤ (fI u34 15 9).toInt ∧ (fI u34 15 9).toInt ≤ 8 := by have h := CI_15_9 hJ; exact h
          have g41 : 0 ≤ (fI u34 15 10).toInt ∧ (fI u34 15 10).toInt ≤ 14 := by have h := CI_15_10 hJ; exact h
          have g42 : 0 ≤ (fI u34 15 11).toInt ∧ (fI u34 15 11).toInt ≤ 8 := by have h := CI_15_11 hJ; exact h
          have g43 : 0 ≤ (fI u34 15 12).toInt ∧ (fI u34 15 12).toInt ≤ 6 := by have h := CI_15_12 hJ; exact h
          obtain ⟨hJ, hTu38, hW⟩ := hp39
          have hT : KT u u38 := KT.tr (by exact hT) hTu38.1
          have hI_15_9_u38 : fI u38 15 9 = (fI u34 15 9) := hTu38.2.1
          have hI_15_10_u38 : fI u38 15 10 = (fI u34 15 10) := hTu38.2.2.1
          have hI_15_11_u38 : fI u38 15 11 = (fI u34 15 11) := hTu38.2.2.2.1
          have hI_15_12_u38 : fI u38 15 12 = (fI u34 15 12) := hTu38.2.2.2.2
          refine lv_iload_n hx hb dX5_readOne_81 rfl (lv_at hl 0 rfl) ?_
          refine hret _ _ _ _ _ _ dX5_readOne_82 (by rcases hr33 with h | h <;> rw [h] <;> rfl) ?_ hO
          exact ⟨hr33, hJ, hT, hW⟩
        · refine lv_iload_n hx hb dX5_readOne_48 rfl (lv_at hl 0 rfl) ?_
          refine lv_bipush (v := 61) hx hb dX5_readOne_49 (by decide) ?_
          refine cs_eq (tgt := 56) (X := ((fI u3 1 4)).toInt) (Y := 61) hx hb dX5_readOne_51 (by decide) rfl rfl (fun c44 => ?_) (fun c44 => ?_)
          · refine lv_aload_n hx hb dX5_readOne_56 rfl (lv_at hl 1 rfl) ?_
            refine gf_RX5_9 (v := .ref (a 1)) C hO 27 cW_27 rfl dX5_readOne_57 ?_
            refine cVv (w := cW cy a) (As := []) (rest := []) C hO (T_X7_advance l D cy a _ (by exact hJ) (by exact hW)) (cwV 0 ht (gV wd_695 wd_541 wd_542 wd_111 wd_543) rfl rfl rfl hd_yX7_advance ⟨Nat.le_of_ble_eq_true rfl, Nat.le_of_ble_eq_true rfl⟩) 1 rfl cW_1 rfl rfl hl.1 (Nat.le_of_ble_eq_true rfl) dX5_readOne_60 rfl ⟨Nat.zero_le _, Nat.zero_le _⟩ (fun u46 H locs hp47 hO => ?_)
            have g48 : 0 ≤ (fI u3 15 9).toInt ∧ (fI u3 15 9).toInt ≤ 8 := by have h := CI_15_9 hJ; exact h
            have g49 : 0 ≤ (fI u3 15 10).toInt ∧ (fI u3 15 10).toInt ≤ 14 := by have h := CI_15_10 hJ; exact h
            have g50 : 0 ≤ (fI u3 15 11).toInt ∧ (fI u3 15 11).toInt ≤ 8 := by have h := CI_15_11 hJ; exact h
            have g51 : 0 ≤ (fI u3 15 12).toInt ∧ (fI u3 15 12).toInt ≤ 6 := by have h := CI_15_12 hJ; exact h
            obtain ⟨hJ, hTu46, hW⟩ := hp47
            have hT : KT u u46 := KT.tr (by exact hT) hTu46.1
            have hI_15_9_u46 : fI u46 15 9 = (fI u3 15 9) := hTu46.2.1
            have hI_15_10_u46 : fI u46 15 10 = (fI u3 15 10) := hTu46.2.2.1
            have hI_15_11_u46 : fI u46 15 11 = (fI u3 15 11) := hTu46.2.2.2.1
            have hI_15_12_u46 : fI u46 15 12 = (fI u3 15 12) := hTu46.2.2.2.2
            refine lv_aload_n hx hb dX5_readOne_63 rfl (lv_at hl 1 rfl) ?_
            refine lv_iload_n hx hb dX5_readOne_64 rfl (lv_at hl 2 rfl) ?_
            refine cVi (w := cW cy a) (As := [.int 4]) (rest := []) C hO (T_X5_readSum_4 l D cy a _ (by exact hJ) (by exact hW)) (cwV 1 ht (gV wd_763 wd_765 wd_21 wd_114 wd_766) rfl rfl rfl hd_yX5_readSum ⟨Nat.le_of_ble_eq_true rfl, Nat.le_of_ble_eq_true rfl⟩) 27 rfl cW_27 rfl rfl hl.1 (Nat.le_of_ble_eq_true rfl) dX5_readOne_65 rfl ⟨Nat.zero_le _, Nat.zero_le _⟩ (fun r52 u53 H locs hp54 hO => ?_)
            obtain ⟨hr52, hJ, hTu53, hW⟩ := hp54
            have gr52 : 0 ≤ r52.toInt ∧ r52.toInt ≤ 1 := by rcases hr52 with h | h <;> rw [h] <;> decide
            have hT : KT u u53 := KT.tr (by exact hT) hTu53
            refine lv_istore_n (lv' := [(3, .int r52), (2, .int (fI u3 1 4)), (0, .ref (a 27)), (1, .int 4)]) hx hb dX5_readOne_68 rfl hl (by decide) rfl (fun ls hl => ?_)
            refine lv_aload_n hx hb dX5_readOne_69 rfl (lv_at hl 2 rfl) ?_
            refine gf_RX5_15 (v := .ref (a 15)) C hO 27 cW_27 (congrArg (fun z : Nat => some (Value.ref z)) hW) dX5_readOne_70 ?_
            refine gf_RX5_173 (v := .ref (a 24)) C hO 15 cW_15 rfl dX5_readOne_73 ?_
            refine lv_iload_n hx hb dX5_readOne_76 rfl (lv_at hl 1 rfl) ?_
            refine lv_ineg hx hb dX5_readOne_77 ?_
            refine lv_topi (fun z55 ez55 => ?_)
            refine cVv (w := cW cy a) (As := [.int z55]) (rest := []) C hO (T_X4_add l D cy a _ (by exact hJ) (by exact hW) (z55)) (cwV 1 ht (gV wd_759 wd_760 wd_761 wd_113 wd_762) rfl rfl rfl hd_yX4_add ⟨Nat.le_of_ble_eq_true rfl, Nat.le_of_ble_eq_true rfl⟩) 24 rfl cW_24 rfl rfl hl.1 (Nat.le_of_ble_eq_true rfl) dX5_readOne_78 rfl ⟨Nat.zero_le _, Nat.zero_le _⟩ (fun u57 H locs hp58 hO => ?_)
            have g59 : 0 ≤ (fI u53 15 9).toInt ∧ (fI u53 15 9).toInt ≤ 8 := by have h := CI_15_9 hJ; exact h
            have g60 : 0 ≤ (fI u53 15 10).toInt ∧ (fI u53 15 10).toInt ≤ 14 := by have h := CI_15_10 hJ; exact h
            have g61 : 0 ≤ (fI u53 15 11).toInt ∧ (fI u53 15 11).toInt ≤ 8 := by have h := CI_15_11 hJ; exact h
            have g62 : 0 ≤ (fI u53 15 12).toInt ∧ (fI u53 15 12).toInt ≤ 6 := by have h := CI_15_12 hJ; exact h
            obtain ⟨hJ, hTu57, hW⟩ := hp58
            have hT : KT u u57 := KT.tr (by exact hT) hTu57.1
            have hI_15_9_u57 : fI u57 15 9 = (fI u53 15 9) := hTu57.2.1
            have hI_15_10_u57 : fI u57 15 10 = (fI u53 15 10) := hTu57.2.2.1
            have hI_15_11_u57 : fI u57 15 11 = (fI u53 15 11) := hTu57.2.2.2.1
            have hI_15_12_u57 : fI u57 15 12 = (fI u53 15 12) := hTu57.2.2.2.2
            refine lv_iload_n hx hb dX5_readOne_81 rfl (lv_at hl 0 rfl) ?_
            refine hret _ _ _ _ _ _ dX5_readOne_82 (by rcases hr52 with h | h <;> rw [h] <;> rfl) ?_ hO
            exact ⟨hr52, hJ, hT, hW⟩
          · refine lv_iconst (v := 1) hx hb dX5_readOne_54 (by decide) ?_
            refine hret _ _ _ _ _ _ dX5_readOne_55 rfl ?_ hO
            exact ⟨Or.inr rfl, hJ, hT, hW⟩
    · refine lv_iconst (v := 0) hx hb dX5_readOne_26 (by decide) ?_
      refine hret _ _ _ _ _ _ dX5_readOne_27 rfl ?_ hO
      exact ⟨Or.inl rfl, hJ, hT, hW⟩
  · refine lv_aload_n hx hb dX5_readOne_12 rfl (lv_at hl 0 rfl) ?_
    refine lv_iload_n hx hb dX5_readOne_13 rfl (lv_at hl 1 rfl) ?_
    refine cVi (w := cW cy a) (As := [.int 4]) (rest := []) C hO (T_X5_readNot_4 l D cy a _ (by exact hJ) (by exact hW)) (cwV 1 ht (gV wd_755 wd_757 wd_20 wd_114 wd_758) rfl rfl rfl hd_yX5_readNot ⟨Nat.le_of_ble_eq_true rfl, Nat.le_of_ble_eq_true rfl⟩) 27 rfl cW_27 rfl rfl hl.1 (Nat.le_of_ble_eq_true rfl) dX5_readOne_14 rfl ⟨Nat.zero_le _, Nat.zero_le _⟩ (fun r63 u64 H locs hp65 hO => ?_)
    obtain ⟨hr63, hJ, hTu64, hW⟩ := hp65
    have gr63 : 0 ≤ r63.toInt ∧ r63.toInt ≤ 1 := by rcases hr63 with h | h <;> rw [h] <;> decide
    have hT : KT u u64 := KT.tr (by exact hT) hTu64
    refine hret _ _ _ _ _ _ dX5_readOne_17 (by rcases hr63 with h | h <;> rw [h] <;> rfl) ?_ hO
    exact ⟨hr63, hJ, hT, hW⟩
set_option maxHeartbeats 4000000 in
set_option maxRecDepth 100000 in
theorem T_X5_readBoth_4 (l : Launch) (D : va_G) (cy : Nat → ClassId) (a : Nat → Nat) (u : St) (hJ : CI a u) (hW : fR u 2 = a 15)   : Mi l D cy (cW cy a) yX5_readBoth (.code yX5_readBoth cX5_readBoth 4 (some .boolean)) (rmo 31 704) [.ref (a 27), .int 4] u (fun (r : Int32) (u' : St) => (r = 0 ∨ r = 1) ∧ (CI a u') ∧ (KT u u') ∧ (fR u' 2 = a 15)) := by
  refine Mi.of (own := RX5) rfl (by decide) (Nat.le_of_ble_eq_true rfl) ?_
  have hT : KT u u := KT.rf
  intro p e s m below meth c A Q ls C hret hO hl
  obtain ⟨hx, hb, hml, hown, ht, hK, hA⟩ := id C
  have hl : lv_has ls 4 [(0, .ref (a 27)), (1, .int 4)] := hl
  refine lv_aload_n hx hb dX5_readBoth_0 rfl (lv_at hl 0 rfl) ?_
  refine lv_iload_n hx hb dX5_readBoth_1 rfl (lv_at hl 1 rfl) ?_
  refine cVi (w := cW cy a) (As := [.int 4]) (rest := []) C hO (T_X5_readOne_4 l D cy a _ (by exact hJ) (by exact hW)) (cwV 1 ht (gV wd_751 wd_753 wd_19 wd_114 wd_754) rfl rfl rfl hd_yX5_readOne ⟨Nat.le_of_ble_eq_true rfl, Nat.le_of_ble_eq_true rfl⟩) 27 rfl cW_27 rfl rfl hl.1 (Nat.le_of_ble_eq_true rfl) dX5_readBoth_2 rfl ⟨Nat.zero_le _, Nat.zero_le _⟩ (fun r1 u2 H locs hp3 hO => ?_)
  obtain ⟨hr1, hJ, hTu2, hW⟩ := hp3
  have gr1 : 0 ≤ r1.toInt ∧ r1.toInt ≤ 1 := by rcases hr1 with h | h <;> rw [h] <;> decide
  have hT : KT u u2 := KT.tr (by exact hT) hTu2
  refine lv_istore_n (lv' := [(2, .int r1), (0, .ref (a 27)), (1, .int 4)]) hx hb dX5_readBoth_5 rfl hl (by decide) rfl (fun ls hl => ?_)
  refine lv_iconst (v := 0) hx hb dX5_readBoth_6 (by decide) ?_
  refine lv_istore_n (lv' := [(3, .int 0), (2, .int r1), (0, .ref (a 27)), (1, .int 4)]) hx hb dX5_readBoth_7 rfl hl (by decide) rfl (fun ls hl => ?_)
  have LP_8_k5 : ∀ (n : Nat) (u4 : St) (H : Heap) (locs : List Loc) (ls : Array Slot) (i_k5 : Int32) (w2_k5 : Int32), Wo D A (cW cy a u4) s.heap H locs → lv_has ls 4 [(3, .int i_k5), (2, .int w2_k5), (0, .ref (a 27)), (1, .int 4)] → CI a u4 → KT u u4 → fR u4 2 = a 15 → 0 ≤ i_k5.toInt ∧ i_k5.toInt ≤ 1600 → 0 ≤ w2_k5.toInt ∧ w2_k5.toInt ≤ 1 → 1600 - i_k5.toInt < (n : Int) → W p l e (rmo 31 704) s m [.ref (a 27), .int 4].toArray below meth c H locs 0 0 Q (F0 m 8 ls []) := by
    intro n
    induction n with
    | zero =>
      intro u4 H locs ls i_k5 w2_k5 hO hl hJ hT hW iv0_k5 iv1_k5 hm_k5
      exact absurd hm_k5 (by omega)
    | succ n ih_k5 =>
      intro u4 H locs ls i_k5 w2_k5 hO hl hJ hT hW iv0_k5 iv1_k5 hm_k5
      refine lv_iload_n hx hb dX5_readBoth_8 rfl (lv_at hl 0 rfl) ?_
      refine lv_sipush (v := 1600) hx hb dX5_readBoth_9 (by decide) ?_
      refine cs_ge (tgt := 62) (X := (i_k5).toInt) (Y := 1600) hx hb dX5_readBoth_12 (by decide) rfl rfl (fun c6 => ?_) (fun c6 => ?_)
      · refine lv_iload_n hx hb dX5_readBoth_62 rfl (lv_at hl 1 rfl) ?_
        have hw2_k5 : w2_k5 = 0 ∨ w2_k5 = 1 := i_b01 rfl (by omega) (by omega)
        refine hret _ _ _ _ _ _ dX5_readBoth_63 (by rcases hw2_k5 with h | h <;> rw [h] <;> rfl) ?_ hO
        exact ⟨hw2_k5, hJ, hT, hW⟩
      · refine lv_iload_n hx hb dX5_readBoth_15 rfl (lv_at hl 1 rfl) ?_
        refine bs_eq (tgt := 62) (X := (w2_k5).toInt) hx hb dX5_readBoth_16 (by decide) rfl (fun c7 => ?_) (fun c7 => ?_)
        · refine lv_iload_n hx hb dX5_readBoth_62 rfl (lv_at hl 1 rfl) ?_
          have hw2_k5 : w2_k5 = 0 ∨ w2_k5 = 1 := i_b01 rfl (by omega) (by omega)
          refine hret _ _ _ _ _ _ dX5_readBoth_63 (by rcases hw2_k5 with h | h <;> rw [h] <;> rfl) ?_ hO
          exact ⟨hw2_k5, hJ, hT, hW⟩
        · refine lv_aload_n hx hb dX5_readBoth_19 rfl (lv_at hl 2 rfl) ?_
          refine gf_RX5_9 (v := .ref (a 1)) C hO 27 cW_27 rfl dX5_readBoth_20 ?_
          refine gf_RX5_36 (v := .int (fI u4 1 4)) C hO 1 cW_1 rfl dX5_readBoth_23 ?_
          refine lv_bipush (v := 14) hx hb dX5_readBoth_26 (by decide) ?_
          refine cs_ne (tgt := 62) (X := ((fI u4 1 4)).toInt) (Y := 14) hx hb dX5_readBoth_28 (by decide) rfl rfl (fun c8 => ?_) (fun c8 => ?_)
          · refine lv_iload_n hx hb dX5_readBoth_62 rfl (lv_at hl 1 rfl) ?_
            have hw2_k5 : w2_k5 = 0 ∨ w2_k5 = 1 := i_b01 rfl (by omega) (by omega)
            refine hret _ _ _ _ _ _ dX5_readBoth_63 (by rcases hw2_k5 with h | h <;> rw [h] <;> rfl) ?_ hO
            exact ⟨hw2_k5, hJ, hT, hW⟩
          · refine lv_aload_n hx hb dX5_readBoth_31 rfl (lv_at hl 2 rfl) ?_
            refine gf_RX5_9 (v := .ref (a 1)) C hO 27 cW_27 rfl dX5_readBoth_32 ?_
            refine cVv (w := cW cy a) (As := []) (rest := []) C hO (T_X7_advance l D cy a _ (by exact hJ) (by exact hW)) (cwV 0 ht (gV wd_695 wd_541 wd_542 wd_111 wd_543) rfl rfl rfl hd_yX7_advance ⟨Nat.le_of_ble_eq_true rfl, Nat.le_of_ble_eq_true rfl⟩) 1 rfl cW_1 rfl rfl hl.1 (Nat.le_of_ble_eq_true rfl) dX5_readBoth_35 rfl ⟨Nat.zero_le _, Nat.zero_le _⟩ (fun u10 H locs hp11 hO => ?_)
            have g12 : 0 ≤ (fI u4 15 9).toInt ∧ (fI u4 15 9).toInt ≤ 8 := by have h := CI_15_9 hJ; exact h
            have g13 : 0 ≤ (fI u4 15 10).toInt ∧ (fI u4 15 10).toInt ≤ 14 := by have h := CI_15_10 hJ; exact h
            have g14 : 0 ≤ (fI u4 15 11).toInt ∧ (fI u4 15 11).toInt ≤ 8 := by have h := CI_15_11 hJ; exact h
            have g15 : 0 ≤ (fI u4 15 12).toInt ∧ (fI u4 15 12).toInt ≤ 6 := by have h := CI_15_12 hJ; exact h
            obtain ⟨hJ, hTu10, hW⟩ := hp11
            have hT : KT u u10 := KT.tr (by exact hT) hTu10.1
            have hI_15_9_u10 : fI u10 15 9 = (fI u4 15 9) := hTu10.2.1
            have hI_15_10_u10 : fI u10 15 10 = (fI u4 15 10) := hTu10.2.2.1
            have hI_15_11_u10 : fI u10 15 11 = (fI u4 15 11) := hTu10.2.2.2.1
            have hI_15_12_u10 : fI u10 15 12 = (fI u4 15 12) := hTu10.2.2.2.2
            refine lv_aload_n hx hb dX5_readBoth_38 rfl (lv_at hl 2 rfl) ?_
            refine lv_iload_n hx hb dX5_readBoth_39 rfl (lv_at hl 3 rfl) ?_
            refine cVi (w := cW cy a) (As := [.int 4]) (rest := []) C hO (T_X5_readOne_4 l D cy a _ (by exact hJ) (by exact hW)) (cwV 1 ht (gV wd_751 wd_753 wd_19 wd_114 wd_754) rfl rfl rfl hd_yX5_readOne ⟨Nat.le_of_ble_eq_true rfl, Nat.le_of_ble_eq_true rfl⟩) 27 rfl cW_27 rfl rfl hl.1 (Nat.le_of_ble_eq_true rfl) dX5_readBoth_40 rfl ⟨Nat.zero_le _, Nat.zero_le _⟩ (fun r16 u17 H locs hp18 hO => ?_)
            obtain ⟨hr16, hJ, hTu17, hW⟩ := hp18
            have gr16 : 0 ≤ r16.toInt ∧ r16.toInt ≤ 1 := by rcases hr16 with h | h <;> rw [h] <;> decide
            have hT : KT u u17 := KT.tr (by exact hT) hTu17
            refine lv_istore_n (lv' := [(2, .int r16), (3, .int i_k5), (0, .ref (a 27)), (1, .int 4)]) hx hb dX5_readBoth_43 rfl hl (by decide) rfl (fun ls hl => ?_)
            refine lv_aload_n hx hb dX5_readBoth_44 rfl (lv_at hl 2 rfl) ?_
            refine gf_RX5_15 (v := .ref (a 15)) C hO 27 cW_27 (congrArg (fun z : Nat => some (Value.ref z)) hW) dX5_readBoth_45 ?_
            refine gf_RX5_173 (v := .ref (a 24)) C hO 15 cW_15 rfl dX5_readBoth_48 ?_
            refine lv_bipush (v := (-14)) hx hb dX5_readBoth_51 (by decide) ?_
            refine cVv (w := cW cy a) (As := [.int (-14)]) (rest := []) C hO (T_X4_add l D cy a _ (by exact hJ) (by exact hW) ((-14))) (cwV 1 ht (gV wd_759 wd_760 wd_761 wd_113 wd_762) rfl rfl rfl hd_yX4_add ⟨Nat.le_of_ble_eq_true rfl, Nat.le_of_ble_eq_true rfl⟩) 24 rfl cW_24 rfl rfl hl.1 (Nat.le_of_ble_eq_true rfl) dX5_readBoth_53 rfl ⟨Nat.zero_le _, Nat.zero_le _⟩ (fun u20 H locs hp21 hO => ?_)
            have g22 : 0 ≤ (fI u17 15 9).toInt ∧ (fI u17 15 9).toInt ≤ 8 := by have h := CI_15_9 hJ; exact h
            have g23 : 0 ≤ (fI u17 15 10).toInt ∧ (fI u17 15 10).toInt ≤ 14 := by have h := CI_15_10 hJ; exact h
            have g24 : 0 ≤ (fI u17 15 11).toInt ∧ (fI u17 15 11).toInt ≤ 8 := by have h := CI_15_11 hJ; exact h
            have g25 : 0 ≤ (fI u17 15 12).toInt ∧ (fI u17 15 12).toInt ≤ 6 := by have h := CI_15_12 hJ; exact h
            obtain ⟨hJ, hTu20, hW⟩ := hp21
            have hT : KT u u20 := KT.tr (by exact hT) hTu20.1
            have hI_15_9_u20 : fI u20 15 9 = (fI u17 15 9) := hTu20.2.1
            have hI_15_10_u20 : fI u20 15 10 = (fI u17 15 10) := hTu20.2.2.1
            have hI_15_11_u20 : fI u20 15 11 = (fI u17 15 11) := hTu20.2.2.2.1
            have hI_15_12_u20 : fI u20 15 12 = (fI u17 15 12) := hTu20.2.2.2.2
            have e26 : ((i_k5 + 1)).toInt = (i_k5).toInt + 1 := i_add rfl rfl (by omega)
            refine lv_iinc (v := (i_k5 + 1)) (lv' := [(3, .int (i_k5 + 1)), (2, .int r16), (0, .ref (a 27)), (1, .int 4)]) hx hb dX5_readBoth_56 hl (k := 1) rfl rfl (by decide) rfl (fun ls hl => ?_)
            refine lv_goto (tgt := 8) hx hb dX5_readBoth_59 (by decide) ?_
            exact ih_k5 _ _ _ _ ((i_k5 + 1)) (r16) hO (lv_sub hl [0, 1, 2, 3] rfl) (by exact hJ) (by exact hT) (by exact hW) (by first | decide | omega) (by first | decide | omega) (by first | decide | omega)
  exact LP_8_k5 4000 _ _ _ _ (0) (r1) hO (lv_sub hl [0, 1, 2, 3] rfl) (by exact hJ) (by exact hT) (by exact hW) (by first | decide | omega) (by first | decide | omega) (by first | decide | omega)
set_option maxHeartbeats 4000000 in
set_option maxRecDepth 100000 in
theorem T_X5_readFormula_4 (l : Launch) (D : va_G) (cy : Nat → ClassId) (a : Nat → Nat) (u : St) (hJ : CI a u) (hW : fR u 2 = a 15)   : Mi l D cy (cW cy a) yX5_readFormula (.code yX5_readFormula cX5_readFormula 4 (some .boolean)) (rmo 32 727) [.ref (a 27), .int 4] u (fun (r : Int32) (u' : St) => (r = 0 ∨ r = 1) ∧ (CI a u') ∧ (KT u u') ∧ (fR u' 2 = a 15)) := by
  refine Mi.of (own := RX5) rfl (by decide) (Nat.le_of_ble_eq_true rfl) ?_
  have hT : KT u u := KT.rf
  intro p e s m below meth c A Q ls C hret hO hl
  obtain ⟨hx, hb, hml, hown, ht, hK, hA⟩ := id C
  have hl : lv_has ls 4 [(0, .ref (a 27)), (1, .int 4)] := hl
  refine lv_aload_n hx hb dX5_readFormula_0 rfl (lv_at hl 0 rfl) ?_
  refine lv_iload_n hx hb dX5_readFormula_1 rfl (lv_at hl 1 rfl) ?_
  refine cVi (w := cW cy a) (As := [.int 4]) (rest := []) C hO (T_X5_readBoth_4 l D cy a _ (by exact hJ) (by exact hW)) (cwV 1 ht (gV wd_747 wd_749 wd_18 wd_114 wd_750) rfl rfl rfl hd_yX5_readBoth ⟨Nat.le_of_ble_eq_true rfl, Nat.le_of_ble_eq_true rfl⟩) 27 rfl cW_27 rfl rfl hl.1 (Nat.le_of_ble_eq_true rfl) dX5_readFormula_2 rfl ⟨Nat.zero_le _, Nat.zero_le _⟩ (fun r1 u2 H locs hp3 hO => ?_)
  obtain ⟨hr1, hJ, hTu2, hW⟩ := hp3
  have gr1 : 0 ≤ r1.toInt ∧ r1.toInt ≤ 1 := by rcases hr1 with h | h <;> rw [h] <;> decide
  have hT : KT u u2 := KT.tr (by exact hT) hTu2
  refine lv_istore_n (lv' := [(2, .int r1), (0, .ref (a 27)), (1, .int 4)]) hx hb dX5_readFormula_5 rfl hl (by decide) rfl (fun ls hl => ?_)
  refine lv_iconst (v := 0) hx hb dX5_readFormula_6 (by decide) ?_
  refine lv_istore_n (lv' := [(3, .int 0), (2, .int r1), (0, .ref (a 27)), (1, .int 4)]) hx hb dX5_readFormula_7 rfl hl (by decide) rfl (fun ls hl => ?_)
  have LP_8_k5 : ∀ (n : Nat) (u4 : St) (H : Heap) (locs : List Loc) (ls : Array Slot) (i_k5 : Int32) (w2_k5 : Int32), Wo D A (cW cy a u4) s.heap H locs → lv_has ls 4 [(3, .int i_k5), (2, .int w2_k5), (0, .ref (a 27)), (1, .int 4)] → CI a u4 → KT u u4 → fR u4 2 = a 15 → 0 ≤ i_k5.toInt ∧ i_k5.toInt ≤ 1600 → 0 ≤ w2_k5.toInt ∧ w2_k5.toInt ≤ 1 → 1600 - i_k5.toInt < (n : Int) → W p l e (rmo 32 727) s m [.ref (a 27), .int 4].toArray below meth c H locs 0 0 Q (F0 m 8 ls []) := by
    intro n
    induction n with
    | zero =>
      intro u4 H locs ls i_k5 w2_k5 hO hl hJ hT hW iv0_k5 iv1_k5 hm_k5
      exact absurd hm_k5 (by omega)
    | succ n ih_k5 =>
      intro u4 H locs ls i_k5 w2_k5 hO hl hJ hT hW iv0_k5 iv1_k5 hm_k5
      refine lv_iload_n hx hb dX5_readFormula_8 rfl (lv_at hl 0 rfl) ?_
      refine lv_sipush (v := 1600) hx hb dX5_readFormula_9 (by decide) ?_
      refine cs_ge (tgt := 62) (X := (i_k5).toInt) (Y := 1600) hx hb dX5_readFormula_12 (by decide) rfl rfl (fun c6 => ?_) (fun c6 => ?_)
      · refine lv_iload_n hx hb dX5_readFormula_62 rfl (lv_at hl 1 rfl) ?_
        have hw2_k5 : w2_k5 = 0 ∨ w2_k5 = 1 := i_b01 rfl (by omega) (by omega)
        refine hret _ _ _ _ _ _ dX5_readFormula_63 (by rcases hw2_k5 with h | h <;> rw [h] <;> rfl) ?_ hO
        exact ⟨hw2_k5, hJ, hT, hW⟩
      · refine lv_iload_n hx hb dX5_readFormula_15 rfl (lv_at hl 1 rfl) ?_
        refine bs_eq (tgt := 62) (X := (w2_k5).toInt) hx hb dX5_readFormula_16 (by decide) rfl (fun c7 => ?_) (fun c7 => ?_)
        · refine lv_iload_n hx hb dX5_readFormula_62 rfl (lv_at hl 1 rfl) ?_
          have hw2_k5 : w2_k5 = 0 ∨ w2_k5 = 1 := i_b01 rfl (by omega) (by omega)
          refine hret _ _ _ _ _ _ dX5_readFormula_63 (by rcases hw2_k5 with h | h <;> rw [h] <;> rfl) ?_ hO
          exact ⟨hw2_k5, hJ, hT, hW⟩
        · refine lv_aload_n hx hb dX5_readFormula_19 rfl (lv_at hl 2 rfl) ?_
          refine gf_RX5_9 (v := .ref (a 1)) C hO 27 cW_27 rfl dX5_readFormula_20 ?_
          refine gf_RX5_36 (v := .int (fI u4 1 4)) C hO 1 cW_1 rfl dX5_readFormula_23 ?_
          refine lv_bipush (v := 13) hx hb dX5_readFormula_26 (by decide) ?_
          refine cs_ne (tgt := 62) (X := ((fI u4 1 4)).toInt) (Y := 13) hx hb dX5_readFormula_28 (by decide) rfl rfl (fun c8 => ?_) (fun c8 => ?_)
          · refine lv_iload_n hx hb dX5_readFormula_62 rfl (lv_at hl 1 rfl) ?_
            have hw2_k5 : w2_k5 = 0 ∨ w2_k5 = 1 := i_b01 rfl (by omega) (by omega)
            refine hret _ _ _ _ _ _ dX5_readFormula_63 (by rcases hw2_k5 with h | h <;> rw [h] <;> rfl) ?_ hO
            exact ⟨hw2_k5, hJ, hT, hW⟩
          · refine lv_aload_n hx hb dX5_readFormula_31 rfl (lv_at hl 2 rfl) ?_
            refine gf_RX5_9 (v := .ref (a 1)) C hO 27 cW_27 rfl dX5_readFormula_32 ?_
            refine cVv (w := cW cy a) (As := []) (rest := []) C hO (T_X7_advance l D cy a _ (by exact hJ) (by exact hW)) (cwV 0 ht (gV wd_695 wd_541 wd_542 wd_111 wd_543) rfl rfl rfl hd_yX7_advance ⟨Nat.le_of_ble_eq_true rfl, Nat.le_of_ble_eq_true rfl⟩) 1 rfl cW_1 rfl rfl hl.1 (Nat.le_of_ble_eq_true rfl) dX5_readFormula_35 rfl ⟨Nat.zero_le _, Nat.zero_le _⟩ (fun u10 H locs hp11 hO => ?_)
            have g12 : 0 ≤ (fI u4 15 9).toInt ∧ (fI u4 15 9).toInt ≤ 8 := by have h := CI_15_9 hJ; exact h
            have g13 : 0 ≤ (fI u4 15 10).toInt ∧ (fI u4 15 10).toInt ≤ 14 := by have h := CI_15_10 hJ; exact h
            have g14 : 0 ≤ (fI u4 15 11).toInt ∧ (fI u4 15 11).toInt ≤ 8 := by have h := CI_15_11 hJ; exact h
            have g15 : 0 ≤ (fI u4 15 12).toInt ∧ (fI u4 15 12).toInt ≤ 6 := by have h := CI_15_12 hJ; exact h
            obtain ⟨hJ, hTu10, hW⟩ := hp11
            have hT : KT u u10 := KT.tr (by exact hT) hTu10.1
            have hI_15_9_u10 : fI u10 15 9 = (fI u4 15 9) := hTu10.2.1
            have hI_15_10_u10 : fI u10 15 10 = (fI u4 15 10) := hTu10.2.2.1
            have hI_15_11_u10 : fI u10 15 11 = (fI u4 15 11) := hTu10.2.2.2.1
            have hI_15_12_u10 : fI u10 15 12 = (fI u4 15 12) := hTu10.2.2.2.2
            refine lv_aload_n hx hb dX5_readFormula_38 rfl (lv_at hl 2 rfl) ?_
            refine lv_iload_n hx hb dX5_readFormula_39 rfl (lv_at hl 3 rfl) ?_
            refine cVi (w := cW cy a) (As := [.int 4]) (rest := []) C hO (T_X5_readBoth_4 l D cy a _ (by exact hJ) (by exact hW)) (cwV 1 ht (gV wd_747 wd_749 wd_18 wd_114 wd_750) rfl rfl rfl hd_yX5_readBoth ⟨Nat.le_of_ble_eq_true rfl, Nat.le_of_ble_eq_true rfl⟩) 27 rfl cW_27 rfl rfl hl.1 (Nat.le_of_ble_eq_true rfl) dX5_readFormula_40 rfl ⟨Nat.zero_le _, Nat.zero_le _⟩ (fun r16 u17 H locs hp18 hO => ?_)
            obtain ⟨hr16, hJ, hTu17, hW⟩ := hp18
            have gr16 : 0 ≤ r16.toInt ∧ r16.toInt ≤ 1 := by rcases hr16 with h | h <;> rw [h] <;> decide
            have hT : KT u u17 := KT.tr (by exact hT) hTu17
            refine lv_istore_n (lv' := [(2, .int r16), (3, .int i_k5), (0, .ref (a 27)), (1, .int 4)]) hx hb dX5_readFormula_43 rfl hl (by decide) rfl (fun ls hl => ?_)
            refine lv_aload_n hx hb dX5_readFormula_44 rfl (lv_at hl 2 rfl) ?_
            refine gf_RX5_15 (v := .ref (a 15)) C hO 27 cW_27 (congrArg (fun z : Nat => some (Value.ref z)) hW) dX5_readFormula_45 ?_
            refine gf_RX5_173 (v := .ref (a 24)) C hO 15 cW_15 rfl dX5_readFormula_48 ?_
            refine lv_bipush (v := (-13)) hx hb dX5_readFormula_51 (by decide) ?_
            refine cVv (w := cW cy a) (As := [.int (-13)]) (rest := []) C hO (T_X4_add l D cy a _ (by exact hJ) (by exact hW) ((-13))) (cwV 1 ht (gV wd_759 wd_760 wd_761 wd_113 wd_762) rfl rfl rfl hd_yX4_add ⟨Nat.le_of_ble_eq_true rfl, Nat.le_of_ble_eq_true rfl⟩) 24 rfl cW_24 rfl rfl hl.1 (Nat.le_of_ble_eq_true rfl) dX5_readFormula_53 rfl ⟨Nat.zero_le _, Nat.zero_le _⟩ (fun u20 H locs hp21 hO => ?_)
            have g22 : 0 ≤ (fI u17 15 9).toInt ∧ (fI u17 15 9).toInt ≤ 8 := by have h := CI_15_9 hJ; exact h
            have g23 : 0 ≤ (fI u17 15 10).toInt ∧ (fI u17 15 10).toInt ≤ 14 := by have h := CI_15_10 hJ; exact h
            have g24 : 0 ≤ (fI u17 15 11).toInt ∧ (fI u17 15 11).toInt ≤ 8 := by have h := CI_15_11 hJ; exact h
            have g25 : 0 ≤ (fI u17 15 12).toInt ∧ (fI u17 15 12).toInt ≤ 6 := by have h := CI_15_12 hJ; exact h
            obtain ⟨hJ, hTu20, hW⟩ := hp21
            have hT : KT u u20 := KT.tr (by exact hT) hTu20.1
            have hI_15_9_u20 : fI u20 15 9 = (fI u17 15 9) := hTu20.2.1
            have hI_15_10_u20 : fI u20 15 10 = (fI u17 15 10) := hTu20.2.2.1
            have hI_15_11_u20 : fI u20 15 11 = (fI u17 15 11) := hTu20.2.2.2.1
            have hI_15_12_u20 : fI u20 15 12 = (fI u17 15 12) := hTu20.2.2.2.2
            have e26 : ((i_k5 + 1)).toInt = (i_k5).toInt + 1 := i_add rfl rfl (by omega)
            refine lv_iinc (v := (i_k5 + 1)) (lv' := [(3, .int (i_k5 + 1)), (2, .int r16), (0, .ref (a 27)), (1, .int 4)]) hx hb dX5_readFormula_56 hl (k := 1) rfl rfl (by decide) rfl (fun ls hl => ?_)
            refine lv_goto (tgt := 8) hx hb dX5_readFormula_59 (by decide) ?_
            exact ih_k5 _ _ _ _ ((i_k5 + 1)) (r16) hO (lv_sub hl [0, 1, 2, 3] rfl) (by exact hJ) (by exact hT) (by exact hW) (by first | decide | omega) (by first | decide | omega) (by first | decide | omega)
  exact LP_8_k5 4000 _ _ _ _ (0) (r1) hO (lv_sub hl [0, 1, 2, 3] rfl) (by exact hJ) (by exact hT) (by exact hW) (by first | decide | omega) (by first | decide | omega) (by first | decide | omega)
set_option maxHeartbeats 4000000 in
set_option maxRecDepth 100000 in
theorem T_X5_readInner_3 (l : Launch) (D : va_G) (cy : Nat → ClassId) (a : Nat → Nat) (u : St) (hJ : CI a u) (hW : fR u 2 = a 15)   : Mi l D cy (cW cy a) yX5_readInner (.code yX5_readInner cX5_readInner 2 (some .boolean)) (rmo 33 750) [.ref (a 27), .int 3] u (fun (r : Int32) (u' : St) => (r = 0 ∨ r = 1) ∧ (CI a u') ∧ (KT u u') ∧ (fR u' 2 = a 15)) := by
  refine Mi.of (own := RX5) rfl (by decide) (Nat.le_of_ble_eq_true rfl) ?_
  have hT : KT u u := KT.rf
  intro p e s m below meth c A Q ls C hret hO hl
  obtain ⟨hx, hb, hml, hown, ht, hK, hA⟩ := id C
  have hl : lv_has ls 2 [(0, .ref (a 27)), (1, .int 3)] := hl
  refine lv_iload_n hx hb dX5_readInner_0 rfl (lv_at hl 1 rfl) ?_
  refine lv_bipush (v := 6) hx hb dX5_readInner_1 (by decide) ?_
  refine ct_le (tgt := 12) (X := 3) (Y := 6) hx hb dX5_readInner_3 (by decide) rfl rfl (by omega) ?_
  refine lv_aload_n hx hb dX5_readInner_12 rfl (lv_at hl 0 rfl) ?_
  refine gf_RX5_9 (v := .ref (a 1)) C hO 27 cW_27 rfl dX5_readInner_13 ?_
  refine cVv (w := cW cy a) (As := []) (rest := []) C hO (T_X7_advance l D cy a _ (by exact hJ) (by exact hW)) (cwV 0 ht (gV wd_695 wd_541 wd_542 wd_111 wd_543) rfl rfl rfl hd_yX7_advance ⟨Nat.le_of_ble_eq_true rfl, Nat.le_of_ble_eq_true rfl⟩) 1 rfl cW_1 rfl rfl hl.1 (Nat.le_of_ble_eq_true rfl) dX5_readInner_16 rfl ⟨Nat.zero_le _, Nat.zero_le _⟩ (fun u2 H locs hp3 hO => ?_)
  have g4 : 0 ≤ (fI u 15 9).toInt ∧ (fI u 15 9).toInt ≤ 8 := by have h := CI_15_9 hJ; exact h
  have g5 : 0 ≤ (fI u 15 10).toInt ∧ (fI u 15 10).toInt ≤ 14 := by have h := CI_15_10 hJ; exact h
  have g6 : 0 ≤ (fI u 15 11).toInt ∧ (fI u 15 11).toInt ≤ 8 := by have h := CI_15_11 hJ; exact h
  have g7 : 0 ≤ (fI u 15 12).toInt ∧ (fI u 15 12).toInt ≤ 6 := by have h := CI_15_12 hJ; exact h
  obtain ⟨hJ, hTu2, hW⟩ := hp3
  have hT : KT u u2 := KT.tr (by exact hT) hTu2.1
  have hI_15_9_u2 : fI u2 15 9 = (fI u 15 9) := hTu2.2.1
  have hI_15_10_u2 : fI u2 15 10 = (fI u 15 10) := hTu2.2.2.1
  have hI_15_11_u2 : fI u2 15 11 = (fI u 15 11) := hTu2.2.2.2.1
  have hI_15_12_u2 : fI u2 15 12 = (fI u 15 12) := hTu2.2.2.2.2
  refine lv_aload_n hx hb dX5_readInner_19 rfl (lv_at hl 0 rfl) ?_
  refine lv_iload_n hx hb dX5_readInner_20 rfl (lv_at hl 1 rfl) ?_
  refine lv_iconst (v := 1) hx hb dX5_readInner_21 (by decide) ?_
  refine lv_iadd hx hb dX5_readInner_22 ?_
  refine tE (y := 4) rfl ?_
  refine cVi (w := cW cy a) (As := [.int 4]) (rest := []) C hO (T_X5_readFormula_4 l D cy a _ (by exact hJ) (by exact hW)) (cwV 1 ht (gV wd_743 wd_745 wd_17 wd_114 wd_746) rfl rfl rfl hd_yX5_readFormula ⟨Nat.le_of_ble_eq_true rfl, Nat.le_of_ble_eq_true rfl⟩) 27 rfl cW_27 rfl rfl hl.1 (Nat.le_of_ble_eq_true rfl) dX5_readInner_23 rfl ⟨Nat.zero_le _, Nat.zero_le _⟩ (fun r8 u9 H locs hp10 hO => ?_)
  obtain ⟨hr8, hJ, hTu9, hW⟩ := hp10
  have gr8 : 0 ≤ r8.toInt ∧ r8.toInt ≤ 1 := by rcases hr8 with h | h <;> rw [h] <;> decide
  have hT : KT u u9 := KT.tr (by exact hT) hTu9
  refine bs_eq (tgt := 42) (X := (r8).toInt) hx hb dX5_readInner_26 (by decide) rfl (fun c11 => ?_) (fun c11 => ?_)
  · refine lv_iconst (v := 0) hx hb dX5_readInner_42 (by decide) ?_
    refine hret _ _ _ _ _ _ dX5_readInner_43 rfl ?_ hO
    exact ⟨Or.inl rfl, hJ, hT, hW⟩
  · refine lv_aload_n hx hb dX5_readInner_29 rfl (lv_at hl 0 rfl) ?_
    refine lv_bipush (v := 41) hx hb dX5_readInner_30 (by decide) ?_
    refine cVi (w := cW cy a) (As := [.int 41]) (rest := []) C hO (T_X5_skip l D cy a _ (by exact hJ) (by exact hW) (41)) (cwV 1 ht (gV wd_719 wd_721 wd_11 wd_114 wd_722) rfl rfl rfl hd_yX5_skip ⟨Nat.le_of_ble_eq_true rfl, Nat.le_of_ble_eq_true rfl⟩) 27 rfl cW_27 rfl rfl hl.1 (Nat.le_of_ble_eq_true rfl) dX5_readInner_32 rfl ⟨Nat.zero_le _, Nat.zero_le _⟩ (fun r12 u13 H locs hp14 hO => ?_)
    have g15 : 0 ≤ (fI u9 15 9).toInt ∧ (fI u9 15 9).toInt ≤ 8 := by have h := CI_15_9 hJ; exact h
    have g16 : 0 ≤ (fI u9 15 10).toInt ∧ (fI u9 15 10).toInt ≤ 14 := by have h := CI_15_10 hJ; exact h
    have g17 : 0 ≤ (fI u9 15 11).toInt ∧ (fI u9 15 11).toInt ≤ 8 := by have h := CI_15_11 hJ; exact h
    have g18 : 0 ≤ (fI u9 15 12).toInt ∧ (fI u9 15 12).toInt ≤ 6 := by have h := CI_15_12 hJ; exact h
    obtain ⟨hr12, hJ, hTu13, hW⟩ := hp14
    have gr12 : 0 ≤ r12.toInt ∧ r12.toInt ≤ 1 := by rcases hr12 with h | h <;> rw [h] <;> decide
    have hT : KT u u13 := KT.tr (by exact hT) hTu13.1
    have hI_15_9_u13 : fI u13 15 9 = (fI u9 15 9) := hTu13.2.1
    have hI_15_10_u13 : fI u13 15 10 = (fI u9 15 10) := hTu13.2.2.1
    have hI_15_11_u13 : fI u13 15 11 = (fI u9 15 11) := hTu13.2.2.2.1
    have hI_15_12_u13 : fI u13 15 12 = (fI u9 15 12) := hTu13.2.2.2.2
    refine bs_eq (tgt := 42) (X := (r12).toInt) hx hb dX5_readInner_35 (by decide) rfl (fun c19 => ?_) (fun c19 => ?_)
    · refine lv_iconst (v := 0) hx hb dX5_readInner_42 (by decide) ?_
      refine hret _ _ _ _ _ _ dX5_readInner_43 rfl ?_ hO
      exact ⟨Or.inl rfl, hJ, hT, hW⟩
    · refine lv_iconst (v := 1) hx hb dX5_readInner_38 (by decide) ?_
      refine lv_goto (tgt := 43) hx hb dX5_readInner_39 (by decide) ?_
      refine hret _ _ _ _ _ _ dX5_readInner_43 rfl ?_ hO
      exact ⟨Or.inr rfl, hJ, hT, hW⟩
set_option maxHeartbeats 4000000 in
set_option maxRecDepth 100000 in
theorem T_X5_readUnit_3 (l : Launch) (D : va_G) (cy : Nat → ClassId) (a : Nat → Nat) (u : St) (hJ : CI a u) (hW : fR u 2 = a 15)   : Mi l D cy (cW cy a) yX5_readUnit (.code yX5_readUnit cX5_readUnit 3 (some .boolean)) (rmo 34 771) [.ref (a 27), .int 3] u (fun (r : Int32) (u' : St) => (r = 0 ∨ r = 1) ∧ (CI a u') ∧ (KT u u') ∧ (fR u' 2 = a 15)) := by
  refine Mi.of (own := RX5) rfl (by decide) (Nat.le_of_ble_eq_true rfl) ?_
  have hT : KT u u := KT.rf
  intro p e s m below meth c A Q ls C hret hO hl
  obtain ⟨hx, hb, hml, hown, ht, hK, hA⟩ := id C
  have hl : lv_has ls 3 [(0, .ref (a 27)), (1, .int 3)] := hl
  refine lv_aload_n hx hb dX5_readUnit_0 rfl (lv_at hl 0 rfl) ?_
  refine gf_RX5_9 (v := .ref (a 1)) C hO 27 cW_27 rfl dX5_readUnit_1 ?_
  refine gf_RX5_36 (v := .int (fI u 1 4)) C hO 1 cW_1 rfl dX5_readUnit_4 ?_
  refine lv_istore_n (lv' := [(2, .int (fI u 1 4)), (0, .ref (a 27)), (1, .int 3)]) hx hb dX5_readUnit_7 rfl hl (by decide) rfl (fun ls hl => ?_)
  refine lv_aload_n hx hb dX5_readUnit_8 rfl (lv_at hl 1 rfl) ?_
  refine gf_RX5_15 (v := .ref (a 15)) C hO 27 cW_27 (congrArg (fun z : Nat => some (Value.ref z)) hW) dX5_readUnit_9 ?_
  refine gf_RX5_173 (v := .ref (a 24)) C hO 15 cW_15 rfl dX5_readUnit_12 ?_
  refine cVi (w := cW cy a) (As := []) (rest := []) C hO (T_X4_isFull l D cy a _ (by exact hJ)) (cwV 0 ht (gV wd_775 wd_776 wd_777 wd_113 wd_778) rfl rfl rfl hd_yX4_isFull ⟨Nat.le_of_ble_eq_true rfl, Nat.le_of_ble_eq_true rfl⟩) 24 rfl cW_24 rfl rfl hl.1 (Nat.le_of_ble_eq_true rfl) dX5_readUnit_15 rfl ⟨Nat.zero_le _, Nat.zero_le _⟩ (fun r1 u2 H locs hp3 hO => ?_)
  obtain ⟨hr1, hu2⟩ := hp3
  have gr1 : 0 ≤ r1.toInt ∧ r1.toInt ≤ 1 := by rcases hr1 with h | h <;> rw [h] <;> decide
  rw [hu2] at hO
  refine bs_ne (tgt := 41) (X := (r1).toInt) hx hb dX5_readUnit_18 (by decide) rfl (fun c4 => ?_) (fun c4 => ?_)
  · refine lv_aload_n hx hb dX5_readUnit_41 rfl (lv_at hl 1 rfl) ?_
    refine lv_iconst (v := 2) hx hb dX5_readUnit_42 (by decide) ?_
    refine cVi (w := cW cy a) (As := [.int 2]) (rest := []) C hO (T_X5_refuse l D cy a _ (by exact hJ) (by exact hW) (2)) (cwV 1 ht (gV wd_691 wd_693 wd_6 wd_114 wd_694) rfl rfl rfl hd_yX5_refuse ⟨Nat.le_of_ble_eq_true rfl, Nat.le_of_ble_eq_true rfl⟩) 27 rfl cW_27 rfl rfl hl.1 (Nat.le_of_ble_eq_true rfl) dX5_readUnit_43 rfl ⟨Nat.zero_le _, Nat.zero_le _⟩ (fun r5 u6 H locs hp7 hO => ?_)
    have g8 : 0 ≤ (fI u 15 9).toInt ∧ (fI u 15 9).toInt ≤ 8 := by have h := CI_15_9 hJ; exact h
    have g9 : 0 ≤ (fI u 15 10).toInt ∧ (fI u 15 10).toInt ≤ 14 := by have h := CI_15_10 hJ; exact h
    have g10 : 0 ≤ (fI u 15 11).toInt ∧ (fI u 15 11).toInt ≤ 8 := by have h := CI_15_11 hJ; exact h
    have g11 : 0 ≤ (fI u 15 12).toInt ∧ (fI u 15 12).toInt ≤ 6 := by have h := CI_15_12 hJ; exact h
    obtain ⟨hr5, hJ, hTu6, hW⟩ := hp7
    subst hr5
    have hT : KT u u6 := KT.tr (by exact hT) hTu6.1
    have hI_15_9_u6 : fI u6 15 9 = (fI u 15 9) := hTu6.2.1
    have hI_15_10_u6 : fI u6 15 10 = (fI u 15 10) := hTu6.2.2.1
    have hI_15_11_u6 : fI u6 15 11 = (fI u 15 11) := hTu6.2.2.2.1
    have hI_15_12_u6 : fI u6 15 12 = (fI u 15 12) := hTu6.2.2.2.2
    refine hret _ _ _ _ _ _ dX5_readUnit_46 rfl ?_ hO
    exact ⟨Or.inl rfl, hJ, hT, hW⟩
  · refine lv_iload_n hx hb dX5_readUnit_21 rfl (lv_at hl 0 rfl) ?_
    refine lv_sipush (v := 201) hx hb dX5_readUnit_22 (by decide) ?_
    refine cs_eq (tgt := 47) (X := ((fI u 1 4)).toInt) (Y := 201) hx hb dX5_readUnit_25 (by decide) rfl rfl (fun c12 => ?_) (fun c12 => ?_)
    · refine lv_aload_n hx hb dX5_readUnit_47 rfl (lv_at hl 1 rfl) ?_
      refine gf_RX5_15 (v := .ref (a 15)) C hO 27 cW_27 (congrArg (fun z : Nat => some (Value.ref z)) hW) dX5_readUnit_48 ?_
      refine gf_RX5_173 (v := .ref (a 24)) C hO 15 cW_15 rfl dX5_readUnit_51 ?_
      refine lv_dup hx hb dX5_readUnit_54 rfl ?_
      refine gf_RX5_207 (v := .int (fI u 24 4)) C hO 24 cW_24 rfl dX5_readUnit_55 ?_
      refine lv_iconst (v := 1) hx hb dX5_readUnit_58 (by decide) ?_
      refine lv_iadd hx hb dX5_readUnit_59 ?_
      refine pf_RX5_207 C hO 24 cW_24 (Nat.le_of_ble_eq_true rfl) cW_s24_4 dX5_readUnit_60 (fun H locs hO => ?_)
      have hJ := CIs_24_4 (v := ((fI u 24 4) + 1)) hJ
      refine lv_iload_n hx hb dX5_readUnit_63 rfl (lv_at hl 0 rfl) ?_
      refine lv_bipush (v := 40) hx hb dX5_readUnit_64 (by decide) ?_
      refine ct_ne (tgt := 75) (X := ((fI u 1 4)).toInt) (Y := 40) hx hb dX5_readUnit_66 (by decide) rfl rfl (by omega) ?_
      refine lv_aload_n hx hb dX5_readUnit_75 rfl (lv_at hl 1 rfl) ?_
      refine gf_RX5_15 (v := .ref (a 15)) C hO 27 cW_27 (congrArg (fun z : Nat => some (Value.ref z)) hW) dX5_readUnit_76 ?_
      refine gf_RX5_173 (v := .ref (a 24)) C hO 15 cW_15 rfl dX5_readUnit_79 ?_
      refine lv_iload_n hx hb dX5_readUnit_82 rfl (lv_at hl 0 rfl) ?_
      refine lv_sipush (v := 201) hx hb dX5_readUnit_83 (by decide) ?_
      refine cn_ne (X := ((fI u 1 4)).toInt) (Y := 201) hx hb dX5_readUnit_86 rfl rfl (by omega) ?_ (tgt := 99) (by decide)
      refine lv_aload_n hx hb dX5_readUnit_89 rfl (lv_at hl 1 rfl) ?_
      refine gf_RX5_9 (v := .ref (a 1)) C hO 27 cW_27 rfl dX5_readUnit_90 ?_
      refine gf_RX5_94 (v := .int (fI u 1 6)) C hO 1 cW_1 rfl dX5_readUnit_93 ?_
      refine lv_goto (tgt := 101) hx hb dX5_readUnit_96 (by decide) ?_
      refine cVv (w := cW cy a) (As := [.int (fI u 1 6)]) (rest := []) C hO (T_X4_add l D cy a _ (by exact hJ) (by exact hW) ((fI u 1 6))) (cwV 1 ht (gV wd_759 wd_760 wd_761 wd_113 wd_762) rfl rfl rfl hd_yX4_add ⟨Nat.le_of_ble_eq_true rfl, Nat.le_of_ble_eq_true rfl⟩) 24 rfl cW_24 rfl rfl hl.1 (Nat.le_of_ble_eq_true rfl) dX5_readUnit_101 rfl ⟨Nat.zero_le _, Nat.zero_le _⟩ (fun u14 H locs hp15 hO => ?_)
      have g16 : 0 ≤ (fI u 15 9).toInt ∧ (fI u 15 9).toInt ≤ 8 := by have h := CI_15_9 hJ; exact h
      have g17 : 0 ≤ (fI u 15 10).toInt ∧ (fI u 15 10).toInt ≤ 14 := by have h := CI_15_10 hJ; exact h
      have g18 : 0 ≤ (fI u 15 11).toInt ∧ (fI u 15 11).toInt ≤ 8 := by have h := CI_15_11 hJ; exact h
      have g19 : 0 ≤ (fI u 15 12).toInt ∧ (fI u 15 12).toInt ≤ 6 := by have h := CI_15_12 hJ; exact h
      obtain ⟨hJ, hTu14, hW⟩ := hp15
      have hT : KT u u14 := KT.tr (by exact hT) hTu14.1
      have hI_15_9_u14 : fI u14 15 9 = (fI u 15 9) := hTu14.2.1
      have hI_15_10_u14 : fI u14 15 10 = (fI u 15 10) := hTu14.2.2.1
      have hI_15_11_u14 : fI u14 15 11 = (fI u 15 11) := hTu14.2.2.2.1
      have hI_15_12_u14 : fI u14 15 12 = (fI u 15 12) := hTu14.2.2.2.2
      refine lv_aload_n hx hb dX5_readUnit_104 rfl (lv_at hl 1 rfl) ?_
      refine gf_RX5_9 (v := .ref (a 1)) C hO 27 cW_27 rfl dX5_readUnit_105 ?_
      refine cVv (w := cW cy a) (As := []) (rest := []) C hO (T_X7_advance l D cy a _ (by exact hJ) (by exact hW)) (cwV 0 ht (gV wd_695 wd_541 wd_542 wd_111 wd_543) rfl rfl rfl hd_yX7_advance ⟨Nat.le_of_ble_eq_true rfl, Nat.le_of_ble_eq_true rfl⟩) 1 rfl cW_1 rfl rfl hl.1 (Nat.le_of_ble_eq_true rfl) dX5_readUnit_108 rfl ⟨Nat.zero_le _, Nat.zero_le _⟩ (fun u21 H locs hp22 hO => ?_)
      obtain ⟨hJ, hTu21, hW⟩ := hp22
      have hT : KT u u21 := KT.tr (by exact hT) hTu21.1
      have hI_15_9_u21 : fI u21 15 9 = (fI u 15 9) := Eq.trans (hTu21.2.1) (hI_15_9_u14)
      have hI_15_10_u21 : fI u21 15 10 = (fI u 15 10) := Eq.trans (hTu21.2.2.1) (hI_15_10_u14)
      have hI_15_11_u21 : fI u21 15 11 = (fI u 15 11) := Eq.trans (hTu21.2.2.2.1) (hI_15_11_u14)
      have hI_15_12_u21 : fI u21 15 12 = (fI u 15 12) := Eq.trans (hTu21.2.2.2.2) (hI_15_12_u14)
      refine lv_iconst (v := 1) hx hb dX5_readUnit_111 (by decide) ?_
      refine hret _ _ _ _ _ _ dX5_readUnit_112 rfl ?_ hO
      exact ⟨Or.inr rfl, hJ, hT, hW⟩
    · refine lv_iload_n hx hb dX5_readUnit_28 rfl (lv_at hl 0 rfl) ?_
      refine lv_bipush (v := 40) hx hb dX5_readUnit_29 (by decide) ?_
      refine cs_eq (tgt := 47) (X := ((fI u 1 4)).toInt) (Y := 40) hx hb dX5_readUnit_31 (by decide) rfl rfl (fun c23 => ?_) (fun c23 => ?_)
      · refine lv_aload_n hx hb dX5_readUnit_47 rfl (lv_at hl 1 rfl) ?_
        refine gf_RX5_15 (v := .ref (a 15)) C hO 27 cW_27 (congrArg (fun z : Nat => some (Value.ref z)) hW) dX5_readUnit_48 ?_
        refine gf_RX5_173 (v := .ref (a 24)) C hO 15 cW_15 rfl dX5_readUnit_51 ?_
        refine lv_dup hx hb dX5_readUnit_54 rfl ?_
        refine gf_RX5_207 (v := .int (fI u 24 4)) C hO 24 cW_24 rfl dX5_readUnit_55 ?_
        refine lv_iconst (v := 1) hx hb dX5_readUnit_58 (by decide) ?_
        refine lv_iadd hx hb dX5_readUnit_59 ?_
        refine pf_RX5_207 C hO 24 cW_24 (Nat.le_of_ble_eq_true rfl) cW_s24_4 dX5_readUnit_60 (fun H locs hO => ?_)
        have hJ := CIs_24_4 (v := ((fI u 24 4) + 1)) hJ
        refine lv_iload_n hx hb dX5_readUnit_63 rfl (lv_at hl 0 rfl) ?_
        refine lv_bipush (v := 40) hx hb dX5_readUnit_64 (by decide) ?_
        refine cn_ne (X := ((fI u 1 4)).toInt) (Y := 40) hx hb dX5_readUnit_66 rfl rfl (by omega) ?_ (tgt := 75) (by decide)
        refine lv_aload_n hx hb dX5_readUnit_69 rfl (lv_at hl 1 rfl) ?_
        refine lv_iload_n hx hb dX5_readUnit_70 rfl (lv_at hl 2 rfl) ?_
        refine cVi (w := cW cy a) (As := [.int 3]) (rest := []) C hO (T_X5_readInner_3 l D cy a _ (by exact hJ) (by exact hW)) (cwV 1 ht (gV wd_782 wd_784 wd_24 wd_114 wd_785) rfl rfl rfl hd_yX5_readInner ⟨Nat.le_of_ble_eq_true rfl, Nat.le_of_ble_eq_true rfl⟩) 27 rfl cW_27 rfl rfl hl.1 (Nat.le_of_ble_eq_true rfl) dX5_readUnit_71 rfl ⟨Nat.zero_le _, Nat.zero_le _⟩ (fun r24 u25 H locs hp26 hO => ?_)
        obtain ⟨hr24, hJ, hTu25, hW⟩ := hp26
        have gr24 : 0 ≤ r24.toInt ∧ r24.toInt ≤ 1 := by rcases hr24 with h | h <;> rw [h] <;> decide
        have hT : KT u u25 := KT.tr (by exact hT) hTu25
        refine hret _ _ _ _ _ _ dX5_readUnit_74 (by rcases hr24 with h | h <;> rw [h] <;> rfl) ?_ hO
        exact ⟨hr24, hJ, hT, hW⟩
      · refine lv_iload_n hx hb dX5_readUnit_34 rfl (lv_at hl 0 rfl) ?_
        refine cSi (w := cW cy a) (As := [.int (fI u 1 4)]) (rest := []) C hO (T_X4_isGiven l D cy a _ (by exact hJ) ((fI u 1 4))) (va_cwS 1 ht (gSS wd_779 wd_780 wd_113 wd_781) rfl rfl rfl hd_yX4_isGiven ⟨Nat.le_of_ble_eq_true rfl, Nat.le_of_ble_eq_true rfl⟩)  rfl hl.1 (Nat.le_of_ble_eq_true rfl) dX5_readUnit_35 rfl ⟨Nat.zero_le _, Nat.zero_le _⟩ (fun r27 u28 H locs hp29 hO => ?_)
        obtain ⟨hr27, hu28⟩ := hp29
        have gr27 : 0 ≤ r27.toInt ∧ r27.toInt ≤ 1 := by rcases hr27 with h | h <;> rw [h] <;> decide
        rw [hu28] at hO
        refine bs_ne (tgt := 47) (X := (r27).toInt) hx hb dX5_readUnit_38 (by decide) rfl (fun c30 => ?_) (fun c30 => ?_)
        · refine lv_aload_n hx hb dX5_readUnit_47 rfl (lv_at hl 1 rfl) ?_
          refine gf_RX5_15 (v := .ref (a 15)) C hO 27 cW_27 (congrArg (fun z : Nat => some (Value.ref z)) hW) dX5_readUnit_48 ?_
          refine gf_RX5_173 (v := .ref (a 24)) C hO 15 cW_15 rfl dX5_readUnit_51 ?_
          refine lv_dup hx hb dX5_readUnit_54 rfl ?_
          refine gf_RX5_207 (v := .int (fI u 24 4)) C hO 24 cW_24 rfl dX5_readUnit_55 ?_
          refine lv_iconst (v := 1) hx hb dX5_readUnit_58 (by decide) ?_
          refine lv_iadd hx hb dX5_readUnit_59 ?_
          refine pf_RX5_207 C hO 24 cW_24 (Nat.le_of_ble_eq_true rfl) cW_s24_4 dX5_readUnit_60 (fun H locs hO => ?_)
          have hJ := CIs_24_4 (v := ((fI u 24 4) + 1)) hJ
          refine lv_iload_n hx hb dX5_readUnit_63 rfl (lv_at hl 0 rfl) ?_
          refine lv_bipush (v := 40) hx hb dX5_readUnit_64 (by decide) ?_
          refine cs_ne (tgt := 75) (X := ((fI u 1 4)).toInt) (Y := 40) hx hb dX5_readUnit_66 (by decide) rfl rfl (fun c31 => ?_) (fun c31 => ?_)
          · refine lv_aload_n hx hb dX5_readUnit_75 rfl (lv_at hl 1 rfl) ?_
            refine gf_RX5_15 (v := .ref (a 15)) C hO 27 cW_27 (congrArg (fun z : Nat => some (Value.ref z)) hW) dX5_readUnit_76 ?_
            refine gf_RX5_173 (v := .ref (a 24)) C hO 15 cW_15 rfl dX5_readUnit_79 ?_
            refine lv_iload_n hx hb dX5_readUnit_82 rfl (lv_at hl 0 rfl) ?_
            refine lv_sipush (v := 201) hx hb dX5_readUnit_83 (by decide) ?_
            refine cs_ne (tgt := 99) (X := ((fI u 1 4)).toInt) (Y := 201) hx hb dX5_readUnit_86 (by decide) rfl rfl (fun c32 => ?_) (fun c32 => ?_)
            · refine lv_iload_n hx hb dX5_readUnit_99 rfl (lv_at hl 0 rfl) ?_
              refine lv_ineg hx hb dX5_readUnit_100 ?_
              refine lv_topi (fun z33 ez33 => ?_)
              refine cVv (w := cW cy a) (As := [.int z33]) (rest := []) C hO (T_X4_add l D cy a _ (by exact hJ) (by exact hW) (z33)) (cwV 1 ht (gV wd_759 wd_760 wd_761 wd_113 wd_762) rfl rfl rfl hd_yX4_add ⟨Nat.le_of_ble_eq_true rfl, Nat.le_of_ble_eq_true rfl⟩) 24 rfl cW_24 rfl rfl hl.1 (Nat.le_of_ble_eq_true rfl) dX5_readUnit_101 rfl ⟨Nat.zero_le _, Nat.zero_le _⟩ (fun u35 H locs hp36 hO => ?_)
              have g37 : 0 ≤ (fI u 15 9).toInt ∧ (fI u 15 9).toInt ≤ 8 := by have h := CI_15_9 hJ; exact h
              have g38 : 0 ≤ (fI u 15 10).toInt ∧ (fI u 15 10).toInt ≤ 14 := by have h := CI_15_10 hJ; exact h
              have g39 : 0 ≤ (fI u 15 11).toInt ∧ (fI u 15 11).toInt ≤ 8 := by have h := CI_15_11 hJ; exact h
              have g40 : 0 ≤ (fI u 15 12).toInt ∧ (fI u 15 12).toInt ≤ 6 := by have h := CI_15_12 hJ; exact h
              obtain ⟨hJ, hTu35, hW⟩ := hp36
              have hT : KT u u35 := KT.tr (by exact hT) hTu35.1
              have hI_15_9_u35 : fI u35 15 9 = (fI u 15 9) := hTu35.2.1
              have hI_15_10_u35 : fI u35 15 10 = (fI u 15 10) := hTu35.2.2.1
              have hI_15_11_u35 : fI u35 15 11 = (fI u 15 11) := hTu35.2.2.2.1
              have hI_15_12_u35 : fI u35 15 12 = (fI u 15 12) := hTu35.2.2.2.2
              refine lv_aload_n hx hb dX5_readUnit_104 rfl (lv_at hl 1 rfl) ?_
              refine gf_RX5_9 (v := .ref (a 1)) C hO 27 cW_27 rfl dX5_readUnit_105 ?_
              refine cVv (w := cW cy a) (As := []) (rest := []) C hO (T_X7_advance l D cy a _ (by exact hJ) (by exact hW)) (cwV 0 ht (gV wd_695 wd_541 wd_542 wd_111 wd_543) rfl rfl rfl hd_yX7_advance ⟨Nat.le_of_ble_eq_true rfl, Nat.le_of_ble_eq_true rfl⟩) 1 rfl cW_1 rfl rfl hl.1 (Nat.le_of_ble_eq_true rfl) dX5_readUnit_108 rfl ⟨Nat.zero_le _, Nat.zero_le _⟩ (fun u42 H locs hp43 hO => ?_)
              obtain ⟨hJ, hTu42, hW⟩ := hp43
              have hT : KT u u42 := KT.tr (by exact hT) hTu42.1
              have hI_15_9_u42 : fI u42 15 9 = (fI u 15 9) := Eq.trans (hTu42.2.1) (hI_15_9_u35)
              have hI_15_10_u42 : fI u42 15 10 = (fI u 15 10) := Eq.trans (hTu42.2.2.1) (hI_15_10_u35)
              have hI_15_11_u42 : fI u42 15 11 = (fI u 15 11) := Eq.trans (hTu42.2.2.2.1) (hI_15_11_u35)
              have hI_15_12_u42 : fI u42 15 12 = (fI u 15 12) := Eq.trans (hTu42.2.2.2.2) (hI_15_12_u35)
              refine lv_iconst (v := 1) hx hb dX5_readUnit_111 (by decide) ?_
              refine hret _ _ _ _ _ _ dX5_readUnit_112 rfl ?_ hO
              exact ⟨Or.inr rfl, hJ, hT, hW⟩
            · refine lv_aload_n hx hb dX5_readUnit_89 rfl (lv_at hl 1 rfl) ?_
              refine gf_RX5_9 (v := .ref (a 1)) C hO 27 cW_27 rfl dX5_readUnit_90 ?_
              refine gf_RX5_94 (v := .int (fI u 1 6)) C hO 1 cW_1 rfl dX5_readUnit_93 ?_
              refine lv_goto (tgt := 101) hx hb dX5_readUnit_96 (by decide) ?_
              refine cVv (w := cW cy a) (As := [.int (fI u 1 6)]) (rest := []) C hO (T_X4_add l D cy a _ (by exact hJ) (by exact hW) ((fI u 1 6))) (cwV 1 ht (gV wd_759 wd_760 wd_761 wd_113 wd_762) rfl rfl rfl hd_yX4_add ⟨Nat.le_of_ble_eq_true rfl, Nat.le_of_ble_eq_true rfl⟩) 24 rfl cW_24 rfl rfl hl.1 (Nat.le_of_ble_eq_true rfl) dX5_readUnit_101 rfl ⟨Nat.zero_le _, Nat.zero_le _⟩ (fun u45 H locs hp46 hO => ?_)
              have g47 : 0 ≤ (fI u 15 9).toInt ∧ (fI u 15 9).toInt ≤ 8 := by have h := CI_15_9 hJ; exact h
              have g48 : 0 ≤ (fI u 15 10).toInt ∧ (fI u 15 10).toInt ≤ 14 := by have h := CI_15_10 hJ; exact h
              have g49 : 0 ≤ (fI u 15 11).toInt ∧ (fI u 15 11).toInt ≤ 8 := by have h := CI_15_11 hJ; exact h
              have g50 : 0 ≤ (fI u 15 12).toInt ∧ (fI u 15 12).toInt ≤ 6 := by have h := CI_15_12 hJ; exact h
              obtain ⟨hJ, hTu45, hW⟩ := hp46
              have hT : KT u u45 := KT.tr (by exact hT) hTu45.1
              have hI_15_9_u45 : fI u45 15 9 = (fI u 15 9) := hTu45.2.1
              have hI_15_10_u45 : fI u45 15 10 = (fI u 15 10) := hTu45.2.2.1
              have hI_15_11_u45 : fI u45 15 11 = (fI u 15 11) := hTu45.2.2.2.1
              have hI_15_12_u45 : fI u45 15 12 = (fI u 15 12) := hTu45.2.2.2.2
              refine lv_aload_n hx hb dX5_readUnit_104 rfl (lv_at hl 1 rfl) ?_
              refine gf_RX5_9 (v := .ref (a 1)) C hO 27 cW_27 rfl dX5_readUnit_105 ?_
              refine cVv (w := cW cy a) (As := []) (rest := []) C hO (T_X7_advance l D cy a _ (by exact hJ) (by exact hW)) (cwV 0 ht (gV wd_695 wd_541 wd_542 wd_111 wd_543) rfl rfl rfl hd_yX7_advance ⟨Nat.le_of_ble_eq_true rfl, Nat.le_of_ble_eq_true rfl⟩) 1 rfl cW_1 rfl rfl hl.1 (Nat.le_of_ble_eq_true rfl) dX5_readUnit_108 rfl ⟨Nat.zero_le _, Nat.zero_le _⟩ (fun u52 H locs hp53 hO => ?_)
              obtain ⟨hJ, hTu52, hW⟩ := hp53
              have hT : KT u u52 := KT.tr (by exact hT) hTu52.1
              have hI_15_9_u52 : fI u52 15 9 = (fI u 15 9) := Eq.trans (hTu52.2.1) (hI_15_9_u45)
              have hI_15_10_u52 : fI u52 15 10 = (fI u 15 10) := Eq.trans (hTu52.2.2.1) (hI_15_10_u45)
              have hI_15_11_u52 : fI u52 15 11 = (fI u 15 11) := Eq.trans (hTu52.2.2.2.1) (hI_15_11_u45)
              have hI_15_12_u52 : fI u52 15 12 = (fI u 15 12) := Eq.trans (hTu52.2.2.2.2) (hI_15_12_u45)
              refine lv_iconst (v := 1) hx hb dX5_readUnit_111 (by decide) ?_
              refine hret _ _ _ _ _ _ dX5_readUnit_112 rfl ?_ hO
              exact ⟨Or.inr rfl, hJ, hT, hW⟩
          · refine lv_aload_n hx hb dX5_readUnit_69 rfl (lv_at hl 1 rfl) ?_
            refine lv_iload_n hx hb dX5_readUnit_70 rfl (lv_at hl 2 rfl) ?_
            refine cVi (w := cW cy a) (As := [.int 3]) (rest := []) C hO (T_X5_readInner_3 l D cy a _ (by exact hJ) (by exact hW)) (cwV 1 ht (gV wd_782 wd_784 wd_24 wd_114 wd_785) rfl rfl rfl hd_yX5_readInner ⟨Nat.le_of_ble_eq_true rfl, Nat.le_of_ble_eq_true rfl⟩) 27 rfl cW_27 rfl rfl hl.1 (Nat.le_of_ble_eq_true rfl) dX5_readUnit_71 rfl ⟨Nat.zero_le _, Nat.zero_le _⟩ (fun r54 u55 H locs hp56 hO => ?_)
            obtain ⟨hr54, hJ, hTu55, hW⟩ := hp56
            have gr54 : 0 ≤ r54.toInt ∧ r54.toInt ≤ 1 := by rcases hr54 with h | h <;> rw [h] <;> decide
            have hT : KT u u55 := KT.tr (by exact hT) hTu55
            refine hret _ _ _ _ _ _ dX5_readUnit_74 (by rcases hr54 with h | h <;> rw [h] <;> rfl) ?_ hO
            exact ⟨hr54, hJ, hT, hW⟩
        · refine lv_aload_n hx hb dX5_readUnit_41 rfl (lv_at hl 1 rfl) ?_
          refine lv_iconst (v := 2) hx hb dX5_readUnit_42 (by decide) ?_
          refine cVi (w := cW cy a) (As := [.int 2]) (rest := []) C hO (T_X5_refuse l D cy a _ (by exact hJ) (by exact hW) (2)) (cwV 1 ht (gV wd_691 wd_693 wd_6 wd_114 wd_694) rfl rfl rfl hd_yX5_refuse ⟨Nat.le_of_ble_eq_true rfl, Nat.le_of_ble_eq_true rfl⟩) 27 rfl cW_27 rfl rfl hl.1 (Nat.le_of_ble_eq_true rfl) dX5_readUnit_43 rfl ⟨Nat.zero_le _, Nat.zero_le _⟩ (fun r57 u58 H locs hp59 hO => ?_)
          have g60 : 0 ≤ (fI u 15 9).toInt ∧ (fI u 15 9).toInt ≤ 8 := by have h := CI_15_9 hJ; exact h
          have g61 : 0 ≤ (fI u 15 10).toInt ∧ (fI u 15 10).toInt ≤ 14 := by have h := CI_15_10 hJ; exact h
          have g62 : 0 ≤ (fI u 15 11).toInt ∧ (fI u 15 11).toInt ≤ 8 := by have h := CI_15_11 hJ; exact h
          have g63 : 0 ≤ (fI u 15 12).toInt ∧ (fI u 15 12).toInt ≤ 6 := by have h := CI_15_12 hJ; exact h
          obtain ⟨hr57, hJ, hTu58, hW⟩ := hp59
          subst hr57
          have hT : KT u u58 := KT.tr (by exact hT) hTu58.1
          have hI_15_9_u58 : fI u58 15 9 = (fI u 15 9) := hTu58.2.1
          have hI_15_10_u58 : fI u58 15 10 = (fI u 15 10) := hTu58.2.2.1
          have hI_15_11_u58 : fI u58 15 11 = (fI u 15 11) := hTu58.2.2.2.1
          have hI_15_12_u58 : fI u58 15 12 = (fI u 15 12) := hTu58.2.2.2.2
          refine hret _ _ _ _ _ _ dX5_readUnit_46 rfl ?_ hO
          exact ⟨Or.inl rfl, hJ, hT, hW⟩
set_option maxHeartbeats 4000000 in
set_option maxRecDepth 100000 in
theorem T_X5_readProduct_3 (l : Launch) (D : va_G) (cy : Nat → ClassId) (a : Nat → Nat) (u : St) (hJ : CI a u) (hW : fR u 2 = a 15)   : Mi l D cy (cW cy a) yX5_readProduct (.code yX5_readProduct cX5_readProduct 5 (some .boolean)) (rmo 35 793) [.ref (a 27), .int 3] u (fun (r : Int32) (u' : St) => (r = 0 ∨ r = 1) ∧ (CI a u') ∧ (KT u u') ∧ (fR u' 2 = a 15)) := by
  refine Mi.of (own := RX5) rfl (by decide) (Nat.le_of_ble_eq_true rfl) ?_
  have hT : KT u u := KT.rf
  intro p e s m below meth c A Q ls C hret hO hl
  obtain ⟨hx, hb, hml, hown, ht, hK, hA⟩ := id C
  have hl : lv_has ls 5 [(0, .ref (a 27)), (1, .int 3)] := hl
  refine lv_aload_n hx hb dX5_readProduct_0 rfl (lv_at hl 0 rfl) ?_
  refine lv_iload_n hx hb dX5_readProduct_1 rfl (lv_at hl 1 rfl) ?_
  refine cVi (w := cW cy a) (As := [.int 3]) (rest := []) C hO (T_X5_readUnit_3 l D cy a _ (by exact hJ) (by exact hW)) (cwV 1 ht (gV wd_771 wd_773 wd_23 wd_114 wd_774) rfl rfl rfl hd_yX5_readUnit ⟨Nat.le_of_ble_eq_true rfl, Nat.le_of_ble_eq_true rfl⟩) 27 rfl cW_27 rfl rfl hl.1 (Nat.le_of_ble_eq_true rfl) dX5_readProduct_2 rfl ⟨Nat.zero_le _, Nat.zero_le _⟩ (fun r1 u2 H locs hp3 hO => ?_)
  obtain ⟨hr1, hJ, hTu2, hW⟩ := hp3
  have gr1 : 0 ≤ r1.toInt ∧ r1.toInt ≤ 1 := by rcases hr1 with h | h <;> rw [h] <;> decide
  have hT : KT u u2 := KT.tr (by exact hT) hTu2
  refine lv_istore_n (lv' := [(2, .int r1), (0, .ref (a 27)), (1, .int 3)]) hx hb dX5_readProduct_5 rfl hl (by decide) rfl (fun ls hl => ?_)
  refine lv_iconst (v := 0) hx hb dX5_readProduct_6 (by decide) ?_
  refine lv_istore_n (lv' := [(3, .int 0), (2, .int r1), (0, .ref (a 27)), (1, .int 3)]) hx hb dX5_readProduct_7 rfl hl (by decide) rfl (fun ls hl => ?_)
  have LP_8_k5 : ∀ (n : Nat) (u4 : St) (H : Heap) (locs : List Loc) (ls : Array Slot) (i_k5 : Int32) (w2_k5 : Int32), Wo D A (cW cy a u4) s.heap H locs → lv_has ls 5 [(3, .int i_k5), (2, .int w2_k5), (0, .ref (a 27)), (1, .int 3)] → CI a u4 → KT u u4 → fR u4 2 = a 15 → 0 ≤ i_k5.toInt ∧ i_k5.toInt ≤ 1600 → 0 ≤ w2_k5.toInt ∧ w2_k5.toInt ≤ 1 → 1600 - i_k5.toInt < (n : Int) → W p l e (rmo 35 793) s m [.ref (a 27), .int 3].toArray below meth c H locs 0 0 Q (F0 m 8 ls []) := by
    intro n
    induction n with
    | zero =>
      intro u4 H locs ls i_k5 w2_k5 hO hl hJ hT hW iv0_k5 iv1_k5 hm_k5
      exact absurd hm_k5 (by omega)
    | succ n ih_k5 =>
      intro u4 H locs ls i_k5 w2_k5 hO hl hJ hT hW iv0_k5 iv1_k5 hm_k5
      refine lv_iload_n hx hb dX5_readProduct_8 rfl (lv_at hl 0 rfl) ?_
      refine lv_sipush (v := 1600) hx hb dX5_readProduct_9 (by decide) ?_
      refine cs_ge (tgt := 73) (X := (i_k5).toInt) (Y := 1600) hx hb dX5_readProduct_12 (by decide) rfl rfl (fun c6 => ?_) (fun c6 => ?_)
      · refine lv_iload_n hx hb dX5_readProduct_73 rfl (lv_at hl 1 rfl) ?_
        have hw2_k5 : w2_k5 = 0 ∨ w2_k5 = 1 := i_b01 rfl (by omega) (by omega)
        refine hret _ _ _ _ _ _ dX5_readProduct_74 (by rcases hw2_k5 with h | h <;> rw [h] <;> rfl) ?_ hO
        exact ⟨hw2_k5, hJ, hT, hW⟩
      · refine lv_iload_n hx hb dX5_readProduct_15 rfl (lv_at hl 1 rfl) ?_
        refine bs_eq (tgt := 73) (X := (w2_k5).toInt) hx hb dX5_readProduct_16 (by decide) rfl (fun c7 => ?_) (fun c7 => ?_)
        · refine lv_iload_n hx hb dX5_readProduct_73 rfl (lv_at hl 1 rfl) ?_
          have hw2_k5 : w2_k5 = 0 ∨ w2_k5 = 1 := i_b01 rfl (by omega) (by omega)
          refine hret _ _ _ _ _ _ dX5_readProduct_74 (by rcases hw2_k5 with h | h <;> rw [h] <;> rfl) ?_ hO
          exact ⟨hw2_k5, hJ, hT, hW⟩
        · refine lv_aload_n hx hb dX5_readProduct_19 rfl (lv_at hl 2 rfl) ?_
          refine gf_RX5_9 (v := .ref (a 1)) C hO 27 cW_27 rfl dX5_readProduct_20 ?_
          refine gf_RX5_36 (v := .int (fI u4 1 4)) C hO 1 cW_1 rfl dX5_readProduct_23 ?_
          refine cSi (w := cW cy a) (As := [.int (fI u4 1 4)]) (rest := []) C hO (T_X5_isTimes l D cy a _ (by exact hJ) ((fI u4 1 4))) (va_cwS 1 ht (gSS wd_786 wd_787 wd_114 wd_788) rfl rfl rfl hd_yX5_isTimes ⟨Nat.le_of_ble_eq_true rfl, Nat.le_of_ble_eq_true rfl⟩)  rfl hl.1 (Nat.le_of_ble_eq_true rfl) dX5_readProduct_26 rfl ⟨Nat.zero_le _, Nat.zero_le _⟩ (fun r8 u9 H locs hp10 hO => ?_)
          obtain ⟨hr8, hu9⟩ := hp10
          have gr8 : 0 ≤ r8.toInt ∧ r8.toInt ≤ 1 := by rcases hr8 with h | h <;> rw [h] <;> decide
          rw [hu9] at hO
          refine bs_eq (tgt := 73) (X := (r8).toInt) hx hb dX5_readProduct_29 (by decide) rfl (fun c11 => ?_) (fun c11 => ?_)
          · refine lv_iload_n hx hb dX5_readProduct_73 rfl (lv_at hl 1 rfl) ?_
            have hw2_k5 : w2_k5 = 0 ∨ w2_k5 = 1 := i_b01 rfl (by omega) (by omega)
            refine hret _ _ _ _ _ _ dX5_readProduct_74 (by rcases hw2_k5 with h | h <;> rw [h] <;> rfl) ?_ hO
            exact ⟨hw2_k5, hJ, hT, hW⟩
          · refine lv_aload_n hx hb dX5_readProduct_32 rfl (lv_at hl 2 rfl) ?_
            refine gf_RX5_9 (v := .ref (a 1)) C hO 27 cW_27 rfl dX5_readProduct_33 ?_
            refine gf_RX5_36 (v := .int (fI u4 1 4)) C hO 1 cW_1 rfl dX5_readProduct_36 ?_
            refine lv_istore (lv' := [(4, .int (fI u4 1 4)), (3, .int i_k5), (2, .int w2_k5), (0, .ref (a 27)), (1, .int 3)]) hx hb dX5_readProduct_39 hl (by decide) rfl (fun ls hl => ?_)
            refine lv_aload_n hx hb dX5_readProduct_41 rfl (lv_at hl 3 rfl) ?_
            refine gf_RX5_9 (v := .ref (a 1)) C hO 27 cW_27 rfl dX5_readProduct_42 ?_
            refine cVv (w := cW cy a) (As := []) (rest := []) C hO (T_X7_advance l D cy a _ (by exact hJ) (by exact hW)) (cwV 0 ht (gV wd_695 wd_541 wd_542 wd_111 wd_543) rfl rfl rfl hd_yX7_advance ⟨Nat.le_of_ble_eq_true rfl, Nat.le_of_ble_eq_true rfl⟩) 1 rfl cW_1 rfl rfl hl.1 (Nat.le_of_ble_eq_true rfl) dX5_readProduct_45 rfl ⟨Nat.zero_le _, Nat.zero_le _⟩ (fun u13 H locs hp14 hO => ?_)
            have g15 : 0 ≤ (fI u4 15 9).toInt ∧ (fI u4 15 9).toInt ≤ 8 := by have h := CI_15_9 hJ; exact h
            have g16 : 0 ≤ (fI u4 15 10).toInt ∧ (fI u4 15 10).toInt ≤ 14 := by have h := CI_15_10 hJ; exact h
            have g17 : 0 ≤ (fI u4 15 11).toInt ∧ (fI u4 15 11).toInt ≤ 8 := by have h := CI_15_11 hJ; exact h
            have g18 : 0 ≤ (fI u4 15 12).toInt ∧ (fI u4 15 12).toInt ≤ 6 := by have h := CI_15_12 hJ; exact h
            obtain ⟨hJ, hTu13, hW⟩ := hp14
            have hT : KT u u13 := KT.tr (by exact hT) hTu13.1
            have hI_15_9_u13 : fI u13 15 9 = (fI u4 15 9) := hTu13.2.1
            have hI_15_10_u13 : fI u13 15 10 = (fI u4 15 10) := hTu13.2.2.1
            have hI_15_11_u13 : fI u13 15 11 = (fI u4 15 11) := hTu13.2.2.2.1
            have hI_15_12_u13 : fI u13 15 12 = (fI u4 15 12) := hTu13.2.2.2.2
            refine lv_aload_n hx hb dX5_readProduct_48 rfl (lv_at hl 3 rfl) ?_
            refine lv_iload_n hx hb dX5_readProduct_49 rfl (lv_at hl 4 rfl) ?_
            refine cVi (w := cW cy a) (As := [.int 3]) (rest := []) C hO (T_X5_readUnit_3 l D cy a _ (by exact hJ) (by exact hW)) (cwV 1 ht (gV wd_771 wd_773 wd_23 wd_114 wd_774) rfl rfl rfl hd_yX5_readUnit ⟨Nat.le_of_ble_eq_true rfl, Nat.le_of_ble_eq_true rfl⟩) 27 rfl cW_27 rfl rfl hl.1 (Nat.le_of_ble_eq_true rfl) dX5_readProduct_50 rfl ⟨Nat.zero_le _, Nat.zero_le _⟩ (fun r19 u20 H locs hp21 hO => ?_)
            obtain ⟨hr19, hJ, hTu20, hW⟩ := hp21
            have gr19 : 0 ≤ r19.toInt ∧ r19.toInt ≤ 1 := by rcases hr19 with h | h <;> rw [h] <;> decide
            have hT : KT u u20 := KT.tr (by exact hT) hTu20
            refine lv_istore_n (lv' := [(2, .int r19), (4, .int (fI u4 1 4)), (3, .int i_k5), (0, .ref (a 27)), (1, .int 3)]) hx hb dX5_readProduct_53 rfl hl (by decide) rfl (fun ls hl => ?_)
            refine lv_aload_n hx hb dX5_readProduct_54 rfl (lv_at hl 3 rfl) ?_
            refine gf_RX5_15 (v := .ref (a 15)) C hO 27 cW_27 (congrArg (fun z : Nat => some (Value.ref z)) hW) dX5_readProduct_55 ?_
            refine gf_RX5_173 (v := .ref (a 24)) C hO 15 cW_15 rfl dX5_readProduct_58 ?_
            refine lv_iload hx hb dX5_readProduct_61 (lv_at hl 1 rfl) ?_
            refine lv_ineg hx hb dX5_readProduct_63 ?_
            refine lv_topi (fun z22 ez22 => ?_)
            refine cVv (w := cW cy a) (As := [.int z22]) (rest := []) C hO (T_X4_add l D cy a _ (by exact hJ) (by exact hW) (z22)) (cwV 1 ht (gV wd_759 wd_760 wd_761 wd_113 wd_762) rfl rfl rfl hd_yX4_add ⟨Nat.le_of_ble_eq_true rfl, Nat.le_of_ble_eq_true rfl⟩) 24 rfl cW_24 rfl rfl hl.1 (Nat.le_of_ble_eq_true rfl) dX5_readProduct_64 rfl ⟨Nat.zero_le _, Nat.zero_le _⟩ (fun u24 H locs hp25 hO => ?_)
            have g26 : 0 ≤ (fI u20 15 9).toInt ∧ (fI u20 15 9).toInt ≤ 8 := by have h := CI_15_9 hJ; exact h
            have g27 : 0 ≤ (fI u20 15 10).toInt ∧ (fI u20 15 10).toInt ≤ 14 := by have h := CI_15_10 hJ; exact h
            have g28 : 0 ≤ (fI u20 15 11).toInt ∧ (fI u20 15 11).toInt ≤ 8 := by have h := CI_15_11 hJ; exact h
            have g29 : 0 ≤ (fI u20 15 12).toInt ∧ (fI u20 15 12).toInt ≤ 6 := by have h := CI_15_12 hJ; exact h
            obtain ⟨hJ, hTu24, hW⟩ := hp25
            have hT : KT u u24 := KT.tr (by exact hT) hTu24.1
            have hI_15_9_u24 : fI u24 15 9 = (fI u20 15 9) := hTu24.2.1
            have hI_15_10_u24 : fI u24 15 10 = (fI u20 15 10) := hTu24.2.2.1
            have hI_15_11_u24 : fI u24 15 11 = (fI u20 15 11) := hTu24.2.2.2.1
            have hI_15_12_u24 : fI u24 15 12 = (fI u20 15 12) := hTu24.2.2.2.2
            have e30 : ((i_k5 + 1)).toInt = (i_k5).toInt + 1 := i_add rfl rfl (by omega)
            refine lv_iinc (v := (i_k5 + 1)) (lv' := [(3, .int (i_k5 + 1)), (2, .int r19), (4, .int (fI u4 1 4)), (0, .ref (a 27)), (1, .int 3)]) hx hb dX5_readProduct_67 hl (k := 2) rfl rfl (by decide) rfl (fun ls hl => ?_)
            refine lv_goto (tgt := 8) hx hb dX5_readProduct_70 (by decide) ?_
            exact ih_k5 _ _ _ _ ((i_k5 + 1)) (r19) hO (lv_sub hl [0, 1, 3, 4] rfl) (by exact hJ) (by exact hT) (by exact hW) (by first | decide | omega) (by first | decide | omega) (by first | decide | omega)
  exact LP_8_k5 4000 _ _ _ _ (0) (r1) hO (lv_sub hl [0, 1, 2, 3] rfl) (by exact hJ) (by exact hT) (by exact hW) (by first | decide | omega) (by first | decide | omega) (by first | decide | omega)
set_option maxHeartbeats 4000000 in
set_option maxRecDepth 100000 in
theorem T_X5_readSum_3 (l : Launch) (D : va_G) (cy : Nat → ClassId) (a : Nat → Nat) (u : St) (hJ : CI a u) (hW : fR u 2 = a 15)   : Mi l D cy (cW cy a) yX5_readSum (.code yX5_readSum cX5_readSum 5 (some .boolean)) (rmo 36 817) [.ref (a 27), .int 3] u (fun (r : Int32) (u' : St) => (r = 0 ∨ r = 1) ∧ (CI a u') ∧ (KT u u') ∧ (fR u' 2 = a 15)) := by
  refine Mi.of (own := RX5) rfl (by decide) (Nat.le_of_ble_eq_true rfl) ?_
  have hT : KT u u := KT.rf
  intro p e s m below meth c A Q ls C hret hO hl
  obtain ⟨hx, hb, hml, hown, ht, hK, hA⟩ := id C
  have hl : lv_has ls 5 [(0, .ref (a 27)), (1, .int 3)] := hl
  refine lv_aload_n hx hb dX5_readSum_0 rfl (lv_at hl 0 rfl) ?_
  refine lv_iload_n hx hb dX5_readSum_1 rfl (lv_at hl 1 rfl) ?_
  refine cVi (w := cW cy a) (As := [.int 3]) (rest := []) C hO (T_X5_readProduct_3 l D cy a _ (by exact hJ) (by exact hW)) (cwV 1 ht (gV wd_767 wd_769 wd_22 wd_114 wd_770) rfl rfl rfl hd_yX5_readProduct ⟨Nat.le_of_ble_eq_true rfl, Nat.le_of_ble_eq_true rfl⟩) 27 rfl cW_27 rfl rfl hl.1 (Nat.le_of_ble_eq_true rfl) dX5_readSum_2 rfl ⟨Nat.zero_le _, Nat.zero_le _⟩ (fun r1 u2 H locs hp3 hO => ?_)
  obtain ⟨hr1, hJ, hTu2, hW⟩ := hp3
  have gr1 : 0 ≤ r1.toInt ∧ r1.toInt ≤ 1 := by rcases hr1 with h | h <;> rw [h] <;> decide
  have hT : KT u u2 := KT.tr (by exact hT) hTu2
  refine lv_istore_n (lv' := [(2, .int r1), (0, .ref (a 27)), (1, .int 3)]) hx hb dX5_readSum_5 rfl hl (by decide) rfl (fun ls hl => ?_)
  refine lv_iconst (v := 0) hx hb dX5_readSum_6 (by decide) ?_
  refine lv_istore_n (lv' := [(3, .int 0), (2, .int r1), (0, .ref (a 27)), (1, .int 3)]) hx hb dX5_readSum_7 rfl hl (by decide) rfl (fun ls hl => ?_)
  have LP_8_k5 : ∀ (n : Nat) (u4 : St) (H : Heap) (locs : List Loc) (ls : Array Slot) (i_k5 : Int32) (w2_k5 : Int32), Wo D A (cW cy a u4) s.heap H locs → lv_has ls 5 [(3, .int i_k5), (2, .int w2_k5), (0, .ref (a 27)), (1, .int 3)] → CI a u4 → KT u u4 → fR u4 2 = a 15 → 0 ≤ i_k5.toInt ∧ i_k5.toInt ≤ 1600 → 0 ≤ w2_k5.toInt ∧ w2_k5.toInt ≤ 1 → 1600 - i_k5.toInt < (n : Int) → W p l e (rmo 36 817) s m [.ref (a 27), .int 3].toArray below meth c H locs 0 0 Q (F0 m 8 ls []) := by
    intro n
    induction n with
    | zero =>
      intro u4 H locs ls i_k5 w2_k5 hO hl hJ hT hW iv0_k5 iv1_k5 hm_k5
      exact absurd hm_k5 (by omega)
    | succ n ih_k5 =>
      intro u4 H locs ls i_k5 w2_k5 hO hl hJ hT hW iv0_k5 iv1_k5 hm_k5
      refine lv_iload_n hx hb dX5_readSum_8 rfl (lv_at hl 0 rfl) ?_
      refine lv_sipush (v := 1600) hx hb dX5_readSum_9 (by decide) ?_
      refine cs_ge (tgt := 84) (X := (i_k5).toInt) (Y := 1600) hx hb dX5_readSum_12 (by decide) rfl rfl (fun c6 => ?_) (fun c6 => ?_)
      · refine lv_iload_n hx hb dX5_readSum_84 rfl (lv_at hl 1 rfl) ?_
        have hw2_k5 : w2_k5 = 0 ∨ w2_k5 = 1 := i_b01 rfl (by omega) (by omega)
        refine hret _ _ _ _ _ _ dX5_readSum_85 (by rcases hw2_k5 with h | h <;> rw [h] <;> rfl) ?_ hO
        exact ⟨hw2_k5, hJ, hT, hW⟩
      · refine lv_iload_n hx hb dX5_readSum_15 rfl (lv_at hl 1 rfl) ?_
        refine bs_eq (tgt := 84) (X := (w2_k5).toInt) hx hb dX5_readSum_16 (by decide) rfl (fun c7 => ?_) (fun c7 => ?_)
        · refine lv_iload_n hx hb dX5_readSum_84 rfl (lv_at hl 1 rfl) ?_
          have hw2_k5 : w2_k5 = 0 ∨ w2_k5 = 1 := i_b01 rfl (by omega) (by omega)
          refine hret _ _ _ _ _ _ dX5_readSum_85 (by rcases hw2_k5 with h | h <;> rw [h] <;> rfl) ?_ hO
          exact ⟨hw2_k5, hJ, hT, hW⟩
        · refine lv_aload_n hx hb dX5_readSum_19 rfl (lv_at hl 2 rfl) ?_
          refine gf_RX5_9 (v := .ref (a 1)) C hO 27 cW_27 rfl dX5_readSum_20 ?_
          refine gf_RX5_36 (v := .int (fI u4 1 4)) C hO 1 cW_1 rfl dX5_readSum_23 ?_
          refine lv_bipush (v := 43) hx hb dX5_readSum_26 (by decide) ?_
          refine cs_eq (tgt := 43) (X := ((fI u4 1 4)).toInt) (Y := 43) hx hb dX5_readSum_28 (by decide) rfl rfl (fun c8 => ?_) (fun c8 => ?_)
          · refine lv_aload_n hx hb dX5_readSum_43 rfl (lv_at hl 2 rfl) ?_
            refine gf_RX5_9 (v := .ref (a 1)) C hO 27 cW_27 rfl dX5_readSum_44 ?_
            refine gf_RX5_36 (v := .int (fI u4 1 4)) C hO 1 cW_1 rfl dX5_readSum_47 ?_
            refine lv_istore (lv' := [(4, .int (fI u4 1 4)), (3, .int i_k5), (2, .int w2_k5), (0, .ref (a 27)), (1, .int 3)]) hx hb dX5_readSum_50 hl (by decide) rfl (fun ls hl => ?_)
            refine lv_aload_n hx hb dX5_readSum_52 rfl (lv_at hl 3 rfl) ?_
            refine gf_RX5_9 (v := .ref (a 1)) C hO 27 cW_27 rfl dX5_readSum_53 ?_
            refine cVv (w := cW cy a) (As := []) (rest := []) C hO (T_X7_advance l D cy a _ (by exact hJ) (by exact hW)) (cwV 0 ht (gV wd_695 wd_541 wd_542 wd_111 wd_543) rfl rfl rfl hd_yX7_advance ⟨Nat.le_of_ble_eq_true rfl, Nat.le_of_ble_eq_true rfl⟩) 1 rfl cW_1 rfl rfl hl.1 (Nat.le_of_ble_eq_true rfl) dX5_readSum_56 rfl ⟨Nat.zero_le _, Nat.zero_le _⟩ (fun u10 H locs hp11 hO => ?_)
            have g12 : 0 ≤ (fI u4 15 9).toInt ∧ (fI u4 15 9).toInt ≤ 8 := by have h := CI_15_9 hJ; exact h
            have g13 : 0 ≤ (fI u4 15 10).toInt ∧ (fI u4 15 10).toInt ≤ 14 := by have h := CI_15_10 hJ; exact h
            have g14 : 0 ≤ (fI u4 15 11).toInt ∧ (fI u4 15 11).toInt ≤ 8 := by have h := CI_15_11 hJ; exact h
            have g15 : 0 ≤ (fI u4 15 12).toInt ∧ (fI u4 15 12).toInt ≤ 6 := by have h := CI_15_12 hJ; exact h
            obtain ⟨hJ, hTu10, hW⟩ := hp11
            have hT : KT u u10 := KT.tr (by exact hT) hTu10.1
            have hI_15_9_u10 : fI u10 15 9 = (fI u4 15 9) := hTu10.2.1
            have hI_15_10_u10 : fI u10 15 10 = (fI u4 15 10) := hTu10.2.2.1
            have hI_15_11_u10 : fI u10 15 11 = (fI u4 15 11) := hTu10.2.2.2.1
            have hI_15_12_u10 : fI u10 15 12 = (fI u4 15 12) := hTu10.2.2.2.2
            refine lv_aload_n hx hb dX5_readSum_59 rfl (lv_at hl 3 rfl) ?_
            refine lv_iload_n hx hb dX5_readSum_60 rfl (lv_at hl 4 rfl) ?_
            refine cVi (w := cW cy a) (As := [.int 3]) (rest := []) C hO (T_X5_readProduct_3 l D cy a _ (by exact hJ) (by exact hW)) (cwV 1 ht (gV wd_767 wd_769 wd_22 wd_114 wd_770) rfl rfl rfl hd_yX5_readProduct ⟨Nat.le_of_ble_eq_true rfl, Nat.le_of_ble_eq_true rfl⟩) 27 rfl cW_27 rfl rfl hl.1 (Nat.le_of_ble_eq_true rfl) dX5_readSum_61 rfl ⟨Nat.zero_le _, Nat.zero_le _⟩ (fun r16 u17 H locs hp18 hO => ?_)
            obtain ⟨hr16, hJ, hTu17, hW⟩ := hp18
            have gr16 : 0 ≤ r16.toInt ∧ r16.toInt ≤ 1 := by rcases hr16 with h | h <;> rw [h] <;> decide
            have hT : KT u u17 := KT.tr (by exact hT) hTu17
            refine lv_istore_n (lv' := [(2, .int r16), (4, .int (fI u4 1 4)), (3, .int i_k5), (0, .ref (a 27)), (1, .int 3)]) hx hb dX5_readSum_64 rfl hl (by decide) rfl (fun ls hl => ?_)
            refine lv_aload_n hx hb dX5_readSum_65 rfl (lv_at hl 3 rfl) ?_
            refine gf_RX5_15 (v := .ref (a 15)) C hO 27 cW_27 (congrArg (fun z : Nat => some (Value.ref z)) hW) dX5_readSum_66 ?_
            refine gf_RX5_173 (v := .ref (a 24)) C hO 15 cW_15 rfl dX5_readSum_69 ?_
            refine lv_iload hx hb dX5_readSum_72 (lv_at hl 1 rfl) ?_
            refine lv_ineg hx hb dX5_readSum_74 ?_
            refine lv_topi (fun z19 ez19 => ?_)
            refine cVv (w := cW cy a) (As := [.int z19]) (rest := []) C hO (T_X4_add l D cy a _ (by exact hJ) (by exact hW) (z19)) (cwV 1 ht (gV wd_759 wd_760 wd_761 wd_113 wd_762) rfl rfl rfl hd_yX4_add ⟨Nat.le_of_ble_eq_true rfl, Nat.le_of_ble_eq_true rfl⟩) 24 rfl cW_24 rfl rfl hl.1 (Nat.le_of_ble_eq_true rfl) dX5_readSum_75 rfl ⟨Nat.zero_le _, Nat.zero_le _⟩ (fun u21 H locs hp22 hO => ?_)
            have g23 : 0 ≤ (fI u17 15 9).toInt ∧ (fI u17 15 9).toInt ≤ 8 := by have h := CI_15_9 hJ; exact h
            have g24 : 0 ≤ (fI u17 15 10).toInt ∧ (fI u17 15 10).toInt ≤ 14 := by have h := CI_15_10 hJ; exact h
            have g25 : 0 ≤ (fI u17 15 11).toInt ∧ (fI u17 15 11).toInt ≤ 8 := by have h := CI_15_11 hJ; exact h
            have g26 : 0 ≤ (fI u17 15 12).toInt ∧ (fI u17 15 12).toInt ≤ 6 := by have h := CI_15_12 hJ; exact h
            obtain ⟨hJ, hTu21, hW⟩ := hp22
            have hT : KT u u21 := KT.tr (by exact hT) hTu21.1
            have hI_15_9_u21 : fI u21 15 9 = (fI u17 15 9) := hTu21.2.1
            have hI_15_10_u21 : fI u21 15 10 = (fI u17 15 10) := hTu21.2.2.1
            have hI_15_11_u21 : fI u21 15 11 = (fI u17 15 11) := hTu21.2.2.2.1
            have hI_15_12_u21 : fI u21 15 12 = (fI u17 15 12) := hTu21.2.2.2.2
            have e27 : ((i_k5 + 1)).toInt = (i_k5).toInt + 1 := i_add rfl rfl (by omega)
            refine lv_iinc (v := (i_k5 + 1)) (lv' := [(3, .int (i_k5 + 1)), (2, .int r16), (4, .int (fI u4 1 4)), (0, .ref (a 27)), (1, .int 3)]) hx hb dX5_readSum_78 hl (k := 2) rfl rfl (by decide) rfl (fun ls hl => ?_)
            refine lv_goto (tgt := 8) hx hb dX5_readSum_81 (by decide) ?_
            exact ih_k5 _ _ _ _ ((i_k5 + 1)) (r16) hO (lv_sub hl [0, 1, 3, 4] rfl) (by exact hJ) (by exact hT) (by exact hW) (by first | decide | omega) (by first | decide | omega) (by first | decide | omega)
          · refine lv_aload_n hx hb dX5_readSum_31 rfl (lv_at hl 2 rfl) ?_
            refine gf_RX5_9 (v := .ref (a 1)) C hO 27 cW_27 rfl dX5_readSum_32 ?_
            refine gf_RX5_36 (v := .int (fI u4 1 4)) C hO 1 cW_1 rfl dX5_readSum_35 ?_
            refine lv_bipush (v := 45) hx hb dX5_readSum_38 (by decide) ?_
            refine cs_ne (tgt := 84) (X := ((fI u4 1 4)).toInt) (Y := 45) hx hb dX5_readSum_40 (by decide) rfl rfl (fun c28 => ?_) (fun c28 => ?_)
            · refine lv_iload_n hx hb dX5_readSum_84 rfl (lv_at hl 1 rfl) ?_
              have hw2_k5 : w2_k5 = 0 ∨ w2_k5 = 1 := i_b01 rfl (by omega) (by omega)
              refine hret _ _ _ _ _ _ dX5_readSum_85 (by rcases hw2_k5 with h | h <;> rw [h] <;> rfl) ?_ hO
              exact ⟨hw2_k5, hJ, hT, hW⟩
            · refine lv_aload_n hx hb dX5_readSum_43 rfl (lv_at hl 2 rfl) ?_
              refine gf_RX5_9 (v := .ref (a 1)) C hO 27 cW_27 rfl dX5_readSum_44 ?_
              refine gf_RX5_36 (v := .int (fI u4 1 4)) C hO 1 cW_1 rfl dX5_readSum_47 ?_
              refine lv_istore (lv' := [(4, .int (fI u4 1 4)), (3, .int i_k5), (2, .int w2_k5), (0, .ref (a 27)), (1, .int 3)]) hx hb dX5_readSum_50 hl (by decide) rfl (fun ls hl => ?_)
              refine lv_aload_n hx hb dX5_readSum_52 rfl (lv_at hl 3 rfl) ?_
              refine gf_RX5_9 (v := .ref (a 1)) C hO 27 cW_27 rfl dX5_readSum_53 ?_
              refine cVv (w := cW cy a) (As := []) (rest := []) C hO (T_X7_advance l D cy a _ (by exact hJ) (by exact hW)) (cwV 0 ht (gV wd_695 wd_541 wd_542 wd_111 wd_543) rfl rfl rfl hd_yX7_advance ⟨Nat.le_of_ble_eq_true rfl, Nat.le_of_ble_eq_true rfl⟩) 1 rfl cW_1 rfl rfl hl.1 (Nat.le_of_ble_eq_true rfl) dX5_readSum_56 rfl ⟨Nat.zero_le _, Nat.zero_le _⟩ (fun u30 H locs hp31 hO => ?_)
              have g32 : 0 ≤ (fI u4 15 9).toInt ∧ (fI u4 15 9).toInt ≤ 8 := by have h := CI_15_9 hJ; exact h
              have g33 : 0 ≤ (fI u4 15 10).toInt ∧ (fI u4 15 10).toInt ≤ 14 := by have h := CI_15_10 hJ; exact h
              have g34 : 0 ≤ (fI u4 15 11).toInt ∧ (fI u4 15 11).toInt ≤ 8 := by have h := CI_15_11 hJ; exact h
              have g35 : 0 ≤ (fI u4 15 12).toInt ∧ (fI u4 15 12).toInt ≤ 6 := by have h := CI_15_12 hJ; exact h
              obtain ⟨hJ, hTu30, hW⟩ := hp31
              have hT : KT u u30 := KT.tr (by exact hT) hTu30.1
              have hI_15_9_u30 : fI u30 15 9 = (fI u4 15 9) := hTu30.2.1
              have hI_15_10_u30 : fI u30 15 10 = (fI u4 15 10) := hTu30.2.2.1
              have hI_15_11_u30 : fI u30 15 11 = (fI u4 15 11) := hTu30.2.2.2.1
              have hI_15_12_u30 : fI u30 15 12 = (fI u4 15 12) := hTu30.2.2.2.2
              refine lv_aload_n hx hb dX5_readSum_59 rfl (lv_at hl 3 rfl) ?_
              refine lv_iload_n hx hb dX5_readSum_60 rfl (lv_at hl 4 rfl) ?_
              refine cVi (w := cW cy a) (As := [.int 3]) (rest := []) C hO (T_X5_readProduct_3 l D cy a _ (by exact hJ) (by exact hW)) (cwV 1 ht (gV wd_767 wd_769 wd_22 wd_114 wd_770) rfl rfl rfl hd_yX5_readProduct ⟨Nat.le_of_ble_eq_true rfl, Nat.le_of_ble_eq_true rfl⟩) 27 rfl cW_27 rfl rfl hl.1 (Nat.le_of_ble_eq_true rfl) dX5_readSum_61 rfl ⟨Nat.zero_le _, Nat.zero_le _⟩ (fun r36 u37 H locs hp38 hO => ?_)
              obtain ⟨hr36, hJ, hTu37, hW⟩ := hp38
              have gr36 : 0 ≤ r36.toInt ∧ r36.toInt ≤ 1 := by rcases hr36 with h | h <;> rw [h] <;> decide
              have hT : KT u u37 := KT.tr (by exact hT) hTu37
              refine lv_istore_n (lv' := [(2, .int r36), (4, .int (fI u4 1 4)), (3, .int i_k5), (0, .ref (a 27)), (1, .int 3)]) hx hb dX5_readSum_64 rfl hl (by decide) rfl (fun ls hl => ?_)
              refine lv_aload_n hx hb dX5_readSum_65 rfl (lv_at hl 3 rfl) ?_
              refine gf_RX5_15 (v := .ref (a 15)) C hO 27 cW_27 (congrArg (fun z : Nat => some (Value.ref z)) hW) dX5_readSum_66 ?_
              refine gf_RX5_173 (v := .ref (a 24)) C hO 15 cW_15 rfl dX5_readSum_69 ?_
              refine lv_iload hx hb dX5_readSum_72 (lv_at hl 1 rfl) ?_
              refine lv_ineg hx hb dX5_readSum_74 ?_
              refine lv_topi (fun z39 ez39 => ?_)
              refine cVv (w := cW cy a) (As := [.int z39]) (rest := []) C hO (T_X4_add l D cy a _ (by exact hJ) (by exact hW) (z39)) (cwV 1 ht (gV wd_759 wd_760 wd_761 wd_113 wd_762) rfl rfl rfl hd_yX4_add ⟨Nat.le_of_ble_eq_true rfl, Nat.le_of_ble_eq_true rfl⟩) 24 rfl cW_24 rfl rfl hl.1 (Nat.le_of_ble_eq_true rfl) dX5_readSum_75 rfl ⟨Nat.zero_le _, Nat.zero_le _⟩ (fun u41 H locs hp42 hO => ?_)
              have g43 : 0 ≤ (fI u37 15 9).toInt ∧ (fI u37 15 9).toInt ≤ 8 := by have h := CI_15_9 hJ; exact h
              have g44 : 0 ≤ (fI u37 15 10).toInt ∧ (fI u37 15 10).toInt ≤ 14 := by have h := CI_15_10 hJ; exact h
              have g45 : 0 ≤ (fI u37 15 11).toInt ∧ (fI u37 15 11).toInt ≤ 8 := by have h := CI_15_11 hJ; exact h
              have g46 : 0 ≤ (fI u37 15 12).toInt ∧ (fI u37 15 12).toInt ≤ 6 := by have h := CI_15_12 hJ; exact h
              obtain ⟨hJ, hTu41, hW⟩ := hp42
              have hT : KT u u41 := KT.tr (by exact hT) hTu41.1
              have hI_15_9_u41 : fI u41 15 9 = (fI u37 15 9) := hTu41.2.1
              have hI_15_10_u41 : fI u41 15 10 = (fI u37 15 10) := hTu41.2.2.1
              have hI_15_11_u41 : fI u41 15 11 = (fI u37 15 11) := hTu41.2.2.2.1
              have hI_15_12_u41 : fI u41 15 12 = (fI u37 15 12) := hTu41.2.2.2.2
              have e47 : ((i_k5 + 1)).toInt = (i_k5).toInt + 1 := i_add rfl rfl (by omega)
              refine lv_iinc (v := (i_k5 + 1)) (lv' := [(3, .int (i_k5 + 1)), (2, .int r36), (4, .int (fI u4 1 4)), (0, .ref (a 27)), (1, .int 3)]) hx hb dX5_readSum_78 hl (k := 2) rfl rfl (by decide) rfl (fun ls hl => ?_)
              refine lv_goto (tgt := 8) hx hb dX5_readSum_81 (by decide) ?_
              exact ih_k5 _ _ _ _ ((i_k5 + 1)) (r36) hO (lv_sub hl [0, 1, 3, 4] rfl) (by exact hJ) (by exact hT) (by exact hW) (by first | decide | omega) (by first | decide | omega) (by first | decide | omega)
  exact LP_8_k5 4000 _ _ _ _ (0) (r1) hO (lv_sub hl [0, 1, 2, 3] rfl) (by exact hJ) (by exact hT) (by exact hW) (by first | decide | omega) (by first | decide | omega) (by first | decide | omega)
set_option maxHeartbeats 4000000 in
set_option maxRecDepth 100000 in
theorem T_X5_readNot_3 (l : Launch) (D : va_G) (cy : Nat → ClassId) (a : Nat → Nat) (u : St) (hJ : CI a u) (hW : fR u 2 = a 15)   : Mi l D cy (cW cy a) yX5_readNot (.code yX5_readNot cX5_readNot 3 (some .boolean)) (rmo 31 704) [.ref (a 27), .int 3] u (fun (r : Int32) (u' : St) => (r = 0 ∨ r = 1) ∧ (CI a u') ∧ (KT u u') ∧ (fR u' 2 = a 15)) := by
  refine Mi.of (own := RX5) rfl (by decide) (Nat.le_of_ble_eq_true rfl) ?_
  have hT : KT u u := KT.rf
  intro p e s m below meth c A Q ls C hret hO hl
  obtain ⟨hx, hb, hml, hown, ht, hK, hA⟩ := id C
  have hl : lv_has ls 3 [(0, .ref (a 27)), (1, .int 3)] := hl
  refine lv_iload_n hx hb dX5_readNot_0 rfl (lv_at hl 1 rfl) ?_
  refine lv_bipush (v := 6) hx hb dX5_readNot_1 (by decide) ?_
  refine ct_le (tgt := 12) (X := 3) (Y := 6) hx hb dX5_readNot_3 (by decide) rfl rfl (by omega) ?_
  refine lv_aload_n hx hb dX5_readNot_12 rfl (lv_at hl 0 rfl) ?_
  refine gf_RX5_9 (v := .ref (a 1)) C hO 27 cW_27 rfl dX5_readNot_13 ?_
  refine cVv (w := cW cy a) (As := []) (rest := []) C hO (T_X7_advance l D cy a _ (by exact hJ) (by exact hW)) (cwV 0 ht (gV wd_695 wd_541 wd_542 wd_111 wd_543) rfl rfl rfl hd_yX7_advance ⟨Nat.le_of_ble_eq_true rfl, Nat.le_of_ble_eq_true rfl⟩) 1 rfl cW_1 rfl rfl hl.1 (Nat.le_of_ble_eq_true rfl) dX5_readNot_16 rfl ⟨Nat.zero_le _, Nat.zero_le _⟩ (fun u2 H locs hp3 hO => ?_)
  have g4 : 0 ≤ (fI u 15 9).toInt ∧ (fI u 15 9).toInt ≤ 8 := by have h := CI_15_9 hJ; exact h
  have g5 : 0 ≤ (fI u 15 10).toInt ∧ (fI u 15 10).toInt ≤ 14 := by have h := CI_15_10 hJ; exact h
  have g6 : 0 ≤ (fI u 15 11).toInt ∧ (fI u 15 11).toInt ≤ 8 := by have h := CI_15_11 hJ; exact h
  have g7 : 0 ≤ (fI u 15 12).toInt ∧ (fI u 15 12).toInt ≤ 6 := by have h := CI_15_12 hJ; exact h
  obtain ⟨hJ, hTu2, hW⟩ := hp3
  have hT : KT u u2 := KT.tr (by exact hT) hTu2.1
  have hI_15_9_u2 : fI u2 15 9 = (fI u 15 9) := hTu2.2.1
  have hI_15_10_u2 : fI u2 15 10 = (fI u 15 10) := hTu2.2.2.1
  have hI_15_11_u2 : fI u2 15 11 = (fI u 15 11) := hTu2.2.2.2.1
  have hI_15_12_u2 : fI u2 15 12 = (fI u 15 12) := hTu2.2.2.2.2
  refine lv_aload_n hx hb dX5_readNot_19 rfl (lv_at hl 0 rfl) ?_
  refine lv_iload_n hx hb dX5_readNot_20 rfl (lv_at hl 1 rfl) ?_
  refine lv_iconst (v := 1) hx hb dX5_readNot_21 (by decide) ?_
  refine lv_iadd hx hb dX5_readNot_22 ?_
  refine tE (y := 4) rfl ?_
  refine cVi (w := cW cy a) (As := [.int 4]) (rest := []) C hO (T_X5_readOne_4 l D cy a _ (by exact hJ) (by exact hW)) (cwV 1 ht (gV wd_751 wd_753 wd_19 wd_114 wd_754) rfl rfl rfl hd_yX5_readOne ⟨Nat.le_of_ble_eq_true rfl, Nat.le_of_ble_eq_true rfl⟩) 27 rfl cW_27 rfl rfl hl.1 (Nat.le_of_ble_eq_true rfl) dX5_readNot_23 rfl ⟨Nat.zero_le _, Nat.zero_le _⟩ (fun r8 u9 H locs hp10 hO => ?_)
  obtain ⟨hr8, hJ, hTu9, hW⟩ := hp10
  have gr8 : 0 ≤ r8.toInt ∧ r8.toInt ≤ 1 := by rcases hr8 with h | h <;> rw [h] <;> decide
  have hT : KT u u9 := KT.tr (by exact hT) hTu9
  refine lv_istore_n (lv' := [(2, .int r8), (0, .ref (a 27)), (1, .int 3)]) hx hb dX5_readNot_26 rfl hl (by decide) rfl (fun ls hl => ?_)
  refine lv_aload_n hx hb dX5_readNot_27 rfl (lv_at hl 1 rfl) ?_
  refine gf_RX5_15 (v := .ref (a 15)) C hO 27 cW_27 (congrArg (fun z : Nat => some (Value.ref z)) hW) dX5_readNot_28 ?_
  refine gf_RX5_173 (v := .ref (a 24)) C hO 15 cW_15 rfl dX5_readNot_31 ?_
  refine lv_bipush (v := (-15)) hx hb dX5_readNot_34 (by decide) ?_
  refine cVv (w := cW cy a) (As := [.int (-15)]) (rest := []) C hO (T_X4_add l D cy a _ (by exact hJ) (by exact hW) ((-15))) (cwV 1 ht (gV wd_759 wd_760 wd_761 wd_113 wd_762) rfl rfl rfl hd_yX4_add ⟨Nat.le_of_ble_eq_true rfl, Nat.le_of_ble_eq_true rfl⟩) 24 rfl cW_24 rfl rfl hl.1 (Nat.le_of_ble_eq_true rfl) dX5_readNot_36 rfl ⟨Nat.zero_le _, Nat.zero_le _⟩ (fun u12 H locs hp13 hO => ?_)
  have g14 : 0 ≤ (fI u9 15 9).toInt ∧ (fI u9 15 9).toInt ≤ 8 := by have h := CI_15_9 hJ; exact h
  have g15 : 0 ≤ (fI u9 15 10).toInt ∧ (fI u9 15 10).toInt ≤ 14 := by have h := CI_15_10 hJ; exact h
  have g16 : 0 ≤ (fI u9 15 11).toInt ∧ (fI u9 15 11).toInt ≤ 8 := by have h := CI_15_11 hJ; exact h
  have g17 : 0 ≤ (fI u9 15 12).toInt ∧ (fI u9 15 12).toInt ≤ 6 := by have h := CI_15_12 hJ; exact h
  obtain ⟨hJ, hTu12, hW⟩ := hp13
  have hT : KT u u12 := KT.tr (by exact hT) hTu12.1
  have hI_15_9_u12 : fI u12 15 9 = (fI u9 15 9) := hTu12.2.1
  have hI_15_10_u12 : fI u12 15 10 = (fI u9 15 10) := hTu12.2.2.1
  have hI_15_11_u12 : fI u12 15 11 = (fI u9 15 11) := hTu12.2.2.2.1
  have hI_15_12_u12 : fI u12 15 12 = (fI u9 15 12) := hTu12.2.2.2.2
  refine lv_iload_n hx hb dX5_readNot_39 rfl (lv_at hl 0 rfl) ?_
  refine hret _ _ _ _ _ _ dX5_readNot_40 (by rcases hr8 with h | h <;> rw [h] <;> rfl) ?_ hO
  exact ⟨hr8, hJ, hT, hW⟩
set_option maxHeartbeats 4000000 in
set_option maxRecDepth 100000 in
theorem T_X5_readOne_3 (l : Launch) (D : va_G) (cy : Nat → ClassId) (a : Nat → Nat) (u : St) (hJ : CI a u) (hW : fR u 2 = a 15)   : Mi l D cy (cW cy a) yX5_readOne (.code yX5_readOne cX5_readOne 4 (some .boolean)) (rmo 37 841) [.ref (a 27), .int 3] u (fun (r : Int32) (u' : St) => (r = 0 ∨ r = 1) ∧ (CI a u') ∧ (KT u u') ∧ (fR u' 2 = a 15)) := by
  refine Mi.of (own := RX5) rfl (by decide) (Nat.le_of_ble_eq_true rfl) ?_
  have hT : KT u u := KT.rf
  intro p e s m below meth c A Q ls C hret hO hl
  obtain ⟨hx, hb, hml, hown, ht, hK, hA⟩ := id C
  have hl : lv_has ls 4 [(0, .ref (a 27)), (1, .int 3)] := hl
  refine lv_aload_n hx hb dX5_readOne_0 rfl (lv_at hl 0 rfl) ?_
  refine gf_RX5_9 (v := .ref (a 1)) C hO 27 cW_27 rfl dX5_readOne_1 ?_
  refine gf_RX5_36 (v := .int (fI u 1 4)) C hO 1 cW_1 rfl dX5_readOne_4 ?_
  refine lv_bipush (v := 15) hx hb dX5_readOne_7 (by decide) ?_
  refine cs_ne (tgt := 18) (X := ((fI u 1 4)).toInt) (Y := 15) hx hb dX5_readOne_9 (by decide) rfl rfl (fun c1 => ?_) (fun c1 => ?_)
  · refine lv_aload_n hx hb dX5_readOne_18 rfl (lv_at hl 0 rfl) ?_
    refine lv_iload_n hx hb dX5_readOne_19 rfl (lv_at hl 1 rfl) ?_
    refine cVi (w := cW cy a) (As := [.int 3]) (rest := []) C hO (T_X5_readSum_3 l D cy a _ (by exact hJ) (by exact hW)) (cwV 1 ht (gV wd_763 wd_765 wd_21 wd_114 wd_766) rfl rfl rfl hd_yX5_readSum ⟨Nat.le_of_ble_eq_true rfl, Nat.le_of_ble_eq_true rfl⟩) 27 rfl cW_27 rfl rfl hl.1 (Nat.le_of_ble_eq_true rfl) dX5_readOne_20 rfl ⟨Nat.zero_le _, Nat.zero_le _⟩ (fun r2 u3 H locs hp4 hO => ?_)
    obtain ⟨hr2, hJ, hTu3, hW⟩ := hp4
    have gr2 : 0 ≤ r2.toInt ∧ r2.toInt ≤ 1 := by rcases hr2 with h | h <;> rw [h] <;> decide
    have hT : KT u u3 := KT.tr (by exact hT) hTu3
    refine bs_ne (tgt := 28) (X := (r2).toInt) hx hb dX5_readOne_23 (by decide) rfl (fun c5 => ?_) (fun c5 => ?_)
    · refine lv_aload_n hx hb dX5_readOne_28 rfl (lv_at hl 0 rfl) ?_
      refine gf_RX5_9 (v := .ref (a 1)) C hO 27 cW_27 rfl dX5_readOne_29 ?_
      refine gf_RX5_36 (v := .int (fI u3 1 4)) C hO 1 cW_1 rfl dX5_readOne_32 ?_
      refine lv_istore_n (lv' := [(2, .int (fI u3 1 4)), (0, .ref (a 27)), (1, .int 3)]) hx hb dX5_readOne_35 rfl hl (by decide) rfl (fun ls hl => ?_)
      refine lv_iload_n hx hb dX5_readOne_36 rfl (lv_at hl 0 rfl) ?_
      refine lv_bipush (v := 60) hx hb dX5_readOne_37 (by decide) ?_
      refine cs_eq (tgt := 56) (X := ((fI u3 1 4)).toInt) (Y := 60) hx hb dX5_readOne_39 (by decide) rfl rfl (fun c6 => ?_) (fun c6 => ?_)
      · refine lv_aload_n hx hb dX5_readOne_56 rfl (lv_at hl 1 rfl) ?_
        refine gf_RX5_9 (v := .ref (a 1)) C hO 27 cW_27 rfl dX5_readOne_57 ?_
        refine cVv (w := cW cy a) (As := []) (rest := []) C hO (T_X7_advance l D cy a _ (by exact hJ) (by exact hW)) (cwV 0 ht (gV wd_695 wd_541 wd_542 wd_111 wd_543) rfl rfl rfl hd_yX7_advance ⟨Nat.le_of_ble_eq_true rfl, Nat.le_of_ble_eq_true rfl⟩) 1 rfl cW_1 rfl rfl hl.1 (Nat.le_of_ble_eq_true rfl) dX5_readOne_60 rfl ⟨Nat.zero_le _, Nat.zero_le _⟩ (fun u8 H locs hp9 hO => ?_)
        have g10 : 0 ≤ (fI u3 15 9).toInt ∧ (fI u3 15 9).toInt ≤ 8 := by have h := CI_15_9 hJ; exact h
        have g11 : 0 ≤ (fI u3 15 10).toInt ∧ (fI u3 15 10).toInt ≤ 14 := by have h := CI_15_10 hJ; exact h
        have g12 : 0 ≤ (fI u3 15 11).toInt ∧ (fI u3 15 11).toInt ≤ 8 := by have h := CI_15_11 hJ; exact h
        have g13 : 0 ≤ (fI u3 15 12).toInt ∧ (fI u3 15 12).toInt ≤ 6 := by have h := CI_15_12 hJ; exact h
        obtain ⟨hJ, hTu8, hW⟩ := hp9
        have hT : KT u u8 := KT.tr (by exact hT) hTu8.1
        have hI_15_9_u8 : fI u8 15 9 = (fI u3 15 9) := hTu8.2.1
        have hI_15_10_u8 : fI u8 15 10 = (fI u3 15 10) := hTu8.2.2.1
        have hI_15_11_u8 : fI u8 15 11 = (fI u3 15 11) := hTu8.2.2.2.1
        have hI_15_12_u8 : fI u8 15 12 = (fI u3 15 12) := hTu8.2.2.2.2
        refine lv_aload_n hx hb dX5_readOne_63 rfl (lv_at hl 1 rfl) ?_
        refine lv_iload_n hx hb dX5_readOne_64 rfl (lv_at hl 2 rfl) ?_
        refine cVi (w := cW cy a) (As := [.int 3]) (rest := []) C hO (T_X5_readSum_3 l D cy a _ (by exact hJ) (by exact hW)) (cwV 1 ht (gV wd_763 wd_765 wd_21 wd_114 wd_766) rfl rfl rfl hd_yX5_readSum ⟨Nat.le_of_ble_eq_true rfl, Nat.le_of_ble_eq_true rfl⟩) 27 rfl cW_27 rfl rfl hl.1 (Nat.le_of_ble_eq_true rfl) dX5_readOne_65 rfl ⟨Nat.zero_le _, Nat.zero_le _⟩ (fun r14 u15 H locs hp16 hO => ?_)
        obtain ⟨hr14, hJ, hTu15, hW⟩ := hp16
        have gr14 : 0 ≤ r14.toInt ∧ r14.toInt ≤ 1 := by rcases hr14 with h | h <;> rw [h] <;> decide
        have hT : KT u u15 := KT.tr (by exact hT) hTu15
        refine lv_istore_n (lv' := [(3, .int r14), (2, .int (fI u3 1 4)), (0, .ref (a 27)), (1, .int 3)]) hx hb dX5_readOne_68 rfl hl (by decide) rfl (fun ls hl => ?_)
        refine lv_aload_n hx hb dX5_readOne_69 rfl (lv_at hl 2 rfl) ?_
        refine gf_RX5_15 (v := .ref (a 15)) C hO 27 cW_27 (congrArg (fun z : Nat => some (Value.ref z)) hW) dX5_readOne_70 ?_
        refine gf_RX5_173 (v := .ref (a 24)) C hO 15 cW_15 rfl dX5_readOne_73 ?_
        refine lv_iload_n hx hb dX5_readOne_76 rfl (lv_at hl 1 rfl) ?_
        refine lv_ineg hx hb dX5_readOne_77 ?_
        refine lv_topi (fun z17 ez17 => ?_)
        refine cVv (w := cW cy a) (As := [.int z17]) (rest := []) C hO (T_X4_add l D cy a _ (by exact hJ) (by exact hW) (z17)) (cwV 1 ht (gV wd_759 wd_760 wd_761 wd_113 wd_762) rfl rfl rfl hd_yX4_add ⟨Nat.le_of_ble_eq_true rfl, Nat.le_of_ble_eq_true rfl⟩) 24 rfl cW_24 rfl rfl hl.1 (Nat.le_of_ble_eq_true rfl) dX5_readOne_78 rfl ⟨Nat.zero_le _, Nat.zero_le _⟩ (fun u19 H locs hp20 hO => ?_)
        have g21 : 0 ≤ (fI u15 15 9).toInt ∧ (fI u15 15 9).toInt ≤ 8 := by have h := CI_15_9 hJ; exact h
        have g22 : 0 ≤ (fI u15 15 10).toInt ∧ (fI u15 15 10).toInt ≤ 14 := by have h := CI_15_10 hJ; exact h
        have g23 : 0 ≤ (fI u15 15 11).toInt ∧ (fI u15 15 11).toInt ≤ 8 := by have h := CI_15_11 hJ; exact h
        have g24 : 0 ≤ (fI u15 15 12).toInt ∧ (fI u15 15 12).toInt ≤ 6 := by have h := CI_15_12 hJ; exact h
        obtain ⟨hJ, hTu19, hW⟩ := hp20
        have hT : KT u u19 := KT.tr (by exact hT) hTu19.1
        have hI_15_9_u19 : fI u19 15 9 = (fI u15 15 9) := hTu19.2.1
        have hI_15_10_u19 : fI u19 15 10 = (fI u15 15 10) := hTu19.2.2.1
        have hI_15_11_u19 : fI u19 15 11 = (fI u15 15 11) := hTu19.2.2.2.1
        have hI_15_12_u19 : fI u19 15 12 = (fI u15 15 12) := hTu19.2.2.2.2
        refine lv_iload_n hx hb dX5_readOne_81 rfl (lv_at hl 0 rfl) ?_
        refine hret _ _ _ _ _ _ dX5_readOne_82 (by rcases hr14 with h | h <;> rw [h] <;> rfl) ?_ hO
        exact ⟨hr14, hJ, hT, hW⟩
      · refine lv_iload_n hx hb dX5_readOne_42 rfl (lv_at hl 0 rfl) ?_
        refine lv_bipush (v := 62) hx hb dX5_readOne_43 (by decide) ?_
        refine cs_eq (tgt := 56) (X := ((fI u3 1 4)).toInt) (Y := 62) hx hb dX5_readOne_45 (by decide) rfl rfl (fun c25 => ?_) (fun c25 => ?_)
        · refine lv_aload_n hx hb dX5_readOne_56 rfl (lv_at hl 1 rfl) ?_
          refine gf_RX5_9 (v := .ref (a 1)) C hO 27 cW_27 rfl dX5_readOne_57 ?_
          refine cVv (w := cW cy a) (As := []) (rest := []) C hO (T_X7_advance l D cy a _ (by exact hJ) (by exact hW)) (cwV 0 ht (gV wd_695 wd_541 wd_542 wd_111 wd_543) rfl rfl rfl hd_yX7_advance ⟨Nat.le_of_ble_eq_true rfl, Nat.le_of_ble_eq_true rfl⟩) 1 rfl cW_1 rfl rfl hl.1 (Nat.le_of_ble_eq_true rfl) dX5_readOne_60 rfl ⟨Nat.zero_le _, Nat.zero_le _⟩ (fun u27 H locs hp28 hO => ?_)
          have g29 : 0 ≤ (fI u3 15 9).toInt ∧ (fI u3 15 9).toInt ≤ 8 := by have h := CI_15_9 hJ; exact h
          have g30 : 0 ≤ (fI u3 15 10).toInt ∧ (fI u3 15 10).toInt ≤ 14 := by have h := CI_15_10 hJ; exact h
          have g31 : 0 ≤ (fI u3 15 11).toInt ∧ (fI u3 15 11).toInt ≤ 8 := by have h := CI_15_11 hJ; exact h
          have g32 : 0 ≤ (fI u3 15 12).toInt ∧ (fI u3 15 12).toInt ≤ 6 := by have h := CI_15_12 hJ; exact h
          obtain ⟨hJ, hTu27, hW⟩ := hp28
          have hT : KT u u27 := KT.tr (by exact hT) hTu27.1
          have hI_15_9_u27 : fI u27 15 9 = (fI u3 15 9) := hTu27.2.1
          have hI_15_10_u27 : fI u27 15 10 = (fI u3 15 10) := hTu27.2.2.1
          have hI_15_11_u27 : fI u27 15 11 = (fI u3 15 11) := hTu27.2.2.2.1
          have hI_15_12_u27 : fI u27 15 12 = (fI u3 15 12) := hTu27.2.2.2.2
          refine lv_aload_n hx hb dX5_readOne_63 rfl (lv_at hl 1 rfl) ?_
          refine lv_iload_n hx hb dX5_readOne_64 rfl (lv_at hl 2 rfl) ?_
          refine cVi (w := cW cy a) (As := [.int 3]) (rest := []) C hO (T_X5_readSum_3 l D cy a _ (by exact hJ) (by exact hW)) (cwV 1 ht (gV wd_763 wd_765 wd_21 wd_114 wd_766) rfl rfl rfl hd_yX5_readSum ⟨Nat.le_of_ble_eq_true rfl, Nat.le_of_ble_eq_true rfl⟩) 27 rfl cW_27 rfl rfl hl.1 (Nat.le_of_ble_eq_true rfl) dX5_readOne_65 rfl ⟨Nat.zero_le _, Nat.zero_le _⟩ (fun r33 u34 H locs hp35 hO => ?_)
          obtain ⟨hr33, hJ, hTu34, hW⟩ := hp35
          have gr33 : 0 ≤ r33.toInt ∧ r33.toInt ≤ 1 := by rcases hr33 with h | h <;> rw [h] <;> decide
          have hT : KT u u34 := KT.tr (by exact hT) hTu34
          refine lv_istore_n (lv' := [(3, .int r33), (2, .int (fI u3 1 4)), (0, .ref (a 27)), (1, .int 3)]) hx hb dX5_readOne_68 rfl hl (by decide) rfl (fun ls hl => ?_)
          refine lv_aload_n hx hb dX5_readOne_69 rfl (lv_at hl 2 rfl) ?_
          refine gf_RX5_15 (v := .ref (a 15)) C hO 27 cW_27 (congrArg (fun z : Nat => some (Value.ref z)) hW) dX5_readOne_70 ?_
          refine gf_RX5_173 (v := .ref (a 24)) C hO 15 cW_15 rfl dX5_readOne_73 ?_
          refine lv_iload_n hx hb dX5_readOne_76 rfl (lv_at hl 1 rfl) ?_
          refine lv_ineg hx hb dX5_readOne_77 ?_
          refine lv_topi (fun z36 ez36 => ?_)
          refine cVv (w := cW cy a) (As := [.int z36]) (rest := []) C hO (T_X4_add l D cy a _ (by exact hJ) (by exact hW) (z36)) (cwV 1 ht (gV wd_759 wd_760 wd_761 wd_113 wd_762) rfl rfl rfl hd_yX4_add ⟨Nat.le_of_ble_eq_true rfl, Nat.le_of_ble_eq_true rfl⟩) 24 rfl cW_24 rfl rfl hl.1 (Nat.le_of_ble_eq_true rfl) dX5_readOne_78 rfl ⟨Nat.zero_le _, Nat.zero_le _⟩ (fun u38 H locs hp39 hO => ?_)
          have g40 : 0 ≤ (fI u34 15 9).toInt ∧ (fI u34 15 9).toInt ≤ 8 := by have h := CI_15_9 hJ; exact h
          have g41 : 0 ≤ (fI u34 15 10).toInt ∧ (fI u34 15 10).toInt ≤ 14 := by have h := CI_15_10 hJ; exact h
          have g42 : 0 ≤ (fI u34 15 11).toInt ∧ (fI u34 15 11).toInt ≤ 8 := by have h := CI_15_11 hJ; exact h
          have g43 : 0 ≤ (fI u34 15 12).toInt ∧ (fI u34 15 12).toInt ≤ 6 := by have h := CI_15_12 hJ; exact h
          obtain ⟨hJ, hTu38, hW⟩ := hp39
          have hT : KT u u38 := KT.tr (by exact hT) hTu38.1
          have hI_15_9_u38 : fI u38 15 9 = (fI u34 15 9) := hTu38.2.1
          have hI_15_10_u38 : fI u38 15 10 = (fI u34 15 10) := hTu38.2.2.1
          have hI_15_11_u38 : fI u38 15 11 = (fI u34 15 11) := hTu38.2.2.2.1
          have hI_15_12_u38 : fI u38 15 12 = (fI u34 15 12) := hTu38.2.2.2.2
          refine lv_iload_n hx hb dX5_readOne_81 rfl (lv_at hl 0 rfl) ?_
          refine hret _ _ _ _ _ _ dX5_readOne_82 (by rcases hr33 with h | h <;> rw [h] <;> rfl) ?_ hO
          exact ⟨hr33, hJ, hT, hW⟩
        · refine lv_iload_n hx hb dX5_readOne_48 rfl (lv_at hl 0 rfl) ?_
          refine lv_bipush (v := 61) hx hb dX5_readOne_49 (by decide) ?_
          refine cs_eq (tgt := 56) (X := ((fI u3 1 4)).toInt) (Y := 61) hx hb dX5_readOne_51 (by decide) rfl rfl (fun c44 => ?_) (fun c44 => ?_)
          · refine lv_aload_n hx hb dX5_readOne_56 rfl (lv_at hl 1 rfl) ?_
            refine gf_RX5_9 (v := .ref (a 1)) C hO 27 cW_27 rfl dX5_readOne_57 ?_
            refine cVv (w := cW cy a) (As := []) (rest := []) C hO (T_X7_advance l D cy a _ (by exact hJ) (by exact hW)) (cwV 0 ht (gV wd_695 wd_541 wd_542 wd_111 wd_543) rfl rfl rfl hd_yX7_advance ⟨Nat.le_of_ble_eq_true rfl, Nat.le_of_ble_eq_true rfl⟩) 1 rfl cW_1 rfl rfl hl.1 (Nat.le_of_ble_eq_true rfl) dX5_readOne_60 rfl ⟨Nat.zero_le _, Nat.zero_le _⟩ (fun u46 H locs hp47 hO => ?_)
            have g48 : 0 ≤ (fI u3 15 9).toInt ∧ (fI u3 15 9).toInt ≤ 8 := by have h := CI_15_9 hJ; exact h
            have g49 : 0 ≤ (fI u3 15 10).toInt ∧ (fI u3 15 10).toInt ≤ 14 := by have h := CI_15_10 hJ; exact h
            have g50 : 0 ≤ (fI u3 15 11).toInt ∧ (fI u3 15 11).toInt ≤ 8 := by have h := CI_15_11 hJ; exact h
            have g51 : 0 ≤ (fI u3 15 12).toInt ∧ (fI u3 15 12).toInt ≤ 6 := by have h := CI_15_12 hJ; exact h
            obtain ⟨hJ, hTu46, hW⟩ := hp47
            have hT : KT u u46 := KT.tr (by exact hT) hTu46.1
            have hI_15_9_u46 : fI u46 15 9 = (fI u3 15 9) := hTu46.2.1
            have hI_15_10_u46 : fI u46 15 10 = (fI u3 15 10) := hTu46.2.2.1
            have hI_15_11_u46 : fI u46 15 11 = (fI u3 15 11) := hTu46.2.2.2.1
            have hI_15_12_u46 : fI u46 15 12 = (fI u3 15 12) := hTu46.2.2.2.2
            refine lv_aload_n hx hb dX5_readOne_63 rfl (lv_at hl 1 rfl) ?_
            refine lv_iload_n hx hb dX5_readOne_64 rfl (lv_at hl 2 rfl) ?_
            refine cVi (w := cW cy a) (As := [.int 3]) (rest := []) C hO (T_X5_readSum_3 l D cy a _ (by exact hJ) (by exact hW)) (cwV 1 ht (gV wd_763 wd_765 wd_21 wd_114 wd_766) rfl rfl rfl hd_yX5_readSum ⟨Nat.le_of_ble_eq_true rfl, Nat.le_of_ble_eq_true rfl⟩) 27 rfl cW_27 rfl rfl hl.1 (Nat.le_of_ble_eq_true rfl) dX5_readOne_65 rfl ⟨Nat.zero_le _, Nat.zero_le _⟩ (fun r52 u53 H locs hp54 hO => ?_)
            obtain ⟨hr52, hJ, hTu53, hW⟩ := hp54
            have gr52 : 0 ≤ r52.toInt ∧ r52.toInt ≤ 1 := by rcases hr52 with h | h <;> rw [h] <;> decide
            have hT : KT u u53 := KT.tr (by exact hT) hTu53
            refine lv_istore_n (lv' := [(3, .int r52), (2, .int (fI u3 1 4)), (0, .ref (a 27)), (1, .int 3)]) hx hb dX5_readOne_68 rfl hl (by decide) rfl (fun ls hl => ?_)
            refine lv_aload_n hx hb dX5_readOne_69 rfl (lv_at hl 2 rfl) ?_
            refine gf_RX5_15 (v := .ref (a 15)) C hO 27 cW_27 (congrArg (fun z : Nat => some (Value.ref z)) hW) dX5_readOne_70 ?_
            refine gf_RX5_173 (v := .ref (a 24)) C hO 15 cW_15 rfl dX5_readOne_73 ?_
            refine lv_iload_n hx hb dX5_readOne_76 rfl (lv_at hl 1 rfl) ?_
            refine lv_ineg hx hb dX5_readOne_77 ?_
            refine lv_topi (fun z55 ez55 => ?_)
            refine cVv (w := cW cy a) (As := [.int z55]) (rest := []) C hO (T_X4_add l D cy a _ (by exact hJ) (by exact hW) (z55)) (cwV 1 ht (gV wd_759 wd_760 wd_761 wd_113 wd_762) rfl rfl rfl hd_yX4_add ⟨Nat.le_of_ble_eq_true rfl, Nat.le_of_ble_eq_true rfl⟩) 24 rfl cW_24 rfl rfl hl.1 (Nat.le_of_ble_eq_true rfl) dX5_readOne_78 rfl ⟨Nat.zero_le _, Nat.zero_le _⟩ (fun u57 H locs hp58 hO => ?_)
            have g59 : 0 ≤ (fI u53 15 9).toInt ∧ (fI u53 15 9).toInt ≤ 8 := by have h := CI_15_9 hJ; exact h
            have g60 : 0 ≤ (fI u53 15 10).toInt ∧ (fI u53 15 10).toInt ≤ 14 := by have h := CI_15_10 hJ; exact h
            have g61 : 0 ≤ (fI u53 15 11).toInt ∧ (fI u53 15 11).toInt ≤ 8 := by have h := CI_15_11 hJ; exact h
            have g62 : 0 ≤ (fI u53 15 12).toInt ∧ (fI u53 15 12).toInt ≤ 6 := by have h := CI_15_12 hJ; exact h
            obtain ⟨hJ, hTu57, hW⟩ := hp58
            have hT : KT u u57 := KT.tr (by exact hT) hTu57.1
            have hI_15_9_u57 : fI u57 15 9 = (fI u53 15 9) := hTu57.2.1
            have hI_15_10_u57 : fI u57 15 10 = (fI u53 15 10) := hTu57.2.2.1
            have hI_15_11_u57 : fI u57 15 11 = (fI u53 15 11) := hTu57.2.2.2.1
            have hI_15_12_u57 : fI u57 15 12 = (fI u53 15 12) := hTu57.2.2.2.2
            refine lv_iload_n hx hb dX5_readOne_81 rfl (lv_at hl 0 rfl) ?_
            refine hret _ _ _ _ _ _ dX5_readOne_82 (by rcases hr52 with h | h <;> rw [h] <;> rfl) ?_ hO
            exact ⟨hr52, hJ, hT, hW⟩
          · refine lv_iconst (v := 1) hx hb dX5_readOne_54 (by decide) ?_
            refine hret _ _ _ _ _ _ dX5_readOne_55 rfl ?_ hO
            exact ⟨Or.inr rfl, hJ, hT, hW⟩
    · refine lv_iconst (v := 0) hx hb dX5_readOne_26 (by decide) ?_
      refine hret _ _ _ _ _ _ dX5_readOne_27 rfl ?_ hO
      exact ⟨Or.inl rfl, hJ, hT, hW⟩
  · refine lv_aload_n hx hb dX5_readOne_12 rfl (lv_at hl 0 rfl) ?_
    refine lv_iload_n hx hb dX5_readOne_13 rfl (lv_at hl 1 rfl) ?_
    refine cVi (w := cW cy a) (As := [.int 3]) (rest := []) C hO (T_X5_readNot_3 l D cy a _ (by exact hJ) (by exact hW)) (cwV 1 ht (gV wd_755 wd_757 wd_20 wd_114 wd_758) rfl rfl rfl hd_yX5_readNot ⟨Nat.le_of_ble_eq_true rfl, Nat.le_of_ble_eq_true rfl⟩) 27 rfl cW_27 rfl rfl hl.1 (Nat.le_of_ble_eq_true rfl) dX5_readOne_14 rfl ⟨Nat.zero_le _, Nat.zero_le _⟩ (fun r63 u64 H locs hp65 hO => ?_)
    obtain ⟨hr63, hJ, hTu64, hW⟩ := hp65
    have gr63 : 0 ≤ r63.toInt ∧ r63.toInt ≤ 1 := by rcases hr63 with h | h <;> rw [h] <;> decide
    have hT : KT u u64 := KT.tr (by exact hT) hTu64
    refine hret _ _ _ _ _ _ dX5_readOne_17 (by rcases hr63 with h | h <;> rw [h] <;> rfl) ?_ hO
    exact ⟨hr63, hJ, hT, hW⟩
set_option maxHeartbeats 4000000 in
set_option maxRecDepth 100000 in
theorem T_X5_readBoth_3 (l : Launch) (D : va_G) (cy : Nat → ClassId) (a : Nat → Nat) (u : St) (hJ : CI a u) (hW : fR u 2 = a 15)   : Mi l D cy (cW cy a) yX5_readBoth (.code yX5_readBoth cX5_readBoth 4 (some .boolean)) (rmo 38 864) [.ref (a 27), .int 3] u (fun (r : Int32) (u' : St) => (r = 0 ∨ r = 1) ∧ (CI a u') ∧ (KT u u') ∧ (fR u' 2 = a 15)) := by
  refine Mi.of (own := RX5) rfl (by decide) (Nat.le_of_ble_eq_true rfl) ?_
  have hT : KT u u := KT.rf
  intro p e s m below meth c A Q ls C hret hO hl
  obtain ⟨hx, hb, hml, hown, ht, hK, hA⟩ := id C
  have hl : lv_has ls 4 [(0, .ref (a 27)), (1, .int 3)] := hl
  refine lv_aload_n hx hb dX5_readBoth_0 rfl (lv_at hl 0 rfl) ?_
  refine lv_iload_n hx hb dX5_readBoth_1 rfl (lv_at hl 1 rfl) ?_
  refine cVi (w := cW cy a) (As := [.int 3]) (rest := []) C hO (T_X5_readOne_3 l D cy a _ (by exact hJ) (by exact hW)) (cwV 1 ht (gV wd_751 wd_753 wd_19 wd_114 wd_754) rfl rfl rfl hd_yX5_readOne ⟨Nat.le_of_ble_eq_true rfl, Nat.le_of_ble_eq_true rfl⟩) 27 rfl cW_27 rfl rfl hl.1 (Nat.le_of_ble_eq_true rfl) dX5_readBoth_2 rfl ⟨Nat.zero_le _, Nat.zero_le _⟩ (fun r1 u2 H locs hp3 hO => ?_)
  obtain ⟨hr1, hJ, hTu2, hW⟩ := hp3
  have gr1 : 0 ≤ r1.toInt ∧ r1.toInt ≤ 1 := by rcases hr1 with h | h <;> rw [h] <;> decide
  have hT : KT u u2 := KT.tr (by exact hT) hTu2
  refine lv_istore_n (lv' := [(2, .int r1), (0, .ref (a 27)), (1, .int 3)]) hx hb dX5_readBoth_5 rfl hl (by decide) rfl (fun ls hl => ?_)
  refine lv_iconst (v := 0) hx hb dX5_readBoth_6 (by decide) ?_
  refine lv_istore_n (lv' := [(3, .int 0), (2, .int r1), (0, .ref (a 27)), (1, .int 3)]) hx hb dX5_readBoth_7 rfl hl (by decide) rfl (fun ls hl => ?_)
  have LP_8_k5 : ∀ (n : Nat) (u4 : St) (H : Heap) (locs : List Loc) (ls : Array Slot) (i_k5 : Int32) (w2_k5 : Int32), Wo D A (cW cy a u4) s.heap H locs → lv_has ls 4 [(3, .int i_k5), (2, .int w2_k5), (0, .ref (a 27)), (1, .int 3)] → CI a u4 → KT u u4 → fR u4 2 = a 15 → 0 ≤ i_k5.toInt ∧ i_k5.toInt ≤ 1600 → 0 ≤ w2_k5.toInt ∧ w2_k5.toInt ≤ 1 → 1600 - i_k5.toInt < (n : Int) → W p l e (rmo 38 864) s m [.ref (a 27), .int 3].toArray below meth c H locs 0 0 Q (F0 m 8 ls []) := by
    intro n
    induction n with
    | zero =>
      intro u4 H locs ls i_k5 w2_k5 hO hl hJ hT hW iv0_k5 iv1_k5 hm_k5
      exact absurd hm_k5 (by omega)
    | succ n ih_k5 =>
      intro u4 H locs ls i_k5 w2_k5 hO hl hJ hT hW iv0_k5 iv1_k5 hm_k5
      refine lv_iload_n hx hb dX5_readBoth_8 rfl (lv_at hl 0 rfl) ?_
      refine lv_sipush (v := 1600) hx hb dX5_readBoth_9 (by decide) ?_
      refine cs_ge (tgt := 62) (X := (i_k5).toInt) (Y := 1600) hx hb dX5_readBoth_12 (by decide) rfl rfl (fun c6 => ?_) (fun c6 => ?_)
      · refine lv_iload_n hx hb dX5_readBoth_62 rfl (lv_at hl 1 rfl) ?_
        have hw2_k5 : w2_k5 = 0 ∨ w2_k5 = 1 := i_b01 rfl (by omega) (by omega)
        refine hret _ _ _ _ _ _ dX5_readBoth_63 (by rcases hw2_k5 with h | h <;> rw [h] <;> rfl) ?_ hO
        exact ⟨hw2_k5, hJ, hT, hW⟩
      · refine lv_iload_n hx hb dX5_readBoth_15 rfl (lv_at hl 1 rfl) ?_
        refine bs_eq (tgt := 62) (X := (w2_k5).toInt) hx hb dX5_readBoth_16 (by decide) rfl (fun c7 => ?_) (fun c7 => ?_)
        · refine lv_iload_n hx hb dX5_readBoth_62 rfl (lv_at hl 1 rfl) ?_
          have hw2_k5 : w2_k5 = 0 ∨ w2_k5 = 1 := i_b01 rfl (by omega) (by omega)
          refine hret _ _ _ _ _ _ dX5_readBoth_63 (by rcases hw2_k5 with h | h <;> rw [h] <;> rfl) ?_ hO
          exact ⟨hw2_k5, hJ, hT, hW⟩
        · refine lv_aload_n hx hb dX5_readBoth_19 rfl (lv_at hl 2 rfl) ?_
          refine gf_RX5_9 (v := .ref (a 1)) C hO 27 cW_27 rfl dX5_readBoth_20 ?_
          refine gf_RX5_36 (v := .int (fI u4 1 4)) C hO 1 cW_1 rfl dX5_readBoth_23 ?_
          refine lv_bipush (v := 14) hx hb dX5_readBoth_26 (by decide) ?_
          refine cs_ne (tgt := 62) (X := ((fI u4 1 4)).toInt) (Y := 14) hx hb dX5_readBoth_28 (by decide) rfl rfl (fun c8 => ?_) (fun c8 => ?_)
          · refine lv_iload_n hx hb dX5_readBoth_62 rfl (lv_at hl 1 rfl) ?_
            have hw2_k5 : w2_k5 = 0 ∨ w2_k5 = 1 := i_b01 rfl (by omega) (by omega)
            refine hret _ _ _ _ _ _ dX5_readBoth_63 (by rcases hw2_k5 with h | h <;> rw [h] <;> rfl) ?_ hO
            exact ⟨hw2_k5, hJ, hT, hW⟩
          · refine lv_aload_n hx hb dX5_readBoth_31 rfl (lv_at hl 2 rfl) ?_
            refine gf_RX5_9 (v := .ref (a 1)) C hO 27 cW_27 rfl dX5_readBoth_32 ?_
            refine cVv (w := cW cy a) (As := []) (rest := []) C hO (T_X7_advance l D cy a _ (by exact hJ) (by exact hW)) (cwV 0 ht (gV wd_695 wd_541 wd_542 wd_111 wd_543) rfl rfl rfl hd_yX7_advance ⟨Nat.le_of_ble_eq_true rfl, Nat.le_of_ble_eq_true rfl⟩) 1 rfl cW_1 rfl rfl hl.1 (Nat.le_of_ble_eq_true rfl) dX5_readBoth_35 rfl ⟨Nat.zero_le _, Nat.zero_le _⟩ (fun u10 H locs hp11 hO => ?_)
            have g12 : 0 ≤ (fI u4 15 9).toInt ∧ (fI u4 15 9).toInt ≤ 8 := by have h := CI_15_9 hJ; exact h
            have g13 : 0 ≤ (fI u4 15 10).toInt ∧ (fI u4 15 10).toInt ≤ 14 := by have h := CI_15_10 hJ; exact h
            have g14 : 0 ≤ (fI u4 15 11).toInt ∧ (fI u4 15 11).toInt ≤ 8 := by have h := CI_15_11 hJ; exact h
            have g15 : 0 ≤ (fI u4 15 12).toInt ∧ (fI u4 15 12).toInt ≤ 6 := by have h := CI_15_12 hJ; exact h
            obtain ⟨hJ, hTu10, hW⟩ := hp11
            have hT : KT u u10 := KT.tr (by exact hT) hTu10.1
            have hI_15_9_u10 : fI u10 15 9 = (fI u4 15 9) := hTu10.2.1
            have hI_15_10_u10 : fI u10 15 10 = (fI u4 15 10) := hTu10.2.2.1
            have hI_15_11_u10 : fI u10 15 11 = (fI u4 15 11) := hTu10.2.2.2.1
            have hI_15_12_u10 : fI u10 15 12 = (fI u4 15 12) := hTu10.2.2.2.2
            refine lv_aload_n hx hb dX5_readBoth_38 rfl (lv_at hl 2 rfl) ?_
            refine lv_iload_n hx hb dX5_readBoth_39 rfl (lv_at hl 3 rfl) ?_
            refine cVi (w := cW cy a) (As := [.int 3]) (rest := []) C hO (T_X5_readOne_3 l D cy a _ (by exact hJ) (by exact hW)) (cwV 1 ht (gV wd_751 wd_753 wd_19 wd_114 wd_754) rfl rfl rfl hd_yX5_readOne ⟨Nat.le_of_ble_eq_true rfl, Nat.le_of_ble_eq_true rfl⟩) 27 rfl cW_27 rfl rfl hl.1 (Nat.le_of_ble_eq_true rfl) dX5_readBoth_40 rfl ⟨Nat.zero_le _, Nat.zero_le _⟩ (fun r16 u17 H locs hp18 hO => ?_)
            obtain ⟨hr16, hJ, hTu17, hW⟩ := hp18
            have gr16 : 0 ≤ r16.toInt ∧ r16.toInt ≤ 1 := by rcases hr16 with h | h <;> rw [h] <;> decide
            have hT : KT u u17 := KT.tr (by exact hT) hTu17
            refine lv_istore_n (lv' := [(2, .int r16), (3, .int i_k5), (0, .ref (a 27)), (1, .int 3)]) hx hb dX5_readBoth_43 rfl hl (by decide) rfl (fun ls hl => ?_)
            refine lv_aload_n hx hb dX5_readBoth_44 rfl (lv_at hl 2 rfl) ?_
            refine gf_RX5_15 (v := .ref (a 15)) C hO 27 cW_27 (congrArg (fun z : Nat => some (Value.ref z)) hW) dX5_readBoth_45 ?_
            refine gf_RX5_173 (v := .ref (a 24)) C hO 15 cW_15 rfl dX5_readBoth_48 ?_
            refine lv_bipush (v := (-14)) hx hb dX5_readBoth_51 (by decide) ?_
            refine cVv (w := cW cy a) (As := [.int (-14)]) (rest := []) C hO (T_X4_add l D cy a _ (by exact hJ) (by exact hW) ((-14))) (cwV 1 ht (gV wd_759 wd_760 wd_761 wd_113 wd_762) rfl rfl rfl hd_yX4_add ⟨Nat.le_of_ble_eq_true rfl, Nat.le_of_ble_eq_true rfl⟩) 24 rfl cW_24 rfl rfl hl.1 (Nat.le_of_ble_eq_true rfl) dX5_readBoth_53 rfl ⟨Nat.zero_le _, Nat.zero_le _⟩ (fun u20 H locs hp21 hO => ?_)
            have g22 : 0 ≤ (fI u17 15 9).toInt ∧ (fI u17 15 9).toInt ≤ 8 := by have h := CI_15_9 hJ; exact h
            have g23 : 0 ≤ (fI u17 15 10).toInt ∧ (fI u17 15 10).toInt ≤ 14 := by have h := CI_15_10 hJ; exact h
            have g24 : 0 ≤ (fI u17 15 11).toInt ∧ (fI u17 15 11).toInt ≤ 8 := by have h := CI_15_11 hJ; exact h
            have g25 : 0 ≤ (fI u17 15 12).toInt ∧ (fI u17 15 12).toInt ≤ 6 := by have h := CI_15_12 hJ; exact h
            obtain ⟨hJ, hTu20, hW⟩ := hp21
            have hT : KT u u20 := KT.tr (by exact hT) hTu20.1
            have hI_15_9_u20 : fI u20 15 9 = (fI u17 15 9) := hTu20.2.1
            have hI_15_10_u20 : fI u20 15 10 = (fI u17 15 10) := hTu20.2.2.1
            have hI_15_11_u20 : fI u20 15 11 = (fI u17 15 11) := hTu20.2.2.2.1
            have hI_15_12_u20 : fI u20 15 12 = (fI u17 15 12) := hTu20.2.2.2.2
            have e26 : ((i_k5 + 1)).toInt = (i_k5).toInt + 1 := i_add rfl rfl (by omega)
            refine lv_iinc (v := (i_k5 + 1)) (lv' := [(3, .int (i_k5 + 1)), (2, .int r16), (0, .ref (a 27)), (1, .int 3)]) hx hb dX5_readBoth_56 hl (k := 1) rfl rfl (by decide) rfl (fun ls hl => ?_)
            refine lv_goto (tgt := 8) hx hb dX5_readBoth_59 (by decide) ?_
            exact ih_k5 _ _ _ _ ((i_k5 + 1)) (r16) hO (lv_sub hl [0, 1, 2, 3] rfl) (by exact hJ) (by exact hT) (by exact hW) (by first | decide | omega) (by first | decide | omega) (by first | decide | omega)
  exact LP_8_k5 4000 _ _ _ _ (0) (r1) hO (lv_sub hl [0, 1, 2, 3] rfl) (by exact hJ) (by exact hT) (by exact hW) (by first | decide | omega) (by first | decide | omega) (by first | decide | omega)
set_option maxHeartbeats 4000000 in
set_option maxRecDepth 100000 in
theorem T_X5_readFormula_3 (l : Launch) (D : va_G) (cy : Nat → ClassId) (a : Nat → Nat) (u : St) (hJ : CI a u) (hW : fR u 2 = a 15)   : Mi l D cy (cW cy a) yX5_readFormula (.code yX5_readFormula cX5_readFormula 4 (some .boolean)) (rmo 39 887) [.ref (a 27), .int 3] u (fun (r : Int32) (u' : St) => (r = 0 ∨ r = 1) ∧ (CI a u') ∧ (KT u u') ∧ (fR u' 2 = a 15)) := by
  refine Mi.of (own := RX5) rfl (by decide) (Nat.le_of_ble_eq_true rfl) ?_
  have hT : KT u u := KT.rf
  intro p e s m below meth c A Q ls C hret hO hl
  obtain ⟨hx, hb, hml, hown, ht, hK, hA⟩ := id C
  have hl : lv_has ls 4 [(0, .ref (a 27)), (1, .int 3)] := hl
  refine lv_aload_n hx hb dX5_readFormula_0 rfl (lv_at hl 0 rfl) ?_
  refine lv_iload_n hx hb dX5_readFormula_1 rfl (lv_at hl 1 rfl) ?_
  refine cVi (w := cW cy a) (As := [.int 3]) (rest := []) C hO (T_X5_readBoth_3 l D cy a _ (by exact hJ) (by exact hW)) (cwV 1 ht (gV wd_747 wd_749 wd_18 wd_114 wd_750) rfl rfl rfl hd_yX5_readBoth ⟨Nat.le_of_ble_eq_true rfl, Nat.le_of_ble_eq_true rfl⟩) 27 rfl cW_27 rfl rfl hl.1 (Nat.le_of_ble_eq_true rfl) dX5_readFormula_2 rfl ⟨Nat.zero_le _, Nat.zero_le _⟩ (fun r1 u2 H locs hp3 hO => ?_)
  obtain ⟨hr1, hJ, hTu2, hW⟩ := hp3
  have gr1 : 0 ≤ r1.toInt ∧ r1.toInt ≤ 1 := by rcases hr1 with h | h <;> rw [h] <;> decide
  have hT : KT u u2 := KT.tr (by exact hT) hTu2
  refine lv_istore_n (lv' := [(2, .int r1), (0, .ref (a 27)), (1, .int 3)]) hx hb dX5_readFormula_5 rfl hl (by decide) rfl (fun ls hl => ?_)
  refine lv_iconst (v := 0) hx hb dX5_readFormula_6 (by decide) ?_
  refine lv_istore_n (lv' := [(3, .int 0), (2, .int r1), (0, .ref (a 27)), (1, .int 3)]) hx hb dX5_readFormula_7 rfl hl (by decide) rfl (fun ls hl => ?_)
  have LP_8_k5 : ∀ (n : Nat) (u4 : St) (H : Heap) (locs : List Loc) (ls : Array Slot) (i_k5 : Int32) (w2_k5 : Int32), Wo D A (cW cy a u4) s.heap H locs → lv_has ls 4 [(3, .int i_k5), (2, .int w2_k5), (0, .ref (a 27)), (1, .int 3)] → CI a u4 → KT u u4 → fR u4 2 = a 15 → 0 ≤ i_k5.toInt ∧ i_k5.toInt ≤ 1600 → 0 ≤ w2_k5.toInt ∧ w2_k5.toInt ≤ 1 → 1600 - i_k5.toInt < (n : Int) → W p l e (rmo 39 887) s m [.ref (a 27), .int 3].toArray below meth c H locs 0 0 Q (F0 m 8 ls []) := by
    intro n
    induction n with
    | zero =>
      intro u4 H locs ls i_k5 w2_k5 hO hl hJ hT hW iv0_k5 iv1_k5 hm_k5
      exact absurd hm_k5 (by omega)
    | succ n ih_k5 =>
      intro u4 H locs ls i_k5 w2_k5 hO hl hJ hT hW iv0_k5 iv1_k5 hm_k5
      refine lv_iload_n hx hb dX5_readFormula_8 rfl (lv_at hl 0 rfl) ?_
      refine lv_sipush (v := 1600) hx hb dX5_readFormula_9 (by decide) ?_
      refine cs_ge (tgt := 62) (X := (i_k5).toInt) (Y := 1600) hx hb dX5_readFormula_12 (by decide) rfl rfl (fun c6 => ?_) (fun c6 => ?_)
      · refine lv_iload_n hx hb dX5_readFormula_62 rfl (lv_at hl 1 rfl) ?_
        have hw2_k5 : w2_k5 = 0 ∨ w2_k5 = 1 := i_b01 rfl (by omega) (by omega)
        refine hret _ _ _ _ _ _ dX5_readFormula_63 (by rcases hw2_k5 with h | h <;> rw [h] <;> rfl) ?_ hO
        exact ⟨hw2_k5, hJ, hT, hW⟩
      · refine lv_iload_n hx hb dX5_readFormula_15 rfl (lv_at hl 1 rfl) ?_
        refine bs_eq (tgt := 62) (X := (w2_k5).toInt) hx hb dX5_readFormula_16 (by decide) rfl (fun c7 => ?_) (fun c7 => ?_)
        · refine lv_iload_n hx hb dX5_readFormula_62 rfl (lv_at hl 1 rfl) ?_
          have hw2_k5 : w2_k5 = 0 ∨ w2_k5 = 1 := i_b01 rfl (by omega) (by omega)
          refine hret _ _ _ _ _ _ dX5_readFormula_63 (by rcases hw2_k5 with h | h <;> rw [h] <;> rfl) ?_ hO
          exact ⟨hw2_k5, hJ, hT, hW⟩
        · refine lv_aload_n hx hb dX5_readFormula_19 rfl (lv_at hl 2 rfl) ?_
          refine gf_RX5_9 (v := .ref (a 1)) C hO 27 cW_27 rfl dX5_readFormula_20 ?_
          refine gf_RX5_36 (v := .int (fI u4 1 4)) C hO 1 cW_1 rfl dX5_readFormula_23 ?_
          refine lv_bipush (v := 13) hx hb dX5_readFormula_26 (by decide) ?_
          refine cs_ne (tgt := 62) (X := ((fI u4 1 4)).toInt) (Y := 13) hx hb dX5_readFormula_28 (by decide) rfl rfl (fun c8 => ?_) (fun c8 => ?_)
          · refine lv_iload_n hx hb dX5_readFormula_62 rfl (lv_at hl 1 rfl) ?_
            have hw2_k5 : w2_k5 = 0 ∨ w2_k5 = 1 := i_b01 rfl (by omega) (by omega)
            refine hret _ _ _ _ _ _ dX5_readFormula_63 (by rcases hw2_k5 with h | h <;> rw [h] <;> rfl) ?_ hO
            exact ⟨hw2_k5, hJ, hT, hW⟩
          · refine lv_aload_n hx hb dX5_readFormula_31 rfl (lv_at hl 2 rfl) ?_
            refine gf_RX5_9 (v := .ref (a 1)) C hO 27 cW_27 rfl dX5_readFormula_32 ?_
            refine cVv (w := cW cy a) (As := []) (rest := []) C hO (T_X7_advance l D cy a _ (by exact hJ) (by exact hW)) (cwV 0 ht (gV wd_695 wd_541 wd_542 wd_111 wd_543) rfl rfl rfl hd_yX7_advance ⟨Nat.le_of_ble_eq_true rfl, Nat.le_of_ble_eq_true rfl⟩) 1 rfl cW_1 rfl rfl hl.1 (Nat.le_of_ble_eq_true rfl) dX5_readFormula_35 rfl ⟨Nat.zero_le _, Nat.zero_le _⟩ (fun u10 H locs hp11 hO => ?_)
            have g12 : 0 ≤ (fI u4 15 9).toInt ∧ (fI u4 15 9).toInt ≤ 8 := by have h := CI_15_9 hJ; exact h
            have g13 : 0 ≤ (fI u4 15 10).toInt ∧ (fI u4 15 10).toInt ≤ 14 := by have h := CI_15_10 hJ; exact h
            have g14 : 0 ≤ (fI u4 15 11).toInt ∧ (fI u4 15 11).toInt ≤ 8 := by have h := CI_15_11 hJ; exact h
            have g15 : 0 ≤ (fI u4 15 12).toInt ∧ (fI u4 15 12).toInt ≤ 6 := by have h := CI_15_12 hJ; exact h
            obtain ⟨hJ, hTu10, hW⟩ := hp11
            have hT : KT u u10 := KT.tr (by exact hT) hTu10.1
            have hI_15_9_u10 : fI u10 15 9 = (fI u4 15 9) := hTu10.2.1
            have hI_15_10_u10 : fI u10 15 10 = (fI u4 15 10) := hTu10.2.2.1
            have hI_15_11_u10 : fI u10 15 11 = (fI u4 15 11) := hTu10.2.2.2.1
            have hI_15_12_u10 : fI u10 15 12 = (fI u4 15 12) := hTu10.2.2.2.2
            refine lv_aload_n hx hb dX5_readFormula_38 rfl (lv_at hl 2 rfl) ?_
            refine lv_iload_n hx hb dX5_readFormula_39 rfl (lv_at hl 3 rfl) ?_
            refine cVi (w := cW cy a) (As := [.int 3]) (rest := []) C hO (T_X5_readBoth_3 l D cy a _ (by exact hJ) (by exact hW)) (cwV 1 ht (gV wd_747 wd_749 wd_18 wd_114 wd_750) rfl rfl rfl hd_yX5_readBoth ⟨Nat.le_of_ble_eq_true rfl, Nat.le_of_ble_eq_true rfl⟩) 27 rfl cW_27 rfl rfl hl.1 (Nat.le_of_ble_eq_true rfl) dX5_readFormula_40 rfl ⟨Nat.zero_le _, Nat.zero_le _⟩ (fun r16 u17 H locs hp18 hO => ?_)
            obtain ⟨hr16, hJ, hTu17, hW⟩ := hp18
            have gr16 : 0 ≤ r16.toInt ∧ r16.toInt ≤ 1 := by rcases hr16 with h | h <;> rw [h] <;> decide
            have hT : KT u u17 := KT.tr (by exact hT) hTu17
            refine lv_istore_n (lv' := [(2, .int r16), (3, .int i_k5), (0, .ref (a 27)), (1, .int 3)]) hx hb dX5_readFormula_43 rfl hl (by decide) rfl (fun ls hl => ?_)
            refine lv_aload_n hx hb dX5_readFormula_44 rfl (lv_at hl 2 rfl) ?_
            refine gf_RX5_15 (v := .ref (a 15)) C hO 27 cW_27 (congrArg (fun z : Nat => some (Value.ref z)) hW) dX5_readFormula_45 ?_
            refine gf_RX5_173 (v := .ref (a 24)) C hO 15 cW_15 rfl dX5_readFormula_48 ?_
            refine lv_bipush (v := (-13)) hx hb dX5_readFormula_51 (by decide) ?_
            refine cVv (w := cW cy a) (As := [.int (-13)]) (rest := []) C hO (T_X4_add l D cy a _ (by exact hJ) (by exact hW) ((-13))) (cwV 1 ht (gV wd_759 wd_760 wd_761 wd_113 wd_762) rfl rfl rfl hd_yX4_add ⟨Nat.le_of_ble_eq_true rfl, Nat.le_of_ble_eq_true rfl⟩) 24 rfl cW_24 rfl rfl hl.1 (Nat.le_of_ble_eq_true rfl) dX5_readFormula_53 rfl ⟨Nat.zero_le _, Nat.zero_le _⟩ (fun u20 H locs hp21 hO => ?_)
            have g22 : 0 ≤ (fI u17 15 9).toInt ∧ (fI u17 15 9).toInt ≤ 8 := by have h := CI_15_9 hJ; exact h
            have g23 : 0 ≤ (fI u17 15 10).toInt ∧ (fI u17 15 10).toInt ≤ 14 := by have h := CI_15_10 hJ; exact h
            have g24 : 0 ≤ (fI u17 15 11).toInt ∧ (fI u17 15 11).toInt ≤ 8 := by have h := CI_15_11 hJ; exact h
            have g25 : 0 ≤ (fI u17 15 12).toInt ∧ (fI u17 15 12).toInt ≤ 6 := by have h := CI_15_12 hJ; exact h
            obtain ⟨hJ, hTu20, hW⟩ := hp21
            have hT : KT u u20 := KT.tr (by exact hT) hTu20.1
            have hI_15_9_u20 : fI u20 15 9 = (fI u17 15 9) := hTu20.2.1
            have hI_15_10_u20 : fI u20 15 10 = (fI u17 15 10) := hTu20.2.2.1
            have hI_15_11_u20 : fI u20 15 11 = (fI u17 15 11) := hTu20.2.2.2.1
            have hI_15_12_u20 : fI u20 15 12 = (fI u17 15 12) := hTu20.2.2.2.2
            have e26 : ((i_k5 + 1)).toInt = (i_k5).toInt + 1 := i_add rfl rfl (by omega)
            refine lv_iinc (v := (i_k5 + 1)) (lv' := [(3, .int (i_k5 + 1)), (2, .int r16), (0, .ref (a 27)), (1, .int 3)]) hx hb dX5_readFormula_56 hl (k := 1) rfl rfl (by decide) rfl (fun ls hl => ?_)
            refine lv_goto (tgt := 8) hx hb dX5_readFormula_59 (by decide) ?_
            exact ih_k5 _ _ _ _ ((i_k5 + 1)) (r16) hO (lv_sub hl [0, 1, 2, 3] rfl) (by exact hJ) (by exact hT) (by exact hW) (by first | decide | omega) (by first | decide | omega) (by first | decide | omega)
  exact LP_8_k5 4000 _ _ _ _ (0) (r1) hO (lv_sub hl [0, 1, 2, 3] rfl) (by exact hJ) (by exact hT) (by exact hW) (by first | decide | omega) (by first | decide | omega) (by first | decide | omega)
set_option maxHeartbeats 4000000 in
set_option maxRecDepth 100000 in
theorem T_X5_readInner_2 (l : Launch) (D : va_G) (cy : Nat → ClassId) (a : Nat → Nat) (u : St) (hJ : CI a u) (hW : fR u 2 = a 15)   : Mi l D cy (cW cy a) yX5_readInner (.code yX5_readInner cX5_readInner 2 (some .boolean)) (rmo 40 910) [.ref (a 27), .int 2] u (fun (r : Int32) (u' : St) => (r = 0 ∨ r = 1) ∧ (CI a u') ∧ (KT u u') ∧ (fR u' 2 = a 15)) := by
  refine Mi.of (own := RX5) rfl (by decide) (Nat.le_of_ble_eq_true rfl) ?_
  have hT : KT u u := KT.rf
  intro p e s m below meth c A Q ls C hret hO hl
  obtain ⟨hx, hb, hml, hown, ht, hK, hA⟩ := id C
  have hl : lv_has ls 2 [(0, .ref (a 27)), (1, .int 2)] := hl
  refine lv_iload_n hx hb dX5_readInner_0 rfl (lv_at hl 1 rfl) ?_
  refine lv_bipush (v := 6) hx hb dX5_readInner_1 (by decide) ?_
  refine ct_le (tgt := 12) (X := 2) (Y := 6) hx hb dX5_readInner_3 (by decide) rfl rfl (by omega) ?_
  refine lv_aload_n hx hb dX5_readInner_12 rfl (lv_at hl 0 rfl) ?_
  refine gf_RX5_9 (v := .ref (a 1)) C hO 27 cW_27 rfl dX5_readInner_13 ?_
  refine cVv (w := cW cy a) (As := []) (rest := []) C hO (T_X7_advance l D cy a _ (by exact hJ) (by exact hW)) (cwV 0 ht (gV wd_695 wd_541 wd_542 wd_111 wd_543) rfl rfl rfl hd_yX7_advance ⟨Nat.le_of_ble_eq_true rfl, Nat.le_of_ble_eq_true rfl⟩) 1 rfl cW_1 rfl rfl hl.1 (Nat.le_of_ble_eq_true rfl) dX5_readInner_16 rfl ⟨Nat.zero_le _, Nat.zero_le _⟩ (fun u2 H locs hp3 hO => ?_)
  have g4 : 0 ≤ (fI u 15 9).toInt ∧ (fI u 15 9).toInt ≤ 8 := by have h := CI_15_9 hJ; exact h
  have g5 : 0 ≤ (fI u 15 10).toInt ∧ (fI u 15 10).toInt ≤ 14 := by have h := CI_15_10 hJ; exact h
  have g6 : 0 ≤ (fI u 15 11).toInt ∧ (fI u 15 11).toInt ≤ 8 := by have h := CI_15_11 hJ; exact h
  have g7 : 0 ≤ (fI u 15 12).toInt ∧ (fI u 15 12).toInt ≤ 6 := by have h := CI_15_12 hJ; exact h
  obtain ⟨hJ, hTu2, hW⟩ := hp3
  have hT : KT u u2 := KT.tr (by exact hT) hTu2.1
  have hI_15_9_u2 : fI u2 15 9 = (fI u 15 9) := hTu2.2.1
  have hI_15_10_u2 : fI u2 15 10 = (fI u 15 10) := hTu2.2.2.1
  have hI_15_11_u2 : fI u2 15 11 = (fI u 15 11) := hTu2.2.2.2.1
  have hI_15_12_u2 : fI u2 15 12 = (fI u 15 12) := hTu2.2.2.2.2
  refine lv_aload_n hx hb dX5_readInner_19 rfl (lv_at hl 0 rfl) ?_
  refine lv_iload_n hx hb dX5_readInner_20 rfl (lv_at hl 1 rfl) ?_
  refine lv_iconst (v := 1) hx hb dX5_readInner_21 (by decide) ?_
  refine lv_iadd hx hb dX5_readInner_22 ?_
  refine tE (y := 3) rfl ?_
  refine cVi (w := cW cy a) (As := [.int 3]) (rest := []) C hO (T_X5_readFormula_3 l D cy a _ (by exact hJ) (by exact hW)) (cwV 1 ht (gV wd_743 wd_745 wd_17 wd_114 wd_746) rfl rfl rfl hd_yX5_readFormula ⟨Nat.le_of_ble_eq_true rfl, Nat.le_of_ble_eq_true rfl⟩) 27 rfl cW_27 rfl rfl hl.1 (Nat.le_of_ble_eq_true rfl) dX5_readInner_23 rfl ⟨Nat.zero_le _, Nat.zero_le _⟩ (fun r8 u9 H locs hp10 hO => ?_)
  obtain ⟨hr8, hJ, hTu9, hW⟩ := hp10
  have gr8 : 0 ≤ r8.toInt ∧ r8.toInt ≤ 1 := by rcases hr8 with h | h <;> rw [h] <;> decide
  have hT : KT u u9 := KT.tr (by exact hT) hTu9
  refine bs_eq (tgt := 42) (X := (r8).toInt) hx hb dX5_readInner_26 (by decide) rfl (fun c11 => ?_) (fun c11 => ?_)
  · refine lv_iconst (v := 0) hx hb dX5_readInner_42 (by decide) ?_
    refine hret _ _ _ _ _ _ dX5_readInner_43 rfl ?_ hO
    exact ⟨Or.inl rfl, hJ, hT, hW⟩
  · refine lv_aload_n hx hb dX5_readInner_29 rfl (lv_at hl 0 rfl) ?_
    refine lv_bipush (v := 41) hx hb dX5_readInner_30 (by decide) ?_
    refine cVi (w := cW cy a) (As := [.int 41]) (rest := []) C hO (T_X5_skip l D cy a _ (by exact hJ) (by exact hW) (41)) (cwV 1 ht (gV wd_719 wd_721 wd_11 wd_114 wd_722) rfl rfl rfl hd_yX5_skip ⟨Nat.le_of_ble_eq_true rfl, Nat.le_of_ble_eq_true rfl⟩) 27 rfl cW_27 rfl rfl hl.1 (Nat.le_of_ble_eq_true rfl) dX5_readInner_32 rfl ⟨Nat.zero_le _, Nat.zero_le _⟩ (fun r12 u13 H locs hp14 hO => ?_)
    have g15 : 0 ≤ (fI u9 15 9).toInt ∧ (fI u9 15 9).toInt ≤ 8 := by have h := CI_15_9 hJ; exact h
    have g16 : 0 ≤ (fI u9 15 10).toInt ∧ (fI u9 15 10).toInt ≤ 14 := by have h := CI_15_10 hJ; exact h
    have g17 : 0 ≤ (fI u9 15 11).toInt ∧ (fI u9 15 11).toInt ≤ 8 := by have h := CI_15_11 hJ; exact h
    have g18 : 0 ≤ (fI u9 15 12).toInt ∧ (fI u9 15 12).toInt ≤ 6 := by have h := CI_15_12 hJ; exact h
    obtain ⟨hr12, hJ, hTu13, hW⟩ := hp14
    have gr12 : 0 ≤ r12.toInt ∧ r12.toInt ≤ 1 := by rcases hr12 with h | h <;> rw [h] <;> decide
    have hT : KT u u13 := KT.tr (by exact hT) hTu13.1
    have hI_15_9_u13 : fI u13 15 9 = (fI u9 15 9) := hTu13.2.1
    have hI_15_10_u13 : fI u13 15 10 = (fI u9 15 10) := hTu13.2.2.1
    have hI_15_11_u13 : fI u13 15 11 = (fI u9 15 11) := hTu13.2.2.2.1
    have hI_15_12_u13 : fI u13 15 12 = (fI u9 15 12) := hTu13.2.2.2.2
    refine bs_eq (tgt := 42) (X := (r12).toInt) hx hb dX5_readInner_35 (by decide) rfl (fun c19 => ?_) (fun c19 => ?_)
    · refine lv_iconst (v := 0) hx hb dX5_readInner_42 (by decide) ?_
      refine hret _ _ _ _ _ _ dX5_readInner_43 rfl ?_ hO
      exact ⟨Or.inl rfl, hJ, hT, hW⟩
    · refine lv_iconst (v := 1) hx hb dX5_readInner_38 (by decide) ?_
      refine lv_goto (tgt := 43) hx hb dX5_readInner_39 (by decide) ?_
      refine hret _ _ _ _ _ _ dX5_readInner_43 rfl ?_ hO
      exact ⟨Or.inr rfl, hJ, hT, hW⟩
set_option maxHeartbeats 4000000 in
set_option maxRecDepth 100000 in
theorem T_X5_readUnit_2 (l : Launch) (D : va_G) (cy : Nat → ClassId) (a : Nat → Nat) (u : St) (hJ : CI a u) (hW : fR u 2 = a 15)   : Mi l D cy (cW cy a) yX5_readUnit (.code yX5_readUnit cX5_readUnit 3 (some .boolean)) (rmo 41 931) [.ref (a 27), .int 2] u (fun (r : Int32) (u' : St) => (r = 0 ∨ r = 1) ∧ (CI a u') ∧ (KT u u') ∧ (fR u' 2 = a 15)) := by
  refine Mi.of (own := RX5) rfl (by decide) (Nat.le_of_ble_eq_true rfl) ?_
  have hT : KT u u := KT.rf
  intro p e s m below meth c A Q ls C hret hO hl
  obtain ⟨hx, hb, hml, hown, ht, hK, hA⟩ := id C
  have hl : lv_has ls 3 [(0, .ref (a 27)), (1, .int 2)] := hl
  refine lv_aload_n hx hb dX5_readUnit_0 rfl (lv_at hl 0 rfl) ?_
  refine gf_RX5_9 (v := .ref (a 1)) C hO 27 cW_27 rfl dX5_readUnit_1 ?_
  refine gf_RX5_36 (v := .int (fI u 1 4)) C hO 1 cW_1 rfl dX5_readUnit_4 ?_
  refine lv_istore_n (lv' := [(2, .int (fI u 1 4)), (0, .ref (a 27)), (1, .int 2)]) hx hb dX5_readUnit_7 rfl hl (by decide) rfl (fun ls hl => ?_)
  refine lv_aload_n hx hb dX5_readUnit_8 rfl (lv_at hl 1 rfl) ?_
  refine gf_RX5_15 (v := .ref (a 15)) C hO 27 cW_27 (congrArg (fun z : Nat => some (Value.ref z)) hW) dX5_readUnit_9 ?_
  refine gf_RX5_173 (v := .ref (a 24)) C hO 15 cW_15 rfl dX5_readUnit_12 ?_
  refine cVi (w := cW cy a) (As := []) (rest := []) C hO (T_X4_isFull l D cy a _ (by exact hJ)) (cwV 0 ht (gV wd_775 wd_776 wd_777 wd_113 wd_778) rfl rfl rfl hd_yX4_isFull ⟨Nat.le_of_ble_eq_true rfl, Nat.le_of_ble_eq_true rfl⟩) 24 rfl cW_24 rfl rfl hl.1 (Nat.le_of_ble_eq_true rfl) dX5_readUnit_15 rfl ⟨Nat.zero_le _, Nat.zero_le _⟩ (fun r1 u2 H locs hp3 hO => ?_)
  obtain ⟨hr1, hu2⟩ := hp3
  have gr1 : 0 ≤ r1.toInt ∧ r1.toInt ≤ 1 := by rcases hr1 with h | h <;> rw [h] <;> decide
  rw [hu2] at hO
  refine bs_ne (tgt := 41) (X := (r1).toInt) hx hb dX5_readUnit_18 (by decide) rfl (fun c4 => ?_) (fun c4 => ?_)
  · refine lv_aload_n hx hb dX5_readUnit_41 rfl (lv_at hl 1 rfl) ?_
    refine lv_iconst (v := 2) hx hb dX5_readUnit_42 (by decide) ?_
    refine cVi (w := cW cy a) (As := [.int 2]) (rest := []) C hO (T_X5_refuse l D cy a _ (by exact hJ) (by exact hW) (2)) (cwV 1 ht (gV wd_691 wd_693 wd_6 wd_114 wd_694) rfl rfl rfl hd_yX5_refuse ⟨Nat.le_of_ble_eq_true rfl, Nat.le_of_ble_eq_true rfl⟩) 27 rfl cW_27 rfl rfl hl.1 (Nat.le_of_ble_eq_true rfl) dX5_readUnit_43 rfl ⟨Nat.zero_le _, Nat.zero_le _⟩ (fun r5 u6 H locs hp7 hO => ?_)
    have g8 : 0 ≤ (fI u 15 9).toInt ∧ (fI u 15 9).toInt ≤ 8 := by have h := CI_15_9 hJ; exact h
    have g9 : 0 ≤ (fI u 15 10).toInt ∧ (fI u 15 10).toInt ≤ 14 := by have h := CI_15_10 hJ; exact h
    have g10 : 0 ≤ (fI u 15 11).toInt ∧ (fI u 15 11).toInt ≤ 8 := by have h := CI_15_11 hJ; exact h
    have g11 : 0 ≤ (fI u 15 12).toInt ∧ (fI u 15 12).toInt ≤ 6 := by have h := CI_15_12 hJ; exact h
    obtain ⟨hr5, hJ, hTu6, hW⟩ := hp7
    subst hr5
    have hT : KT u u6 := KT.tr (by exact hT) hTu6.1
    have hI_15_9_u6 : fI u6 15 9 = (fI u 15 9) := hTu6.2.1
    have hI_15_10_u6 : fI u6 15 10 = (fI u 15 10) := hTu6.2.2.1
    have hI_15_11_u6 : fI u6 15 11 = (fI u 15 11) := hTu6.2.2.2.1
    have hI_15_12_u6 : fI u6 15 12 = (fI u 15 12) := hTu6.2.2.2.2
    refine hret _ _ _ _ _ _ dX5_readUnit_46 rfl ?_ hO
    exact ⟨Or.inl rfl, hJ, hT, hW⟩
  · refine lv_iload_n hx hb dX5_readUnit_21 rfl (lv_at hl 0 rfl) ?_
    refine lv_sipush (v := 201) hx hb dX5_readUnit_22 (by decide) ?_
    refine cs_eq (tgt := 47) (X := ((fI u 1 4)).toInt) (Y := 201) hx hb dX5_readUnit_25 (by decide) rfl rfl (fun c12 => ?_) (fun c12 => ?_)
    · refine lv_aload_n hx hb dX5_readUnit_47 rfl (lv_at hl 1 rfl) ?_
      refine gf_RX5_15 (v := .ref (a 15)) C hO 27 cW_27 (congrArg (fun z : Nat => some (Value.ref z)) hW) dX5_readUnit_48 ?_
      refine gf_RX5_173 (v := .ref (a 24)) C hO 15 cW_15 rfl dX5_readUnit_51 ?_
      refine lv_dup hx hb dX5_readUnit_54 rfl ?_
      refine gf_RX5_207 (v := .int (fI u 24 4)) C hO 24 cW_24 rfl dX5_readUnit_55 ?_
      refine lv_iconst (v := 1) hx hb dX5_readUnit_58 (by decide) ?_
      refine lv_iadd hx hb dX5_readUnit_59 ?_
      refine pf_RX5_207 C hO 24 cW_24 (Nat.le_of_ble_eq_true rfl) cW_s24_4 dX5_readUnit_60 (fun H locs hO => ?_)
      have hJ := CIs_24_4 (v := ((fI u 24 4) + 1)) hJ
      refine lv_iload_n hx hb dX5_readUnit_63 rfl (lv_at hl 0 rfl) ?_
      refine lv_bipush (v := 40) hx hb dX5_readUnit_64 (by decide) ?_
      refine ct_ne (tgt := 75) (X := ((fI u 1 4)).toInt) (Y := 40) hx hb dX5_readUnit_66 (by decide) rfl rfl (by omega) ?_
      refine lv_aload_n hx hb dX5_readUnit_75 rfl (lv_at hl 1 rfl) ?_
      refine gf_RX5_15 (v := .ref (a 15)) C hO 27 cW_27 (congrArg (fun z : Nat => some (Value.ref z)) hW) dX5_readUnit_76 ?_
      refine gf_RX5_173 (v := .ref (a 24)) C hO 15 cW_15 rfl dX5_readUnit_79 ?_
      refine lv_iload_n hx hb dX5_readUnit_82 rfl (lv_at hl 0 rfl) ?_
      refine lv_sipush (v := 201) hx hb dX5_readUnit_83 (by decide) ?_
      refine cn_ne (X := ((fI u 1 4)).toInt) (Y := 201) hx hb dX5_readUnit_86 rfl rfl (by omega) ?_ (tgt := 99) (by decide)
      refine lv_aload_n hx hb dX5_readUnit_89 rfl (lv_at hl 1 rfl) ?_
      refine gf_RX5_9 (v := .ref (a 1)) C hO 27 cW_27 rfl dX5_readUnit_90 ?_
      refine gf_RX5_94 (v := .int (fI u 1 6)) C hO 1 cW_1 rfl dX5_readUnit_93 ?_
      refine lv_goto (tgt := 101) hx hb dX5_readUnit_96 (by decide) ?_
      refine cVv (w := cW cy a) (As := [.int (fI u 1 6)]) (rest := []) C hO (T_X4_add l D cy a _ (by exact hJ) (by exact hW) ((fI u 1 6))) (cwV 1 ht (gV wd_759 wd_760 wd_761 wd_113 wd_762) rfl rfl rfl hd_yX4_add ⟨Nat.le_of_ble_eq_true rfl, Nat.le_of_ble_eq_true rfl⟩) 24 rfl cW_24 rfl rfl hl.1 (Nat.le_of_ble_eq_true rfl) dX5_readUnit_101 rfl ⟨Nat.zero_le _, Nat.zero_le _⟩ (fun u14 H locs hp15 hO => ?_)
      have g16 : 0 ≤ (fI u 15 9).toInt ∧ (fI u 15 9).toInt ≤ 8 := by have h := CI_15_9 hJ; exact h
      have g17 : 0 ≤ (fI u 15 10).toInt ∧ (fI u 15 10).toInt ≤ 14 := by have h := CI_15_10 hJ; exact h
      have g18 : 0 ≤ (fI u 15 11).toInt ∧ (fI u 15 11).toInt ≤ 8 := by have h := CI_15_11 hJ; exact h
      have g19 : 0 ≤ (fI u 15 12).toInt ∧ (fI u 15 12).toInt ≤ 6 := by have h := CI_15_12 hJ; exact h
      obtain ⟨hJ, hTu14, hW⟩ := hp15
      have hT : KT u u14 := KT.tr (by exact hT) hTu14.1
      have hI_15_9_u14 : fI u14 15 9 = (fI u 15 9) := hTu14.2.1
      have hI_15_10_u14 : fI u14 15 10 = (fI u 15 10) := hTu14.2.2.1
      have hI_15_11_u14 : fI u14 15 11 = (fI u 15 11) := hTu14.2.2.2.1
      have hI_15_12_u14 : fI u14 15 12 = (fI u 15 12) := hTu14.2.2.2.2
      refine lv_aload_n hx hb dX5_readUnit_104 rfl (lv_at hl 1 rfl) ?_
      refine gf_RX5_9 (v := .ref (a 1)) C hO 27 cW_27 rfl dX5_readUnit_105 ?_
      refine cVv (w := cW cy a) (As := []) (rest := []) C hO (T_X7_advance l D cy a _ (by exact hJ) (by exact hW)) (cwV 0 ht (gV wd_695 wd_541 wd_542 wd_111 wd_543) rfl rfl rfl hd_yX7_advance ⟨Nat.le_of_ble_eq_true rfl, Nat.le_of_ble_eq_true rfl⟩) 1 rfl cW_1 rfl rfl hl.1 (Nat.le_of_ble_eq_true rfl) dX5_readUnit_108 rfl ⟨Nat.zero_le _, Nat.zero_le _⟩ (fun u21 H locs hp22 hO => ?_)
      obtain ⟨hJ, hTu21, hW⟩ := hp22
      have hT : KT u u21 := KT.tr (by exact hT) hTu21.1
      have hI_15_9_u21 : fI u21 15 9 = (fI u 15 9) := Eq.trans (hTu21.2.1) (hI_15_9_u14)
      have hI_15_10_u21 : fI u21 15 10 = (fI u 15 10) := Eq.trans (hTu21.2.2.1) (hI_15_10_u14)
      have hI_15_11_u21 : fI u21 15 11 = (fI u 15 11) := Eq.trans (hTu21.2.2.2.1) (hI_15_11_u14)
      have hI_15_12_u21 : fI u21 15 12 = (fI u 15 12) := Eq.trans (hTu21.2.2.2.2) (hI_15_12_u14)
      refine lv_iconst (v := 1) hx hb dX5_readUnit_111 (by decide) ?_
      refine hret _ _ _ _ _ _ dX5_readUnit_112 rfl ?_ hO
      exact ⟨Or.inr rfl, hJ, hT, hW⟩
    · refine lv_iload_n hx hb dX5_readUnit_28 rfl (lv_at hl 0 rfl) ?_
      refine lv_bipush (v := 40) hx hb dX5_readUnit_29 (by decide) ?_
      refine cs_eq (tgt := 47) (X := ((fI u 1 4)).toInt) (Y := 40) hx hb dX5_readUnit_31 (by decide) rfl rfl (fun c23 => ?_) (fun c23 => ?_)
      · refine lv_aload_n hx hb dX5_readUnit_47 rfl (lv_at hl 1 rfl) ?_
        refine gf_RX5_15 (v := .ref (a 15)) C hO 27 cW_27 (congrArg (fun z : Nat => some (Value.ref z)) hW) dX5_readUnit_48 ?_
        refine gf_RX5_173 (v := .ref (a 24)) C hO 15 cW_15 rfl dX5_readUnit_51 ?_
        refine lv_dup hx hb dX5_readUnit_54 rfl ?_
        refine gf_RX5_207 (v := .int (fI u 24 4)) C hO 24 cW_24 rfl dX5_readUnit_55 ?_
        refine lv_iconst (v := 1) hx hb dX5_readUnit_58 (by decide) ?_
        refine lv_iadd hx hb dX5_readUnit_59 ?_
        refine pf_RX5_207 C hO 24 cW_24 (Nat.le_of_ble_eq_true rfl) cW_s24_4 dX5_readUnit_60 (fun H locs hO => ?_)
        have hJ := CIs_24_4 (v := ((fI u 24 4) + 1)) hJ
        refine lv_iload_n hx hb dX5_readUnit_63 rfl (lv_at hl 0 rfl) ?_
        refine lv_bipush (v := 40) hx hb dX5_readUnit_64 (by decide) ?_
        refine cn_ne (X := ((fI u 1 4)).toInt) (Y := 40) hx hb dX5_readUnit_66 rfl rfl (by omega) ?_ (tgt := 75) (by decide)
        refine lv_aload_n hx hb dX5_readUnit_69 rfl (lv_at hl 1 rfl) ?_
        refine lv_iload_n hx hb dX5_readUnit_70 rfl (lv_at hl 2 rfl) ?_
        refine cVi (w := cW cy a) (As := [.int 2]) (rest := []) C hO (T_X5_readInner_2 l D cy a _ (by exact hJ) (by exact hW)) (cwV 1 ht (gV wd_782 wd_784 wd_24 wd_114 wd_785) rfl rfl rfl hd_yX5_readInner ⟨Nat.le_of_ble_eq_true rfl, Nat.le_of_ble_eq_true rfl⟩) 27 rfl cW_27 rfl rfl hl.1 (Nat.le_of_ble_eq_true rfl) dX5_readUnit_71 rfl ⟨Nat.zero_le _, Nat.zero_le _⟩ (fun r24 u25 H locs hp26 hO => ?_)
        obtain ⟨hr24, hJ, hTu25, hW⟩ := hp26
        have gr24 : 0 ≤ r24.toInt ∧ r24.toInt ≤ 1 := by rcases hr24 with h | h <;> rw [h] <;> decide
        have hT : KT u u25 := KT.tr (by exact hT) hTu25
        refine hret _ _ _ _ _ _ dX5_readUnit_74 (by rcases hr24 with h | h <;> rw [h] <;> rfl) ?_ hO
        exact ⟨hr24, hJ, hT, hW⟩
      · refine lv_iload_n hx hb dX5_readUnit_34 rfl (lv_at hl 0 rfl) ?_
        refine cSi (w := cW cy a) (As := [.int (fI u 1 4)]) (rest := []) C hO (T_X4_isGiven l D cy a _ (by exact hJ) ((fI u 1 4))) (va_cwS 1 ht (gSS wd_779 wd_780 wd_113 wd_781) rfl rfl rfl hd_yX4_isGiven ⟨Nat.le_of_ble_eq_true rfl, Nat.le_of_ble_eq_true rfl⟩)  rfl hl.1 (Nat.le_of_ble_eq_true rfl) dX5_readUnit_35 rfl ⟨Nat.zero_le _, Nat.zero_le _⟩ (fun r27 u28 H locs hp29 hO => ?_)
        obtain ⟨hr27, hu28⟩ := hp29
        have gr27 : 0 ≤ r27.toInt ∧ r27.toInt ≤ 1 := by rcases hr27 with h | h <;> rw [h] <;> decide
        rw [hu28] at hO
        refine bs_ne (tgt := 47) (X := (r27).toInt) hx hb dX5_readUnit_38 (by decide) rfl (fun c30 => ?_) (fun c30 => ?_)
        · refine lv_aload_n hx hb dX5_readUnit_47 rfl (lv_at hl 1 rfl) ?_
          refine gf_RX5_15 (v := .ref (a 15)) C hO 27 cW_27 (congrArg (fun z : Nat => some (Value.ref z)) hW) dX5_readUnit_48 ?_
          refine gf_RX5_173 (v := .ref (a 24)) C hO 15 cW_15 rfl dX5_readUnit_51 ?_
          refine lv_dup hx hb dX5_readUnit_54 rfl ?_
          refine gf_RX5_207 (v := .int (fI u 24 4)) C hO 24 cW_24 rfl dX5_readUnit_55 ?_
          refine lv_iconst (v := 1) hx hb dX5_readUnit_58 (by decide) ?_
          refine lv_iadd hx hb dX5_readUnit_59 ?_
          refine pf_RX5_207 C hO 24 cW_24 (Nat.le_of_ble_eq_true rfl) cW_s24_4 dX5_readUnit_60 (fun H locs hO => ?_)
          have hJ := CIs_24_4 (v := ((fI u 24 4) + 1)) hJ
          refine lv_iload_n hx hb dX5_readUnit_63 rfl (lv_at hl 0 rfl) ?_
          refine lv_bipush (v := 40) hx hb dX5_readUnit_64 (by decide) ?_
          refine cs_ne (tgt := 75) (X := ((fI u 1 4)).toInt) (Y := 40) hx hb dX5_readUnit_66 (by decide) rfl rfl (fun c31 => ?_) (fun c31 => ?_)
          · refine lv_aload_n hx hb dX5_readUnit_75 rfl (lv_at hl 1 rfl) ?_
            refine gf_RX5_15 (v := .ref (a 15)) C hO 27 cW_27 (congrArg (fun z : Nat => some (Value.ref z)) hW) dX5_readUnit_76 ?_
            refine gf_RX5_173 (v := .ref (a 24)) C hO 15 cW_15 rfl dX5_readUnit_79 ?_
            refine lv_iload_n hx hb dX5_readUnit_82 rfl (lv_at hl 0 rfl) ?_
            refine lv_sipush (v := 201) hx hb dX5_readUnit_83 (by decide) ?_
            refine cs_ne (tgt := 99) (X := ((fI u 1 4)).toInt) (Y := 201) hx hb dX5_readUnit_86 (by decide) rfl rfl (fun c32 => ?_) (fun c32 => ?_)
            · refine lv_iload_n hx hb dX5_readUnit_99 rfl (lv_at hl 0 rfl) ?_
              refine lv_ineg hx hb dX5_readUnit_100 ?_
              refine lv_topi (fun z33 ez33 => ?_)
              refine cVv (w := cW cy a) (As := [.int z33]) (rest := []) C hO (T_X4_add l D cy a _ (by exact hJ) (by exact hW) (z33)) (cwV 1 ht (gV wd_759 wd_760 wd_761 wd_113 wd_762) rfl rfl rfl hd_yX4_add ⟨Nat.le_of_ble_eq_true rfl, Nat.le_of_ble_eq_true rfl⟩) 24 rfl cW_24 rfl rfl hl.1 (Nat.le_of_ble_eq_true rfl) dX5_readUnit_101 rfl ⟨Nat.zero_le _, Nat.zero_le _⟩ (fun u35 H locs hp36 hO => ?_)
              have g37 : 0 ≤ (fI u 15 9).toInt ∧ (fI u 15 9).toInt ≤ 8 := by have h := CI_15_9 hJ; exact h
              have g38 : 0 ≤ (fI u 15 10).toInt ∧ (fI u 15 10).toInt ≤ 14 := by have h := CI_15_10 hJ; exact h
              have g39 : 0 ≤ (fI u 15 11).toInt ∧ (fI u 15 11).toInt ≤ 8 := by have h := CI_15_11 hJ; exact h
              have g40 : 0 ≤ (fI u 15 12).toInt ∧ (fI u 15 12).toInt ≤ 6 := by have h := CI_15_12 hJ; exact h
              obtain ⟨hJ, hTu35, hW⟩ := hp36
              have hT : KT u u35 := KT.tr (by exact hT) hTu35.1
              have hI_15_9_u35 : fI u35 15 9 = (fI u 15 9) := hTu35.2.1
              have hI_15_10_u35 : fI u35 15 10 = (fI u 15 10) := hTu35.2.2.1
              have hI_15_11_u35 : fI u35 15 11 = (fI u 15 11) := hTu35.2.2.2.1
              have hI_15_12_u35 : fI u35 15 12 = (fI u 15 12) := hTu35.2.2.2.2
              refine lv_aload_n hx hb dX5_readUnit_104 rfl (lv_at hl 1 rfl) ?_
              refine gf_RX5_9 (v := .ref (a 1)) C hO 27 cW_27 rfl dX5_readUnit_105 ?_
              refine cVv (w := cW cy a) (As := []) (rest := []) C hO (T_X7_advance l D cy a _ (by exact hJ) (by exact hW)) (cwV 0 ht (gV wd_695 wd_541 wd_542 wd_111 wd_543) rfl rfl rfl hd_yX7_advance ⟨Nat.le_of_ble_eq_true rfl, Nat.le_of_ble_eq_true rfl⟩) 1 rfl cW_1 rfl rfl hl.1 (Nat.le_of_ble_eq_true rfl) dX5_readUnit_108 rfl ⟨Nat.zero_le _, Nat.zero_le _⟩ (fun u42 H locs hp43 hO => ?_)
              obtain ⟨hJ, hTu42, hW⟩ := hp43
              have hT : KT u u42 := KT.tr (by exact hT) hTu42.1
              have hI_15_9_u42 : fI u42 15 9 = (fI u 15 9) := Eq.trans (hTu42.2.1) (hI_15_9_u35)
              have hI_15_10_u42 : fI u42 15 10 = (fI u 15 10) := Eq.trans (hTu42.2.2.1) (hI_15_10_u35)
              have hI_15_11_u42 : fI u42 15 11 = (fI u 15 11) := Eq.trans (hTu42.2.2.2.1) (hI_15_11_u35)
              have hI_15_12_u42 : fI u42 15 12 = (fI u 15 12) := Eq.trans (hTu42.2.2.2.2) (hI_15_12_u35)
              refine lv_iconst (v := 1) hx hb dX5_readUnit_111 (by decide) ?_
              refine hret _ _ _ _ _ _ dX5_readUnit_112 rfl ?_ hO
              exact ⟨Or.inr rfl, hJ, hT, hW⟩
            · refine lv_aload_n hx hb dX5_readUnit_89 rfl (lv_at hl 1 rfl) ?_
              refine gf_RX5_9 (v := .ref (a 1)) C hO 27 cW_27 rfl dX5_readUnit_90 ?_
              refine gf_RX5_94 (v := .int (fI u 1 6)) C hO 1 cW_1 rfl dX5_readUnit_93 ?_
              refine lv_goto (tgt := 101) hx hb dX5_readUnit_96 (by decide) ?_
              refine cVv (w := cW cy a) (As := [.int (fI u 1 6)]) (rest := []) C hO (T_X4_add l D cy a _ (by exact hJ) (by exact hW) ((fI u 1 6))) (cwV 1 ht (gV wd_759 wd_760 wd_761 wd_113 wd_762) rfl rfl rfl hd_yX4_add ⟨Nat.le_of_ble_eq_true rfl, Nat.le_of_ble_eq_true rfl⟩) 24 rfl cW_24 rfl rfl hl.1 (Nat.le_of_ble_eq_true rfl) dX5_readUnit_101 rfl ⟨Nat.zero_le _, Nat.zero_le _⟩ (fun u45 H locs hp46 hO => ?_)
              have g47 : 0 ≤ (fI u 15 9).toInt ∧ (fI u 15 9).toInt ≤ 8 := by have h := CI_15_9 hJ; exact h
              have g48 : 0 ≤ (fI u 15 10).toInt ∧ (fI u 15 10).toInt ≤ 14 := by have h := CI_15_10 hJ; exact h
              have g49 : 0 ≤ (fI u 15 11).toInt ∧ (fI u 15 11).toInt ≤ 8 := by have h := CI_15_11 hJ; exact h
              have g50 : 0 ≤ (fI u 15 12).toInt ∧ (fI u 15 12).toInt ≤ 6 := by have h := CI_15_12 hJ; exact h
              obtain ⟨hJ, hTu45, hW⟩ := hp46
              have hT : KT u u45 := KT.tr (by exact hT) hTu45.1
              have hI_15_9_u45 : fI u45 15 9 = (fI u 15 9) := hTu45.2.1
              have hI_15_10_u45 : fI u45 15 10 = (fI u 15 10) := hTu45.2.2.1
              have hI_15_11_u45 : fI u45 15 11 = (fI u 15 11) := hTu45.2.2.2.1
              have hI_15_12_u45 : fI u45 15 12 = (fI u 15 12) := hTu45.2.2.2.2
              refine lv_aload_n hx hb dX5_readUnit_104 rfl (lv_at hl 1 rfl) ?_
              refine gf_RX5_9 (v := .ref (a 1)) C hO 27 cW_27 rfl dX5_readUnit_105 ?_
              refine cVv (w := cW cy a) (As := []) (rest := []) C hO (T_X7_advance l D cy a _ (by exact hJ) (by exact hW)) (cwV 0 ht (gV wd_695 wd_541 wd_542 wd_111 wd_543) rfl rfl rfl hd_yX7_advance ⟨Nat.le_of_ble_eq_true rfl, Nat.le_of_ble_eq_true rfl⟩) 1 rfl cW_1 rfl rfl hl.1 (Nat.le_of_ble_eq_true rfl) dX5_readUnit_108 rfl ⟨Nat.zero_le _, Nat.zero_le _⟩ (fun u52 H locs hp53 hO => ?_)
              obtain ⟨hJ, hTu52, hW⟩ := hp53
              have hT : KT u u52 := KT.tr (by exact hT) hTu52.1
              have hI_15_9_u52 : fI u52 15 9 = (fI u 15 9) := Eq.trans (hTu52.2.1) (hI_15_9_u45)
              have hI_15_10_u52 : fI u52 15 10 = (fI u 15 10) := Eq.trans (hTu52.2.2.1) (hI_15_10_u45)
              have hI_15_11_u52 : fI u52 15 11 = (fI u 15 11) := Eq.trans (hTu52.2.2.2.1) (hI_15_11_u45)
              have hI_15_12_u52 : fI u52 15 12 = (fI u 15 12) := Eq.trans (hTu52.2.2.2.2) (hI_15_12_u45)
              refine lv_iconst (v := 1) hx hb dX5_readUnit_111 (by decide) ?_
              refine hret _ _ _ _ _ _ dX5_readUnit_112 rfl ?_ hO
              exact ⟨Or.inr rfl, hJ, hT, hW⟩
          · refine lv_aload_n hx hb dX5_readUnit_69 rfl (lv_at hl 1 rfl) ?_
            refine lv_iload_n hx hb dX5_readUnit_70 rfl (lv_at hl 2 rfl) ?_
            refine cVi (w := cW cy a) (As := [.int 2]) (rest := []) C hO (T_X5_readInner_2 l D cy a _ (by exact hJ) (by exact hW)) (cwV 1 ht (gV wd_782 wd_784 wd_24 wd_114 wd_785) rfl rfl rfl hd_yX5_readInner ⟨Nat.le_of_ble_eq_true rfl, Nat.le_of_ble_eq_true rfl⟩) 27 rfl cW_27 rfl rfl hl.1 (Nat.le_of_ble_eq_true rfl) dX5_readUnit_71 rfl ⟨Nat.zero_le _, Nat.zero_le _⟩ (fun r54 u55 H locs hp56 hO => ?_)
            obtain ⟨hr54, hJ, hTu55, hW⟩ := hp56
            have gr54 : 0 ≤ r54.toInt ∧ r54.toInt ≤ 1 := by rcases hr54 with h | h <;> rw [h] <;> decide
            have hT : KT u u55 := KT.tr (by exact hT) hTu55
            refine hret _ _ _ _ _ _ dX5_readUnit_74 (by rcases hr54 with h | h <;> rw [h] <;> rfl) ?_ hO
            exact ⟨hr54, hJ, hT, hW⟩
        · refine lv_aload_n hx hb dX5_readUnit_41 rfl (lv_at hl 1 rfl) ?_
          refine lv_iconst (v := 2) hx hb dX5_readUnit_42 (by decide) ?_
          refine cVi (w := cW cy a) (As := [.int 2]) (rest := []) C hO (T_X5_refuse l D cy a _ (by exact hJ) (by exact hW) (2)) (cwV 1 ht (gV wd_691 wd_693 wd_6 wd_114 wd_694) rfl rfl rfl hd_yX5_refuse ⟨Nat.le_of_ble_eq_true rfl, Nat.le_of_ble_eq_true rfl⟩) 27 rfl cW_27 rfl rfl hl.1 (Nat.le_of_ble_eq_true rfl) dX5_readUnit_43 rfl ⟨Nat.zero_le _, Nat.zero_le _⟩ (fun r57 u58 H locs hp59 hO => ?_)
          have g60 : 0 ≤ (fI u 15 9).toInt ∧ (fI u 15 9).toInt ≤ 8 := by have h := CI_15_9 hJ; exact h
          have g61 : 0 ≤ (fI u 15 10).toInt ∧ (fI u 15 10).toInt ≤ 14 := by have h := CI_15_10 hJ; exact h
          have g62 : 0 ≤ (fI u 15 11).toInt ∧ (fI u 15 11).toInt ≤ 8 := by have h := CI_15_11 hJ; exact h
          have g63 : 0 ≤ (fI u 15 12).toInt ∧ (fI u 15 12).toInt ≤ 6 := by have h := CI_15_12 hJ; exact h
          obtain ⟨hr57, hJ, hTu58, hW⟩ := hp59
          subst hr57
          have hT : KT u u58 := KT.tr (by exact hT) hTu58.1
          have hI_15_9_u58 : fI u58 15 9 = (fI u 15 9) := hTu58.2.1
          have hI_15_10_u58 : fI u58 15 10 = (fI u 15 10) := hTu58.2.2.1
          have hI_15_11_u58 : fI u58 15 11 = (fI u 15 11) := hTu58.2.2.2.1
          have hI_15_12_u58 : fI u58 15 12 = (fI u 15 12) := hTu58.2.2.2.2
          refine hret _ _ _ _ _ _ dX5_readUnit_46 rfl ?_ hO
          exact ⟨Or.inl rfl, hJ, hT, hW⟩
set_option maxHeartbeats 4000000 in
set_option maxRecDepth 100000 in
theorem T_X5_readProduct_2 (l : Launch) (D : va_G) (cy : Nat → ClassId) (a : Nat → Nat) (u : St) (hJ : CI a u) (hW : fR u 2 = a 15)   : Mi l D cy (cW cy a) yX5_readProduct (.code yX5_readProduct cX5_readProduct 5 (some .boolean)) (rmo 42 953) [.ref (a 27), .int 2] u (fun (r : Int32) (u' : St) => (r = 0 ∨ r = 1) ∧ (CI a u') ∧ (KT u u') ∧ (fR u' 2 = a 15)) := by
  refine Mi.of (own := RX5) rfl (by decide) (Nat.le_of_ble_eq_true rfl) ?_
  have hT : KT u u := KT.rf
  intro p e s m below meth c A Q ls C hret hO hl
  obtain ⟨hx, hb, hml, hown, ht, hK, hA⟩ := id C
  have hl : lv_has ls 5 [(0, .ref (a 27)), (1, .int 2)] := hl
  refine lv_aload_n hx hb dX5_readProduct_0 rfl (lv_at hl 0 rfl) ?_
  refine lv_iload_n hx hb dX5_readProduct_1 rfl (lv_at hl 1 rfl) ?_
  refine cVi (w := cW cy a) (As := [.int 2]) (rest := []) C hO (T_X5_readUnit_2 l D cy a _ (by exact hJ) (by exact hW)) (cwV 1 ht (gV wd_771 wd_773 wd_23 wd_114 wd_774) rfl rfl rfl hd_yX5_readUnit ⟨Nat.le_of_ble_eq_true rfl, Nat.le_of_ble_eq_true rfl⟩) 27 rfl cW_27 rfl rfl hl.1 (Nat.le_of_ble_eq_true rfl) dX5_readProduct_2 rfl ⟨Nat.zero_le _, Nat.zero_le _⟩ (fun r1 u2 H locs hp3 hO => ?_)
  obtain ⟨hr1, hJ, hTu2, hW⟩ := hp3
  have gr1 : 0 ≤ r1.toInt ∧ r1.toInt ≤ 1 := by rcases hr1 with h | h <;> rw [h] <;> decide
  have hT : KT u u2 := KT.tr (by exact hT) hTu2
  refine lv_istore_n (lv' := [(2, .int r1), (0, .ref (a 27)), (1, .int 2)]) hx hb dX5_readProduct_5 rfl hl (by decide) rfl (fun ls hl => ?_)
  refine lv_iconst (v := 0) hx hb dX5_readProduct_6 (by decide) ?_
  refine lv_istore_n (lv' := [(3, .int 0), (2, .int r1), (0, .ref (a 27)), (1, .int 2)]) hx hb dX5_readProduct_7 rfl hl (by decide) rfl (fun ls hl => ?_)
  have LP_8_k5 : ∀ (n : Nat) (u4 : St) (H : Heap) (locs : List Loc) (ls : Array Slot) (i_k5 : Int32) (w2_k5 : Int32), Wo D A (cW cy a u4) s.heap H locs → lv_has ls 5 [(3, .int i_k5), (2, .int w2_k5), (0, .ref (a 27)), (1, .int 2)] → CI a u4 → KT u u4 → fR u4 2 = a 15 → 0 ≤ i_k5.toInt ∧ i_k5.toInt ≤ 1600 → 0 ≤ w2_k5.toInt ∧ w2_k5.toInt ≤ 1 → 1600 - i_k5.toInt < (n : Int) → W p l e (rmo 42 953) s m [.ref (a 27), .int 2].toArray below meth c H locs 0 0 Q (F0 m 8 ls []) := by
    intro n
    induction n with
    | zero =>
      intro u4 H locs ls i_k5 w2_k5 hO hl hJ hT hW iv0_k5 iv1_k5 hm_k5
      exact absurd hm_k5 (by omega)
    | succ n ih_k5 =>
      intro u4 H locs ls i_k5 w2_k5 hO hl hJ hT hW iv0_k5 iv1_k5 hm_k5
      refine lv_iload_n hx hb dX5_readProduct_8 rfl (lv_at hl 0 rfl) ?_
      refine lv_sipush (v := 1600) hx hb dX5_readProduct_9 (by decide) ?_
      refine cs_ge (tgt := 73) (X := (i_k5).toInt) (Y := 1600) hx hb dX5_readProduct_12 (by decide) rfl rfl (fun c6 => ?_) (fun c6 => ?_)
      · refine lv_iload_n hx hb dX5_readProduct_73 rfl (lv_at hl 1 rfl) ?_
        have hw2_k5 : w2_k5 = 0 ∨ w2_k5 = 1 := i_b01 rfl (by omega) (by omega)
        refine hret _ _ _ _ _ _ dX5_readProduct_74 (by rcases hw2_k5 with h | h <;> rw [h] <;> rfl) ?_ hO
        exact ⟨hw2_k5, hJ, hT, hW⟩
      · refine lv_iload_n hx hb dX5_readProduct_15 rfl (lv_at hl 1 rfl) ?_
        refine bs_eq (tgt := 73) (X := (w2_k5).toInt) hx hb dX5_readProduct_16 (by decide) rfl (fun c7 => ?_) (fun c7 => ?_)
        · refine lv_iload_n hx hb dX5_readProduct_73 rfl (lv_at hl 1 rfl) ?_
          have hw2_k5 : w2_k5 = 0 ∨ w2_k5 = 1 := i_b01 rfl (by omega) (by omega)
          refine hret _ _ _ _ _ _ dX5_readProduct_74 (by rcases hw2_k5 with h | h <;> rw [h] <;> rfl) ?_ hO
          exact ⟨hw2_k5, hJ, hT, hW⟩
        · refine lv_aload_n hx hb dX5_readProduct_19 rfl (lv_at hl 2 rfl) ?_
          refine gf_RX5_9 (v := .ref (a 1)) C hO 27 cW_27 rfl dX5_readProduct_20 ?_
          refine gf_RX5_36 (v := .int (fI u4 1 4)) C hO 1 cW_1 rfl dX5_readProduct_23 ?_
          refine cSi (w := cW cy a) (As := [.int (fI u4 1 4)]) (rest := []) C hO (T_X5_isTimes l D cy a _ (by exact hJ) ((fI u4 1 4))) (va_cwS 1 ht (gSS wd_786 wd_787 wd_114 wd_788) rfl rfl rfl hd_yX5_isTimes ⟨Nat.le_of_ble_eq_true rfl, Nat.le_of_ble_eq_true rfl⟩)  rfl hl.1 (Nat.le_of_ble_eq_true rfl) dX5_readProduct_26 rfl ⟨Nat.zero_le _, Nat.zero_le _⟩ (fun r8 u9 H locs hp10 hO => ?_)
          obtain ⟨hr8, hu9⟩ := hp10
          have gr8 : 0 ≤ r8.toInt ∧ r8.toInt ≤ 1 := by rcases hr8 with h | h <;> rw [h] <;> decide
          rw [hu9] at hO
          refine bs_eq (tgt := 73) (X := (r8).toInt) hx hb dX5_readProduct_29 (by decide) rfl (fun c11 => ?_) (fun c11 => ?_)
          · refine lv_iload_n hx hb dX5_readProduct_73 rfl (lv_at hl 1 rfl) ?_
            have hw2_k5 : w2_k5 = 0 ∨ w2_k5 = 1 := i_b01 rfl (by omega) (by omega)
            refine hret _ _ _ _ _ _ dX5_readProduct_74 (by rcases hw2_k5 with h | h <;> rw [h] <;> rfl) ?_ hO
            exact ⟨hw2_k5, hJ, hT, hW⟩
          · refine lv_aload_n hx hb dX5_readProduct_32 rfl (lv_at hl 2 rfl) ?_
            refine gf_RX5_9 (v := .ref (a 1)) C hO 27 cW_27 rfl dX5_readProduct_33 ?_
            refine gf_RX5_36 (v := .int (fI u4 1 4)) C hO 1 cW_1 rfl dX5_readProduct_36 ?_
            refine lv_istore (lv' := [(4, .int (fI u4 1 4)), (3, .int i_k5), (2, .int w2_k5), (0, .ref (a 27)), (1, .int 2)]) hx hb dX5_readProduct_39 hl (by decide) rfl (fun ls hl => ?_)
            refine lv_aload_n hx hb dX5_readProduct_41 rfl (lv_at hl 3 rfl) ?_
            refine gf_RX5_9 (v := .ref (a 1)) C hO 27 cW_27 rfl dX5_readProduct_42 ?_
            refine cVv (w := cW cy a) (As := []) (rest := []) C hO (T_X7_advance l D cy a _ (by exact hJ) (by exact hW)) (cwV 0 ht (gV wd_695 wd_541 wd_542 wd_111 wd_543) rfl rfl rfl hd_yX7_advance ⟨Nat.le_of_ble_eq_true rfl, Nat.le_of_ble_eq_true rfl⟩) 1 rfl cW_1 rfl rfl hl.1 (Nat.le_of_ble_eq_true rfl) dX5_readProduct_45 rfl ⟨Nat.zero_le _, Nat.zero_le _⟩ (fun u13 H locs hp14 hO => ?_)
            have g15 : 0 ≤ (fI u4 15 9).toInt ∧ (fI u4 15 9).toInt ≤ 8 := by have h := CI_15_9 hJ; exact h
            have g16 : 0 ≤ (fI u4 15 10).toInt ∧ (fI u4 15 10).toInt ≤ 14 := by have h := CI_15_10 hJ; exact h
            have g17 : 0 ≤ (fI u4 15 11).toInt ∧ (fI u4 15 11).toInt ≤ 8 := by have h := CI_15_11 hJ; exact h
            have g18 : 0 ≤ (fI u4 15 12).toInt ∧ (fI u4 15 12).toInt ≤ 6 := by have h := CI_15_12 hJ; exact h
            obtain ⟨hJ, hTu13, hW⟩ := hp14
            have hT : KT u u13 := KT.tr (by exact hT) hTu13.1
            have hI_15_9_u13 : fI u13 15 9 = (fI u4 15 9) := hTu13.2.1
            have hI_15_10_u13 : fI u13 15 10 = (fI u4 15 10) := hTu13.2.2.1
            have hI_15_11_u13 : fI u13 15 11 = (fI u4 15 11) := hTu13.2.2.2.1
            have hI_15_12_u13 : fI u13 15 12 = (fI u4 15 12) := hTu13.2.2.2.2
            refine lv_aload_n hx hb dX5_readProduct_48 rfl (lv_at hl 3 rfl) ?_
            refine lv_iload_n hx hb dX5_readProduct_49 rfl (lv_at hl 4 rfl) ?_
            refine cVi (w := cW cy a) (As := [.int 2]) (rest := []) C hO (T_X5_readUnit_2 l D cy a _ (by exact hJ) (by exact hW)) (cwV 1 ht (gV wd_771 wd_773 wd_23 wd_114 wd_774) rfl rfl rfl hd_yX5_readUnit ⟨Nat.le_of_ble_eq_true rfl, Nat.le_of_ble_eq_true rfl⟩) 27 rfl cW_27 rfl rfl hl.1 (Nat.le_of_ble_eq_true rfl) dX5_readProduct_50 rfl ⟨Nat.zero_le _, Nat.zero_le _⟩ (fun r19 u20 H locs hp21 hO => ?_)
            obtain ⟨hr19, hJ, hTu20, hW⟩ := hp21
            have gr19 : 0 ≤ r19.toInt ∧ r19.toInt ≤ 1 := by rcases hr19 with h | h <;> rw [h] <;> decide
            have hT : KT u u20 := KT.tr (by exact hT) hTu20
            refine lv_istore_n (lv' := [(2, .int r19), (4, .int (fI u4 1 4)), (3, .int i_k5), (0, .ref (a 27)), (1, .int 2)]) hx hb dX5_readProduct_53 rfl hl (by decide) rfl (fun ls hl => ?_)
            refine lv_aload_n hx hb dX5_readProduct_54 rfl (lv_at hl 3 rfl) ?_
            refine gf_RX5_15 (v := .ref (a 15)) C hO 27 cW_27 (congrArg (fun z : Nat => some (Value.ref z)) hW) dX5_readProduct_55 ?_
            refine gf_RX5_173 (v := .ref (a 24)) C hO 15 cW_15 rfl dX5_readProduct_58 ?_
            refine lv_iload hx hb dX5_readProduct_61 (lv_at hl 1 rfl) ?_
            refine lv_ineg hx hb dX5_readProduct_63 ?_
            refine lv_topi (fun z22 ez22 => ?_)
            refine cVv (w := cW cy a) (As := [.int z22]) (rest := []) C hO (T_X4_add l D cy a _ (by exact hJ) (by exact hW) (z22)) (cwV 1 ht (gV wd_759 wd_760 wd_761 wd_113 wd_762) rfl rfl rfl hd_yX4_add ⟨Nat.le_of_ble_eq_true rfl, Nat.le_of_ble_eq_true rfl⟩) 24 rfl cW_24 rfl rfl hl.1 (Nat.le_of_ble_eq_true rfl) dX5_readProduct_64 rfl ⟨Nat.zero_le _, Nat.zero_le _⟩ (fun u24 H locs hp25 hO => ?_)
            have g26 : 0 ≤ (fI u20 15 9).toInt ∧ (fI u20 15 9).toInt ≤ 8 := by have h := CI_15_9 hJ; exact h
            have g27 : 0 ≤ (fI u20 15 10).toInt ∧ (fI u20 15 10).toInt ≤ 14 := by have h := CI_15_10 hJ; exact h
            have g28 : 0 ≤ (fI u20 15 11).toInt ∧ (fI u20 15 11).toInt ≤ 8 := by have h := CI_15_11 hJ; exact h
            have g29 : 0 ≤ (fI u20 15 12).toInt ∧ (fI u20 15 12).toInt ≤ 6 := by have h := CI_15_12 hJ; exact h
            obtain ⟨hJ, hTu24, hW⟩ := hp25
            have hT : KT u u24 := KT.tr (by exact hT) hTu24.1
            have hI_15_9_u24 : fI u24 15 9 = (fI u20 15 9) := hTu24.2.1
            have hI_15_10_u24 : fI u24 15 10 = (fI u20 15 10) := hTu24.2.2.1
            have hI_15_11_u24 : fI u24 15 11 = (fI u20 15 11) := hTu24.2.2.2.1
            have hI_15_12_u24 : fI u24 15 12 = (fI u20 15 12) := hTu24.2.2.2.2
            have e30 : ((i_k5 + 1)).toInt = (i_k5).toInt + 1 := i_add rfl rfl (by omega)
            refine lv_iinc (v := (i_k5 + 1)) (lv' := [(3, .int (i_k5 + 1)), (2, .int r19), (4, .int (fI u4 1 4)), (0, .ref (a 27)), (1, .int 2)]) hx hb dX5_readProduct_67 hl (k := 2) rfl rfl (by decide) rfl (fun ls hl => ?_)
            refine lv_goto (tgt := 8) hx hb dX5_readProduct_70 (by decide) ?_
            exact ih_k5 _ _ _ _ ((i_k5 + 1)) (r19) hO (lv_sub hl [0, 1, 3, 4] rfl) (by exact hJ) (by exact hT) (by exact hW) (by first | decide | omega) (by first | decide | omega) (by first | decide | omega)
  exact LP_8_k5 4000 _ _ _ _ (0) (r1) hO (lv_sub hl [0, 1, 2, 3] rfl) (by exact hJ) (by exact hT) (by exact hW) (by first | decide | omega) (by first | decide | omega) (by first | decide | omega)
set_option maxHeartbeats 4000000 in
set_option maxRecDepth 100000 in
theorem T_X5_readSum_2 (l : Launch) (D : va_G) (cy : Nat → ClassId) (a : Nat → Nat) (u : St) (hJ : CI a u) (hW : fR u 2 = a 15)   : Mi l D cy (cW cy a) yX5_readSum (.code yX5_readSum cX5_readSum 5 (some .boolean)) (rmo 43 977) [.ref (a 27), .int 2] u (fun (r : Int32) (u' : St) => (r = 0 ∨ r = 1) ∧ (CI a u') ∧ (KT u u') ∧ (fR u' 2 = a 15)) := by
  refine Mi.of (own := RX5) rfl (by decide) (Nat.le_of_ble_eq_true rfl) ?_
  have hT : KT u u := KT.rf
  intro p e s m below meth c A Q ls C hret hO hl
  obtain ⟨hx, hb, hml, hown, ht, hK, hA⟩ := id C
  have hl : lv_has ls 5 [(0, .ref (a 27)), (1, .int 2)] := hl
  refine lv_aload_n hx hb dX5_readSum_0 rfl (lv_at hl 0 rfl) ?_
  refine lv_iload_n hx hb dX5_readSum_1 rfl (lv_at hl 1 rfl) ?_
  refine cVi (w := cW cy a) (As := [.int 2]) (rest := []) C hO (T_X5_readProduct_2 l D cy a _ (by exact hJ) (by exact hW)) (cwV 1 ht (gV wd_767 wd_769 wd_22 wd_114 wd_770) rfl rfl rfl hd_yX5_readProduct ⟨Nat.le_of_ble_eq_true rfl, Nat.le_of_ble_eq_true rfl⟩) 27 rfl cW_27 rfl rfl hl.1 (Nat.le_of_ble_eq_true rfl) dX5_readSum_2 rfl ⟨Nat.zero_le _, Nat.zero_le _⟩ (fun r1 u2 H locs hp3 hO => ?_)
  obtain ⟨hr1, hJ, hTu2, hW⟩ := hp3
  have gr1 : 0 ≤ r1.toInt ∧ r1.toInt ≤ 1 := by rcases hr1 with h | h <;> rw [h] <;> decide
  have hT : KT u u2 := KT.tr (by exact hT) hTu2
  refine lv_istore_n (lv' := [(2, .int r1), (0, .ref (a 27)), (1, .int 2)]) hx hb dX5_readSum_5 rfl hl (by decide) rfl (fun ls hl => ?_)
  refine lv_iconst (v := 0) hx hb dX5_readSum_6 (by decide) ?_
  refine lv_istore_n (lv' := [(3, .int 0), (2, .int r1), (0, .ref (a 27)), (1, .int 2)]) hx hb dX5_readSum_7 rfl hl (by decide) rfl (fun ls hl => ?_)
  have LP_8_k5 : ∀ (n : Nat) (u4 : St) (H : Heap) (locs : List Loc) (ls : Array Slot) (i_k5 : Int32) (w2_k5 : Int32), Wo D A (cW cy a u4) s.heap H locs → lv_has ls 5 [(3, .int i_k5), (2, .int w2_k5), (0, .ref (a 27)), (1, .int 2)] → CI a u4 → KT u u4 → fR u4 2 = a 15 → 0 ≤ i_k5.toInt ∧ i_k5.toInt ≤ 1600 → 0 ≤ w2_k5.toInt ∧ w2_k5.toInt ≤ 1 → 1600 - i_k5.toInt < (n : Int) → W p l e (rmo 43 977) s m [.ref (a 27), .int 2].toArray below meth c H locs 0 0 Q (F0 m 8 ls []) := by
    intro n
    induction n with
    | zero =>
      intro u4 H locs ls i_k5 w2_k5 hO hl hJ hT hW iv0_k5 iv1_k5 hm_k5
      exact absurd hm_k5 (by omega)
    | succ n ih_k5 =>
      intro u4 H locs ls i_k5 w2_k5 hO hl hJ hT hW iv0_k5 iv1_k5 hm_k5
      refine lv_iload_n hx hb dX5_readSum_8 rfl (lv_at hl 0 rfl) ?_
      refine lv_sipush (v := 1600) hx hb dX5_readSum_9 (by decide) ?_
      refine cs_ge (tgt := 84) (X := (i_k5).toInt) (Y := 1600) hx hb dX5_readSum_12 (by decide) rfl rfl (fun c6 => ?_) (fun c6 => ?_)
      · refine lv_iload_n hx hb dX5_readSum_84 rfl (lv_at hl 1 rfl) ?_
        have hw2_k5 : w2_k5 = 0 ∨ w2_k5 = 1 := i_b01 rfl (by omega) (by omega)
        refine hret _ _ _ _ _ _ dX5_readSum_85 (by rcases hw2_k5 with h | h <;> rw [h] <;> rfl) ?_ hO
        exact ⟨hw2_k5, hJ, hT, hW⟩
      · refine lv_iload_n hx hb dX5_readSum_15 rfl (lv_at hl 1 rfl) ?_
        refine bs_eq (tgt := 84) (X := (w2_k5).toInt) hx hb dX5_readSum_16 (by decide) rfl (fun c7 => ?_) (fun c7 => ?_)
        · refine lv_iload_n hx hb dX5_readSum_84 rfl (lv_at hl 1 rfl) ?_
          have hw2_k5 : w2_k5 = 0 ∨ w2_k5 = 1 := i_b01 rfl (by omega) (by omega)
          refine hret _ _ _ _ _ _ dX5_readSum_85 (by rcases hw2_k5 with h | h <;> rw [h] <;> rfl) ?_ hO
          exact ⟨hw2_k5, hJ, hT, hW⟩
        · refine lv_aload_n hx hb dX5_readSum_19 rfl (lv_at hl 2 rfl) ?_
          refine gf_RX5_9 (v := .ref (a 1)) C hO 27 cW_27 rfl dX5_readSum_20 ?_
          refine gf_RX5_36 (v := .int (fI u4 1 4)) C hO 1 cW_1 rfl dX5_readSum_23 ?_
          refine lv_bipush (v := 43) hx hb dX5_readSum_26 (by decide) ?_
          refine cs_eq (tgt := 43) (X := ((fI u4 1 4)).toInt) (Y := 43) hx hb dX5_readSum_28 (by decide) rfl rfl (fun c8 => ?_) (fun c8 => ?_)
          · refine lv_aload_n hx hb dX5_readSum_43 rfl (lv_at hl 2 rfl) ?_
            refine gf_RX5_9 (v := .ref (a 1)) C hO 27 cW_27 rfl dX5_readSum_44 ?_
            refine gf_RX5_36 (v := .int (fI u4 1 4)) C hO 1 cW_1 rfl dX5_readSum_47 ?_
            refine lv_istore (lv' := [(4, .int (fI u4 1 4)), (3, .int i_k5), (2, .int w2_k5), (0, .ref (a 27)), (1, .int 2)]) hx hb dX5_readSum_50 hl (by decide) rfl (fun ls hl => ?_)
            refine lv_aload_n hx hb dX5_readSum_52 rfl (lv_at hl 3 rfl) ?_
            refine gf_RX5_9 (v := .ref (a 1)) C hO 27 cW_27 rfl dX5_readSum_53 ?_
            refine cVv (w := cW cy a) (As := []) (rest := []) C hO (T_X7_advance l D cy a _ (by exact hJ) (by exact hW)) (cwV 0 ht (gV wd_695 wd_541 wd_542 wd_111 wd_543) rfl rfl rfl hd_yX7_advance ⟨Nat.le_of_ble_eq_true rfl, Nat.le_of_ble_eq_true rfl⟩) 1 rfl cW_1 rfl rfl hl.1 (Nat.le_of_ble_eq_true rfl) dX5_readSum_56 rfl ⟨Nat.zero_le _, Nat.zero_le _⟩ (fun u10 H locs hp11 hO => ?_)
            have g12 : 0 ≤ (fI u4 15 9).toInt ∧ (fI u4 15 9).toInt ≤ 8 := by have h := CI_15_9 hJ; exact h
            have g13 : 0 ≤ (fI u4 15 10).toInt ∧ (fI u4 15 10).toInt ≤ 14 := by have h := CI_15_10 hJ; exact h
            have g14 : 0 ≤ (fI u4 15 11).toInt ∧ (fI u4 15 11).toInt ≤ 8 := by have h := CI_15_11 hJ; exact h
            have g15 : 0 ≤ (fI u4 15 12).toInt ∧ (fI u4 15 12).toInt ≤ 6 := by have h := CI_15_12 hJ; exact h
            obtain ⟨hJ, hTu10, hW⟩ := hp11
            have hT : KT u u10 := KT.tr (by exact hT) hTu10.1
            have hI_15_9_u10 : fI u10 15 9 = (fI u4 15 9) := hTu10.2.1
            have hI_15_10_u10 : fI u10 15 10 = (fI u4 15 10) := hTu10.2.2.1
            have hI_15_11_u10 : fI u10 15 11 = (fI u4 15 11) := hTu10.2.2.2.1
            have hI_15_12_u10 : fI u10 15 12 = (fI u4 15 12) := hTu10.2.2.2.2
            refine lv_aload_n hx hb dX5_readSum_59 rfl (lv_at hl 3 rfl) ?_
            refine lv_iload_n hx hb dX5_readSum_60 rfl (lv_at hl 4 rfl) ?_
            refine cVi (w := cW cy a) (As := [.int 2]) (rest := []) C hO (T_X5_readProduct_2 l D cy a _ (by exact hJ) (by exact hW)) (cwV 1 ht (gV wd_767 wd_769 wd_22 wd_114 wd_770) rfl rfl rfl hd_yX5_readProduct ⟨Nat.le_of_ble_eq_true rfl, Nat.le_of_ble_eq_true rfl⟩) 27 rfl cW_27 rfl rfl hl.1 (Nat.le_of_ble_eq_true rfl) dX5_readSum_61 rfl ⟨Nat.zero_le _, Nat.zero_le _⟩ (fun r16 u17 H locs hp18 hO => ?_)
            obtain ⟨hr16, hJ, hTu17, hW⟩ := hp18
            have gr16 : 0 ≤ r16.toInt ∧ r16.toInt ≤ 1 := by rcases hr16 with h | h <;> rw [h] <;> decide
            have hT : KT u u17 := KT.tr (by exact hT) hTu17
            refine lv_istore_n (lv' := [(2, .int r16), (4, .int (fI u4 1 4)), (3, .int i_k5), (0, .ref (a 27)), (1, .int 2)]) hx hb dX5_readSum_64 rfl hl (by decide) rfl (fun ls hl => ?_)
            refine lv_aload_n hx hb dX5_readSum_65 rfl (lv_at hl 3 rfl) ?_
            refine gf_RX5_15 (v := .ref (a 15)) C hO 27 cW_27 (congrArg (fun z : Nat => some (Value.ref z)) hW) dX5_readSum_66 ?_
            refine gf_RX5_173 (v := .ref (a 24)) C hO 15 cW_15 rfl dX5_readSum_69 ?_
            refine lv_iload hx hb dX5_readSum_72 (lv_at hl 1 rfl) ?_
            refine lv_ineg hx hb dX5_readSum_74 ?_
            refine lv_topi (fun z19 ez19 => ?_)
            refine cVv (w := cW cy a) (As := [.int z19]) (rest := []) C hO (T_X4_add l D cy a _ (by exact hJ) (by exact hW) (z19)) (cwV 1 ht (gV wd_759 wd_760 wd_761 wd_113 wd_762) rfl rfl rfl hd_yX4_add ⟨Nat.le_of_ble_eq_true rfl, Nat.le_of_ble_eq_true rfl⟩) 24 rfl cW_24 rfl rfl hl.1 (Nat.le_of_ble_eq_true rfl) dX5_readSum_75 rfl ⟨Nat.zero_le _, Nat.zero_le _⟩ (fun u21 H locs hp22 hO => ?_)
            have g23 : 0 ≤ (fI u17 15 9).toInt ∧ (fI u17 15 9).toInt ≤ 8 := by have h := CI_15_9 hJ; exact h
            have g24 : 0 ≤ (fI u17 15 10).toInt ∧ (fI u17 15 10).toInt ≤ 14 := by have h := CI_15_10 hJ; exact h
            have g25 : 0 ≤ (fI u17 15 11).toInt ∧ (fI u17 15 11).toInt ≤ 8 := by have h := CI_15_11 hJ; exact h
            have g26 : 0 ≤ (fI u17 15 12).toInt ∧ (fI u17 15 12).toInt ≤ 6 := by have h := CI_15_12 hJ; exact h
            obtain ⟨hJ, hTu21, hW⟩ := hp22
            have hT : KT u u21 := KT.tr (by exact hT) hTu21.1
            have hI_15_9_u21 : fI u21 15 9 = (fI u17 15 9) := hTu21.2.1
            have hI_15_10_u21 : fI u21 15 10 = (fI u17 15 10) := hTu21.2.2.1
            have hI_15_11_u21 : fI u21 15 11 = (fI u17 15 11) := hTu21.2.2.2.1
            have hI_15_12_u21 : fI u21 15 12 = (fI u17 15 12) := hTu21.2.2.2.2
            have e27 : ((i_k5 + 1)).toInt = (i_k5).toInt + 1 := i_add rfl rfl (by omega)
            refine lv_iinc (v := (i_k5 + 1)) (lv' := [(3, .int (i_k5 + 1)), (2, .int r16), (4, .int (fI u4 1 4)), (0, .ref (a 27)), (1, .int 2)]) hx hb dX5_readSum_78 hl (k := 2) rfl rfl (by decide) rfl (fun ls hl => ?_)
            refine lv_goto (tgt := 8) hx hb dX5_readSum_81 (by decide) ?_
            exact ih_k5 _ _ _ _ ((i_k5 + 1)) (r16) hO (lv_sub hl [0, 1, 3, 4] rfl) (by exact hJ) (by exact hT) (by exact hW) (by first | decide | omega) (by first | decide | omega) (by first | decide | omega)
          · refine lv_aload_n hx hb dX5_readSum_31 rfl (lv_at hl 2 rfl) ?_
            refine gf_RX5_9 (v := .ref (a 1)) C hO 27 cW_27 rfl dX5_readSum_32 ?_
            refine gf_RX5_36 (v := .int (fI u4 1 4)) C hO 1 cW_1 rfl dX5_readSum_35 ?_
            refine lv_bipush (v := 45) hx hb dX5_readSum_38 (by decide) ?_
            refine cs_ne (tgt := 84) (X := ((fI u4 1 4)).toInt) (Y := 45) hx hb dX5_readSum_40 (by decide) rfl rfl (fun c28 => ?_) (fun c28 => ?_)
            · refine lv_iload_n hx hb dX5_readSum_84 rfl (lv_at hl 1 rfl) ?_
              have hw2_k5 : w2_k5 = 0 ∨ w2_k5 = 1 := i_b01 rfl (by omega) (by omega)
              refine hret _ _ _ _ _ _ dX5_readSum_85 (by rcases hw2_k5 with h | h <;> rw [h] <;> rfl) ?_ hO
              exact ⟨hw2_k5, hJ, hT, hW⟩
            · refine lv_aload_n hx hb dX5_readSum_43 rfl (lv_at hl 2 rfl) ?_
              refine gf_RX5_9 (v := .ref (a 1)) C hO 27 cW_27 rfl dX5_readSum_44 ?_
              refine gf_RX5_36 (v := .int (fI u4 1 4)) C hO 1 cW_1 rfl dX5_readSum_47 ?_
              refine lv_istore (lv' := [(4, .int (fI u4 1 4)), (3, .int i_k5), (2, .int w2_k5), (0, .ref (a 27)), (1, .int 2)]) hx hb dX5_readSum_50 hl (by decide) rfl (fun ls hl => ?_)
              refine lv_aload_n hx hb dX5_readSum_52 rfl (lv_at hl 3 rfl) ?_
              refine gf_RX5_9 (v := .ref (a 1)) C hO 27 cW_27 rfl dX5_readSum_53 ?_
              refine cVv (w := cW cy a) (As := []) (rest := []) C hO (T_X7_advance l D cy a _ (by exact hJ) (by exact hW)) (cwV 0 ht (gV wd_695 wd_541 wd_542 wd_111 wd_543) rfl rfl rfl hd_yX7_advance ⟨Nat.le_of_ble_eq_true rfl, Nat.le_of_ble_eq_true rfl⟩) 1 rfl cW_1 rfl rfl hl.1 (Nat.le_of_ble_eq_true rfl) dX5_readSum_56 rfl ⟨Nat.zero_le _, Nat.zero_le _⟩ (fun u30 H locs hp31 hO => ?_)
              have g32 : 0 ≤ (fI u4 15 9).toInt ∧ (fI u4 15 9).toInt ≤ 8 := by have h := CI_15_9 hJ; exact h
              have g33 : 0 ≤ (fI u4 15 10).toInt ∧ (fI u4 15 10).toInt ≤ 14 := by have h := CI_15_10 hJ; exact h
              have g34 : 0 ≤ (fI u4 15 11).toInt ∧ (fI u4 15 11).toInt ≤ 8 := by have h := CI_15_11 hJ; exact h
              have g35 : 0 ≤ (fI u4 15 12).toInt ∧ (fI u4 15 12).toInt ≤ 6 := by have h := CI_15_12 hJ; exact h
              obtain ⟨hJ, hTu30, hW⟩ := hp31
              have hT : KT u u30 := KT.tr (by exact hT) hTu30.1
              have hI_15_9_u30 : fI u30 15 9 = (fI u4 15 9) := hTu30.2.1
              have hI_15_10_u30 : fI u30 15 10 = (fI u4 15 10) := hTu30.2.2.1
              have hI_15_11_u30 : fI u30 15 11 = (fI u4 15 11) := hTu30.2.2.2.1
              have hI_15_12_u30 : fI u30 15 12 = (fI u4 15 12) := hTu30.2.2.2.2
              refine lv_aload_n hx hb dX5_readSum_59 rfl (lv_at hl 3 rfl) ?_
              refine lv_iload_n hx hb dX5_readSum_60 rfl (lv_at hl 4 rfl) ?_
              refine cVi (w := cW cy a) (As := [.int 2]) (rest := []) C hO (T_X5_readProduct_2 l D cy a _ (by exact hJ) (by exact hW)) (cwV 1 ht (gV wd_767 wd_769 wd_22 wd_114 wd_770) rfl rfl rfl hd_yX5_readProduct ⟨Nat.le_of_ble_eq_true rfl, Nat.le_of_ble_eq_true rfl⟩) 27 rfl cW_27 rfl rfl hl.1 (Nat.le_of_ble_eq_true rfl) dX5_readSum_61 rfl ⟨Nat.zero_le _, Nat.zero_le _⟩ (fun r36 u37 H locs hp38 hO => ?_)
              obtain ⟨hr36, hJ, hTu37, hW⟩ := hp38
              have gr36 : 0 ≤ r36.toInt ∧ r36.toInt ≤ 1 := by rcases hr36 with h | h <;> rw [h] <;> decide
              have hT : KT u u37 := KT.tr (by exact hT) hTu37
              refine lv_istore_n (lv' := [(2, .int r36), (4, .int (fI u4 1 4)), (3, .int i_k5), (0, .ref (a 27)), (1, .int 2)]) hx hb dX5_readSum_64 rfl hl (by decide) rfl (fun ls hl => ?_)
              refine lv_aload_n hx hb dX5_readSum_65 rfl (lv_at hl 3 rfl) ?_
              refine gf_RX5_15 (v := .ref (a 15)) C hO 27 cW_27 (congrArg (fun z : Nat => some (Value.ref z)) hW) dX5_readSum_66 ?_
              refine gf_RX5_173 (v := .ref (a 24)) C hO 15 cW_15 rfl dX5_readSum_69 ?_
              refine lv_iload hx hb dX5_readSum_72 (lv_at hl 1 rfl) ?_
              refine lv_ineg hx hb dX5_readSum_74 ?_
              refine lv_topi (fun z39 ez39 => ?_)
              refine cVv (w := cW cy a) (As := [.int z39]) (rest := []) C hO (T_X4_add l D cy a _ (by exact hJ) (by exact hW) (z39)) (cwV 1 ht (gV wd_759 wd_760 wd_761 wd_113 wd_762) rfl rfl rfl hd_yX4_add ⟨Nat.le_of_ble_eq_true rfl, Nat.le_of_ble_eq_true rfl⟩) 24 rfl cW_24 rfl rfl hl.1 (Nat.le_of_ble_eq_true rfl) dX5_readSum_75 rfl ⟨Nat.zero_le _, Nat.zero_le _⟩ (fun u41 H locs hp42 hO => ?_)
              have g43 : 0 ≤ (fI u37 15 9).toInt ∧ (fI u37 15 9).toInt ≤ 8 := by have h := CI_15_9 hJ; exact h
              have g44 : 0 ≤ (fI u37 15 10).toInt ∧ (fI u37 15 10).toInt ≤ 14 := by have h := CI_15_10 hJ; exact h
              have g45 : 0 ≤ (fI u37 15 11).toInt ∧ (fI u37 15 11).toInt ≤ 8 := by have h := CI_15_11 hJ; exact h
              have g46 : 0 ≤ (fI u37 15 12).toInt ∧ (fI u37 15 12).toInt ≤ 6 := by have h := CI_15_12 hJ; exact h
              obtain ⟨hJ, hTu41, hW⟩ := hp42
              have hT : KT u u41 := KT.tr (by exact hT) hTu41.1
              have hI_15_9_u41 : fI u41 15 9 = (fI u37 15 9) := hTu41.2.1
              have hI_15_10_u41 : fI u41 15 10 = (fI u37 15 10) := hTu41.2.2.1
              have hI_15_11_u41 : fI u41 15 11 = (fI u37 15 11) := hTu41.2.2.2.1
              have hI_15_12_u41 : fI u41 15 12 = (fI u37 15 12) := hTu41.2.2.2.2
              have e47 : ((i_k5 + 1)).toInt = (i_k5).toInt + 1 := i_add rfl rfl (by omega)
              refine lv_iinc (v := (i_k5 + 1)) (lv' := [(3, .int (i_k5 + 1)), (2, .int r36), (4, .int (fI u4 1 4)), (0, .ref (a 27)), (1, .int 2)]) hx hb dX5_readSum_78 hl (k := 2) rfl rfl (by decide) rfl (fun ls hl => ?_)
              refine lv_goto (tgt := 8) hx hb dX5_readSum_81 (by decide) ?_
              exact ih_k5 _ _ _ _ ((i_k5 + 1)) (r36) hO (lv_sub hl [0, 1, 3, 4] rfl) (by exact hJ) (by exact hT) (by exact hW) (by first | decide | omega) (by first | decide | omega) (by first | decide | omega)
  exact LP_8_k5 4000 _ _ _ _ (0) (r1) hO (lv_sub hl [0, 1, 2, 3] rfl) (by exact hJ) (by exact hT) (by exact hW) (by first | decide | omega) (by first | decide | omega) (by first | decide | omega)
set_option maxHeartbeats 4000000 in
set_option maxRecDepth 100000 in
theorem T_X5_readNot_2 (l : Launch) (D : va_G) (cy : Nat → ClassId) (a : Nat → Nat) (u : St) (hJ : CI a u) (hW : fR u 2 = a 15)   : Mi l D cy (cW cy a) yX5_readNot (.code yX5_readNot cX5_readNot 3 (some .boolean)) (rmo 38 864) [.ref (a 27), .int 2] u (fun (r : Int32) (u' : St) => (r = 0 ∨ r = 1) ∧ (CI a u') ∧ (KT u u') ∧ (fR u' 2 = a 15)) := by
  refine Mi.of (own := RX5) rfl (by decide) (Nat.le_of_ble_eq_true rfl) ?_
  have hT : KT u u := KT.rf
  intro p e s m below meth c A Q ls C hret hO hl
  obtain ⟨hx, hb, hml, hown, ht, hK, hA⟩ := id C
  have hl : lv_has ls 3 [(0, .ref (a 27)), (1, .int 2)] := hl
  refine lv_iload_n hx hb dX5_readNot_0 rfl (lv_at hl 1 rfl) ?_
  refine lv_bipush (v := 6) hx hb dX5_readNot_1 (by decide) ?_
  refine ct_le (tgt := 12) (X := 2) (Y := 6) hx hb dX5_readNot_3 (by decide) rfl rfl (by omega) ?_
  refine lv_aload_n hx hb dX5_readNot_12 rfl (lv_at hl 0 rfl) ?_
  refine gf_RX5_9 (v := .ref (a 1)) C hO 27 cW_27 rfl dX5_readNot_13 ?_
  refine cVv (w := cW cy a) (As := []) (rest := []) C hO (T_X7_advance l D cy a _ (by exact hJ) (by exact hW)) (cwV 0 ht (gV wd_695 wd_541 wd_542 wd_111 wd_543) rfl rfl rfl hd_yX7_advance ⟨Nat.le_of_ble_eq_true rfl, Nat.le_of_ble_eq_true rfl⟩) 1 rfl cW_1 rfl rfl hl.1 (Nat.le_of_ble_eq_true rfl) dX5_readNot_16 rfl ⟨Nat.zero_le _, Nat.zero_le _⟩ (fun u2 H locs hp3 hO => ?_)
  have g4 : 0 ≤ (fI u 15 9).toInt ∧ (fI u 15 9).toInt ≤ 8 := by have h := CI_15_9 hJ; exact h
  have g5 : 0 ≤ (fI u 15 10).toInt ∧ (fI u 15 10).toInt ≤ 14 := by have h := CI_15_10 hJ; exact h
  have g6 : 0 ≤ (fI u 15 11).toInt ∧ (fI u 15 11).toInt ≤ 8 := by have h := CI_15_11 hJ; exact h
  have g7 : 0 ≤ (fI u 15 12).toInt ∧ (fI u 15 12).toInt ≤ 6 := by have h := CI_15_12 hJ; exact h
  obtain ⟨hJ, hTu2, hW⟩ := hp3
  have hT : KT u u2 := KT.tr (by exact hT) hTu2.1
  have hI_15_9_u2 : fI u2 15 9 = (fI u 15 9) := hTu2.2.1
  have hI_15_10_u2 : fI u2 15 10 = (fI u 15 10) := hTu2.2.2.1
  have hI_15_11_u2 : fI u2 15 11 = (fI u 15 11) := hTu2.2.2.2.1
  have hI_15_12_u2 : fI u2 15 12 = (fI u 15 12) := hTu2.2.2.2.2
  refine lv_aload_n hx hb dX5_readNot_19 rfl (lv_at hl 0 rfl) ?_
  refine lv_iload_n hx hb dX5_readNot_20 rfl (lv_at hl 1 rfl) ?_
  refine lv_iconst (v := 1) hx hb dX5_readNot_21 (by decide) ?_
  refine lv_iadd hx hb dX5_readNot_22 ?_
  refine tE (y := 3) rfl ?_
  refine cVi (w := cW cy a) (As := [.int 3]) (rest := []) C hO (T_X5_readOne_3 l D cy a _ (by exact hJ) (by exact hW)) (cwV 1 ht (gV wd_751 wd_753 wd_19 wd_114 wd_754) rfl rfl rfl hd_yX5_readOne ⟨Nat.le_of_ble_eq_true rfl, Nat.le_of_ble_eq_true rfl⟩) 27 rfl cW_27 rfl rfl hl.1 (Nat.le_of_ble_eq_true rfl) dX5_readNot_23 rfl ⟨Nat.zero_le _, Nat.zero_le _⟩ (fun r8 u9 H locs hp10 hO => ?_)
  obtain ⟨hr8, hJ, hTu9, hW⟩ := hp10
  have gr8 : 0 ≤ r8.toInt ∧ r8.toInt ≤ 1 := by rcases hr8 with h | h <;> rw [h] <;> decide
  have hT : KT u u9 := KT.tr (by exact hT) hTu9
  refine lv_istore_n (lv' := [(2, .int r8), (0, .ref (a 27)), (1, .int 2)]) hx hb dX5_readNot_26 rfl hl (by decide) rfl (fun ls hl => ?_)
  refine lv_aload_n hx hb dX5_readNot_27 rfl (lv_at hl 1 rfl) ?_
  refine gf_RX5_15 (v := .ref (a 15)) C hO 27 cW_27 (congrArg (fun z : Nat => some (Value.ref z)) hW) dX5_readNot_28 ?_
  refine gf_RX5_173 (v := .ref (a 24)) C hO 15 cW_15 rfl dX5_readNot_31 ?_
  refine lv_bipush (v := (-15)) hx hb dX5_readNot_34 (by decide) ?_
  refine cVv (w := cW cy a) (As := [.int (-15)]) (rest := []) C hO (T_X4_add l D cy a _ (by exact hJ) (by exact hW) ((-15))) (cwV 1 ht (gV wd_759 wd_760 wd_761 wd_113 wd_762) rfl rfl rfl hd_yX4_add ⟨Nat.le_of_ble_eq_true rfl, Nat.le_of_ble_eq_true rfl⟩) 24 rfl cW_24 rfl rfl hl.1 (Nat.le_of_ble_eq_true rfl) dX5_readNot_36 rfl ⟨Nat.zero_le _, Nat.zero_le _⟩ (fun u12 H locs hp13 hO => ?_)
  have g14 : 0 ≤ (fI u9 15 9).toInt ∧ (fI u9 15 9).toInt ≤ 8 := by have h := CI_15_9 hJ; exact h
  have g15 : 0 ≤ (fI u9 15 10).toInt ∧ (fI u9 15 10).toInt ≤ 14 := by have h := CI_15_10 hJ; exact h
  have g16 : 0 ≤ (fI u9 15 11).toInt ∧ (fI u9 15 11).toInt ≤ 8 := by have h := CI_15_11 hJ; exact h
  have g17 : 0 ≤ (fI u9 15 12).toInt ∧ (fI u9 15 12).toInt ≤ 6 := by have h := CI_15_12 hJ; exact h
  obtain ⟨hJ, hTu12, hW⟩ := hp13
  have hT : KT u u12 := KT.tr (by exact hT) hTu12.1
  have hI_15_9_u12 : fI u12 15 9 = (fI u9 15 9) := hTu12.2.1
  have hI_15_10_u12 : fI u12 15 10 = (fI u9 15 10) := hTu12.2.2.1
  have hI_15_11_u12 : fI u12 15 11 = (fI u9 15 11) := hTu12.2.2.2.1
  have hI_15_12_u12 : fI u12 15 12 = (fI u9 15 12) := hTu12.2.2.2.2
  refine lv_iload_n hx hb dX5_readNot_39 rfl (lv_at hl 0 rfl) ?_
  refine hret _ _ _ _ _ _ dX5_readNot_40 (by rcases hr8 with h | h <;> rw [h] <;> rfl) ?_ hO
  exact ⟨hr8, hJ, hT, hW⟩
set_option maxHeartbeats 4000000 in
set_option maxRecDepth 100000 in
theorem T_X5_readOne_2 (l : Launch) (D : va_G) (cy : Nat → ClassId) (a : Nat → Nat) (u : St) (hJ : CI a u) (hW : fR u 2 = a 15)   : Mi l D cy (cW cy a) yX5_readOne (.code yX5_readOne cX5_readOne 4 (some .boolean)) (rmo 44 1001) [.ref (a 27), .int 2] u (fun (r : Int32) (u' : St) => (r = 0 ∨ r = 1) ∧ (CI a u') ∧ (KT u u') ∧ (fR u' 2 = a 15)) := by
  refine Mi.of (own := RX5) rfl (by decide) (Nat.le_of_ble_eq_true rfl) ?_
  have hT : KT u u := KT.rf
  intro p e s m below meth c A Q ls C hret hO hl
  obtain ⟨hx, hb, hml, hown, ht, hK, hA⟩ := id C
  have hl : lv_has ls 4 [(0, .ref (a 27)), (1, .int 2)] := hl
  refine lv_aload_n hx hb dX5_readOne_0 rfl (lv_at hl 0 rfl) ?_
  refine gf_RX5_9 (v := .ref (a 1)) C hO 27 cW_27 rfl dX5_readOne_1 ?_
  refine gf_RX5_36 (v := .int (fI u 1 4)) C hO 1 cW_1 rfl dX5_readOne_4 ?_
  refine lv_bipush (v := 15) hx hb dX5_readOne_7 (by decide) ?_
  refine cs_ne (tgt := 18) (X := ((fI u 1 4)).toInt) (Y := 15) hx hb dX5_readOne_9 (by decide) rfl rfl (fun c1 => ?_) (fun c1 => ?_)
  · refine lv_aload_n hx hb dX5_readOne_18 rfl (lv_at hl 0 rfl) ?_
    refine lv_iload_n hx hb dX5_readOne_19 rfl (lv_at hl 1 rfl) ?_
    refine cVi (w := cW cy a) (As := [.int 2]) (rest := []) C hO (T_X5_readSum_2 l D cy a _ (by exact hJ) (by exact hW)) (cwV 1 ht (gV wd_763 wd_765 wd_21 wd_114 wd_766) rfl rfl rfl hd_yX5_readSum ⟨Nat.le_of_ble_eq_true rfl, Nat.le_of_ble_eq_true rfl⟩) 27 rfl cW_27 rfl rfl hl.1 (Nat.le_of_ble_eq_true rfl) dX5_readOne_20 rfl ⟨Nat.zero_le _, Nat.zero_le _⟩ (fun r2 u3 H locs hp4 hO => ?_)
    obtain ⟨hr2, hJ, hTu3, hW⟩ := hp4
    have gr2 : 0 ≤ r2.toInt ∧ r2.toInt ≤ 1 := by rcases hr2 with h | h <;> rw [h] <;> decide
    have hT : KT u u3 := KT.tr (by exact hT) hTu3
    refine bs_ne (tgt := 28) (X := (r2).toInt) hx hb dX5_readOne_23 (by decide) rfl (fun c5 => ?_) (fun c5 => ?_)
    · refine lv_aload_n hx hb dX5_readOne_28 rfl (lv_at hl 0 rfl) ?_
      refine gf_RX5_9 (v := .ref (a 1)) C hO 27 cW_27 rfl dX5_readOne_29 ?_
      refine gf_RX5_36 (v := .int (fI u3 1 4)) C hO 1 cW_1 rfl dX5_readOne_32 ?_
      refine lv_istore_n (lv' := [(2, .int (fI u3 1 4)), (0, .ref (a 27)), (1, .int 2)]) hx hb dX5_readOne_35 rfl hl (by decide) rfl (fun ls hl => ?_)
      refine lv_iload_n hx hb dX5_readOne_36 rfl (lv_at hl 0 rfl) ?_
      refine lv_bipush (v := 60) hx hb dX5_readOne_37 (by decide) ?_
      refine cs_eq (tgt := 56) (X := ((fI u3 1 4)).toInt) (Y := 60) hx hb dX5_readOne_39 (by decide) rfl rfl (fun c6 => ?_) (fun c6 => ?_)
      · refine lv_aload_n hx hb dX5_readOne_56 rfl (lv_at hl 1 rfl) ?_
        refine gf_RX5_9 (v := .ref (a 1)) C hO 27 cW_27 rfl dX5_readOne_57 ?_
        refine cVv (w := cW cy a) (As := []) (rest := []) C hO (T_X7_advance l D cy a _ (by exact hJ) (by exact hW)) (cwV 0 ht (gV wd_695 wd_541 wd_542 wd_111 wd_543) rfl rfl rfl hd_yX7_advance ⟨Nat.le_of_ble_eq_true rfl, Nat.le_of_ble_eq_true rfl⟩) 1 rfl cW_1 rfl rfl hl.1 (Nat.le_of_ble_eq_true rfl) dX5_readOne_60 rfl ⟨Nat.zero_le _, Nat.zero_le _⟩ (fun u8 H locs hp9 hO => ?_)
        have g10 : 0 ≤ (fI u3 15 9).toInt ∧ (fI u3 15 9).toInt ≤ 8 := by have h := CI_15_9 hJ; exact h
        have g11 : 0 ≤ (fI u3 15 10).toInt ∧ (fI u3 15 10).toInt ≤ 14 := by have h := CI_15_10 hJ; exact h
        have g12 : 0 ≤ (fI u3 15 11).toInt ∧ (fI u3 15 11).toInt ≤ 8 := by have h := CI_15_11 hJ; exact h
        have g13 : 0 ≤ (fI u3 15 12).toInt ∧ (fI u3 15 12).toInt ≤ 6 := by have h := CI_15_12 hJ; exact h
        obtain ⟨hJ, hTu8, hW⟩ := hp9
        have hT : KT u u8 := KT.tr (by exact hT) hTu8.1
        have hI_15_9_u8 : fI u8 15 9 = (fI u3 15 9) := hTu8.2.1
        have hI_15_10_u8 : fI u8 15 10 = (fI u3 15 10) := hTu8.2.2.1
        have hI_15_11_u8 : fI u8 15 11 = (fI u3 15 11) := hTu8.2.2.2.1
        have hI_15_12_u8 : fI u8 15 12 = (fI u3 15 12) := hTu8.2.2.2.2
        refine lv_aload_n hx hb dX5_readOne_63 rfl (lv_at hl 1 rfl) ?_
        refine lv_iload_n hx hb dX5_readOne_64 rfl (lv_at hl 2 rfl) ?_
        refine cVi (w := cW cy a) (As := [.int 2]) (rest := []) C hO (T_X5_readSum_2 l D cy a _ (by exact hJ) (by exact hW)) (cwV 1 ht (gV wd_763 wd_765 wd_21 wd_114 wd_766) rfl rfl rfl hd_yX5_readSum ⟨Nat.le_of_ble_eq_true rfl, Nat.le_of_ble_eq_true rfl⟩) 27 rfl cW_27 rfl rfl hl.1 (Nat.le_of_ble_eq_true rfl) dX5_readOne_65 rfl ⟨Nat.zero_le _, Nat.zero_le _⟩ (fun r14 u15 H locs hp16 hO => ?_)
        obtain ⟨hr14, hJ, hTu15, hW⟩ := hp16
        have gr14 : 0 ≤ r14.toInt ∧ r14.toInt ≤ 1 := by rcases hr14 with h | h <;> rw [h] <;> decide
        have hT : KT u u15 := KT.tr (by exact hT) hTu15
        refine lv_istore_n (lv' := [(3, .int r14), (2, .int (fI u3 1 4)), (0, .ref (a 27)), (1, .int 2)]) hx hb dX5_readOne_68 rfl hl (by decide) rfl (fun ls hl => ?_)
        refine lv_aload_n hx hb dX5_readOne_69 rfl (lv_at hl 2 rfl) ?_
        refine gf_RX5_15 (v := .ref (a 15)) C hO 27 cW_27 (congrArg (fun z : Nat => some (Value.ref z)) hW) dX5_readOne_70 ?_
        refine gf_RX5_173 (v := .ref (a 24)) C hO 15 cW_15 rfl dX5_readOne_73 ?_
        refine lv_iload_n hx hb dX5_readOne_76 rfl (lv_at hl 1 rfl) ?_
        refine lv_ineg hx hb dX5_readOne_77 ?_
        refine lv_topi (fun z17 ez17 => ?_)
        refine cVv (w := cW cy a) (As := [.int z17]) (rest := []) C hO (T_X4_add l D cy a _ (by exact hJ) (by exact hW) (z17)) (cwV 1 ht (gV wd_759 wd_760 wd_761 wd_113 wd_762) rfl rfl rfl hd_yX4_add ⟨Nat.le_of_ble_eq_true rfl, Nat.le_of_ble_eq_true rfl⟩) 24 rfl cW_24 rfl rfl hl.1 (Nat.le_of_ble_eq_true rfl) dX5_readOne_78 rfl ⟨Nat.zero_le _, Nat.zero_le _⟩ (fun u19 H locs hp20 hO => ?_)
        have g21 : 0 ≤ (fI u15 15 9).toInt ∧ (fI u15 15 9).toInt ≤ 8 := by have h := CI_15_9 hJ; exact h
        have g22 : 0 ≤ (fI u15 15 10).toInt ∧ (fI u15 15 10).toInt ≤ 14 := by have h := CI_15_10 hJ; exact h
        have g23 : 0 ≤ (fI u15 15 11).toInt ∧ (fI u15 15 11).toInt ≤ 8 := by have h := CI_15_11 hJ; exact h
        have g24 : 0 ≤ (fI u15 15 12).toInt ∧ (fI u15 15 12).toInt ≤ 6 := by have h := CI_15_12 hJ; exact h
        obtain ⟨hJ, hTu19, hW⟩ := hp20
        have hT : KT u u19 := KT.tr (by exact hT) hTu19.1
        have hI_15_9_u19 : fI u19 15 9 = (fI u15 15 9) := hTu19.2.1
        have hI_15_10_u19 : fI u19 15 10 = (fI u15 15 10) := hTu19.2.2.1
        have hI_15_11_u19 : fI u19 15 11 = (fI u15 15 11) := hTu19.2.2.2.1
        have hI_15_12_u19 : fI u19 15 12 = (fI u15 15 12) := hTu19.2.2.2.2
        refine lv_iload_n hx hb dX5_readOne_81 rfl (lv_at hl 0 rfl) ?_
        refine hret _ _ _ _ _ _ dX5_readOne_82 (by rcases hr14 with h | h <;> rw [h] <;> rfl) ?_ hO
        exact ⟨hr14, hJ, hT, hW⟩
      · refine lv_iload_n hx hb dX5_readOne_42 rfl (lv_at hl 0 rfl) ?_
        refine lv_bipush (v := 62) hx hb dX5_readOne_43 (by decide) ?_
        refine cs_eq (tgt := 56) (X := ((fI u3 1 4)).toInt) (Y := 62) hx hb dX5_readOne_45 (by decide) rfl rfl (fun c25 => ?_) (fun c25 => ?_)
        · refine lv_aload_n hx hb dX5_readOne_56 rfl (lv_at hl 1 rfl) ?_
          refine gf_RX5_9 (v := .ref (a 1)) C hO 27 cW_27 rfl dX5_readOne_57 ?_
          refine cVv (w := cW cy a) (As := []) (rest := []) C hO (T_X7_advance l D cy a _ (by exact hJ) (by exact hW)) (cwV 0 ht (gV wd_695 wd_541 wd_542 wd_111 wd_543) rfl rfl rfl hd_yX7_advance ⟨Nat.le_of_ble_eq_true rfl, Nat.le_of_ble_eq_true rfl⟩) 1 rfl cW_1 rfl rfl hl.1 (Nat.le_of_ble_eq_true rfl) dX5_readOne_60 rfl ⟨Nat.zero_le _, Nat.zero_le _⟩ (fun u27 H locs hp28 hO => ?_)
          have g29 : 0 ≤ (fI u3 15 9).toInt ∧ (fI u3 15 9).toInt ≤ 8 := by have h := CI_15_9 hJ; exact h
          have g30 : 0 ≤ (fI u3 15 10).toInt ∧ (fI u3 15 10).toInt ≤ 14 := by have h := CI_15_10 hJ; exact h
          have g31 : 0 ≤ (fI u3 15 11).toInt ∧ (fI u3 15 11).toInt ≤ 8 := by have h := CI_15_11 hJ; exact h
          have g32 : 0 ≤ (fI u3 15 12).toInt ∧ (fI u3 15 12).toInt ≤ 6 := by have h := CI_15_12 hJ; exact h
          obtain ⟨hJ, hTu27, hW⟩ := hp28
          have hT : KT u u27 := KT.tr (by exact hT) hTu27.1
          have hI_15_9_u27 : fI u27 15 9 = (fI u3 15 9) := hTu27.2.1
          have hI_15_10_u27 : fI u27 15 10 = (fI u3 15 10) := hTu27.2.2.1
          have hI_15_11_u27 : fI u27 15 11 = (fI u3 15 11) := hTu27.2.2.2.1
          have hI_15_12_u27 : fI u27 15 12 = (fI u3 15 12) := hTu27.2.2.2.2
          refine lv_aload_n hx hb dX5_readOne_63 rfl (lv_at hl 1 rfl) ?_
          refine lv_iload_n hx hb dX5_readOne_64 rfl (lv_at hl 2 rfl) ?_
          refine cVi (w := cW cy a) (As := [.int 2]) (rest := []) C hO (T_X5_readSum_2 l D cy a _ (by exact hJ) (by exact hW)) (cwV 1 ht (gV wd_763 wd_765 wd_21 wd_114 wd_766) rfl rfl rfl hd_yX5_readSum ⟨Nat.le_of_ble_eq_true rfl, Nat.le_of_ble_eq_true rfl⟩) 27 rfl cW_27 rfl rfl hl.1 (Nat.le_of_ble_eq_true rfl) dX5_readOne_65 rfl ⟨Nat.zero_le _, Nat.zero_le _⟩ (fun r33 u34 H locs hp35 hO => ?_)
          obtain ⟨hr33, hJ, hTu34, hW⟩ := hp35
          have gr33 : 0 ≤ r33.toInt ∧ r33.toInt ≤ 1 := by rcases hr33 with h | h <;> rw [h] <;> decide
          have hT : KT u u34 := KT.tr (by exact hT) hTu34
          refine lv_istore_n (lv' := [(3, .int r33), (2, .int (fI u3 1 4)), (0, .ref (a 27)), (1, .int 2)]) hx hb dX5_readOne_68 rfl hl (by decide) rfl (fun ls hl => ?_)
          refine lv_aload_n hx hb dX5_readOne_69 rfl (lv_at hl 2 rfl) ?_
          refine gf_RX5_15 (v := .ref (a 15)) C hO 27 cW_27 (congrArg (fun z : Nat => some (Value.ref z)) hW) dX5_readOne_70 ?_
          refine gf_RX5_173 (v := .ref (a 24)) C hO 15 cW_15 rfl dX5_readOne_73 ?_
          refine lv_iload_n hx hb dX5_readOne_76 rfl (lv_at hl 1 rfl) ?_
          refine lv_ineg hx hb dX5_readOne_77 ?_
          refine lv_topi (fun z36 ez36 => ?_)
          refine cVv (w := cW cy a) (As := [.int z36]) (rest := []) C hO (T_X4_add l D cy a _ (by exact hJ) (by exact hW) (z36)) (cwV 1 ht (gV wd_759 wd_760 wd_761 wd_113 wd_762) rfl rfl rfl hd_yX4_add ⟨Nat.le_of_ble_eq_true rfl, Nat.le_of_ble_eq_true rfl⟩) 24 rfl cW_24 rfl rfl hl.1 (Nat.le_of_ble_eq_true rfl) dX5_readOne_78 rfl ⟨Nat.zero_le _, Nat.zero_le _⟩ (fun u38 H locs hp39 hO => ?_)
          have g40 : 0 ≤ (fI u34 15 9).toInt ∧ (fI u34 15 9).toInt ≤ 8 := by have h := CI_15_9 hJ; exact h
          have g41 : 0 ≤ (fI u34 15 10).toInt ∧ (fI u34 15 10).toInt ≤ 14 := by have h := CI_15_10 hJ; exact h
          have g42 : 0 ≤ (fI u34 15 11).toInt ∧ (fI u34 15 11).toInt ≤ 8 := by have h := CI_15_11 hJ; exact h
          have g43 : 0 ≤ (fI u34 15 12).toInt ∧ (fI u34 15 12).toInt ≤ 6 := by have h := CI_15_12 hJ; exact h
          obtain ⟨hJ, hTu38, hW⟩ := hp39
          have hT : KT u u38 := KT.tr (by exact hT) hTu38.1
          have hI_15_9_u38 : fI u38 15 9 = (fI u34 15 9) := hTu38.2.1
          have hI_15_10_u38 : fI u38 15 10 = (fI u34 15 10) := hTu38.2.2.1
          have hI_15_11_u38 : fI u38 15 11 = (fI u34 15 11) := hTu38.2.2.2.1
          have hI_15_12_u38 : fI u38 15 12 = (fI u34 15 12) := hTu38.2.2.2.2
          refine lv_iload_n hx hb dX5_readOne_81 rfl (lv_at hl 0 rfl) ?_
          refine hret _ _ _ _ _ _ dX5_readOne_82 (by rcases hr33 with h | h <;> rw [h] <;> rfl) ?_ hO
          exact ⟨hr33, hJ, hT, hW⟩
        · refine lv_iload_n hx hb dX5_readOne_48 rfl (lv_at hl 0 rfl) ?_
          refine lv_bipush (v := 61) hx hb dX5_readOne_49 (by decide) ?_
          refine cs_eq (tgt := 56) (X := ((fI u3 1 4)).toInt) (Y := 61) hx hb dX5_readOne_51 (by decide) rfl rfl (fun c44 => ?_) (fun c44 => ?_)
          · refine lv_aload_n hx hb dX5_readOne_56 rfl (lv_at hl 1 rfl) ?_
            refine gf_RX5_9 (v := .ref (a 1)) C hO 27 cW_27 rfl dX5_readOne_57 ?_
            refine cVv (w := cW cy a) (As := []) (rest := []) C hO (T_X7_advance l D cy a _ (by exact hJ) (by exact hW)) (cwV 0 ht (gV wd_695 wd_541 wd_542 wd_111 wd_543) rfl rfl rfl hd_yX7_advance ⟨Nat.le_of_ble_eq_true rfl, Nat.le_of_ble_eq_true rfl⟩) 1 rfl cW_1 rfl rfl hl.1 (Nat.le_of_ble_eq_true rfl) dX5_readOne_60 rfl ⟨Nat.zero_le _, Nat.zero_le _⟩ (fun u46 H locs hp47 hO => ?_)
            have g48 : 0 ≤ (fI u3 15 9).toInt ∧ (fI u3 15 9).toInt ≤ 8 := by have h := CI_15_9 hJ; exact h
            have g49 : 0 ≤ (fI u3 15 10).toInt ∧ (fI u3 15 10).toInt ≤ 14 := by have h := CI_15_10 hJ; exact h
            have g50 : 0 ≤ (fI u3 15 11).toInt ∧ (fI u3 15 11).toInt ≤ 8 := by have h := CI_15_11 hJ; exact h
            have g51 : 0 ≤ (fI u3 15 12).toInt ∧ (fI u3 15 12).toInt ≤ 6 := by have h := CI_15_12 hJ; exact h
            obtain ⟨hJ, hTu46, hW⟩ := hp47
            have hT : KT u u46 := KT.tr (by exact hT) hTu46.1
            have hI_15_9_u46 : fI u46 15 9 = (fI u3 15 9) := hTu46.2.1
            have hI_15_10_u46 : fI u46 15 10 = (fI u3 15 10) := hTu46.2.2.1
            have hI_15_11_u46 : fI u46 15 11 = (fI u3 15 11) := hTu46.2.2.2.1
            have hI_15_12_u46 : fI u46 15 12 = (fI u3 15 12) := hTu46.2.2.2.2
            refine lv_aload_n hx hb dX5_readOne_63 rfl (lv_at hl 1 rfl) ?_
            refine lv_iload_n hx hb dX5_readOne_64 rfl (lv_at hl 2 rfl) ?_
            refine cVi (w := cW cy a) (As := [.int 2]) (rest := []) C hO (T_X5_readSum_2 l D cy a _ (by exact hJ) (by exact hW)) (cwV 1 ht (gV wd_763 wd_765 wd_21 wd_114 wd_766) rfl rfl rfl hd_yX5_readSum ⟨Nat.le_of_ble_eq_true rfl, Nat.le_of_ble_eq_true rfl⟩) 27 rfl cW_27 rfl rfl hl.1 (Nat.le_of_ble_eq_true rfl) dX5_readOne_65 rfl ⟨Nat.zero_le _, Nat.zero_le _⟩ (fun r52 u53 H locs hp54 hO => ?_)
            obtain ⟨hr52, hJ, hTu53, hW⟩ := hp54
            have gr52 : 0 ≤ r52.toInt ∧ r52.toInt ≤ 1 := by rcases hr52 with h | h <;> rw [h] <;> decide
            have hT : KT u u53 := KT.tr (by exact hT) hTu53
            refine lv_istore_n (lv' := [(3, .int r52), (2, .int (fI u3 1 4)), (0, .ref (a 27)), (1, .int 2)]) hx hb dX5_readOne_68 rfl hl (by decide) rfl (fun ls hl => ?_)
            refine lv_aload_n hx hb dX5_readOne_69 rfl (lv_at hl 2 rfl) ?_
            refine gf_RX5_15 (v := .ref (a 15)) C hO 27 cW_27 (congrArg (fun z : Nat => some (Value.ref z)) hW) dX5_readOne_70 ?_
            refine gf_RX5_173 (v := .ref (a 24)) C hO 15 cW_15 rfl dX5_readOne_73 ?_
            refine lv_iload_n hx hb dX5_readOne_76 rfl (lv_at hl 1 rfl) ?_
            refine lv_ineg hx hb dX5_readOne_77 ?_
            refine lv_topi (fun z55 ez55 => ?_)
            refine cVv (w := cW cy a) (As := [.int z55]) (rest := []) C hO (T_X4_add l D cy a _ (by exact hJ) (by exact hW) (z55)) (cwV 1 ht (gV wd_759 wd_760 wd_761 wd_113 wd_762) rfl rfl rfl hd_yX4_add ⟨Nat.le_of_ble_eq_true rfl, Nat.le_of_ble_eq_true rfl⟩) 24 rfl cW_24 rfl rfl hl.1 (Nat.le_of_ble_eq_true rfl) dX5_readOne_78 rfl ⟨Nat.zero_le _, Nat.zero_le _⟩ (fun u57 H locs hp58 hO => ?_)
            have g59 : 0 ≤ (fI u53 15 9).toInt ∧ (fI u53 15 9).toInt ≤ 8 := by have h := CI_15_9 hJ; exact h
            have g60 : 0 ≤ (fI u53 15 10).toInt ∧ (fI u53 15 10).toInt ≤ 14 := by have h := CI_15_10 hJ; exact h
            have g61 : 0 ≤ (fI u53 15 11).toInt ∧ (fI u53 15 11).toInt ≤ 8 := by have h := CI_15_11 hJ; exact h
            have g62 : 0 ≤ (fI u53 15 12).toInt ∧ (fI u53 15 12).toInt ≤ 6 := by have h := CI_15_12 hJ; exact h
            obtain ⟨hJ, hTu57, hW⟩ := hp58
            have hT : KT u u57 := KT.tr (by exact hT) hTu57.1
            have hI_15_9_u57 : fI u57 15 9 = (fI u53 15 9) := hTu57.2.1
            have hI_15_10_u57 : fI u57 15 10 = (fI u53 15 10) := hTu57.2.2.1
            have hI_15_11_u57 : fI u57 15 11 = (fI u53 15 11) := hTu57.2.2.2.1
            have hI_15_12_u57 : fI u57 15 12 = (fI u53 15 12) := hTu57.2.2.2.2
            refine lv_iload_n hx hb dX5_readOne_81 rfl (lv_at hl 0 rfl) ?_
            refine hret _ _ _ _ _ _ dX5_readOne_82 (by rcases hr52 with h | h <;> rw [h] <;> rfl) ?_ hO
            exact ⟨hr52, hJ, hT, hW⟩
          · refine lv_iconst (v := 1) hx hb dX5_readOne_54 (by decide) ?_
            refine hret _ _ _ _ _ _ dX5_readOne_55 rfl ?_ hO
            exact ⟨Or.inr rfl, hJ, hT, hW⟩
    · refine lv_iconst (v := 0) hx hb dX5_readOne_26 (by decide) ?_
      refine hret _ _ _ _ _ _ dX5_readOne_27 rfl ?_ hO
      exact ⟨Or.inl rfl, hJ, hT, hW⟩
  · refine lv_aload_n hx hb dX5_readOne_12 rfl (lv_at hl 0 rfl) ?_
    refine lv_iload_n hx hb dX5_readOne_13 rfl (lv_at hl 1 rfl) ?_
    refine cVi (w := cW cy a) (As := [.int 2]) (rest := []) C hO (T_X5_readNot_2 l D cy a _ (by exact hJ) (by exact hW)) (cwV 1 ht (gV wd_755 wd_757 wd_20 wd_114 wd_758) rfl rfl rfl hd_yX5_readNot ⟨Nat.le_of_ble_eq_true rfl, Nat.le_of_ble_eq_true rfl⟩) 27 rfl cW_27 rfl rfl hl.1 (Nat.le_of_ble_eq_true rfl) dX5_readOne_14 rfl ⟨Nat.zero_le _, Nat.zero_le _⟩ (fun r63 u64 H locs hp65 hO => ?_)
    obtain ⟨hr63, hJ, hTu64, hW⟩ := hp65
    have gr63 : 0 ≤ r63.toInt ∧ r63.toInt ≤ 1 := by rcases hr63 with h | h <;> rw [h] <;> decide
    have hT : KT u u64 := KT.tr (by exact hT) hTu64
    refine hret _ _ _ _ _ _ dX5_readOne_17 (by rcases hr63 with h | h <;> rw [h] <;> rfl) ?_ hO
    exact ⟨hr63, hJ, hT, hW⟩
set_option maxHeartbeats 4000000 in
set_option maxRecDepth 100000 in
theorem T_X5_readBoth_2 (l : Launch) (D : va_G) (cy : Nat → ClassId) (a : Nat → Nat) (u : St) (hJ : CI a u) (hW : fR u 2 = a 15)   : Mi l D cy (cW cy a) yX5_readBoth (.code yX5_readBoth cX5_readBoth 4 (some .boolean)) (rmo 45 1024) [.ref (a 27), .int 2] u (fun (r : Int32) (u' : St) => (r = 0 ∨ r = 1) ∧ (CI a u') ∧ (KT u u') ∧ (fR u' 2 = a 15)) := by
  refine Mi.of (own := RX5) rfl (by decide) (Nat.le_of_ble_eq_true rfl) ?_
  have hT : KT u u := KT.rf
  intro p e s m below meth c A Q ls C hret hO hl
  obtain ⟨hx, hb, hml, hown, ht, hK, hA⟩ := id C
  have hl : lv_has ls 4 [(0, .ref (a 27)), (1, .int 2)] := hl
  refine lv_aload_n hx hb dX5_readBoth_0 rfl (lv_at hl 0 rfl) ?_
  refine lv_iload_n hx hb dX5_readBoth_1 rfl (lv_at hl 1 rfl) ?_
  refine cVi (w := cW cy a) (As := [.int 2]) (rest := []) C hO (T_X5_readOne_2 l D cy a _ (by exact hJ) (by exact hW)) (cwV 1 ht (gV wd_751 wd_753 wd_19 wd_114 wd_754) rfl rfl rfl hd_yX5_readOne ⟨Nat.le_of_ble_eq_true rfl, Nat.le_of_ble_eq_true rfl⟩) 27 rfl cW_27 rfl rfl hl.1 (Nat.le_of_ble_eq_true rfl) dX5_readBoth_2 rfl ⟨Nat.zero_le _, Nat.zero_le _⟩ (fun r1 u2 H locs hp3 hO => ?_)
  obtain ⟨hr1, hJ, hTu2, hW⟩ := hp3
  have gr1 : 0 ≤ r1.toInt ∧ r1.toInt ≤ 1 := by rcases hr1 with h | h <;> rw [h] <;> decide
  have hT : KT u u2 := KT.tr (by exact hT) hTu2
  refine lv_istore_n (lv' := [(2, .int r1), (0, .ref (a 27)), (1, .int 2)]) hx hb dX5_readBoth_5 rfl hl (by decide) rfl (fun ls hl => ?_)
  refine lv_iconst (v := 0) hx hb dX5_readBoth_6 (by decide) ?_
  refine lv_istore_n (lv' := [(3, .int 0), (2, .int r1), (0, .ref (a 27)), (1, .int 2)]) hx hb dX5_readBoth_7 rfl hl (by decide) rfl (fun ls hl => ?_)
  have LP_8_k5 : ∀ (n : Nat) (u4 : St) (H : Heap) (locs : List Loc) (ls : Array Slot) (i_k5 : Int32) (w2_k5 : Int32), Wo D A (cW cy a u4) s.heap H locs → lv_has ls 4 [(3, .int i_k5), (2, .int w2_k5), (0, .ref (a 27)), (1, .int 2)] → CI a u4 → KT u u4 → fR u4 2 = a 15 → 0 ≤ i_k5.toInt ∧ i_k5.toInt ≤ 1600 → 0 ≤ w2_k5.toInt ∧ w2_k5.toInt ≤ 1 → 1600 - i_k5.toInt < (n : Int) → W p l e (rmo 45 1024) s m [.ref (a 27), .int 2].toArray below meth c H locs 0 0 Q (F0 m 8 ls []) := by
    intro n
    induction n with
    | zero =>
      intro u4 H locs ls i_k5 w2_k5 hO hl hJ hT hW iv0_k5 iv1_k5 hm_k5
      exact absurd hm_k5 (by omega)
    | succ n ih_k5 =>
      intro u4 H locs ls i_k5 w2_k5 hO hl hJ hT hW iv0_k5 iv1_k5 hm_k5
      refine lv_iload_n hx hb dX5_readBoth_8 rfl (lv_at hl 0 rfl) ?_
      refine lv_sipush (v := 1600) hx hb dX5_readBoth_9 (by decide) ?_
      refine cs_ge (tgt := 62) (X := (i_k5).toInt) (Y := 1600) hx hb dX5_readBoth_12 (by decide) rfl rfl (fun c6 => ?_) (fun c6 => ?_)
      · refine lv_iload_n hx hb dX5_readBoth_62 rfl (lv_at hl 1 rfl) ?_
        have hw2_k5 : w2_k5 = 0 ∨ w2_k5 = 1 := i_b01 rfl (by omega) (by omega)
        refine hret _ _ _ _ _ _ dX5_readBoth_63 (by rcases hw2_k5 with h | h <;> rw [h] <;> rfl) ?_ hO
        exact ⟨hw2_k5, hJ, hT, hW⟩
      · refine lv_iload_n hx hb dX5_readBoth_15 rfl (lv_at hl 1 rfl) ?_
        refine bs_eq (tgt := 62) (X := (w2_k5).toInt) hx hb dX5_readBoth_16 (by decide) rfl (fun c7 => ?_) (fun c7 => ?_)
        · refine lv_iload_n hx hb dX5_readBoth_62 rfl (lv_at hl 1 rfl) ?_
          have hw2_k5 : w2_k5 = 0 ∨ w2_k5 = 1 := i_b01 rfl (by omega) (by omega)
          refine hret _ _ _ _ _ _ dX5_readBoth_63 (by rcases hw2_k5 with h | h <;> rw [h] <;> rfl) ?_ hO
          exact ⟨hw2_k5, hJ, hT, hW⟩
        · refine lv_aload_n hx hb dX5_readBoth_19 rfl (lv_at hl 2 rfl) ?_
          refine gf_RX5_9 (v := .ref (a 1)) C hO 27 cW_27 rfl dX5_readBoth_20 ?_
          refine gf_RX5_36 (v := .int (fI u4 1 4)) C hO 1 cW_1 rfl dX5_readBoth_23 ?_
          refine lv_bipush (v := 14) hx hb dX5_readBoth_26 (by decide) ?_
          refine cs_ne (tgt := 62) (X := ((fI u4 1 4)).toInt) (Y := 14) hx hb dX5_readBoth_28 (by decide) rfl rfl (fun c8 => ?_) (fun c8 => ?_)
          · refine lv_iload_n hx hb dX5_readBoth_62 rfl (lv_at hl 1 rfl) ?_
            have hw2_k5 : w2_k5 = 0 ∨ w2_k5 = 1 := i_b01 rfl (by omega) (by omega)
            refine hret _ _ _ _ _ _ dX5_readBoth_63 (by rcases hw2_k5 with h | h <;> rw [h] <;> rfl) ?_ hO
            exact ⟨hw2_k5, hJ, hT, hW⟩
          · refine lv_aload_n hx hb dX5_readBoth_31 rfl (lv_at hl 2 rfl) ?_
            refine gf_RX5_9 (v := .ref (a 1)) C hO 27 cW_27 rfl dX5_readBoth_32 ?_
            refine cVv (w := cW cy a) (As := []) (rest := []) C hO (T_X7_advance l D cy a _ (by exact hJ) (by exact hW)) (cwV 0 ht (gV wd_695 wd_541 wd_542 wd_111 wd_543) rfl rfl rfl hd_yX7_advance ⟨Nat.le_of_ble_eq_true rfl, Nat.le_of_ble_eq_true rfl⟩) 1 rfl cW_1 rfl rfl hl.1 (Nat.le_of_ble_eq_true rfl) dX5_readBoth_35 rfl ⟨Nat.zero_le _, Nat.zero_le _⟩ (fun u10 H locs hp11 hO => ?_)
            have g12 : 0 ≤ (fI u4 15 9).toInt ∧ (fI u4 15 9).toInt ≤ 8 := by have h := CI_15_9 hJ; exact h
            have g13 : 0 ≤ (fI u4 15 10).toInt ∧ (fI u4 15 10).toInt ≤ 14 := by have h := CI_15_10 hJ; exact h
            have g14 : 0 ≤ (fI u4 15 11).toInt ∧ (fI u4 15 11).toInt ≤ 8 := by have h := CI_15_11 hJ; exact h
            have g15 : 0 ≤ (fI u4 15 12).toInt ∧ (fI u4 15 12).toInt ≤ 6 := by have h := CI_15_12 hJ; exact h
            obtain ⟨hJ, hTu10, hW⟩ := hp11
            have hT : KT u u10 := KT.tr (by exact hT) hTu10.1
            have hI_15_9_u10 : fI u10 15 9 = (fI u4 15 9) := hTu10.2.1
            have hI_15_10_u10 : fI u10 15 10 = (fI u4 15 10) := hTu10.2.2.1
            have hI_15_11_u10 : fI u10 15 11 = (fI u4 15 11) := hTu10.2.2.2.1
            have hI_15_12_u10 : fI u10 15 12 = (fI u4 15 12) := hTu10.2.2.2.2
            refine lv_aload_n hx hb dX5_readBoth_38 rfl (lv_at hl 2 rfl) ?_
            refine lv_iload_n hx hb dX5_readBoth_39 rfl (lv_at hl 3 rfl) ?_
            refine cVi (w := cW cy a) (As := [.int 2]) (rest := []) C hO (T_X5_readOne_2 l D cy a _ (by exact hJ) (by exact hW)) (cwV 1 ht (gV wd_751 wd_753 wd_19 wd_114 wd_754) rfl rfl rfl hd_yX5_readOne ⟨Nat.le_of_ble_eq_true rfl, Nat.le_of_ble_eq_true rfl⟩) 27 rfl cW_27 rfl rfl hl.1 (Nat.le_of_ble_eq_true rfl) dX5_readBoth_40 rfl ⟨Nat.zero_le _, Nat.zero_le _⟩ (fun r16 u17 H locs hp18 hO => ?_)
            obtain ⟨hr16, hJ, hTu17, hW⟩ := hp18
            have gr16 : 0 ≤ r16.toInt ∧ r16.toInt ≤ 1 := by rcases hr16 with h | h <;> rw [h] <;> decide
            have hT : KT u u17 := KT.tr (by exact hT) hTu17
            refine lv_istore_n (lv' := [(2, .int r16), (3, .int i_k5), (0, .ref (a 27)), (1, .int 2)]) hx hb dX5_readBoth_43 rfl hl (by decide) rfl (fun ls hl => ?_)
            refine lv_aload_n hx hb dX5_readBoth_44 rfl (lv_at hl 2 rfl) ?_
            refine gf_RX5_15 (v := .ref (a 15)) C hO 27 cW_27 (congrArg (fun z : Nat => some (Value.ref z)) hW) dX5_readBoth_45 ?_
            refine gf_RX5_173 (v := .ref (a 24)) C hO 15 cW_15 rfl dX5_readBoth_48 ?_
            refine lv_bipush (v := (-14)) hx hb dX5_readBoth_51 (by decide) ?_
            refine cVv (w := cW cy a) (As := [.int (-14)]) (rest := []) C hO (T_X4_add l D cy a _ (by exact hJ) (by exact hW) ((-14))) (cwV 1 ht (gV wd_759 wd_760 wd_761 wd_113 wd_762) rfl rfl rfl hd_yX4_add ⟨Nat.le_of_ble_eq_true rfl, Nat.le_of_ble_eq_true rfl⟩) 24 rfl cW_24 rfl rfl hl.1 (Nat.le_of_ble_eq_true rfl) dX5_readBoth_53 rfl ⟨Nat.zero_le _, Nat.zero_le _⟩ (fun u20 H locs hp21 hO => ?_)
            have g22 : 0 ≤ (fI u17 15 9).toInt ∧ (fI u17 15 9).toInt ≤ 8 := by have h := CI_15_9 hJ; exact h
            have g23 : 0 ≤ (fI u17 15 10).toInt ∧ (fI u17 15 10).toInt ≤ 14 := by have h := CI_15_10 hJ; exact h
            have g24 : 0 ≤ (fI u17 15 11).toInt ∧ (fI u17 15 11).toInt ≤ 8 := by have h := CI_15_11 hJ; exact h
            have g25 : 0 ≤ (fI u17 15 12).toInt ∧ (fI u17 15 12).toInt ≤ 6 := by have h := CI_15_12 hJ; exact h
            obtain ⟨hJ, hTu20, hW⟩ := hp21
            have hT : KT u u20 := KT.tr (by exact hT) hTu20.1
            have hI_15_9_u20 : fI u20 15 9 = (fI u17 15 9) := hTu20.2.1
            have hI_15_10_u20 : fI u20 15 10 = (fI u17 15 10) := hTu20.2.2.1
            have hI_15_11_u20 : fI u20 15 11 = (fI u17 15 11) := hTu20.2.2.2.1
            have hI_15_12_u20 : fI u20 15 12 = (fI u17 15 12) := hTu20.2.2.2.2
            have e26 : ((i_k5 + 1)).toInt = (i_k5).toInt + 1 := i_add rfl rfl (by omega)
            refine lv_iinc (v := (i_k5 + 1)) (lv' := [(3, .int (i_k5 + 1)), (2, .int r16), (0, .ref (a 27)), (1, .int 2)]) hx hb dX5_readBoth_56 hl (k := 1) rfl rfl (by decide) rfl (fun ls hl => ?_)
            refine lv_goto (tgt := 8) hx hb dX5_readBoth_59 (by decide) ?_
            exact ih_k5 _ _ _ _ ((i_k5 + 1)) (r16) hO (lv_sub hl [0, 1, 2, 3] rfl) (by exact hJ) (by exact hT) (by exact hW) (by first | decide | omega) (by first | decide | omega) (by first | decide | omega)
  exact LP_8_k5 4000 _ _ _ _ (0) (r1) hO (lv_sub hl [0, 1, 2, 3] rfl) (by exact hJ) (by exact hT) (by exact hW) (by first | decide | omega) (by first | decide | omega) (by first | decide | omega)
set_option maxHeartbeats 4000000 in
set_option maxRecDepth 100000 in
theorem T_X5_readFormula_2 (l : Launch) (D : va_G) (cy : Nat → ClassId) (a : Nat → Nat) (u : St) (hJ : CI a u) (hW : fR u 2 = a 15)   : Mi l D cy (cW cy a) yX5_readFormula (.code yX5_readFormula cX5_readFormula 4 (some .boolean)) (rmo 46 1047) [.ref (a 27), .int 2] u (fun (r : Int32) (u' : St) => (r = 0 ∨ r = 1) ∧ (CI a u') ∧ (KT u u') ∧ (fR u' 2 = a 15)) := by
  refine Mi.of (own := RX5) rfl (by decide) (Nat.le_of_ble_eq_true rfl) ?_
  have hT : KT u u := KT.rf
  intro p e s m below meth c A Q ls C hret hO hl
  obtain ⟨hx, hb, hml, hown, ht, hK, hA⟩ := id C
  have hl : lv_has ls 4 [(0, .ref (a 27)), (1, .int 2)] := hl
  refine lv_aload_n hx hb dX5_readFormula_0 rfl (lv_at hl 0 rfl) ?_
  refine lv_iload_n hx hb dX5_readFormula_1 rfl (lv_at hl 1 rfl) ?_
  refine cVi (w := cW cy a) (As := [.int 2]) (rest := []) C hO (T_X5_readBoth_2 l D cy a _ (by exact hJ) (by exact hW)) (cwV 1 ht (gV wd_747 wd_749 wd_18 wd_114 wd_750) rfl rfl rfl hd_yX5_readBoth ⟨Nat.le_of_ble_eq_true rfl, Nat.le_of_ble_eq_true rfl⟩) 27 rfl cW_27 rfl rfl hl.1 (Nat.le_of_ble_eq_true rfl) dX5_readFormula_2 rfl ⟨Nat.zero_le _, Nat.zero_le _⟩ (fun r1 u2 H locs hp3 hO => ?_)
  obtain ⟨hr1, hJ, hTu2, hW⟩ := hp3
  have gr1 : 0 ≤ r1.toInt ∧ r1.toInt ≤ 1 := by rcases hr1 with h | h <;> rw [h] <;> decide
  have hT : KT u u2 := KT.tr (by exact hT) hTu2
  refine lv_istore_n (lv' := [(2, .int r1), (0, .ref (a 27)), (1, .int 2)]) hx hb dX5_readFormula_5 rfl hl (by decide) rfl (fun ls hl => ?_)
  refine lv_iconst (v := 0) hx hb dX5_readFormula_6 (by decide) ?_
  refine lv_istore_n (lv' := [(3, .int 0), (2, .int r1), (0, .ref (a 27)), (1, .int 2)]) hx hb dX5_readFormula_7 rfl hl (by decide) rfl (fun ls hl => ?_)
  have LP_8_k5 : ∀ (n : Nat) (u4 : St) (H : Heap) (locs : List Loc) (ls : Array Slot) (i_k5 : Int32) (w2_k5 : Int32), Wo D A (cW cy a u4) s.heap H locs → lv_has ls 4 [(3, .int i_k5), (2, .int w2_k5), (0, .ref (a 27)), (1, .int 2)] → CI a u4 → KT u u4 → fR u4 2 = a 15 → 0 ≤ i_k5.toInt ∧ i_k5.toInt ≤ 1600 → 0 ≤ w2_k5.toInt ∧ w2_k5.toInt ≤ 1 → 1600 - i_k5.toInt < (n : Int) → W p l e (rmo 46 1047) s m [.ref (a 27), .int 2].toArray below meth c H locs 0 0 Q (F0 m 8 ls []) := by
    intro n
    induction n with
    | zero =>
      intro u4 H locs ls i_k5 w2_k5 hO hl hJ hT hW iv0_k5 iv1_k5 hm_k5
      exact absurd hm_k5 (by omega)
    | succ n ih_k5 =>
      intro u4 H locs ls i_k5 w2_k5 hO hl hJ hT hW iv0_k5 iv1_k5 hm_k5
      refine lv_iload_n hx hb dX5_readFormula_8 rfl (lv_at hl 0 rfl) ?_
      refine lv_sipush (v := 1600) hx hb dX5_readFormula_9 (by decide) ?_
      refine cs_ge (tgt := 62) (X := (i_k5).toInt) (Y := 1600) hx hb dX5_readFormula_12 (by decide) rfl rfl (fun c6 => ?_) (fun c6 => ?_)
      · refine lv_iload_n hx hb dX5_readFormula_62 rfl (lv_at hl 1 rfl) ?_
        have hw2_k5 : w2_k5 = 0 ∨ w2_k5 = 1 := i_b01 rfl (by omega) (by omega)
        refine hret _ _ _ _ _ _ dX5_readFormula_63 (by rcases hw2_k5 with h | h <;> rw [h] <;> rfl) ?_ hO
        exact ⟨hw2_k5, hJ, hT, hW⟩
      · refine lv_iload_n hx hb dX5_readFormula_15 rfl (lv_at hl 1 rfl) ?_
        refine bs_eq (tgt := 62) (X := (w2_k5).toInt) hx hb dX5_readFormula_16 (by decide) rfl (fun c7 => ?_) (fun c7 => ?_)
        · refine lv_iload_n hx hb dX5_readFormula_62 rfl (lv_at hl 1 rfl) ?_
          have hw2_k5 : w2_k5 = 0 ∨ w2_k5 = 1 := i_b01 rfl (by omega) (by omega)
          refine hret _ _ _ _ _ _ dX5_readFormula_63 (by rcases hw2_k5 with h | h <;> rw [h] <;> rfl) ?_ hO
          exact ⟨hw2_k5, hJ, hT, hW⟩
        · refine lv_aload_n hx hb dX5_readFormula_19 rfl (lv_at hl 2 rfl) ?_
          refine gf_RX5_9 (v := .ref (a 1)) C hO 27 cW_27 rfl dX5_readFormula_20 ?_
          refine gf_RX5_36 (v := .int (fI u4 1 4)) C hO 1 cW_1 rfl dX5_readFormula_23 ?_
          refine lv_bipush (v := 13) hx hb dX5_readFormula_26 (by decide) ?_
          refine cs_ne (tgt := 62) (X := ((fI u4 1 4)).toInt) (Y := 13) hx hb dX5_readFormula_28 (by decide) rfl rfl (fun c8 => ?_) (fun c8 => ?_)
          · refine lv_iload_n hx hb dX5_readFormula_62 rfl (lv_at hl 1 rfl) ?_
            have hw2_k5 : w2_k5 = 0 ∨ w2_k5 = 1 := i_b01 rfl (by omega) (by omega)
            refine hret _ _ _ _ _ _ dX5_readFormula_63 (by rcases hw2_k5 with h | h <;> rw [h] <;> rfl) ?_ hO
            exact ⟨hw2_k5, hJ, hT, hW⟩
          · refine lv_aload_n hx hb dX5_readFormula_31 rfl (lv_at hl 2 rfl) ?_
            refine gf_RX5_9 (v := .ref (a 1)) C hO 27 cW_27 rfl dX5_readFormula_32 ?_
            refine cVv (w := cW cy a) (As := []) (rest := []) C hO (T_X7_advance l D cy a _ (by exact hJ) (by exact hW)) (cwV 0 ht (gV wd_695 wd_541 wd_542 wd_111 wd_543) rfl rfl rfl hd_yX7_advance ⟨Nat.le_of_ble_eq_true rfl, Nat.le_of_ble_eq_true rfl⟩) 1 rfl cW_1 rfl rfl hl.1 (Nat.le_of_ble_eq_true rfl) dX5_readFormula_35 rfl ⟨Nat.zero_le _, Nat.zero_le _⟩ (fun u10 H locs hp11 hO => ?_)
            have g12 : 0 ≤ (fI u4 15 9).toInt ∧ (fI u4 15 9).toInt ≤ 8 := by have h := CI_15_9 hJ; exact h
            have g13 : 0 ≤ (fI u4 15 10).toInt ∧ (fI u4 15 10).toInt ≤ 14 := by have h := CI_15_10 hJ; exact h
            have g14 : 0 ≤ (fI u4 15 11).toInt ∧ (fI u4 15 11).toInt ≤ 8 := by have h := CI_15_11 hJ; exact h
            have g15 : 0 ≤ (fI u4 15 12).toInt ∧ (fI u4 15 12).toInt ≤ 6 := by have h := CI_15_12 hJ; exact h
            obtain ⟨hJ, hTu10, hW⟩ := hp11
            have hT : KT u u10 := KT.tr (by exact hT) hTu10.1
            have hI_15_9_u10 : fI u10 15 9 = (fI u4 15 9) := hTu10.2.1
            have hI_15_10_u10 : fI u10 15 10 = (fI u4 15 10) := hTu10.2.2.1
            have hI_15_11_u10 : fI u10 15 11 = (fI u4 15 11) := hTu10.2.2.2.1
            have hI_15_12_u10 : fI u10 15 12 = (fI u4 15 12) := hTu10.2.2.2.2
            refine lv_aload_n hx hb dX5_readFormula_38 rfl (lv_at hl 2 rfl) ?_
            refine lv_iload_n hx hb dX5_readFormula_39 rfl (lv_at hl 3 rfl) ?_
            refine cVi (w := cW cy a) (As := [.int 2]) (rest := []) C hO (T_X5_readBoth_2 l D cy a _ (by exact hJ) (by exact hW)) (cwV 1 ht (gV wd_747 wd_749 wd_18 wd_114 wd_750) rfl rfl rfl hd_yX5_readBoth ⟨Nat.le_of_ble_eq_true rfl, Nat.le_of_ble_eq_true rfl⟩) 27 rfl cW_27 rfl rfl hl.1 (Nat.le_of_ble_eq_true rfl) dX5_readFormula_40 rfl ⟨Nat.zero_le _, Nat.zero_le _⟩ (fun r16 u17 H locs hp18 hO => ?_)
            obtain ⟨hr16, hJ, hTu17, hW⟩ := hp18
            have gr16 : 0 ≤ r16.toInt ∧ r16.toInt ≤ 1 := by rcases hr16 with h | h <;> rw [h] <;> decide
            have hT : KT u u17 := KT.tr (by exact hT) hTu17
            refine lv_istore_n (lv' := [(2, .int r16), (3, .int i_k5), (0, .ref (a 27)), (1, .int 2)]) hx hb dX5_readFormula_43 rfl hl (by decide) rfl (fun ls hl => ?_)
            refine lv_aload_n hx hb dX5_readFormula_44 rfl (lv_at hl 2 rfl) ?_
            refine gf_RX5_15 (v := .ref (a 15)) C hO 27 cW_27 (congrArg (fun z : Nat => some (Value.ref z)) hW) dX5_readFormula_45 ?_
            refine gf_RX5_173 (v := .ref (a 24)) C hO 15 cW_15 rfl dX5_readFormula_48 ?_
            refine lv_bipush (v := (-13)) hx hb dX5_readFormula_51 (by decide) ?_
            refine cVv (w := cW cy a) (As := [.int (-13)]) (rest := []) C hO (T_X4_add l D cy a _ (by exact hJ) (by exact hW) ((-13))) (cwV 1 ht (gV wd_759 wd_760 wd_761 wd_113 wd_762) rfl rfl rfl hd_yX4_add ⟨Nat.le_of_ble_eq_true rfl, Nat.le_of_ble_eq_true rfl⟩) 24 rfl cW_24 rfl rfl hl.1 (Nat.le_of_ble_eq_true rfl) dX5_readFormula_53 rfl ⟨Nat.zero_le _, Nat.zero_le _⟩ (fun u20 H locs hp21 hO => ?_)
            have g22 : 0 ≤ (fI u17 15 9).toInt ∧ (fI u17 15 9).toInt ≤ 8 := by have h := CI_15_9 hJ; exact h
            have g23 : 0 ≤ (fI u17 15 10).toInt ∧ (fI u17 15 10).toInt ≤ 14 := by have h := CI_15_10 hJ; exact h
            have g24 : 0 ≤ (fI u17 15 11).toInt ∧ (fI u17 15 11).toInt ≤ 8 := by have h := CI_15_11 hJ; exact h
            have g25 : 0 ≤ (fI u17 15 12).toInt ∧ (fI u17 15 12).toInt ≤ 6 := by have h := CI_15_12 hJ; exact h
            obtain ⟨hJ, hTu20, hW⟩ := hp21
            have hT : KT u u20 := KT.tr (by exact hT) hTu20.1
            have hI_15_9_u20 : fI u20 15 9 = (fI u17 15 9) := hTu20.2.1
            have hI_15_10_u20 : fI u20 15 10 = (fI u17 15 10) := hTu20.2.2.1
            have hI_15_11_u20 : fI u20 15 11 = (fI u17 15 11) := hTu20.2.2.2.1
            have hI_15_12_u20 : fI u20 15 12 = (fI u17 15 12) := hTu20.2.2.2.2
            have e26 : ((i_k5 + 1)).toInt = (i_k5).toInt + 1 := i_add rfl rfl (by omega)
            refine lv_iinc (v := (i_k5 + 1)) (lv' := [(3, .int (i_k5 + 1)), (2, .int r16), (0, .ref (a 27)), (1, .int 2)]) hx hb dX5_readFormula_56 hl (k := 1) rfl rfl (by decide) rfl (fun ls hl => ?_)
            refine lv_goto (tgt := 8) hx hb dX5_readFormula_59 (by decide) ?_
            exact ih_k5 _ _ _ _ ((i_k5 + 1)) (r16) hO (lv_sub hl [0, 1, 2, 3] rfl) (by exact hJ) (by exact hT) (by exact hW) (by first | decide | omega) (by first | decide | omega) (by first | decide | omega)
  exact LP_8_k5 4000 _ _ _ _ (0) (r1) hO (lv_sub hl [0, 1, 2, 3] rfl) (by exact hJ) (by exact hT) (by exact hW) (by first | decide | omega) (by first | decide | omega) (by first | decide | omega)
set_option maxHeartbeats 4000000 in
set_option maxRecDepth 100000 in
theorem T_X5_readInner_1 (l : Launch) (D : va_G) (cy : Nat → ClassId) (a : Nat → Nat) (u : St) (hJ : CI a u) (hW : fR u 2 = a 15)   : Mi l D cy (cW cy a) yX5_readInner (.code yX5_readInner cX5_readInner 2 (some .boolean)) (rmo 47 1070) [.ref (a 27), .int 1] u (fun (r : Int32) (u' : St) => (r = 0 ∨ r = 1) ∧ (CI a u') ∧ (KT u u') ∧ (fR u' 2 = a 15)) := by
  refine Mi.of (own := RX5) rfl (by decide) (Nat.le_of_ble_eq_true rfl) ?_
  have hT : KT u u := KT.rf
  intro p e s m below meth c A Q ls C hret hO hl
  obtain ⟨hx, hb, hml, hown, ht, hK, hA⟩ := id C
  have hl : lv_has ls 2 [(0, .ref (a 27)), (1, .int 1)] := hl
  refine lv_iload_n hx hb dX5_readInner_0 rfl (lv_at hl 1 rfl) ?_
  refine lv_bipush (v := 6) hx hb dX5_readInner_1 (by decide) ?_
  refine ct_le (tgt := 12) (X := 1) (Y := 6) hx hb dX5_readInner_3 (by decide) rfl rfl (by omega) ?_
  refine lv_aload_n hx hb dX5_readInner_12 rfl (lv_at hl 0 rfl) ?_
  refine gf_RX5_9 (v := .ref (a 1)) C hO 27 cW_27 rfl dX5_readInner_13 ?_
  refine cVv (w := cW cy a) (As := []) (rest := []) C hO (T_X7_advance l D cy a _ (by exact hJ) (by exact hW)) (cwV 0 ht (gV wd_695 wd_541 wd_542 wd_111 wd_543) rfl rfl rfl hd_yX7_advance ⟨Nat.le_of_ble_eq_true rfl, Nat.le_of_ble_eq_true rfl⟩) 1 rfl cW_1 rfl rfl hl.1 (Nat.le_of_ble_eq_true rfl) dX5_readInner_16 rfl ⟨Nat.zero_le _, Nat.zero_le _⟩ (fun u2 H locs hp3 hO => ?_)
  have g4 : 0 ≤ (fI u 15 9).toInt ∧ (fI u 15 9).toInt ≤ 8 := by have h := CI_15_9 hJ; exact h
  have g5 : 0 ≤ (fI u 15 10).toInt ∧ (fI u 15 10).toInt ≤ 14 := by have h := CI_15_10 hJ; exact h
  have g6 : 0 ≤ (fI u 15 11).toInt ∧ (fI u 15 11).toInt ≤ 8 := by have h := CI_15_11 hJ; exact h
  have g7 : 0 ≤ (fI u 15 12).toInt ∧ (fI u 15 12).toInt ≤ 6 := by have h := CI_15_12 hJ; exact h
  obtain ⟨hJ, hTu2, hW⟩ := hp3
  have hT : KT u u2 := KT.tr (by exact hT) hTu2.1
  have hI_15_9_u2 : fI u2 15 9 = (fI u 15 9) := hTu2.2.1
  have hI_15_10_u2 : fI u2 15 10 = (fI u 15 10) := hTu2.2.2.1
  have hI_15_11_u2 : fI u2 15 11 = (fI u 15 11) := hTu2.2.2.2.1
  have hI_15_12_u2 : fI u2 15 12 = (fI u 15 12) := hTu2.2.2.2.2
  refine lv_aload_n hx hb dX5_readInner_19 rfl (lv_at hl 0 rfl) ?_
  refine lv_iload_n hx hb dX5_readInner_20 rfl (lv_at hl 1 rfl) ?_
  refine lv_iconst (v := 1) hx hb dX5_readInner_21 (by decide) ?_
  refine lv_iadd hx hb dX5_readInner_22 ?_
  refine tE (y := 2) rfl ?_
  refine cVi (w := cW cy a) (As := [.int 2]) (rest := []) C hO (T_X5_readFormula_2 l D cy a _ (by exact hJ) (by exact hW)) (cwV 1 ht (gV wd_743 wd_745 wd_17 wd_114 wd_746) rfl rfl rfl hd_yX5_readFormula ⟨Nat.le_of_ble_eq_true rfl, Nat.le_of_ble_eq_true rfl⟩) 27 rfl cW_27 rfl rfl hl.1 (Nat.le_of_ble_eq_true rfl) dX5_readInner_23 rfl ⟨Nat.zero_le _, Nat.zero_le _⟩ (fun r8 u9 H locs hp10 hO => ?_)
  obtain ⟨hr8, hJ, hTu9, hW⟩ := hp10
  have gr8 : 0 ≤ r8.toInt ∧ r8.toInt ≤ 1 := by rcases hr8 with h | h <;> rw [h] <;> decide
  have hT : KT u u9 := KT.tr (by exact hT) hTu9
  refine bs_eq (tgt := 42) (X := (r8).toInt) hx hb dX5_readInner_26 (by decide) rfl (fun c11 => ?_) (fun c11 => ?_)
  · refine lv_iconst (v := 0) hx hb dX5_readInner_42 (by decide) ?_
    refine hret _ _ _ _ _ _ dX5_readInner_43 rfl ?_ hO
    exact ⟨Or.inl rfl, hJ, hT, hW⟩
  · refine lv_aload_n hx hb dX5_readInner_29 rfl (lv_at hl 0 rfl) ?_
    refine lv_bipush (v := 41) hx hb dX5_readInner_30 (by decide) ?_
    refine cVi (w := cW cy a) (As := [.int 41]) (rest := []) C hO (T_X5_skip l D cy a _ (by exact hJ) (by exact hW) (41)) (cwV 1 ht (gV wd_719 wd_721 wd_11 wd_114 wd_722) rfl rfl rfl hd_yX5_skip ⟨Nat.le_of_ble_eq_true rfl, Nat.le_of_ble_eq_true rfl⟩) 27 rfl cW_27 rfl rfl hl.1 (Nat.le_of_ble_eq_true rfl) dX5_readInner_32 rfl ⟨Nat.zero_le _, Nat.zero_le _⟩ (fun r12 u13 H locs hp14 hO => ?_)
    have g15 : 0 ≤ (fI u9 15 9).toInt ∧ (fI u9 15 9).toInt ≤ 8 := by have h := CI_15_9 hJ; exact h
    have g16 : 0 ≤ (fI u9 15 10).toInt ∧ (fI u9 15 10).toInt ≤ 14 := by have h := CI_15_10 hJ; exact h
    have g17 : 0 ≤ (fI u9 15 11).toInt ∧ (fI u9 15 11).toInt ≤ 8 := by have h := CI_15_11 hJ; exact h
    have g18 : 0 ≤ (fI u9 15 12).toInt ∧ (fI u9 15 12).toInt ≤ 6 := by have h := CI_15_12 hJ; exact h
    obtain ⟨hr12, hJ, hTu13, hW⟩ := hp14
    have gr12 : 0 ≤ r12.toInt ∧ r12.toInt ≤ 1 := by rcases hr12 with h | h <;> rw [h] <;> decide
    have hT : KT u u13 := KT.tr (by exact hT) hTu13.1
    have hI_15_9_u13 : fI u13 15 9 = (fI u9 15 9) := hTu13.2.1
    have hI_15_10_u13 : fI u13 15 10 = (fI u9 15 10) := hTu13.2.2.1
    have hI_15_11_u13 : fI u13 15 11 = (fI u9 15 11) := hTu13.2.2.2.1
    have hI_15_12_u13 : fI u13 15 12 = (fI u9 15 12) := hTu13.2.2.2.2
    refine bs_eq (tgt := 42) (X := (r12).toInt) hx hb dX5_readInner_35 (by decide) rfl (fun c19 => ?_) (fun c19 => ?_)
    · refine lv_iconst (v := 0) hx hb dX5_readInner_42 (by decide) ?_
      refine hret _ _ _ _ _ _ dX5_readInner_43 rfl ?_ hO
      exact ⟨Or.inl rfl, hJ, hT, hW⟩
    · refine lv_iconst (v := 1) hx hb dX5_readInner_38 (by decide) ?_
      refine lv_goto (tgt := 43) hx hb dX5_readInner_39 (by decide) ?_
      refine hret _ _ _ _ _ _ dX5_readInner_43 rfl ?_ hO
      exact ⟨Or.inr rfl, hJ, hT, hW⟩
set_option maxHeartbeats 4000000 in
set_option maxRecDepth 100000 in
theorem T_X5_readUnit_1 (l : Launch) (D : va_G) (cy : Nat → ClassId) (a : Nat → Nat) (u : St) (hJ : CI a u) (hW : fR u 2 = a 15)   : Mi l D cy (cW cy a) yX5_readUnit (.code yX5_readUnit cX5_readUnit 3 (some .boolean)) (rmo 48 1091) [.ref (a 27), .int 1] u (fun (r : Int32) (u' : St) => (r = 0 ∨ r = 1) ∧ (CI a u') ∧ (KT u u') ∧ (fR u' 2 = a 15)) := by
  refine Mi.of (own := RX5) rfl (by decide) (Nat.le_of_ble_eq_true rfl) ?_
  have hT : KT u u := KT.rf
  intro p e s m below meth c A Q ls C hret hO hl
  obtain ⟨hx, hb, hml, hown, ht, hK, hA⟩ := id C
  have hl : lv_has ls 3 [(0, .ref (a 27)), (1, .int 1)] := hl
  refine lv_aload_n hx hb dX5_readUnit_0 rfl (lv_at hl 0 rfl) ?_
  refine gf_RX5_9 (v := .ref (a 1)) C hO 27 cW_27 rfl dX5_readUnit_1 ?_
  refine gf_RX5_36 (v := .int (fI u 1 4)) C hO 1 cW_1 rfl dX5_readUnit_4 ?_
  refine lv_istore_n (lv' := [(2, .int (fI u 1 4)), (0, .ref (a 27)), (1, .int 1)]) hx hb dX5_readUnit_7 rfl hl (by decide) rfl (fun ls hl => ?_)
  refine lv_aload_n hx hb dX5_readUnit_8 rfl (lv_at hl 1 rfl) ?_
  refine gf_RX5_15 (v := .ref (a 15)) C hO 27 cW_27 (congrArg (fun z : Nat => some (Value.ref z)) hW) dX5_readUnit_9 ?_
  refine gf_RX5_173 (v := .ref (a 24)) C hO 15 cW_15 rfl dX5_readUnit_12 ?_
  refine cVi (w := cW cy a) (As := []) (rest := []) C hO (T_X4_isFull l D cy a _ (by exact hJ)) (cwV 0 ht (gV wd_775 wd_776 wd_777 wd_113 wd_778) rfl rfl rfl hd_yX4_isFull ⟨Nat.le_of_ble_eq_true rfl, Nat.le_of_ble_eq_true rfl⟩) 24 rfl cW_24 rfl rfl hl.1 (Nat.le_of_ble_eq_true rfl) dX5_readUnit_15 rfl ⟨Nat.zero_le _, Nat.zero_le _⟩ (fun r1 u2 H locs hp3 hO => ?_)
  obtain ⟨hr1, hu2⟩ := hp3
  have gr1 : 0 ≤ r1.toInt ∧ r1.toInt ≤ 1 := by rcases hr1 with h | h <;> rw [h] <;> decide
  rw [hu2] at hO
  refine bs_ne (tgt := 41) (X := (r1).toInt) hx hb dX5_readUnit_18 (by decide) rfl (fun c4 => ?_) (fun c4 => ?_)
  · refine lv_aload_n hx hb dX5_readUnit_41 rfl (lv_at hl 1 rfl) ?_
    refine lv_iconst (v := 2) hx hb dX5_readUnit_42 (by decide) ?_
    refine cVi (w := cW cy a) (As := [.int 2]) (rest := []) C hO (T_X5_refuse l D cy a _ (by exact hJ) (by exact hW) (2)) (cwV 1 ht (gV wd_691 wd_693 wd_6 wd_114 wd_694) rfl rfl rfl hd_yX5_refuse ⟨Nat.le_of_ble_eq_true rfl, Nat.le_of_ble_eq_true rfl⟩) 27 rfl cW_27 rfl rfl hl.1 (Nat.le_of_ble_eq_true rfl) dX5_readUnit_43 rfl ⟨Nat.zero_le _, Nat.zero_le _⟩ (fun r5 u6 H locs hp7 hO => ?_)
    have g8 : 0 ≤ (fI u 15 9).toInt ∧ (fI u 15 9).toInt ≤ 8 := by have h := CI_15_9 hJ; exact h
    have g9 : 0 ≤ (fI u 15 10).toInt ∧ (fI u 15 10).toInt ≤ 14 := by have h := CI_15_10 hJ; exact h
    have g10 : 0 ≤ (fI u 15 11).toInt ∧ (fI u 15 11).toInt ≤ 8 := by have h := CI_15_11 hJ; exact h
    have g11 : 0 ≤ (fI u 15 12).toInt ∧ (fI u 15 12).toInt ≤ 6 := by have h := CI_15_12 hJ; exact h
    obtain ⟨hr5, hJ, hTu6, hW⟩ := hp7
    subst hr5
    have hT : KT u u6 := KT.tr (by exact hT) hTu6.1
    have hI_15_9_u6 : fI u6 15 9 = (fI u 15 9) := hTu6.2.1
    have hI_15_10_u6 : fI u6 15 10 = (fI u 15 10) := hTu6.2.2.1
    have hI_15_11_u6 : fI u6 15 11 = (fI u 15 11) := hTu6.2.2.2.1
    have hI_15_12_u6 : fI u6 15 12 = (fI u 15 12) := hTu6.2.2.2.2
    refine hret _ _ _ _ _ _ dX5_readUnit_46 rfl ?_ hO
    exact ⟨Or.inl rfl, hJ, hT, hW⟩
  · refine lv_iload_n hx hb dX5_readUnit_21 rfl (lv_at hl 0 rfl) ?_
    refine lv_sipush (v := 201) hx hb dX5_readUnit_22 (by decide) ?_
    refine cs_eq (tgt := 47) (X := ((fI u 1 4)).toInt) (Y := 201) hx hb dX5_readUnit_25 (by decide) rfl rfl (fun c12 => ?_) (fun c12 => ?_)
    · refine lv_aload_n hx hb dX5_readUnit_47 rfl (lv_at hl 1 rfl) ?_
      refine gf_RX5_15 (v := .ref (a 15)) C hO 27 cW_27 (congrArg (fun z : Nat => some (Value.ref z)) hW) dX5_readUnit_48 ?_
      refine gf_RX5_173 (v := .ref (a 24)) C hO 15 cW_15 rfl dX5_readUnit_51 ?_
      refine lv_dup hx hb dX5_readUnit_54 rfl ?_
      refine gf_RX5_207 (v := .int (fI u 24 4)) C hO 24 cW_24 rfl dX5_readUnit_55 ?_
      refine lv_iconst (v := 1) hx hb dX5_readUnit_58 (by decide) ?_
      refine lv_iadd hx hb dX5_readUnit_59 ?_
      refine pf_RX5_207 C hO 24 cW_24 (Nat.le_of_ble_eq_true rfl) cW_s24_4 dX5_readUnit_60 (fun H locs hO => ?_)
      have hJ := CIs_24_4 (v := ((fI u 24 4) + 1)) hJ
      refine lv_iload_n hx hb dX5_readUnit_63 rfl (lv_at hl 0 rfl) ?_
      refine lv_bipush (v := 40) hx hb dX5_readUnit_64 (by decide) ?_
      refine ct_ne (tgt := 75) (X := ((fI u 1 4)).toInt) (Y := 40) hx hb dX5_readUnit_66 (by decide) rfl rfl (by omega) ?_
      refine lv_aload_n hx hb dX5_readUnit_75 rfl (lv_at hl 1 rfl) ?_
      refine gf_RX5_15 (v := .ref (a 15)) C hO 27 cW_27 (congrArg (fun z : Nat => some (Value.ref z)) hW) dX5_readUnit_76 ?_
      refine gf_RX5_173 (v := .ref (a 24)) C hO 15 cW_15 rfl dX5_readUnit_79 ?_
      refine lv_iload_n hx hb dX5_readUnit_82 rfl (lv_at hl 0 rfl) ?_
      refine lv_sipush (v := 201) hx hb dX5_readUnit_83 (by decide) ?_
      refine cn_ne (X := ((fI u 1 4)).toInt) (Y := 201) hx hb dX5_readUnit_86 rfl rfl (by omega) ?_ (tgt := 99) (by decide)
      refine lv_aload_n hx hb dX5_readUnit_89 rfl (lv_at hl 1 rfl) ?_
      refine gf_RX5_9 (v := .ref (a 1)) C hO 27 cW_27 rfl dX5_readUnit_90 ?_
      refine gf_RX5_94 (v := .int (fI u 1 6)) C hO 1 cW_1 rfl dX5_readUnit_93 ?_
      refine lv_goto (tgt := 101) hx hb dX5_readUnit_96 (by decide) ?_
      refine cVv (w := cW cy a) (As := [.int (fI u 1 6)]) (rest := []) C hO (T_X4_add l D cy a _ (by exact hJ) (by exact hW) ((fI u 1 6))) (cwV 1 ht (gV wd_759 wd_760 wd_761 wd_113 wd_762) rfl rfl rfl hd_yX4_add ⟨Nat.le_of_ble_eq_true rfl, Nat.le_of_ble_eq_true rfl⟩) 24 rfl cW_24 rfl rfl hl.1 (Nat.le_of_ble_eq_true rfl) dX5_readUnit_101 rfl ⟨Nat.zero_le _, Nat.zero_le _⟩ (fun u14 H locs hp15 hO => ?_)
      have g16 : 0 ≤ (fI u 15 9).toInt ∧ (fI u 15 9).toInt ≤ 8 := by have h := CI_15_9 hJ; exact h
      have g17 : 0 ≤ (fI u 15 10).toInt ∧ (fI u 15 10).toInt ≤ 14 := by have h := CI_15_10 hJ; exact h
      have g18 : 0 ≤ (fI u 15 11).toInt ∧ (fI u 15 11).toInt ≤ 8 := by have h := CI_15_11 hJ; exact h
      have g19 : 0 ≤ (fI u 15 12).toInt ∧ (fI u 15 12).toInt ≤ 6 := by have h := CI_15_12 hJ; exact h
      obtain ⟨hJ, hTu14, hW⟩ := hp15
      have hT : KT u u14 := KT.tr (by exact hT) hTu14.1
      have hI_15_9_u14 : fI u14 15 9 = (fI u 15 9) := hTu14.2.1
      have hI_15_10_u14 : fI u14 15 10 = (fI u 15 10) := hTu14.2.2.1
      have hI_15_11_u14 : fI u14 15 11 = (fI u 15 11) := hTu14.2.2.2.1
      have hI_15_12_u14 : fI u14 15 12 = (fI u 15 12) := hTu14.2.2.2.2
      refine lv_aload_n hx hb dX5_readUnit_104 rfl (lv_at hl 1 rfl) ?_
      refine gf_RX5_9 (v := .ref (a 1)) C hO 27 cW_27 rfl dX5_readUnit_105 ?_
      refine cVv (w := cW cy a) (As := []) (rest := []) C hO (T_X7_advance l D cy a _ (by exact hJ) (by exact hW)) (cwV 0 ht (gV wd_695 wd_541 wd_542 wd_111 wd_543) rfl rfl rfl hd_yX7_advance ⟨Nat.le_of_ble_eq_true rfl, Nat.le_of_ble_eq_true rfl⟩) 1 rfl cW_1 rfl rfl hl.1 (Nat.le_of_ble_eq_true rfl) dX5_readUnit_108 rfl ⟨Nat.zero_le _, Nat.zero_le _⟩ (fun u21 H locs hp22 hO => ?_)
      obtain ⟨hJ, hTu21, hW⟩ := hp22
      have hT : KT u u21 := KT.tr (by exact hT) hTu21.1
      have hI_15_9_u21 : fI u21 15 9 = (fI u 15 9) := Eq.trans (hTu21.2.1) (hI_15_9_u14)
      have hI_15_10_u21 : fI u21 15 10 = (fI u 15 10) := Eq.trans (hTu21.2.2.1) (hI_15_10_u14)
      have hI_15_11_u21 : fI u21 15 11 = (fI u 15 11) := Eq.trans (hTu21.2.2.2.1) (hI_15_11_u14)
      have hI_15_12_u21 : fI u21 15 12 = (fI u 15 12) := Eq.trans (hTu21.2.2.2.2) (hI_15_12_u14)
      refine lv_iconst (v := 1) hx hb dX5_readUnit_111 (by decide) ?_
      refine hret _ _ _ _ _ _ dX5_readUnit_112 rfl ?_ hO
      exact ⟨Or.inr rfl, hJ, hT, hW⟩
    · refine lv_iload_n hx hb dX5_readUnit_28 rfl (lv_at hl 0 rfl) ?_
      refine lv_bipush (v := 40) hx hb dX5_readUnit_29 (by decide) ?_
      refine cs_eq (tgt := 47) (X := ((fI u 1 4)).toInt) (Y := 40) hx hb dX5_readUnit_31 (by decide) rfl rfl (fun c23 => ?_) (fun c23 => ?_)
      · refine lv_aload_n hx hb dX5_readUnit_47 rfl (lv_at hl 1 rfl) ?_
        refine gf_RX5_15 (v := .ref (a 15)) C hO 27 cW_27 (congrArg (fun z : Nat => some (Value.ref z)) hW) dX5_readUnit_48 ?_
        refine gf_RX5_173 (v := .ref (a 24)) C hO 15 cW_15 rfl dX5_readUnit_51 ?_
        refine lv_dup hx hb dX5_readUnit_54 rfl ?_
        refine gf_RX5_207 (v := .int (fI u 24 4)) C hO 24 cW_24 rfl dX5_readUnit_55 ?_
        refine lv_iconst (v := 1) hx hb dX5_readUnit_58 (by decide) ?_
        refine lv_iadd hx hb dX5_readUnit_59 ?_
        refine pf_RX5_207 C hO 24 cW_24 (Nat.le_of_ble_eq_true rfl) cW_s24_4 dX5_readUnit_60 (fun H locs hO => ?_)
        have hJ := CIs_24_4 (v := ((fI u 24 4) + 1)) hJ
        refine lv_iload_n hx hb dX5_readUnit_63 rfl (lv_at hl 0 rfl) ?_
        refine lv_bipush (v := 40) hx hb dX5_readUnit_64 (by decide) ?_
        refine cn_ne (X := ((fI u 1 4)).toInt) (Y := 40) hx hb dX5_readUnit_66 rfl rfl (by omega) ?_ (tgt := 75) (by decide)
        refine lv_aload_n hx hb dX5_readUnit_69 rfl (lv_at hl 1 rfl) ?_
        refine lv_iload_n hx hb dX5_readUnit_70 rfl (lv_at hl 2 rfl) ?_
        refine cVi (w := cW cy a) (As := [.int 1]) (rest := []) C hO (T_X5_readInner_1 l D cy a _ (by exact hJ) (by exact hW)) (cwV 1 ht (gV wd_782 wd_784 wd_24 wd_114 wd_785) rfl rfl rfl hd_yX5_readInner ⟨Nat.le_of_ble_eq_true rfl, Nat.le_of_ble_eq_true rfl⟩) 27 rfl cW_27 rfl rfl hl.1 (Nat.le_of_ble_eq_true rfl) dX5_readUnit_71 rfl ⟨Nat.zero_le _, Nat.zero_le _⟩ (fun r24 u25 H locs hp26 hO => ?_)
        obtain ⟨hr24, hJ, hTu25, hW⟩ := hp26
        have gr24 : 0 ≤ r24.toInt ∧ r24.toInt ≤ 1 := by rcases hr24 with h | h <;> rw [h] <;> decide
        have hT : KT u u25 := KT.tr (by exact hT) hTu25
        refine hret _ _ _ _ _ _ dX5_readUnit_74 (by rcases hr24 with h | h <;> rw [h] <;> rfl) ?_ hO
        exact ⟨hr24, hJ, hT, hW⟩
      · refine lv_iload_n hx hb dX5_readUnit_34 rfl (lv_at hl 0 rfl) ?_
        refine cSi (w := cW cy a) (As := [.int (fI u 1 4)]) (rest := []) C hO (T_X4_isGiven l D cy a _ (by exact hJ) ((fI u 1 4))) (va_cwS 1 ht (gSS wd_779 wd_780 wd_113 wd_781) rfl rfl rfl hd_yX4_isGiven ⟨Nat.le_of_ble_eq_true rfl, Nat.le_of_ble_eq_true rfl⟩)  rfl hl.1 (Nat.le_of_ble_eq_true rfl) dX5_readUnit_35 rfl ⟨Nat.zero_le _, Nat.zero_le _⟩ (fun r27 u28 H locs hp29 hO => ?_)
        obtain ⟨hr27, hu28⟩ := hp29
        have gr27 : 0 ≤ r27.toInt ∧ r27.toInt ≤ 1 := by rcases hr27 with h | h <;> rw [h] <;> decide
        rw [hu28] at hO
        refine bs_ne (tgt := 47) (X := (r27).toInt) hx hb dX5_readUnit_38 (by decide) rfl (fun c30 => ?_) (fun c30 => ?_)
        · refine lv_aload_n hx hb dX5_readUnit_47 rfl (lv_at hl 1 rfl) ?_
          refine gf_RX5_15 (v := .ref (a 15)) C hO 27 cW_27 (congrArg (fun z : Nat => some (Value.ref z)) hW) dX5_readUnit_48 ?_
          refine gf_RX5_173 (v := .ref (a 24)) C hO 15 cW_15 rfl dX5_readUnit_51 ?_
          refine lv_dup hx hb dX5_readUnit_54 rfl ?_
          refine gf_RX5_207 (v := .int (fI u 24 4)) C hO 24 cW_24 rfl dX5_readUnit_55 ?_
          refine lv_iconst (v := 1) hx hb dX5_readUnit_58 (by decide) ?_
          refine lv_iadd hx hb dX5_readUnit_59 ?_
          refine pf_RX5_207 C hO 24 cW_24 (Nat.le_of_ble_eq_true rfl) cW_s24_4 dX5_readUnit_60 (fun H locs hO => ?_)
          have hJ := CIs_24_4 (v := ((fI u 24 4) + 1)) hJ
          refine lv_iload_n hx hb dX5_readUnit_63 rfl (lv_at hl 0 rfl) ?_
          refine lv_bipush (v := 40) hx hb dX5_readUnit_64 (by decide) ?_
          refine cs_ne (tgt := 75) (X := ((fI u 1 4)).toInt) (Y := 40) hx hb dX5_readUnit_66 (by decide) rfl rfl (fun c31 => ?_) (fun c31 => ?_)
          · refine lv_aload_n hx hb dX5_readUnit_75 rfl (lv_at hl 1 rfl) ?_
            refine gf_RX5_15 (v := .ref (a 15)) C hO 27 cW_27 (congrArg (fun z : Nat => some (Value.ref z)) hW) dX5_readUnit_76 ?_
            refine gf_RX5_173 (v := .ref (a 24)) C hO 15 cW_15 rfl dX5_readUnit_79 ?_
            refine lv_iload_n hx hb dX5_readUnit_82 rfl (lv_at hl 0 rfl) ?_
            refine lv_sipush (v := 201) hx hb dX5_readUnit_83 (by decide) ?_
            refine cs_ne (tgt := 99) (X := ((fI u 1 4)).toInt) (Y := 201) hx hb dX5_readUnit_86 (by decide) rfl rfl (fun c32 => ?_) (fun c32 => ?_)
            · refine lv_iload_n hx hb dX5_readUnit_99 rfl (lv_at hl 0 rfl) ?_
              refine lv_ineg hx hb dX5_readUnit_100 ?_
              refine lv_topi (fun z33 ez33 => ?_)
              refine cVv (w := cW cy a) (As := [.int z33]) (rest := []) C hO (T_X4_add l D cy a _ (by exact hJ) (by exact hW) (z33)) (cwV 1 ht (gV wd_759 wd_760 wd_761 wd_113 wd_762) rfl rfl rfl hd_yX4_add ⟨Nat.le_of_ble_eq_true rfl, Nat.le_of_ble_eq_true rfl⟩) 24 rfl cW_24 rfl rfl hl.1 (Nat.le_of_ble_eq_true rfl) dX5_readUnit_101 rfl ⟨Nat.zero_le _, Nat.zero_le _⟩ (fun u35 H locs hp36 hO => ?_)
              have g37 : 0 ≤ (fI u 15 9).toInt ∧ (fI u 15 9).toInt ≤ 8 := by have h := CI_15_9 hJ; exact h
              have g38 : 0 ≤ (fI u 15 10).toInt ∧ (fI u 15 10).toInt ≤ 14 := by have h := CI_15_10 hJ; exact h
              have g39 : 0 ≤ (fI u 15 11).toInt ∧ (fI u 15 11).toInt ≤ 8 := by have h := CI_15_11 hJ; exact h
              have g40 : 0 ≤ (fI u 15 12).toInt ∧ (fI u 15 12).toInt ≤ 6 := by have h := CI_15_12 hJ; exact h
              obtain ⟨hJ, hTu35, hW⟩ := hp36
              have hT : KT u u35 := KT.tr (by exact hT) hTu35.1
              have hI_15_9_u35 : fI u35 15 9 = (fI u 15 9) := hTu35.2.1
              have hI_15_10_u35 : fI u35 15 10 = (fI u 15 10) := hTu35.2.2.1
              have hI_15_11_u35 : fI u35 15 11 = (fI u 15 11) := hTu35.2.2.2.1
              have hI_15_12_u35 : fI u35 15 12 = (fI u 15 12) := hTu35.2.2.2.2
              refine lv_aload_n hx hb dX5_readUnit_104 rfl (lv_at hl 1 rfl) ?_
              refine gf_RX5_9 (v := .ref (a 1)) C hO 27 cW_27 rfl dX5_readUnit_105 ?_
              refine cVv (w := cW cy a) (As := []) (rest := []) C hO (T_X7_advance l D cy a _ (by exact hJ) (by exact hW)) (cwV 0 ht (gV wd_695 wd_541 wd_542 wd_111 wd_543) rfl rfl rfl hd_yX7_advance ⟨Nat.le_of_ble_eq_true rfl, Nat.le_of_ble_eq_true rfl⟩) 1 rfl cW_1 rfl rfl hl.1 (Nat.le_of_ble_eq_true rfl) dX5_readUnit_108 rfl ⟨Nat.zero_le _, Nat.zero_le _⟩ (fun u42 H locs hp43 hO => ?_)
              obtain ⟨hJ, hTu42, hW⟩ := hp43
              have hT : KT u u42 := KT.tr (by exact hT) hTu42.1
              have hI_15_9_u42 : fI u42 15 9 = (fI u 15 9) := Eq.trans (hTu42.2.1) (hI_15_9_u35)
              have hI_15_10_u42 : fI u42 15 10 = (fI u 15 10) := Eq.trans (hTu42.2.2.1) (hI_15_10_u35)
              have hI_15_11_u42 : fI u42 15 11 = (fI u 15 11) := Eq.trans (hTu42.2.2.2.1) (hI_15_11_u35)
              have hI_15_12_u42 : fI u42 15 12 = (fI u 15 12) := Eq.trans (hTu42.2.2.2.2) (hI_15_12_u35)
              refine lv_iconst (v := 1) hx hb dX5_readUnit_111 (by decide) ?_
              refine hret _ _ _ _ _ _ dX5_readUnit_112 rfl ?_ hO
              exact ⟨Or.inr rfl, hJ, hT, hW⟩
            · refine lv_aload_n hx hb dX5_readUnit_89 rfl (lv_at hl 1 rfl) ?_
              refine gf_RX5_9 (v := .ref (a 1)) C hO 27 cW_27 rfl dX5_readUnit_90 ?_
              refine gf_RX5_94 (v := .int (fI u 1 6)) C hO 1 cW_1 rfl dX5_readUnit_93 ?_
              refine lv_goto (tgt := 101) hx hb dX5_readUnit_96 (by decide) ?_
              refine cVv (w := cW cy a) (As := [.int (fI u 1 6)]) (rest := []) C hO (T_X4_add l D cy a _ (by exact hJ) (by exact hW) ((fI u 1 6))) (cwV 1 ht (gV wd_759 wd_760 wd_761 wd_113 wd_762) rfl rfl rfl hd_yX4_add ⟨Nat.le_of_ble_eq_true rfl, Nat.le_of_ble_eq_true rfl⟩) 24 rfl cW_24 rfl rfl hl.1 (Nat.le_of_ble_eq_true rfl) dX5_readUnit_101 rfl ⟨Nat.zero_le _, Nat.zero_le _⟩ (fun u45 H locs hp46 hO => ?_)
              have g47 : 0 ≤ (fI u 15 9).toInt ∧ (fI u 15 9).toInt ≤ 8 := by have h := CI_15_9 hJ; exact h
              have g48 : 0 ≤ (fI u 15 10).toInt ∧ (fI u 15 10).toInt ≤ 14 := by have h := CI_15_10 hJ; exact h
              have g49 : 0 ≤ (fI u 15 11).toInt ∧ (fI u 15 11).toInt ≤ 8 := by have h := CI_15_11 hJ; exact h
              have g50 : 0 ≤ (fI u 15 12).toInt ∧ (fI u 15 12).toInt ≤ 6 := by have h := CI_15_12 hJ; exact h
              obtain ⟨hJ, hTu45, hW⟩ := hp46
              have hT : KT u u45 := KT.tr (by exact hT) hTu45.1
              have hI_15_9_u45 : fI u45 15 9 = (fI u 15 9) := hTu45.2.1
              have hI_15_10_u45 : fI u45 15 10 = (fI u 15 10) := hTu45.2.2.1
              have hI_15_11_u45 : fI u45 15 11 = (fI u 15 11) := hTu45.2.2.2.1
              have hI_15_12_u45 : fI u45 15 12 = (fI u 15 12) := hTu45.2.2.2.2
              refine lv_aload_n hx hb dX5_readUnit_104 rfl (lv_at hl 1 rfl) ?_
              refine gf_RX5_9 (v := .ref (a 1)) C hO 27 cW_27 rfl dX5_readUnit_105 ?_
              refine cVv (w := cW cy a) (As := []) (rest := []) C hO (T_X7_advance l D cy a _ (by exact hJ) (by exact hW)) (cwV 0 ht (gV wd_695 wd_541 wd_542 wd_111 wd_543) rfl rfl rfl hd_yX7_advance ⟨Nat.le_of_ble_eq_true rfl, Nat.le_of_ble_eq_true rfl⟩) 1 rfl cW_1 rfl rfl hl.1 (Nat.le_of_ble_eq_true rfl) dX5_readUnit_108 rfl ⟨Nat.zero_le _, Nat.zero_le _⟩ (fun u52 H locs hp53 hO => ?_)
              obtain ⟨hJ, hTu52, hW⟩ := hp53
              have hT : KT u u52 := KT.tr (by exact hT) hTu52.1
              have hI_15_9_u52 : fI u52 15 9 = (fI u 15 9) := Eq.trans (hTu52.2.1) (hI_15_9_u45)
              have hI_15_10_u52 : fI u52 15 10 = (fI u 15 10) := Eq.trans (hTu52.2.2.1) (hI_15_10_u45)
              have hI_15_11_u52 : fI u52 15 11 = (fI u 15 11) := Eq.trans (hTu52.2.2.2.1) (hI_15_11_u45)
              have hI_15_12_u52 : fI u52 15 12 = (fI u 15 12) := Eq.trans (hTu52.2.2.2.2) (hI_15_12_u45)
              refine lv_iconst (v := 1) hx hb dX5_readUnit_111 (by decide) ?_
              refine hret _ _ _ _ _ _ dX5_readUnit_112 rfl ?_ hO
              exact ⟨Or.inr rfl, hJ, hT, hW⟩
          · refine lv_aload_n hx hb dX5_readUnit_69 rfl (lv_at hl 1 rfl) ?_
            refine lv_iload_n hx hb dX5_readUnit_70 rfl (lv_at hl 2 rfl) ?_
            refine cVi (w := cW cy a) (As := [.int 1]) (rest := []) C hO (T_X5_readInner_1 l D cy a _ (by exact hJ) (by exact hW)) (cwV 1 ht (gV wd_782 wd_784 wd_24 wd_114 wd_785) rfl rfl rfl hd_yX5_readInner ⟨Nat.le_of_ble_eq_true rfl, Nat.le_of_ble_eq_true rfl⟩) 27 rfl cW_27 rfl rfl hl.1 (Nat.le_of_ble_eq_true rfl) dX5_readUnit_71 rfl ⟨Nat.zero_le _, Nat.zero_le _⟩ (fun r54 u55 H locs hp56 hO => ?_)
            obtain ⟨hr54, hJ, hTu55, hW⟩ := hp56
            have gr54 : 0 ≤ r54.toInt ∧ r54.toInt ≤ 1 := by rcases hr54 with h | h <;> rw [h] <;> decide
            have hT : KT u u55 := KT.tr (by exact hT) hTu55
            refine hret _ _ _ _ _ _ dX5_readUnit_74 (by rcases hr54 with h | h <;> rw [h] <;> rfl) ?_ hO
            exact ⟨hr54, hJ, hT, hW⟩
        · refine lv_aload_n hx hb dX5_readUnit_41 rfl (lv_at hl 1 rfl) ?_
          refine lv_iconst (v := 2) hx hb dX5_readUnit_42 (by decide) ?_
          refine cVi (w := cW cy a) (As := [.int 2]) (rest := []) C hO (T_X5_refuse l D cy a _ (by exact hJ) (by exact hW) (2)) (cwV 1 ht (gV wd_691 wd_693 wd_6 wd_114 wd_694) rfl rfl rfl hd_yX5_refuse ⟨Nat.le_of_ble_eq_true rfl, Nat.le_of_ble_eq_true rfl⟩) 27 rfl cW_27 rfl rfl hl.1 (Nat.le_of_ble_eq_true rfl) dX5_readUnit_43 rfl ⟨Nat.zero_le _, Nat.zero_le _⟩ (fun r57 u58 H locs hp59 hO => ?_)
          have g60 : 0 ≤ (fI u 15 9).toInt ∧ (fI u 15 9).toInt ≤ 8 := by have h := CI_15_9 hJ; exact h
          have g61 : 0 ≤ (fI u 15 10).toInt ∧ (fI u 15 10).toInt ≤ 14 := by have h := CI_15_10 hJ; exact h
          have g62 : 0 ≤ (fI u 15 11).toInt ∧ (fI u 15 11).toInt ≤ 8 := by have h := CI_15_11 hJ; exact h
          have g63 : 0 ≤ (fI u 15 12).toInt ∧ (fI u 15 12).toInt ≤ 6 := by have h := CI_15_12 hJ; exact h
          obtain ⟨hr57, hJ, hTu58, hW⟩ := hp59
          subst hr57
          have hT : KT u u58 := KT.tr (by exact hT) hTu58.1
          have hI_15_9_u58 : fI u58 15 9 = (fI u 15 9) := hTu58.2.1
          have hI_15_10_u58 : fI u58 15 10 = (fI u 15 10) := hTu58.2.2.1
          have hI_15_11_u58 : fI u58 15 11 = (fI u 15 11) := hTu58.2.2.2.1
          have hI_15_12_u58 : fI u58 15 12 = (fI u 15 12) := hTu58.2.2.2.2
          refine hret _ _ _ _ _ _ dX5_readUnit_46 rfl ?_ hO
          exact ⟨Or.inl rfl, hJ, hT, hW⟩
set_option maxHeartbeats 4000000 in
set_option maxRecDepth 100000 in
theorem T_X5_readProduct_1 (l : Launch) (D : va_G) (cy : Nat → ClassId) (a : Nat → Nat) (u : St) (hJ : CI a u) (hW : fR u 2 = a 15)   : Mi l D cy (cW cy a) yX5_readProduct (.code yX5_readProduct cX5_readProduct 5 (some .boolean)) (rmo 49 1113) [.ref (a 27), .int 1] u (fun (r : Int32) (u' : St) => (r = 0 ∨ r = 1) ∧ (CI a u') ∧ (KT u u') ∧ (fR u' 2 = a 15)) := by
  refine Mi.of (own := RX5) rfl (by decide) (Nat.le_of_ble_eq_true rfl) ?_
  have hT : KT u u := KT.rf
  intro p e s m below meth c A Q ls C hret hO hl
  obtain ⟨hx, hb, hml, hown, ht, hK, hA⟩ := id C
  have hl : lv_has ls 5 [(0, .ref (a 27)), (1, .int 1)] := hl
  refine lv_aload_n hx hb dX5_readProduct_0 rfl (lv_at hl 0 rfl) ?_
  refine lv_iload_n hx hb dX5_readProduct_1 rfl (lv_at hl 1 rfl) ?_
  refine cVi (w := cW cy a) (As := [.int 1]) (rest := []) C hO (T_X5_readUnit_1 l D cy a _ (by exact hJ) (by exact hW)) (cwV 1 ht (gV wd_771 wd_773 wd_23 wd_114 wd_774) rfl rfl rfl hd_yX5_readUnit ⟨Nat.le_of_ble_eq_true rfl, Nat.le_of_ble_eq_true rfl⟩) 27 rfl cW_27 rfl rfl hl.1 (Nat.le_of_ble_eq_true rfl) dX5_readProduct_2 rfl ⟨Nat.zero_le _, Nat.zero_le _⟩ (fun r1 u2 H locs hp3 hO => ?_)
  obtain ⟨hr1, hJ, hTu2, hW⟩ := hp3
  have gr1 : 0 ≤ r1.toInt ∧ r1.toInt ≤ 1 := by rcases hr1 with h | h <;> rw [h] <;> decide
  have hT : KT u u2 := KT.tr (by exact hT) hTu2
  refine lv_istore_n (lv' := [(2, .int r1), (0, .ref (a 27)), (1, .int 1)]) hx hb dX5_readProduct_5 rfl hl (by decide) rfl (fun ls hl => ?_)
  refine lv_iconst (v := 0) hx hb dX5_readProduct_6 (by decide) ?_
  refine lv_istore_n (lv' := [(3, .int 0), (2, .int r1), (0, .ref (a 27)), (1, .int 1)]) hx hb dX5_readProduct_7 rfl hl (by decide) rfl (fun ls hl => ?_)
  have LP_8_k5 : ∀ (n : Nat) (u4 : St) (H : Heap) (locs : List Loc) (ls : Array Slot) (i_k5 : Int32) (w2_k5 : Int32), Wo D A (cW cy a u4) s.heap H locs → lv_has ls 5 [(3, .int i_k5), (2, .int w2_k5), (0, .ref (a 27)), (1, .int 1)] → CI a u4 → KT u u4 → fR u4 2 = a 15 → 0 ≤ i_k5.toInt ∧ i_k5.toInt ≤ 1600 → 0 ≤ w2_k5.toInt ∧ w2_k5.toInt ≤ 1 → 1600 - i_k5.toInt < (n : Int) → W p l e (rmo 49 1113) s m [.ref (a 27), .int 1].toArray below meth c H locs 0 0 Q (F0 m 8 ls []) := by
    intro n
    induction n with
    | zero =>
      intro u4 H locs ls i_k5 w2_k5 hO hl hJ hT hW iv0_k5 iv1_k5 hm_k5
      exact absurd hm_k5 (by omega)
    | succ n ih_k5 =>
      intro u4 H locs ls i_k5 w2_k5 hO hl hJ hT hW iv0_k5 iv1_k5 hm_k5
      refine lv_iload_n hx hb dX5_readProduct_8 rfl (lv_at hl 0 rfl) ?_
      refine lv_sipush (v := 1600) hx hb dX5_readProduct_9 (by decide) ?_
      refine cs_ge (tgt := 73) (X := (i_k5).toInt) (Y := 1600) hx hb dX5_readProduct_12 (by decide) rfl rfl (fun c6 => ?_) (fun c6 => ?_)
      · refine lv_iload_n hx hb dX5_readProduct_73 rfl (lv_at hl 1 rfl) ?_
        have hw2_k5 : w2_k5 = 0 ∨ w2_k5 = 1 := i_b01 rfl (by omega) (by omega)
        refine hret _ _ _ _ _ _ dX5_readProduct_74 (by rcases hw2_k5 with h | h <;> rw [h] <;> rfl) ?_ hO
        exact ⟨hw2_k5, hJ, hT, hW⟩
      · refine lv_iload_n hx hb dX5_readProduct_15 rfl (lv_at hl 1 rfl) ?_
        refine bs_eq (tgt := 73) (X := (w2_k5).toInt) hx hb dX5_readProduct_16 (by decide) rfl (fun c7 => ?_) (fun c7 => ?_)
        · refine lv_iload_n hx hb dX5_readProduct_73 rfl (lv_at hl 1 rfl) ?_
          have hw2_k5 : w2_k5 = 0 ∨ w2_k5 = 1 := i_b01 rfl (by omega) (by omega)
          refine hret _ _ _ _ _ _ dX5_readProduct_74 (by rcases hw2_k5 with h | h <;> rw [h] <;> rfl) ?_ hO
          exact ⟨hw2_k5, hJ, hT, hW⟩
        · refine lv_aload_n hx hb dX5_readProduct_19 rfl (lv_at hl 2 rfl) ?_
          refine gf_RX5_9 (v := .ref (a 1)) C hO 27 cW_27 rfl dX5_readProduct_20 ?_
          refine gf_RX5_36 (v := .int (fI u4 1 4)) C hO 1 cW_1 rfl dX5_readProduct_23 ?_
          refine cSi (w := cW cy a) (As := [.int (fI u4 1 4)]) (rest := []) C hO (T_X5_isTimes l D cy a _ (by exact hJ) ((fI u4 1 4))) (va_cwS 1 ht (gSS wd_786 wd_787 wd_114 wd_788) rfl rfl rfl hd_yX5_isTimes ⟨Nat.le_of_ble_eq_true rfl, Nat.le_of_ble_eq_true rfl⟩)  rfl hl.1 (Nat.le_of_ble_eq_true rfl) dX5_readProduct_26 rfl ⟨Nat.zero_le _, Nat.zero_le _⟩ (fun r8 u9 H locs hp10 hO => ?_)
          obtain ⟨hr8, hu9⟩ := hp10
          have gr8 : 0 ≤ r8.toInt ∧ r8.toInt ≤ 1 := by rcases hr8 with h | h <;> rw [h] <;> decide
          rw [hu9] at hO
          refine bs_eq (tgt := 73) (X := (r8).toInt) hx hb dX5_readProduct_29 (by decide) rfl (fun c11 => ?_) (fun c11 => ?_)
          · refine lv_iload_n hx hb dX5_readProduct_73 rfl (lv_at hl 1 rfl) ?_
            have hw2_k5 : w2_k5 = 0 ∨ w2_k5 = 1 := i_b01 rfl (by omega) (by omega)
            refine hret _ _ _ _ _ _ dX5_readProduct_74 (by rcases hw2_k5 with h | h <;> rw [h] <;> rfl) ?_ hO
            exact ⟨hw2_k5, hJ, hT, hW⟩
          · refine lv_aload_n hx hb dX5_readProduct_32 rfl (lv_at hl 2 rfl) ?_
            refine gf_RX5_9 (v := .ref (a 1)) C hO 27 cW_27 rfl dX5_readProduct_33 ?_
            refine gf_RX5_36 (v := .int (fI u4 1 4)) C hO 1 cW_1 rfl dX5_readProduct_36 ?_
            refine lv_istore (lv' := [(4, .int (fI u4 1 4)), (3, .int i_k5), (2, .int w2_k5), (0, .ref (a 27)), (1, .int 1)]) hx hb dX5_readProduct_39 hl (by decide) rfl (fun ls hl => ?_)
            refine lv_aload_n hx hb dX5_readProduct_41 rfl (lv_at hl 3 rfl) ?_
            refine gf_RX5_9 (v := .ref (a 1)) C hO 27 cW_27 rfl dX5_readProduct_42 ?_
            refine cVv (w := cW cy a) (As := []) (rest := []) C hO (T_X7_advance l D cy a _ (by exact hJ) (by exact hW)) (cwV 0 ht (gV wd_695 wd_541 wd_542 wd_111 wd_543) rfl rfl rfl hd_yX7_advance ⟨Nat.le_of_ble_eq_true rfl, Nat.le_of_ble_eq_true rfl⟩) 1 rfl cW_1 rfl rfl hl.1 (Nat.le_of_ble_eq_true rfl) dX5_readProduct_45 rfl ⟨Nat.zero_le _, Nat.zero_le _⟩ (fun u13 H locs hp14 hO => ?_)
            have g15 : 0 ≤ (fI u4 15 9).toInt ∧ (fI u4 15 9).toInt ≤ 8 := by have h := CI_15_9 hJ; exact h
            have g16 : 0 ≤ (fI u4 15 10).toInt ∧ (fI u4 15 10).toInt ≤ 14 := by have h := CI_15_10 hJ; exact h
            have g17 : 0 ≤ (fI u4 15 11).toInt ∧ (fI u4 15 11).toInt ≤ 8 := by have h := CI_15_11 hJ; exact h
            have g18 : 0 ≤ (fI u4 15 12).toInt ∧ (fI u4 15 12).toInt ≤ 6 := by have h := CI_15_12 hJ; exact h
            obtain ⟨hJ, hTu13, hW⟩ := hp14
            have hT : KT u u13 := KT.tr (by exact hT) hTu13.1
            have hI_15_9_u13 : fI u13 15 9 = (fI u4 15 9) := hTu13.2.1
            have hI_15_10_u13 : fI u13 15 10 = (fI u4 15 10) := hTu13.2.2.1
            have hI_15_11_u13 : fI u13 15 11 = (fI u4 15 11) := hTu13.2.2.2.1
            have hI_15_12_u13 : fI u13 15 12 = (fI u4 15 12) := hTu13.2.2.2.2
            refine lv_aload_n hx hb dX5_readProduct_48 rfl (lv_at hl 3 rfl) ?_
            refine lv_iload_n hx hb dX5_readProduct_49 rfl (lv_at hl 4 rfl) ?_
            refine cVi (w := cW cy a) (As := [.int 1]) (rest := []) C hO (T_X5_readUnit_1 l D cy a _ (by exact hJ) (by exact hW)) (cwV 1 ht (gV wd_771 wd_773 wd_23 wd_114 wd_774) rfl rfl rfl hd_yX5_readUnit ⟨Nat.le_of_ble_eq_true rfl, Nat.le_of_ble_eq_true rfl⟩) 27 rfl cW_27 rfl rfl hl.1 (Nat.le_of_ble_eq_true rfl) dX5_readProduct_50 rfl ⟨Nat.zero_le _, Nat.zero_le _⟩ (fun r19 u20 H locs hp21 hO => ?_)
            obtain ⟨hr19, hJ, hTu20, hW⟩ := hp21
            have gr19 : 0 ≤ r19.toInt ∧ r19.toInt ≤ 1 := by rcases hr19 with h | h <;> rw [h] <;> decide
            have hT : KT u u20 := KT.tr (by exact hT) hTu20
            refine lv_istore_n (lv' := [(2, .int r19), (4, .int (fI u4 1 4)), (3, .int i_k5), (0, .ref (a 27)), (1, .int 1)]) hx hb dX5_readProduct_53 rfl hl (by decide) rfl (fun ls hl => ?_)
            refine lv_aload_n hx hb dX5_readProduct_54 rfl (lv_at hl 3 rfl) ?_
            refine gf_RX5_15 (v := .ref (a 15)) C hO 27 cW_27 (congrArg (fun z : Nat => some (Value.ref z)) hW) dX5_readProduct_55 ?_
            refine gf_RX5_173 (v := .ref (a 24)) C hO 15 cW_15 rfl dX5_readProduct_58 ?_
            refine lv_iload hx hb dX5_readProduct_61 (lv_at hl 1 rfl) ?_
            refine lv_ineg hx hb dX5_readProduct_63 ?_
            refine lv_topi (fun z22 ez22 => ?_)
            refine cVv (w := cW cy a) (As := [.int z22]) (rest := []) C hO (T_X4_add l D cy a _ (by exact hJ) (by exact hW) (z22)) (cwV 1 ht (gV wd_759 wd_760 wd_761 wd_113 wd_762) rfl rfl rfl hd_yX4_add ⟨Nat.le_of_ble_eq_true rfl, Nat.le_of_ble_eq_true rfl⟩) 24 rfl cW_24 rfl rfl hl.1 (Nat.le_of_ble_eq_true rfl) dX5_readProduct_64 rfl ⟨Nat.zero_le _, Nat.zero_le _⟩ (fun u24 H locs hp25 hO => ?_)
            have g26 : 0 ≤ (fI u20 15 9).toInt ∧ (fI u20 15 9).toInt ≤ 8 := by have h := CI_15_9 hJ; exact h
            have g27 : 0 ≤ (fI u20 15 10).toInt ∧ (fI u20 15 10).toInt ≤ 14 := by have h := CI_15_10 hJ; exact h
            have g28 : 0 ≤ (fI u20 15 11).toInt ∧ (fI u20 15 11).toInt ≤ 8 := by have h := CI_15_11 hJ; exact h
            have g29 : 0 ≤ (fI u20 15 12).toInt ∧ (fI u20 15 12).toInt ≤ 6 := by have h := CI_15_12 hJ; exact h
            obtain ⟨hJ, hTu24, hW⟩ := hp25
            have hT : KT u u24 := KT.tr (by exact hT) hTu24.1
            have hI_15_9_u24 : fI u24 15 9 = (fI u20 15 9) := hTu24.2.1
            have hI_15_10_u24 : fI u24 15 10 = (fI u20 15 10) := hTu24.2.2.1
            have hI_15_11_u24 : fI u24 15 11 = (fI u20 15 11) := hTu24.2.2.2.1
            have hI_15_12_u24 : fI u24 15 12 = (fI u20 15 12) := hTu24.2.2.2.2
            have e30 : ((i_k5 + 1)).toInt = (i_k5).toInt + 1 := i_add rfl rfl (by omega)
            refine lv_iinc (v := (i_k5 + 1)) (lv' := [(3, .int (i_k5 + 1)), (2, .int r19), (4, .int (fI u4 1 4)), (0, .ref (a 27)), (1, .int 1)]) hx hb dX5_readProduct_67 hl (k := 2) rfl rfl (by decide) rfl (fun ls hl => ?_)
            refine lv_goto (tgt := 8) hx hb dX5_readProduct_70 (by decide) ?_
            exact ih_k5 _ _ _ _ ((i_k5 + 1)) (r19) hO (lv_sub hl [0, 1, 3, 4] rfl) (by exact hJ) (by exact hT) (by exact hW) (by first | decide | omega) (by first | decide | omega) (by first | decide | omega)
  exact LP_8_k5 4000 _ _ _ _ (0) (r1) hO (lv_sub hl [0, 1, 2, 3] rfl) (by exact hJ) (by exact hT) (by exact hW) (by first | decide | omega) (by first | decide | omega) (by first | decide | omega)
set_option maxHeartbeats 4000000 in
set_option maxRecDepth 100000 in
theorem T_X5_readSum_1 (l : Launch) (D : va_G) (cy : Nat → ClassId) (a : Nat → Nat) (u : St) (hJ : CI a u) (hW : fR u 2 = a 15)   : Mi l D cy (cW cy a) yX5_readSum (.code yX5_readSum cX5_readSum 5 (some .boolean)) (rmo 50 1137) [.ref (a 27), .int 1] u (fun (r : Int32) (u' : St) => (r = 0 ∨ r = 1) ∧ (CI a u') ∧ (KT u u') ∧ (fR u' 2 = a 15)) := by
  refine Mi.of (own := RX5) rfl (by decide) (Nat.le_of_ble_eq_true rfl) ?_
  have hT : KT u u := KT.rf
  intro p e s m below meth c A Q ls C hret hO hl
  obtain ⟨hx, hb, hml, hown, ht, hK, hA⟩ := id C
  have hl : lv_has ls 5 [(0, .ref (a 27)), (1, .int 1)] := hl
  refine lv_aload_n hx hb dX5_readSum_0 rfl (lv_at hl 0 rfl) ?_
  refine lv_iload_n hx hb dX5_readSum_1 rfl (lv_at hl 1 rfl) ?_
  refine cVi (w := cW cy a) (As := [.int 1]) (rest := []) C hO (T_X5_readProduct_1 l D cy a _ (by exact hJ) (by exact hW)) (cwV 1 ht (gV wd_767 wd_769 wd_22 wd_114 wd_770) rfl rfl rfl hd_yX5_readProduct ⟨Nat.le_of_ble_eq_true rfl, Nat.le_of_ble_eq_true rfl⟩) 27 rfl cW_27 rfl rfl hl.1 (Nat.le_of_ble_eq_true rfl) dX5_readSum_2 rfl ⟨Nat.zero_le _, Nat.zero_le _⟩ (fun r1 u2 H locs hp3 hO => ?_)
  obtain ⟨hr1, hJ, hTu2, hW⟩ := hp3
  have gr1 : 0 ≤ r1.toInt ∧ r1.toInt ≤ 1 := by rcases hr1 with h | h <;> rw [h] <;> decide
  have hT : KT u u2 := KT.tr (by exact hT) hTu2
  refine lv_istore_n (lv' := [(2, .int r1), (0, .ref (a 27)), (1, .int 1)]) hx hb dX5_readSum_5 rfl hl (by decide) rfl (fun ls hl => ?_)
  refine lv_iconst (v := 0) hx hb dX5_readSum_6 (by decide) ?_
  refine lv_istore_n (lv' := [(3, .int 0), (2, .int r1), (0, .ref (a 27)), (1, .int 1)]) hx hb dX5_readSum_7 rfl hl (by decide) rfl (fun ls hl => ?_)
  have LP_8_k5 : ∀ (n : Nat) (u4 : St) (H : Heap) (locs : List Loc) (ls : Array Slot) (i_k5 : Int32) (w2_k5 : Int32), Wo D A (cW cy a u4) s.heap H locs → lv_has ls 5 [(3, .int i_k5), (2, .int w2_k5), (0, .ref (a 27)), (1, .int 1)] → CI a u4 → KT u u4 → fR u4 2 = a 15 → 0 ≤ i_k5.toInt ∧ i_k5.toInt ≤ 1600 → 0 ≤ w2_k5.toInt ∧ w2_k5.toInt ≤ 1 → 1600 - i_k5.toInt < (n : Int) → W p l e (rmo 50 1137) s m [.ref (a 27), .int 1].toArray below meth c H locs 0 0 Q (F0 m 8 ls []) := by
    intro n
    induction n with
    | zero =>
      intro u4 H locs ls i_k5 w2_k5 hO hl hJ hT hW iv0_k5 iv1_k5 hm_k5
      exact absurd hm_k5 (by omega)
    | succ n ih_k5 =>
      intro u4 H locs ls i_k5 w2_k5 hO hl hJ hT hW iv0_k5 iv1_k5 hm_k5
      refine lv_iload_n hx hb dX5_readSum_8 rfl (lv_at hl 0 rfl) ?_
      refine lv_sipush (v := 1600) hx hb dX5_readSum_9 (by decide) ?_
      refine cs_ge (tgt := 84) (X := (i_k5).toInt) (Y := 1600) hx hb dX5_readSum_12 (by decide) rfl rfl (fun c6 => ?_) (fun c6 => ?_)
      · refine lv_iload_n hx hb dX5_readSum_84 rfl (lv_at hl 1 rfl) ?_
        have hw2_k5 : w2_k5 = 0 ∨ w2_k5 = 1 := i_b01 rfl (by omega) (by omega)
        refine hret _ _ _ _ _ _ dX5_readSum_85 (by rcases hw2_k5 with h | h <;> rw [h] <;> rfl) ?_ hO
        exact ⟨hw2_k5, hJ, hT, hW⟩
      · refine lv_iload_n hx hb dX5_readSum_15 rfl (lv_at hl 1 rfl) ?_
        refine bs_eq (tgt := 84) (X := (w2_k5).toInt) hx hb dX5_readSum_16 (by decide) rfl (fun c7 => ?_) (fun c7 => ?_)
        · refine lv_iload_n hx hb dX5_readSum_84 rfl (lv_at hl 1 rfl) ?_
          have hw2_k5 : w2_k5 = 0 ∨ w2_k5 = 1 := i_b01 rfl (by omega) (by omega)
          refine hret _ _ _ _ _ _ dX5_readSum_85 (by rcases hw2_k5 with h | h <;> rw [h] <;> rfl) ?_ hO
          exact ⟨hw2_k5, hJ, hT, hW⟩
        · refine lv_aload_n hx hb dX5_readSum_19 rfl (lv_at hl 2 rfl) ?_
          refine gf_RX5_9 (v := .ref (a 1)) C hO 27 cW_27 rfl dX5_readSum_20 ?_
          refine gf_RX5_36 (v := .int (fI u4 1 4)) C hO 1 cW_1 rfl dX5_readSum_23 ?_
          refine lv_bipush (v := 43) hx hb dX5_readSum_26 (by decide) ?_
          refine cs_eq (tgt := 43) (X := ((fI u4 1 4)).toInt) (Y := 43) hx hb dX5_readSum_28 (by decide) rfl rfl (fun c8 => ?_) (fun c8 => ?_)
          · refine lv_aload_n hx hb dX5_readSum_43 rfl (lv_at hl 2 rfl) ?_
            refine gf_RX5_9 (v := .ref (a 1)) C hO 27 cW_27 rfl dX5_readSum_44 ?_
            refine gf_RX5_36 (v := .int (fI u4 1 4)) C hO 1 cW_1 rfl dX5_readSum_47 ?_
            refine lv_istore (lv' := [(4, .int (fI u4 1 4)), (3, .int i_k5), (2, .int w2_k5), (0, .ref (a 27)), (1, .int 1)]) hx hb dX5_readSum_50 hl (by decide) rfl (fun ls hl => ?_)
            refine lv_aload_n hx hb dX5_readSum_52 rfl (lv_at hl 3 rfl) ?_
            refine gf_RX5_9 (v := .ref (a 1)) C hO 27 cW_27 rfl dX5_readSum_53 ?_
            refine cVv (w := cW cy a) (As := []) (rest := []) C hO (T_X7_advance l D cy a _ (by exact hJ) (by exact hW)) (cwV 0 ht (gV wd_695 wd_541 wd_542 wd_111 wd_543) rfl rfl rfl hd_yX7_advance ⟨Nat.le_of_ble_eq_true rfl, Nat.le_of_ble_eq_true rfl⟩) 1 rfl cW_1 rfl rfl hl.1 (Nat.le_of_ble_eq_true rfl) dX5_readSum_56 rfl ⟨Nat.zero_le _, Nat.zero_le _⟩ (fun u10 H locs hp11 hO => ?_)
            have g12 : 0 ≤ (fI u4 15 9).toInt ∧ (fI u4 15 9).toInt ≤ 8 := by have h := CI_15_9 hJ; exact h
            have g13 : 0 ≤ (fI u4 15 10).toInt ∧ (fI u4 15 10).toInt ≤ 14 := by have h := CI_15_10 hJ; exact h
            have g14 : 0 ≤ (fI u4 15 11).toInt ∧ (fI u4 15 11).toInt ≤ 8 := by have h := CI_15_11 hJ; exact h
            have g15 : 0 ≤ (fI u4 15 12).toInt ∧ (fI u4 15 12).toInt ≤ 6 := by have h := CI_15_12 hJ; exact h
            obtain ⟨hJ, hTu10, hW⟩ := hp11
            have hT : KT u u10 := KT.tr (by exact hT) hTu10.1
            have hI_15_9_u10 : fI u10 15 9 = (fI u4 15 9) := hTu10.2.1
            have hI_15_10_u10 : fI u10 15 10 = (fI u4 15 10) := hTu10.2.2.1
            have hI_15_11_u10 : fI u10 15 11 = (fI u4 15 11) := hTu10.2.2.2.1
            have hI_15_12_u10 : fI u10 15 12 = (fI u4 15 12) := hTu10.2.2.2.2
            refine lv_aload_n hx hb dX5_readSum_59 rfl (lv_at hl 3 rfl) ?_
            refine lv_iload_n hx hb dX5_readSum_60 rfl (lv_at hl 4 rfl) ?_
            refine cVi (w := cW cy a) (As := [.int 1]) (rest := []) C hO (T_X5_readProduct_1 l D cy a _ (by exact hJ) (by exact hW)) (cwV 1 ht (gV wd_767 wd_769 wd_22 wd_114 wd_770) rfl rfl rfl hd_yX5_readProduct ⟨Nat.le_of_ble_eq_true rfl, Nat.le_of_ble_eq_true rfl⟩) 27 rfl cW_27 rfl rfl hl.1 (Nat.le_of_ble_eq_true rfl) dX5_readSum_61 rfl ⟨Nat.zero_le _, Nat.zero_le _⟩ (fun r16 u17 H locs hp18 hO => ?_)
            obtain ⟨hr16, hJ, hTu17, hW⟩ := hp18
            have gr16 : 0 ≤ r16.toInt ∧ r16.toInt ≤ 1 := by rcases hr16 with h | h <;> rw [h] <;> decide
            have hT : KT u u17 := KT.tr (by exact hT) hTu17
            refine lv_istore_n (lv' := [(2, .int r16), (4, .int (fI u4 1 4)), (3, .int i_k5), (0, .ref (a 27)), (1, .int 1)]) hx hb dX5_readSum_64 rfl hl (by decide) rfl (fun ls hl => ?_)
            refine lv_aload_n hx hb dX5_readSum_65 rfl (lv_at hl 3 rfl) ?_
            refine gf_RX5_15 (v := .ref (a 15)) C hO 27 cW_27 (congrArg (fun z : Nat => some (Value.ref z)) hW) dX5_readSum_66 ?_
            refine gf_RX5_173 (v := .ref (a 24)) C hO 15 cW_15 rfl dX5_readSum_69 ?_
            refine lv_iload hx hb dX5_readSum_72 (lv_at hl 1 rfl) ?_
            refine lv_ineg hx hb dX5_readSum_74 ?_
            refine lv_topi (fun z19 ez19 => ?_)
            refine cVv (w := cW cy a) (As := [.int z19]) (rest := []) C hO (T_X4_add l D cy a _ (by exact hJ) (by exact hW) (z19)) (cwV 1 ht (gV wd_759 wd_760 wd_761 wd_113 wd_762) rfl rfl rfl hd_yX4_add ⟨Nat.le_of_ble_eq_true rfl, Nat.le_of_ble_eq_true rfl⟩) 24 rfl cW_24 rfl rfl hl.1 (Nat.le_of_ble_eq_true rfl) dX5_readSum_75 rfl ⟨Nat.zero_le _, Nat.zero_le _⟩ (fun u21 H locs hp22 hO => ?_)
            have g23 : 0 ≤ (fI u17 15 9).toInt ∧ (fI u17 15 9).toInt ≤ 8 := by have h := CI_15_9 hJ; exact h
            have g24 : 0 ≤ (fI u17 15 10).toInt ∧ (fI u17 15 10).toInt ≤ 14 := by have h := CI_15_10 hJ; exact h
            have g25 : 0 ≤ (fI u17 15 11).toInt ∧ (fI u17 15 11).toInt ≤ 8 := by have h := CI_15_11 hJ; exact h
            have g26 : 0 ≤ (fI u17 15 12).toInt ∧ (fI u17 15 12).toInt ≤ 6 := by have h := CI_15_12 hJ; exact h
            obtain ⟨hJ, hTu21, hW⟩ := hp22
            have hT : KT u u21 := KT.tr (by exact hT) hTu21.1
            have hI_15_9_u21 : fI u21 15 9 = (fI u17 15 9) := hTu21.2.1
            have hI_15_10_u21 : fI u21 15 10 = (fI u17 15 10) := hTu21.2.2.1
            have hI_15_11_u21 : fI u21 15 11 = (fI u17 15 11) := hTu21.2.2.2.1
            have hI_15_12_u21 : fI u21 15 12 = (fI u17 15 12) := hTu21.2.2.2.2
            have e27 : ((i_k5 + 1)).toInt = (i_k5).toInt + 1 := i_add rfl rfl (by omega)
            refine lv_iinc (v := (i_k5 + 1)) (lv' := [(3, .int (i_k5 + 1)), (2, .int r16), (4, .int (fI u4 1 4)), (0, .ref (a 27)), (1, .int 1)]) hx hb dX5_readSum_78 hl (k := 2) rfl rfl (by decide) rfl (fun ls hl => ?_)
            refine lv_goto (tgt := 8) hx hb dX5_readSum_81 (by decide) ?_
            exact ih_k5 _ _ _ _ ((i_k5 + 1)) (r16) hO (lv_sub hl [0, 1, 3, 4] rfl) (by exact hJ) (by exact hT) (by exact hW) (by first | decide | omega) (by first | decide | omega) (by first | decide | omega)
          · refine lv_aload_n hx hb dX5_readSum_31 rfl (lv_at hl 2 rfl) ?_
            refine gf_RX5_9 (v := .ref (a 1)) C hO 27 cW_27 rfl dX5_readSum_32 ?_
            refine gf_RX5_36 (v := .int (fI u4 1 4)) C hO 1 cW_1 rfl dX5_readSum_35 ?_
            refine lv_bipush (v := 45) hx hb dX5_readSum_38 (by decide) ?_
            refine cs_ne (tgt := 84) (X := ((fI u4 1 4)).toInt) (Y := 45) hx hb dX5_readSum_40 (by decide) rfl rfl (fun c28 => ?_) (fun c28 => ?_)
            · refine lv_iload_n hx hb dX5_readSum_84 rfl (lv_at hl 1 rfl) ?_
              have hw2_k5 : w2_k5 = 0 ∨ w2_k5 = 1 := i_b01 rfl (by omega) (by omega)
              refine hret _ _ _ _ _ _ dX5_readSum_85 (by rcases hw2_k5 with h | h <;> rw [h] <;> rfl) ?_ hO
              exact ⟨hw2_k5, hJ, hT, hW⟩
            · refine lv_aload_n hx hb dX5_readSum_43 rfl (lv_at hl 2 rfl) ?_
              refine gf_RX5_9 (v := .ref (a 1)) C hO 27 cW_27 rfl dX5_readSum_44 ?_
              refine gf_RX5_36 (v := .int (fI u4 1 4)) C hO 1 cW_1 rfl dX5_readSum_47 ?_
              refine lv_istore (lv' := [(4, .int (fI u4 1 4)), (3, .int i_k5), (2, .int w2_k5), (0, .ref (a 27)), (1, .int 1)]) hx hb dX5_readSum_50 hl (by decide) rfl (fun ls hl => ?_)
              refine lv_aload_n hx hb dX5_readSum_52 rfl (lv_at hl 3 rfl) ?_
              refine gf_RX5_9 (v := .ref (a 1)) C hO 27 cW_27 rfl dX5_readSum_53 ?_
              refine cVv (w := cW cy a) (As := []) (rest := []) C hO (T_X7_advance l D cy a _ (by exact hJ) (by exact hW)) (cwV 0 ht (gV wd_695 wd_541 wd_542 wd_111 wd_543) rfl rfl rfl hd_yX7_advance ⟨Nat.le_of_ble_eq_true rfl, Nat.le_of_ble_eq_true rfl⟩) 1 rfl cW_1 rfl rfl hl.1 (Nat.le_of_ble_eq_true rfl) dX5_readSum_56 rfl ⟨Nat.zero_le _, Nat.zero_le _⟩ (fun u30 H locs hp31 hO => ?_)
              have g32 : 0 ≤ (fI u4 15 9).toInt ∧ (fI u4 15 9).toInt ≤ 8 := by have h := CI_15_9 hJ; exact h
              have g33 : 0 ≤ (fI u4 15 10).toInt ∧ (fI u4 15 10).toInt ≤ 14 := by have h := CI_15_10 hJ; exact h
              have g34 : 0 ≤ (fI u4 15 11).toInt ∧ (fI u4 15 11).toInt ≤ 8 := by have h := CI_15_11 hJ; exact h
              have g35 : 0 ≤ (fI u4 15 12).toInt ∧ (fI u4 15 12).toInt ≤ 6 := by have h := CI_15_12 hJ; exact h
              obtain ⟨hJ, hTu30, hW⟩ := hp31
              have hT : KT u u30 := KT.tr (by exact hT) hTu30.1
              have hI_15_9_u30 : fI u30 15 9 = (fI u4 15 9) := hTu30.2.1
              have hI_15_10_u30 : fI u30 15 10 = (fI u4 15 10) := hTu30.2.2.1
              have hI_15_11_u30 : fI u30 15 11 = (fI u4 15 11) := hTu30.2.2.2.1
              have hI_15_12_u30 : fI u30 15 12 = (fI u4 15 12) := hTu30.2.2.2.2
              refine lv_aload_n hx hb dX5_readSum_59 rfl (lv_at hl 3 rfl) ?_
              refine lv_iload_n hx hb dX5_readSum_60 rfl (lv_at hl 4 rfl) ?_
              refine cVi (w := cW cy a) (As := [.int 1]) (rest := []) C hO (T_X5_readProduct_1 l D cy a _ (by exact hJ) (by exact hW)) (cwV 1 ht (gV wd_767 wd_769 wd_22 wd_114 wd_770) rfl rfl rfl hd_yX5_readProduct ⟨Nat.le_of_ble_eq_true rfl, Nat.le_of_ble_eq_true rfl⟩) 27 rfl cW_27 rfl rfl hl.1 (Nat.le_of_ble_eq_true rfl) dX5_readSum_61 rfl ⟨Nat.zero_le _, Nat.zero_le _⟩ (fun r36 u37 H locs hp38 hO => ?_)
              obtain ⟨hr36, hJ, hTu37, hW⟩ := hp38
              have gr36 : 0 ≤ r36.toInt ∧ r36.toInt ≤ 1 := by rcases hr36 with h | h <;> rw [h] <;> decide
              have hT : KT u u37 := KT.tr (by exact hT) hTu37
              refine lv_istore_n (lv' := [(2, .int r36), (4, .int (fI u4 1 4)), (3, .int i_k5), (0, .ref (a 27)), (1, .int 1)]) hx hb dX5_readSum_64 rfl hl (by decide) rfl (fun ls hl => ?_)
              refine lv_aload_n hx hb dX5_readSum_65 rfl (lv_at hl 3 rfl) ?_
              refine gf_RX5_15 (v := .ref (a 15)) C hO 27 cW_27 (congrArg (fun z : Nat => some (Value.ref z)) hW) dX5_readSum_66 ?_
              refine gf_RX5_173 (v := .ref (a 24)) C hO 15 cW_15 rfl dX5_readSum_69 ?_
              refine lv_iload hx hb dX5_readSum_72 (lv_at hl 1 rfl) ?_
              refine lv_ineg hx hb dX5_readSum_74 ?_
              refine lv_topi (fun z39 ez39 => ?_)
              refine cVv (w := cW cy a) (As := [.int z39]) (rest := []) C hO (T_X4_add l D cy a _ (by exact hJ) (by exact hW) (z39)) (cwV 1 ht (gV wd_759 wd_760 wd_761 wd_113 wd_762) rfl rfl rfl hd_yX4_add ⟨Nat.le_of_ble_eq_true rfl, Nat.le_of_ble_eq_true rfl⟩) 24 rfl cW_24 rfl rfl hl.1 (Nat.le_of_ble_eq_true rfl) dX5_readSum_75 rfl ⟨Nat.zero_le _, Nat.zero_le _⟩ (fun u41 H locs hp42 hO => ?_)
              have g43 : 0 ≤ (fI u37 15 9).toInt ∧ (fI u37 15 9).toInt ≤ 8 := by have h := CI_15_9 hJ; exact h
              have g44 : 0 ≤ (fI u37 15 10).toInt ∧ (fI u37 15 10).toInt ≤ 14 := by have h := CI_15_10 hJ; exact h
              have g45 : 0 ≤ (fI u37 15 11).toInt ∧ (fI u37 15 11).toInt ≤ 8 := by have h := CI_15_11 hJ; exact h
              have g46 : 0 ≤ (fI u37 15 12).toInt ∧ (fI u37 15 12).toInt ≤ 6 := by have h := CI_15_12 hJ; exact h
              obtain ⟨hJ, hTu41, hW⟩ := hp42
              have hT : KT u u41 := KT.tr (by exact hT) hTu41.1
              have hI_15_9_u41 : fI u41 15 9 = (fI u37 15 9) := hTu41.2.1
              have hI_15_10_u41 : fI u41 15 10 = (fI u37 15 10) := hTu41.2.2.1
              have hI_15_11_u41 : fI u41 15 11 = (fI u37 15 11) := hTu41.2.2.2.1
              have hI_15_12_u41 : fI u41 15 12 = (fI u37 15 12) := hTu41.2.2.2.2
              have e47 : ((i_k5 + 1)).toInt = (i_k5).toInt + 1 := i_add rfl rfl (by omega)
              refine lv_iinc (v := (i_k5 + 1)) (lv' := [(3, .int (i_k5 + 1)), (2, .int r36), (4, .int (fI u4 1 4)), (0, .ref (a 27)), (1, .int 1)]) hx hb dX5_readSum_78 hl (k := 2) rfl rfl (by decide) rfl (fun ls hl => ?_)
              refine lv_goto (tgt := 8) hx hb dX5_readSum_81 (by decide) ?_
              exact ih_k5 _ _ _ _ ((i_k5 + 1)) (r36) hO (lv_sub hl [0, 1, 3, 4] rfl) (by exact hJ) (by exact hT) (by exact hW) (by first | decide | omega) (by first | decide | omega) (by first | decide | omega)
  exact LP_8_k5 4000 _ _ _ _ (0) (r1) hO (lv_sub hl [0, 1, 2, 3] rfl) (by exact hJ) (by exact hT) (by exact hW) (by first | decide | omega) (by first | decide | omega) (by first | decide | omega)
set_option maxHeartbeats 4000000 in
set_option maxRecDepth 100000 in
theorem T_X5_readNot_1 (l : Launch) (D : va_G) (cy : Nat → ClassId) (a : Nat → Nat) (u : St) (hJ : CI a u) (hW : fR u 2 = a 15)   : Mi l D cy (cW cy a) yX5_readNot (.code yX5_readNot cX5_readNot 3 (some .boolean)) (rmo 45 1024) [.ref (a 27), .int 1] u (fun (r : Int32) (u' : St) => (r = 0 ∨ r = 1) ∧ (CI a u') ∧ (KT u u') ∧ (fR u' 2 = a 15)) := by
  refine Mi.of (own := RX5) rfl (by decide) (Nat.le_of_ble_eq_true rfl) ?_
  have hT : KT u u := KT.rf
  intro p e s m below meth c A Q ls C hret hO hl
  obtain ⟨hx, hb, hml, hown, ht, hK, hA⟩ := id C
  have hl : lv_has ls 3 [(0, .ref (a 27)), (1, .int 1)] := hl
  refine lv_iload_n hx hb dX5_readNot_0 rfl (lv_at hl 1 rfl) ?_
  refine lv_bipush (v := 6) hx hb dX5_readNot_1 (by decide) ?_
  refine ct_le (tgt := 12) (X := 1) (Y := 6) hx hb dX5_readNot_3 (by decide) rfl rfl (by omega) ?_
  refine lv_aload_n hx hb dX5_readNot_12 rfl (lv_at hl 0 rfl) ?_
  refine gf_RX5_9 (v := .ref (a 1)) C hO 27 cW_27 rfl dX5_readNot_13 ?_
  refine cVv (w := cW cy a) (As := []) (rest := []) C hO (T_X7_advance l D cy a _ (by exact hJ) (by exact hW)) (cwV 0 ht (gV wd_695 wd_541 wd_542 wd_111 wd_543) rfl rfl rfl hd_yX7_advance ⟨Nat.le_of_ble_eq_true rfl, Nat.le_of_ble_eq_true rfl⟩) 1 rfl cW_1 rfl rfl hl.1 (Nat.le_of_ble_eq_true rfl) dX5_readNot_16 rfl ⟨Nat.zero_le _, Nat.zero_le _⟩ (fun u2 H locs hp3 hO => ?_)
  have g4 : 0 ≤ (fI u 15 9).toInt ∧ (fI u 15 9).toInt ≤ 8 := by have h := CI_15_9 hJ; exact h
  have g5 : 0 ≤ (fI u 15 10).toInt ∧ (fI u 15 10).toInt ≤ 14 := by have h := CI_15_10 hJ; exact h
  have g6 : 0 ≤ (fI u 15 11).toInt ∧ (fI u 15 11).toInt ≤ 8 := by have h := CI_15_11 hJ; exact h
  have g7 : 0 ≤ (fI u 15 12).toInt ∧ (fI u 15 12).toInt ≤ 6 := by have h := CI_15_12 hJ; exact h
  obtain ⟨hJ, hTu2, hW⟩ := hp3
  have hT : KT u u2 := KT.tr (by exact hT) hTu2.1
  have hI_15_9_u2 : fI u2 15 9 = (fI u 15 9) := hTu2.2.1
  have hI_15_10_u2 : fI u2 15 10 = (fI u 15 10) := hTu2.2.2.1
  have hI_15_11_u2 : fI u2 15 11 = (fI u 15 11) := hTu2.2.2.2.1
  have hI_15_12_u2 : fI u2 15 12 = (fI u 15 12) := hTu2.2.2.2.2
  refine lv_aload_n hx hb dX5_readNot_19 rfl (lv_at hl 0 rfl) ?_
  refine lv_iload_n hx hb dX5_readNot_20 rfl (lv_at hl 1 rfl) ?_
  refine lv_iconst (v := 1) hx hb dX5_readNot_21 (by decide) ?_
  refine lv_iadd hx hb dX5_readNot_22 ?_
  refine tE (y := 2) rfl ?_
  refine cVi (w := cW cy a) (As := [.int 2]) (rest := []) C hO (T_X5_readOne_2 l D cy a _ (by exact hJ) (by exact hW)) (cwV 1 ht (gV wd_751 wd_753 wd_19 wd_114 wd_754) rfl rfl rfl hd_yX5_readOne ⟨Nat.le_of_ble_eq_true rfl, Nat.le_of_ble_eq_true rfl⟩) 27 rfl cW_27 rfl rfl hl.1 (Nat.le_of_ble_eq_true rfl) dX5_readNot_23 rfl ⟨Nat.zero_le _, Nat.zero_le _⟩ (fun r8 u9 H locs hp10 hO => ?_)
  obtain ⟨hr8, hJ, hTu9, hW⟩ := hp10
  have gr8 : 0 ≤ r8.toInt ∧ r8.toInt ≤ 1 := by rcases hr8 with h | h <;> rw [h] <;> decide
  have hT : KT u u9 := KT.tr (by exact hT) hTu9
  refine lv_istore_n (lv' := [(2, .int r8), (0, .ref (a 27)), (1, .int 1)]) hx hb dX5_readNot_26 rfl hl (by decide) rfl (fun ls hl => ?_)
  refine lv_aload_n hx hb dX5_readNot_27 rfl (lv_at hl 1 rfl) ?_
  refine gf_RX5_15 (v := .ref (a 15)) C hO 27 cW_27 (congrArg (fun z : Nat => some (Value.ref z)) hW) dX5_readNot_28 ?_
  refine gf_RX5_173 (v := .ref (a 24)) C hO 15 cW_15 rfl dX5_readNot_31 ?_
  refine lv_bipush (v := (-15)) hx hb dX5_readNot_34 (by decide) ?_
  refine cVv (w := cW cy a) (As := [.int (-15)]) (rest := []) C hO (T_X4_add l D cy a _ (by exact hJ) (by exact hW) ((-15))) (cwV 1 ht (gV wd_759 wd_760 wd_761 wd_113 wd_762) rfl rfl rfl hd_yX4_add ⟨Nat.le_of_ble_eq_true rfl, Nat.le_of_ble_eq_true rfl⟩) 24 rfl cW_24 rfl rfl hl.1 (Nat.le_of_ble_eq_true rfl) dX5_readNot_36 rfl ⟨Nat.zero_le _, Nat.zero_le _⟩ (fun u12 H locs hp13 hO => ?_)
  have g14 : 0 ≤ (fI u9 15 9).toInt ∧ (fI u9 15 9).toInt ≤ 8 := by have h := CI_15_9 hJ; exact h
  have g15 : 0 ≤ (fI u9 15 10).toInt ∧ (fI u9 15 10).toInt ≤ 14 := by have h := CI_15_10 hJ; exact h
  have g16 : 0 ≤ (fI u9 15 11).toInt ∧ (fI u9 15 11).toInt ≤ 8 := by have h := CI_15_11 hJ; exact h
  have g17 : 0 ≤ (fI u9 15 12).toInt ∧ (fI u9 15 12).toInt ≤ 6 := by have h := CI_15_12 hJ; exact h
  obtain ⟨hJ, hTu12, hW⟩ := hp13
  have hT : KT u u12 := KT.tr (by exact hT) hTu12.1
  have hI_15_9_u12 : fI u12 15 9 = (fI u9 15 9) := hTu12.2.1
  have hI_15_10_u12 : fI u12 15 10 = (fI u9 15 10) := hTu12.2.2.1
  have hI_15_11_u12 : fI u12 15 11 = (fI u9 15 11) := hTu12.2.2.2.1
  have hI_15_12_u12 : fI u12 15 12 = (fI u9 15 12) := hTu12.2.2.2.2
  refine lv_iload_n hx hb dX5_readNot_39 rfl (lv_at hl 0 rfl) ?_
  refine hret _ _ _ _ _ _ dX5_readNot_40 (by rcases hr8 with h | h <;> rw [h] <;> rfl) ?_ hO
  exact ⟨hr8, hJ, hT, hW⟩
set_option maxHeartbeats 4000000 in
set_option maxRecDepth 100000 in
theorem T_X5_readOne_1 (l : Launch) (D : va_G) (cy : Nat → ClassId) (a : Nat → Nat) (u : St) (hJ : CI a u) (hW : fR u 2 = a 15)   : Mi l D cy (cW cy a) yX5_readOne (.code yX5_readOne cX5_readOne 4 (some .boolean)) (rmo 51 1161) [.ref (a 27), .int 1] u (fun (r : Int32) (u' : St) => (r = 0 ∨ r = 1) ∧ (CI a u') ∧ (KT u u') ∧ (fR u' 2 = a 15)) := by
  refine Mi.of (own := RX5) rfl (by decide) (Nat.le_of_ble_eq_true rfl) ?_
  have hT : KT u u := KT.rf
  intro p e s m below meth c A Q ls C hret hO hl
  obtain ⟨hx, hb, hml, hown, ht, hK, hA⟩ := id C
  have hl : lv_has ls 4 [(0, .ref (a 27)), (1, .int 1)] := hl
  refine lv_aload_n hx hb dX5_readOne_0 rfl (lv_at hl 0 rfl) ?_
  refine gf_RX5_9 (v := .ref (a 1)) C hO 27 cW_27 rfl dX5_readOne_1 ?_
  refine gf_RX5_36 (v := .int (fI u 1 4)) C hO 1 cW_1 rfl dX5_readOne_4 ?_
  refine lv_bipush (v := 15) hx hb dX5_readOne_7 (by decide) ?_
  refine cs_ne (tgt := 18) (X := ((fI u 1 4)).toInt) (Y := 15) hx hb dX5_readOne_9 (by decide) rfl rfl (fun c1 => ?_) (fun c1 => ?_)
  · refine lv_aload_n hx hb dX5_readOne_18 rfl (lv_at hl 0 rfl) ?_
    refine lv_iload_n hx hb dX5_readOne_19 rfl (lv_at hl 1 rfl) ?_
    refine cVi (w := cW cy a) (As := [.int 1]) (rest := []) C hO (T_X5_readSum_1 l D cy a _ (by exact hJ) (by exact hW)) (cwV 1 ht (gV wd_763 wd_765 wd_21 wd_114 wd_766) rfl rfl rfl hd_yX5_readSum ⟨Nat.le_of_ble_eq_true rfl, Nat.le_of_ble_eq_true rfl⟩) 27 rfl cW_27 rfl rfl hl.1 (Nat.le_of_ble_eq_true rfl) dX5_readOne_20 rfl ⟨Nat.zero_le _, Nat.zero_le _⟩ (fun r2 u3 H locs hp4 hO => ?_)
    obtain ⟨hr2, hJ, hTu3, hW⟩ := hp4
    have gr2 : 0 ≤ r2.toInt ∧ r2.toInt ≤ 1 := by rcases hr2 with h | h <;> rw [h] <;> decide
    have hT : KT u u3 := KT.tr (by exact hT) hTu3
    refine bs_ne (tgt := 28) (X := (r2).toInt) hx hb dX5_readOne_23 (by decide) rfl (fun c5 => ?_) (fun c5 => ?_)
    · refine lv_aload_n hx hb dX5_readOne_28 rfl (lv_at hl 0 rfl) ?_
      refine gf_RX5_9 (v := .ref (a 1)) C hO 27 cW_27 rfl dX5_readOne_29 ?_
      refine gf_RX5_36 (v := .int (fI u3 1 4)) C hO 1 cW_1 rfl dX5_readOne_32 ?_
      refine lv_istore_n (lv' := [(2, .int (fI u3 1 4)), (0, .ref (a 27)), (1, .int 1)]) hx hb dX5_readOne_35 rfl hl (by decide) rfl (fun ls hl => ?_)
      refine lv_iload_n hx hb dX5_readOne_36 rfl (lv_at hl 0 rfl) ?_
      refine lv_bipush (v := 60) hx hb dX5_readOne_37 (by decide) ?_
      refine cs_eq (tgt := 56) (X := ((fI u3 1 4)).toInt) (Y := 60) hx hb dX5_readOne_39 (by decide) rfl rfl (fun c6 => ?_) (fun c6 => ?_)
      · refine lv_aload_n hx hb dX5_readOne_56 rfl (lv_at hl 1 rfl) ?_
        refine gf_RX5_9 (v := .ref (a 1)) C hO 27 cW_27 rfl dX5_readOne_57 ?_
        refine cVv (w := cW cy a) (As := []) (rest := []) C hO (T_X7_advance l D cy a _ (by exact hJ) (by exact hW)) (cwV 0 ht (gV wd_695 wd_541 wd_542 wd_111 wd_543) rfl rfl rfl hd_yX7_advance ⟨Nat.le_of_ble_eq_true rfl, Nat.le_of_ble_eq_true rfl⟩) 1 rfl cW_1 rfl rfl hl.1 (Nat.le_of_ble_eq_true rfl) dX5_readOne_60 rfl ⟨Nat.zero_le _, Nat.zero_le _⟩ (fun u8 H locs hp9 hO => ?_)
        have g10 : 0 ≤ (fI u3 15 9).toInt ∧ (fI u3 15 9).toInt ≤ 8 := by have h := CI_15_9 hJ; exact h
        have g11 : 0 ≤ (fI u3 15 10).toInt ∧ (fI u3 15 10).toInt ≤ 14 := by have h := CI_15_10 hJ; exact h
        have g12 : 0 ≤ (fI u3 15 11).toInt ∧ (fI u3 15 11).toInt ≤ 8 := by have h := CI_15_11 hJ; exact h
        have g13 : 0 ≤ (fI u3 15 12).toInt ∧ (fI u3 15 12).toInt ≤ 6 := by have h := CI_15_12 hJ; exact h
        obtain ⟨hJ, hTu8, hW⟩ := hp9
        have hT : KT u u8 := KT.tr (by exact hT) hTu8.1
        have hI_15_9_u8 : fI u8 15 9 = (fI u3 15 9) := hTu8.2.1
        have hI_15_10_u8 : fI u8 15 10 = (fI u3 15 10) := hTu8.2.2.1
        have hI_15_11_u8 : fI u8 15 11 = (fI u3 15 11) := hTu8.2.2.2.1
        have hI_15_12_u8 : fI u8 15 12 = (fI u3 15 12) := hTu8.2.2.2.2
        refine lv_aload_n hx hb dX5_readOne_63 rfl (lv_at hl 1 rfl) ?_
        refine lv_iload_n hx hb dX5_readOne_64 rfl (lv_at hl 2 rfl) ?_
        refine cVi (w := cW cy a) (As := [.int 1]) (rest := []) C hO (T_X5_readSum_1 l D cy a _ (by exact hJ) (by exact hW)) (cwV 1 ht (gV wd_763 wd_765 wd_21 wd_114 wd_766) rfl rfl rfl hd_yX5_readSum ⟨Nat.le_of_ble_eq_true rfl, Nat.le_of_ble_eq_true rfl⟩) 27 rfl cW_27 rfl rfl hl.1 (Nat.le_of_ble_eq_true rfl) dX5_readOne_65 rfl ⟨Nat.zero_le _, Nat.zero_le _⟩ (fun r14 u15 H locs hp16 hO => ?_)
        obtain ⟨hr14, hJ, hTu15, hW⟩ := hp16
        have gr14 : 0 ≤ r14.toInt ∧ r14.toInt ≤ 1 := by rcases hr14 with h | h <;> rw [h] <;> decide
        have hT : KT u u15 := KT.tr (by exact hT) hTu15
        refine lv_istore_n (lv' := [(3, .int r14), (2, .int (fI u3 1 4)), (0, .ref (a 27)), (1, .int 1)]) hx hb dX5_readOne_68 rfl hl (by decide) rfl (fun ls hl => ?_)
        refine lv_aload_n hx hb dX5_readOne_69 rfl (lv_at hl 2 rfl) ?_
        refine gf_RX5_15 (v := .ref (a 15)) C hO 27 cW_27 (congrArg (fun z : Nat => some (Value.ref z)) hW) dX5_readOne_70 ?_
        refine gf_RX5_173 (v := .ref (a 24)) C hO 15 cW_15 rfl dX5_readOne_73 ?_
        refine lv_iload_n hx hb dX5_readOne_76 rfl (lv_at hl 1 rfl) ?_
        refine lv_ineg hx hb dX5_readOne_77 ?_
        refine lv_topi (fun z17 ez17 => ?_)
        refine cVv (w := cW cy a) (As := [.int z17]) (rest := []) C hO (T_X4_add l D cy a _ (by exact hJ) (by exact hW) (z17)) (cwV 1 ht (gV wd_759 wd_760 wd_761 wd_113 wd_762) rfl rfl rfl hd_yX4_add ⟨Nat.le_of_ble_eq_true rfl, Nat.le_of_ble_eq_true rfl⟩) 24 rfl cW_24 rfl rfl hl.1 (Nat.le_of_ble_eq_true rfl) dX5_readOne_78 rfl ⟨Nat.zero_le _, Nat.zero_le _⟩ (fun u19 H locs hp20 hO => ?_)
        have g21 : 0 ≤ (fI u15 15 9).toInt ∧ (fI u15 15 9).toInt ≤ 8 := by have h := CI_15_9 hJ; exact h
        have g22 : 0 ≤ (fI u15 15 10).toInt ∧ (fI u15 15 10).toInt ≤ 14 := by have h := CI_15_10 hJ; exact h
        have g23 : 0 ≤ (fI u15 15 11).toInt ∧ (fI u15 15 11).toInt ≤ 8 := by have h := CI_15_11 hJ; exact h
        have g24 : 0 ≤ (fI u15 15 12).toInt ∧ (fI u15 15 12).toInt ≤ 6 := by have h := CI_15_12 hJ; exact h
        obtain ⟨hJ, hTu19, hW⟩ := hp20
        have hT : KT u u19 := KT.tr (by exact hT) hTu19.1
        have hI_15_9_u19 : fI u19 15 9 = (fI u15 15 9) := hTu19.2.1
        have hI_15_10_u19 : fI u19 15 10 = (fI u15 15 10) := hTu19.2.2.1
        have hI_15_11_u19 : fI u19 15 11 = (fI u15 15 11) := hTu19.2.2.2.1
        have hI_15_12_u19 : fI u19 15 12 = (fI u15 15 12) := hTu19.2.2.2.2
        refine lv_iload_n hx hb dX5_readOne_81 rfl (lv_at hl 0 rfl) ?_
        refine hret _ _ _ _ _ _ dX5_readOne_82 (by rcases hr14 with h | h <;> rw [h] <;> rfl) ?_ hO
        exact ⟨hr14, hJ, hT, hW⟩
      · refine lv_iload_n hx hb dX5_readOne_42 rfl (lv_at hl 0 rfl) ?_
        refine lv_bipush (v := 62) hx hb dX5_readOne_43 (by decide) ?_
        refine cs_eq (tgt := 56) (X := ((fI u3 1 4)).toInt) (Y := 62) hx hb dX5_readOne_45 (by decide) rfl rfl (fun c25 => ?_) (fun c25 => ?_)
        · refine lv_aload_n hx hb dX5_readOne_56 rfl (lv_at hl 1 rfl) ?_
          refine gf_RX5_9 (v := .ref (a 1)) C hO 27 cW_27 rfl dX5_readOne_57 ?_
          refine cVv (w := cW cy a) (As := []) (rest := []) C hO (T_X7_advance l D cy a _ (by exact hJ) (by exact hW)) (cwV 0 ht (gV wd_695 wd_541 wd_542 wd_111 wd_543) rfl rfl rfl hd_yX7_advance ⟨Nat.le_of_ble_eq_true rfl, Nat.le_of_ble_eq_true rfl⟩) 1 rfl cW_1 rfl rfl hl.1 (Nat.le_of_ble_eq_true rfl) dX5_readOne_60 rfl ⟨Nat.zero_le _, Nat.zero_le _⟩ (fun u27 H locs hp28 hO => ?_)
          have g29 : 0 ≤ (fI u3 15 9).toInt ∧ (fI u3 15 9).toInt ≤ 8 := by have h := CI_15_9 hJ; exact h
          have g30 : 0 ≤ (fI u3 15 10).toInt ∧ (fI u3 15 10).toInt ≤ 14 := by have h := CI_15_10 hJ; exact h
          have g31 : 0 ≤ (fI u3 15 11).toInt ∧ (fI u3 15 11).toInt ≤ 8 := by have h := CI_15_11 hJ; exact h
          have g32 : 0 ≤ (fI u3 15 12).toInt ∧ (fI u3 15 12).toInt ≤ 6 := by have h := CI_15_12 hJ; exact h
          obtain ⟨hJ, hTu27, hW⟩ := hp28
          have hT : KT u u27 := KT.tr (by exact hT) hTu27.1
          have hI_15_9_u27 : fI u27 15 9 = (fI u3 15 9) := hTu27.2.1
          have hI_15_10_u27 : fI u27 15 10 = (fI u3 15 10) := hTu27.2.2.1
          have hI_15_11_u27 : fI u27 15 11 = (fI u3 15 11) := hTu27.2.2.2.1
          have hI_15_12_u27 : fI u27 15 12 = (fI u3 15 12) := hTu27.2.2.2.2
          refine lv_aload_n hx hb dX5_readOne_63 rfl (lv_at hl 1 rfl) ?_
          refine lv_iload_n hx hb dX5_readOne_64 rfl (lv_at hl 2 rfl) ?_
          refine cVi (w := cW cy a) (As := [.int 1]) (rest := []) C hO (T_X5_readSum_1 l D cy a _ (by exact hJ) (by exact hW)) (cwV 1 ht (gV wd_763 wd_765 wd_21 wd_114 wd_766) rfl rfl rfl hd_yX5_readSum ⟨Nat.le_of_ble_eq_true rfl, Nat.le_of_ble_eq_true rfl⟩) 27 rfl cW_27 rfl rfl hl.1 (Nat.le_of_ble_eq_true rfl) dX5_readOne_65 rfl ⟨Nat.zero_le _, Nat.zero_le _⟩ (fun r33 u34 H locs hp35 hO => ?_)
          obtain ⟨hr33, hJ, hTu34, hW⟩ := hp35
          have gr33 : 0 ≤ r33.toInt ∧ r33.toInt ≤ 1 := by rcases hr33 with h | h <;> rw [h] <;> decide
          have hT : KT u u34 := KT.tr (by exact hT) hTu34
          refine lv_istore_n (lv' := [(3, .int r33), (2, .int (fI u3 1 4)), (0, .ref (a 27)), (1, .int 1)]) hx hb dX5_readOne_68 rfl hl (by decide) rfl (fun ls hl => ?_)
          refine lv_aload_n hx hb dX5_readOne_69 rfl (lv_at hl 2 rfl) ?_
          refine gf_RX5_15 (v := .ref (a 15)) C hO 27 cW_27 (congrArg (fun z : Nat => some (Value.ref z)) hW) dX5_readOne_70 ?_
          refine gf_RX5_173 (v := .ref (a 24)) C hO 15 cW_15 rfl dX5_readOne_73 ?_
          refine lv_iload_n hx hb dX5_readOne_76 rfl (lv_at hl 1 rfl) ?_
          refine lv_ineg hx hb dX5_readOne_77 ?_
          refine lv_topi (fun z36 ez36 => ?_)
          refine cVv (w := cW cy a) (As := [.int z36]) (rest := []) C hO (T_X4_add l D cy a _ (by exact hJ) (by exact hW) (z36)) (cwV 1 ht (gV wd_759 wd_760 wd_761 wd_113 wd_762) rfl rfl rfl hd_yX4_add ⟨Nat.le_of_ble_eq_true rfl, Nat.le_of_ble_eq_true rfl⟩) 24 rfl cW_24 rfl rfl hl.1 (Nat.le_of_ble_eq_true rfl) dX5_readOne_78 rfl ⟨Nat.zero_le _, Nat.zero_le _⟩ (fun u38 H locs hp39 hO => ?_)
          have g40 : 0 ≤ (fI u34 15 9).toInt ∧ (fI u34 15 9).toInt ≤ 8 := by have h := CI_15_9 hJ; exact h
          have g41 : 0 ≤ (fI u34 15 10).toInt ∧ (fI u34 15 10).toInt ≤ 14 := by have h := CI_15_10 hJ; exact h
          have g42 : 0 ≤ (fI u34 15 11).toInt ∧ (fI u34 15 11).toInt ≤ 8 := by have h := CI_15_11 hJ; exact h
          have g43 : 0 ≤ (fI u34 15 12).toInt ∧ (fI u34 15 12).toInt ≤ 6 := by have h := CI_15_12 hJ; exact h
          obtain ⟨hJ, hTu38, hW⟩ := hp39
          have hT : KT u u38 := KT.tr (by exact hT) hTu38.1
          have hI_15_9_u38 : fI u38 15 9 = (fI u34 15 9) := hTu38.2.1
          have hI_15_10_u38 : fI u38 15 10 = (fI u34 15 10) := hTu38.2.2.1
          have hI_15_11_u38 : fI u38 15 11 = (fI u34 15 11) := hTu38.2.2.2.1
          have hI_15_12_u38 : fI u38 15 12 = (fI u34 15 12) := hTu38.2.2.2.2
          refine lv_iload_n hx hb dX5_readOne_81 rfl (lv_at hl 0 rfl) ?_
          refine hret _ _ _ _ _ _ dX5_readOne_82 (by rcases hr33 with h | h <;> rw [h] <;> rfl) ?_ hO
          exact ⟨hr33, hJ, hT, hW⟩
        · refine lv_iload_n hx hb dX5_readOne_48 rfl (lv_at hl 0 rfl) ?_
          refine lv_bipush (v := 61) hx hb dX5_readOne_49 (by decide) ?_
          refine cs_eq (tgt := 56) (X := ((fI u3 1 4)).toInt) (Y := 61) hx hb dX5_readOne_51 (by decide) rfl rfl (fun c44 => ?_) (fun c44 => ?_)
          · refine lv_aload_n hx hb dX5_readOne_56 rfl (lv_at hl 1 rfl) ?_
            refine gf_RX5_9 (v := .ref (a 1)) C hO 27 cW_27 rfl dX5_readOne_57 ?_
            refine cVv (w := cW cy a) (As := []) (rest := []) C hO (T_X7_advance l D cy a _ (by exact hJ) (by exact hW)) (cwV 0 ht (gV wd_695 wd_541 wd_542 wd_111 wd_543) rfl rfl rfl hd_yX7_advance ⟨Nat.le_of_ble_eq_true rfl, Nat.le_of_ble_eq_true rfl⟩) 1 rfl cW_1 rfl rfl hl.1 (Nat.le_of_ble_eq_true rfl) dX5_readOne_60 rfl ⟨Nat.zero_le _, Nat.zero_le _⟩ (fun u46 H locs hp47 hO => ?_)
            have g48 : 0 ≤ (fI u3 15 9).toInt ∧ (fI u3 15 9).toInt ≤ 8 := by have h := CI_15_9 hJ; exact h
            have g49 : 0 ≤ (fI u3 15 10).toInt ∧ (fI u3 15 10).toInt ≤ 14 := by have h := CI_15_10 hJ; exact h
            have g50 : 0 ≤ (fI u3 15 11).toInt ∧ (fI u3 15 11).toInt ≤ 8 := by have h := CI_15_11 hJ; exact h
            have g51 : 0 ≤ (fI u3 15 12).toInt ∧ (fI u3 15 12).toInt ≤ 6 := by have h := CI_15_12 hJ; exact h
            obtain ⟨hJ, hTu46, hW⟩ := hp47
            have hT : KT u u46 := KT.tr (by exact hT) hTu46.1
            have hI_15_9_u46 : fI u46 15 9 = (fI u3 15 9) := hTu46.2.1
            have hI_15_10_u46 : fI u46 15 10 = (fI u3 15 10) := hTu46.2.2.1
            have hI_15_11_u46 : fI u46 15 11 = (fI u3 15 11) := hTu46.2.2.2.1
            have hI_15_12_u46 : fI u46 15 12 = (fI u3 15 12) := hTu46.2.2.2.2
            refine lv_aload_n hx hb dX5_readOne_63 rfl (lv_at hl 1 rfl) ?_
            refine lv_iload_n hx hb dX5_readOne_64 rfl (lv_at hl 2 rfl) ?_
            refine cVi (w := cW cy a) (As := [.int 1]) (rest := []) C hO (T_X5_readSum_1 l D cy a _ (by exact hJ) (by exact hW)) (cwV 1 ht (gV wd_763 wd_765 wd_21 wd_114 wd_766) rfl rfl rfl hd_yX5_readSum ⟨Nat.le_of_ble_eq_true rfl, Nat.le_of_ble_eq_true rfl⟩) 27 rfl cW_27 rfl rfl hl.1 (Nat.le_of_ble_eq_true rfl) dX5_readOne_65 rfl ⟨Nat.zero_le _, Nat.zero_le _⟩ (fun r52 u53 H locs hp54 hO => ?_)
            obtain ⟨hr52, hJ, hTu53, hW⟩ := hp54
            have gr52 : 0 ≤ r52.toInt ∧ r52.toInt ≤ 1 := by rcases hr52 with h | h <;> rw [h] <;> decide
            have hT : KT u u53 := KT.tr (by exact hT) hTu53
            refine lv_istore_n (lv' := [(3, .int r52), (2, .int (fI u3 1 4)), (0, .ref (a 27)), (1, .int 1)]) hx hb dX5_readOne_68 rfl hl (by decide) rfl (fun ls hl => ?_)
            refine lv_aload_n hx hb dX5_readOne_69 rfl (lv_at hl 2 rfl) ?_
            refine gf_RX5_15 (v := .ref (a 15)) C hO 27 cW_27 (congrArg (fun z : Nat => some (Value.ref z)) hW) dX5_readOne_70 ?_
            refine gf_RX5_173 (v := .ref (a 24)) C hO 15 cW_15 rfl dX5_readOne_73 ?_
            refine lv_iload_n hx hb dX5_readOne_76 rfl (lv_at hl 1 rfl) ?_
            refine lv_ineg hx hb dX5_readOne_77 ?_
            refine lv_topi (fun z55 ez55 => ?_)
            refine cVv (w := cW cy a) (As := [.int z55]) (rest := []) C hO (T_X4_add l D cy a _ (by exact hJ) (by exact hW) (z55)) (cwV 1 ht (gV wd_759 wd_760 wd_761 wd_113 wd_762) rfl rfl rfl hd_yX4_add ⟨Nat.le_of_ble_eq_true rfl, Nat.le_of_ble_eq_true rfl⟩) 24 rfl cW_24 rfl rfl hl.1 (Nat.le_of_ble_eq_true rfl) dX5_readOne_78 rfl ⟨Nat.zero_le _, Nat.zero_le _⟩ (fun u57 H locs hp58 hO => ?_)
            have g59 : 0 ≤ (fI u53 15 9).toInt ∧ (fI u53 15 9).toInt ≤ 8 := by have h := CI_15_9 hJ; exact h
            have g60 : 0 ≤ (fI u53 15 10).toInt ∧ (fI u53 15 10).toInt ≤ 14 := by have h := CI_15_10 hJ; exact h
            have g61 : 0 ≤ (fI u53 15 11).toInt ∧ (fI u53 15 11).toInt ≤ 8 := by have h := CI_15_11 hJ; exact h
            have g62 : 0 ≤ (fI u53 15 12).toInt ∧ (fI u53 15 12).toInt ≤ 6 := by have h := CI_15_12 hJ; exact h
            obtain ⟨hJ, hTu57, hW⟩ := hp58
            have hT : KT u u57 := KT.tr (by exact hT) hTu57.1
            have hI_15_9_u57 : fI u57 15 9 = (fI u53 15 9) := hTu57.2.1
            have hI_15_10_u57 : fI u57 15 10 = (fI u53 15 10) := hTu57.2.2.1
            have hI_15_11_u57 : fI u57 15 11 = (fI u53 15 11) := hTu57.2.2.2.1
            have hI_15_12_u57 : fI u57 15 12 = (fI u53 15 12) := hTu57.2.2.2.2
            refine lv_iload_n hx hb dX5_readOne_81 rfl (lv_at hl 0 rfl) ?_
            refine hret _ _ _ _ _ _ dX5_readOne_82 (by rcases hr52 with h | h <;> rw [h] <;> rfl) ?_ hO
            exact ⟨hr52, hJ, hT, hW⟩
          · refine lv_iconst (v := 1) hx hb dX5_readOne_54 (by decide) ?_
            refine hret _ _ _ _ _ _ dX5_readOne_55 rfl ?_ hO
            exact ⟨Or.inr rfl, hJ, hT, hW⟩
    · refine lv_iconst (v := 0) hx hb dX5_readOne_26 (by decide) ?_
      refine hret _ _ _ _ _ _ dX5_readOne_27 rfl ?_ hO
      exact ⟨Or.inl rfl, hJ, hT, hW⟩
  · refine lv_aload_n hx hb dX5_readOne_12 rfl (lv_at hl 0 rfl) ?_
    refine lv_iload_n hx hb dX5_readOne_13 rfl (lv_at hl 1 rfl) ?_
    refine cVi (w := cW cy a) (As := [.int 1]) (rest := []) C hO (T_X5_readNot_1 l D cy a _ (by exact hJ) (by exact hW)) (cwV 1 ht (gV wd_755 wd_757 wd_20 wd_114 wd_758) rfl rfl rfl hd_yX5_readNot ⟨Nat.le_of_ble_eq_true rfl, Nat.le_of_ble_eq_true rfl⟩) 27 rfl cW_27 rfl rfl hl.1 (Nat.le_of_ble_eq_true rfl) dX5_readOne_14 rfl ⟨Nat.zero_le _, Nat.zero_le _⟩ (fun r63 u64 H locs hp65 hO => ?_)
    obtain ⟨hr63, hJ, hTu64, hW⟩ := hp65
    have gr63 : 0 ≤ r63.toInt ∧ r63.toInt ≤ 1 := by rcases hr63 with h | h <;> rw [h] <;> decide
    have hT : KT u u64 := KT.tr (by exact hT) hTu64
    refine hret _ _ _ _ _ _ dX5_readOne_17 (by rcases hr63 with h | h <;> rw [h] <;> rfl) ?_ hO
    exact ⟨hr63, hJ, hT, hW⟩
set_option maxHeartbeats 4000000 in
set_option maxRecDepth 100000 in
theorem T_X5_readBoth_1 (l : Launch) (D : va_G) (cy : Nat → ClassId) (a : Nat → Nat) (u : St) (hJ : CI a u) (hW : fR u 2 = a 15)   : Mi l D cy (cW cy a) yX5_readBoth (.code yX5_readBoth cX5_readBoth 4 (some .boolean)) (rmo 52 1184) [.ref (a 27), .int 1] u (fun (r : Int32) (u' : St) => (r = 0 ∨ r = 1) ∧ (CI a u') ∧ (KT u u') ∧ (fR u' 2 = a 15)) := by
  refine Mi.of (own := RX5) rfl (by decide) (Nat.le_of_ble_eq_true rfl) ?_
  have hT : KT u u := KT.rf
  intro p e s m below meth c A Q ls C hret hO hl
  obtain ⟨hx, hb, hml, hown, ht, hK, hA⟩ := id C
  have hl : lv_has ls 4 [(0, .ref (a 27)), (1, .int 1)] := hl
  refine lv_aload_n hx hb dX5_readBoth_0 rfl (lv_at hl 0 rfl) ?_
  refine lv_iload_n hx hb dX5_readBoth_1 rfl (lv_at hl 1 rfl) ?_
  refine cVi (w := cW cy a) (As := [.int 1]) (rest := []) C hO (T_X5_readOne_1 l D cy a _ (by exact hJ) (by exact hW)) (cwV 1 ht (gV wd_751 wd_753 wd_19 wd_114 wd_754) rfl rfl rfl hd_yX5_readOne ⟨Nat.le_of_ble_eq_true rfl, Nat.le_of_ble_eq_true rfl⟩) 27 rfl cW_27 rfl rfl hl.1 (Nat.le_of_ble_eq_true rfl) dX5_readBoth_2 rfl ⟨Nat.zero_le _, Nat.zero_le _⟩ (fun r1 u2 H locs hp3 hO => ?_)
  obtain ⟨hr1, hJ, hTu2, hW⟩ := hp3
  have gr1 : 0 ≤ r1.toInt ∧ r1.toInt ≤ 1 := by rcases hr1 with h | h <;> rw [h] <;> decide
  have hT : KT u u2 := KT.tr (by exact hT) hTu2
  refine lv_istore_n (lv' := [(2, .int r1), (0, .ref (a 27)), (1, .int 1)]) hx hb dX5_readBoth_5 rfl hl (by decide) rfl (fun ls hl => ?_)
  refine lv_iconst (v := 0) hx hb dX5_readBoth_6 (by decide) ?_
  refine lv_istore_n (lv' := [(3, .int 0), (2, .int r1), (0, .ref (a 27)), (1, .int 1)]) hx hb dX5_readBoth_7 rfl hl (by decide) rfl (fun ls hl => ?_)
  have LP_8_k5 : ∀ (n : Nat) (u4 : St) (H : Heap) (locs : List Loc) (ls : Array Slot) (i_k5 : Int32) (w2_k5 : Int32), Wo D A (cW cy a u4) s.heap H locs → lv_has ls 4 [(3, .int i_k5), (2, .int w2_k5), (0, .ref (a 27)), (1, .int 1)] → CI a u4 → KT u u4 → fR u4 2 = a 15 → 0 ≤ i_k5.toInt ∧ i_k5.toInt ≤ 1600 → 0 ≤ w2_k5.toInt ∧ w2_k5.toInt ≤ 1 → 1600 - i_k5.toInt < (n : Int) → W p l e (rmo 52 1184) s m [.ref (a 27), .int 1].toArray below meth c H locs 0 0 Q (F0 m 8 ls []) := by
    intro n
    induction n with
    | zero =>
      intro u4 H locs ls i_k5 w2_k5 hO hl hJ hT hW iv0_k5 iv1_k5 hm_k5
      exact absurd hm_k5 (by omega)
    | succ n ih_k5 =>
      intro u4 H locs ls i_k5 w2_k5 hO hl hJ hT hW iv0_k5 iv1_k5 hm_k5
      refine lv_iload_n hx hb dX5_readBoth_8 rfl (lv_at hl 0 rfl) ?_
      refine lv_sipush (v := 1600) hx hb dX5_readBoth_9 (by decide) ?_
      refine cs_ge (tgt := 62) (X := (i_k5).toInt) (Y := 1600) hx hb dX5_readBoth_12 (by decide) rfl rfl (fun c6 => ?_) (fun c6 => ?_)
      · refine lv_iload_n hx hb dX5_readBoth_62 rfl (lv_at hl 1 rfl) ?_
        have hw2_k5 : w2_k5 = 0 ∨ w2_k5 = 1 := i_b01 rfl (by omega) (by omega)
        refine hret _ _ _ _ _ _ dX5_readBoth_63 (by rcases hw2_k5 with h | h <;> rw [h] <;> rfl) ?_ hO
        exact ⟨hw2_k5, hJ, hT, hW⟩
      · refine lv_iload_n hx hb dX5_readBoth_15 rfl (lv_at hl 1 rfl) ?_
        refine bs_eq (tgt := 62) (X := (w2_k5).toInt) hx hb dX5_readBoth_16 (by decide) rfl (fun c7 => ?_) (fun c7 => ?_)
        · refine lv_iload_n hx hb dX5_readBoth_62 rfl (lv_at hl 1 rfl) ?_
          have hw2_k5 : w2_k5 = 0 ∨ w2_k5 = 1 := i_b01 rfl (by omega) (by omega)
          refine hret _ _ _ _ _ _ dX5_readBoth_63 (by rcases hw2_k5 with h | h <;> rw [h] <;> rfl) ?_ hO
          exact ⟨hw2_k5, hJ, hT, hW⟩
        · refine lv_aload_n hx hb dX5_readBoth_19 rfl (lv_at hl 2 rfl) ?_
          refine gf_RX5_9 (v := .ref (a 1)) C hO 27 cW_27 rfl dX5_readBoth_20 ?_
          refine gf_RX5_36 (v := .int (fI u4 1 4)) C hO 1 cW_1 rfl dX5_readBoth_23 ?_
          refine lv_bipush (v := 14) hx hb dX5_readBoth_26 (by decide) ?_
          refine cs_ne (tgt := 62) (X := ((fI u4 1 4)).toInt) (Y := 14) hx hb dX5_readBoth_28 (by decide) rfl rfl (fun c8 => ?_) (fun c8 => ?_)
          · refine lv_iload_n hx hb dX5_readBoth_62 rfl (lv_at hl 1 rfl) ?_
            have hw2_k5 : w2_k5 = 0 ∨ w2_k5 = 1 := i_b01 rfl (by omega) (by omega)
            refine hret _ _ _ _ _ _ dX5_readBoth_63 (by rcases hw2_k5 with h | h <;> rw [h] <;> rfl) ?_ hO
            exact ⟨hw2_k5, hJ, hT, hW⟩
          · refine lv_aload_n hx hb dX5_readBoth_31 rfl (lv_at hl 2 rfl) ?_
            refine gf_RX5_9 (v := .ref (a 1)) C hO 27 cW_27 rfl dX5_readBoth_32 ?_
            refine cVv (w := cW cy a) (As := []) (rest := []) C hO (T_X7_advance l D cy a _ (by exact hJ) (by exact hW)) (cwV 0 ht (gV wd_695 wd_541 wd_542 wd_111 wd_543) rfl rfl rfl hd_yX7_advance ⟨Nat.le_of_ble_eq_true rfl, Nat.le_of_ble_eq_true rfl⟩) 1 rfl cW_1 rfl rfl hl.1 (Nat.le_of_ble_eq_true rfl) dX5_readBoth_35 rfl ⟨Nat.zero_le _, Nat.zero_le _⟩ (fun u10 H locs hp11 hO => ?_)
            have g12 : 0 ≤ (fI u4 15 9).toInt ∧ (fI u4 15 9).toInt ≤ 8 := by have h := CI_15_9 hJ; exact h
            have g13 : 0 ≤ (fI u4 15 10).toInt ∧ (fI u4 15 10).toInt ≤ 14 := by have h := CI_15_10 hJ; exact h
            have g14 : 0 ≤ (fI u4 15 11).toInt ∧ (fI u4 15 11).toInt ≤ 8 := by have h := CI_15_11 hJ; exact h
            have g15 : 0 ≤ (fI u4 15 12).toInt ∧ (fI u4 15 12).toInt ≤ 6 := by have h := CI_15_12 hJ; exact h
            obtain ⟨hJ, hTu10, hW⟩ := hp11
            have hT : KT u u10 := KT.tr (by exact hT) hTu10.1
            have hI_15_9_u10 : fI u10 15 9 = (fI u4 15 9) := hTu10.2.1
            have hI_15_10_u10 : fI u10 15 10 = (fI u4 15 10) := hTu10.2.2.1
            have hI_15_11_u10 : fI u10 15 11 = (fI u4 15 11) := hTu10.2.2.2.1
            have hI_15_12_u10 : fI u10 15 12 = (fI u4 15 12) := hTu10.2.2.2.2
            refine lv_aload_n hx hb dX5_readBoth_38 rfl (lv_at hl 2 rfl) ?_
            refine lv_iload_n hx hb dX5_readBoth_39 rfl (lv_at hl 3 rfl) ?_
            refine cVi (w := cW cy a) (As := [.int 1]) (rest := []) C hO (T_X5_readOne_1 l D cy a _ (by exact hJ) (by exact hW)) (cwV 1 ht (gV wd_751 wd_753 wd_19 wd_114 wd_754) rfl rfl rfl hd_yX5_readOne ⟨Nat.le_of_ble_eq_true rfl, Nat.le_of_ble_eq_true rfl⟩) 27 rfl cW_27 rfl rfl hl.1 (Nat.le_of_ble_eq_true rfl) dX5_readBoth_40 rfl ⟨Nat.zero_le _, Nat.zero_le _⟩ (fun r16 u17 H locs hp18 hO => ?_)
            obtain ⟨hr16, hJ, hTu17, hW⟩ := hp18
            have gr16 : 0 ≤ r16.toInt ∧ r16.toInt ≤ 1 := by rcases hr16 with h | h <;> rw [h] <;> decide
            have hT : KT u u17 := KT.tr (by exact hT) hTu17
            refine lv_istore_n (lv' := [(2, .int r16), (3, .int i_k5), (0, .ref (a 27)), (1, .int 1)]) hx hb dX5_readBoth_43 rfl hl (by decide) rfl (fun ls hl => ?_)
            refine lv_aload_n hx hb dX5_readBoth_44 rfl (lv_at hl 2 rfl) ?_
            refine gf_RX5_15 (v := .ref (a 15)) C hO 27 cW_27 (congrArg (fun z : Nat => some (Value.ref z)) hW) dX5_readBoth_45 ?_
            refine gf_RX5_173 (v := .ref (a 24)) C hO 15 cW_15 rfl dX5_readBoth_48 ?_
            refine lv_bipush (v := (-14)) hx hb dX5_readBoth_51 (by decide) ?_
            refine cVv (w := cW cy a) (As := [.int (-14)]) (rest := []) C hO (T_X4_add l D cy a _ (by exact hJ) (by exact hW) ((-14))) (cwV 1 ht (gV wd_759 wd_760 wd_761 wd_113 wd_762) rfl rfl rfl hd_yX4_add ⟨Nat.le_of_ble_eq_true rfl, Nat.le_of_ble_eq_true rfl⟩) 24 rfl cW_24 rfl rfl hl.1 (Nat.le_of_ble_eq_true rfl) dX5_readBoth_53 rfl ⟨Nat.zero_le _, Nat.zero_le _⟩ (fun u20 H locs hp21 hO => ?_)
            have g22 : 0 ≤ (fI u17 15 9).toInt ∧ (fI u17 15 9).toInt ≤ 8 := by have h := CI_15_9 hJ; exact h
            have g23 : 0 ≤ (fI u17 15 10).toInt ∧ (fI u17 15 10).toInt ≤ 14 := by have h := CI_15_10 hJ; exact h
            have g24 : 0 ≤ (fI u17 15 11).toInt ∧ (fI u17 15 11).toInt ≤ 8 := by have h := CI_15_11 hJ; exact h
            have g25 : 0 ≤ (fI u17 15 12).toInt ∧ (fI u17 15 12).toInt ≤ 6 := by have h := CI_15_12 hJ; exact h
            obtain ⟨hJ, hTu20, hW⟩ := hp21
            have hT : KT u u20 := KT.tr (by exact hT) hTu20.1
            have hI_15_9_u20 : fI u20 15 9 = (fI u17 15 9) := hTu20.2.1
            have hI_15_10_u20 : fI u20 15 10 = (fI u17 15 10) := hTu20.2.2.1
            have hI_15_11_u20 : fI u20 15 11 = (fI u17 15 11) := hTu20.2.2.2.1
            have hI_15_12_u20 : fI u20 15 12 = (fI u17 15 12) := hTu20.2.2.2.2
            have e26 : ((i_k5 + 1)).toInt = (i_k5).toInt + 1 := i_add rfl rfl (by omega)
            refine lv_iinc (v := (i_k5 + 1)) (lv' := [(3, .int (i_k5 + 1)), (2, .int r16), (0, .ref (a 27)), (1, .int 1)]) hx hb dX5_readBoth_56 hl (k := 1) rfl rfl (by decide) rfl (fun ls hl => ?_)
            refine lv_goto (tgt := 8) hx hb dX5_readBoth_59 (by decide) ?_
            exact ih_k5 _ _ _ _ ((i_k5 + 1)) (r16) hO (lv_sub hl [0, 1, 2, 3] rfl) (by exact hJ) (by exact hT) (by exact hW) (by first | decide | omega) (by first | decide | omega) (by first | decide | omega)
  exact LP_8_k5 4000 _ _ _ _ (0) (r1) hO (lv_sub hl [0, 1, 2, 3] rfl) (by exact hJ) (by exact hT) (by exact hW) (by first | decide | omega) (by first | decide | omega) (by first | decide | omega)
set_option maxHeartbeats 4000000 in
set_option maxRecDepth 100000 in
theorem T_X5_readFormula_1 (l : Launch) (D : va_G) (cy : Nat → ClassId) (a : Nat → Nat) (u : St) (hJ : CI a u) (hW : fR u 2 = a 15)   : Mi l D cy (cW cy a) yX5_readFormula (.code yX5_readFormula cX5_readFormula 4 (some .boolean)) (rmo 53 1207) [.ref (a 27), .int 1] u (fun (r : Int32) (u' : St) => (r = 0 ∨ r = 1) ∧ (CI a u') ∧ (KT u u') ∧ (fR u' 2 = a 15)) := by
  refine Mi.of (own := RX5) rfl (by decide) (Nat.le_of_ble_eq_true rfl) ?_
  have hT : KT u u := KT.rf
  intro p e s m below meth c A Q ls C hret hO hl
  obtain ⟨hx, hb, hml, hown, ht, hK, hA⟩ := id C
  have hl : lv_has ls 4 [(0, .ref (a 27)), (1, .int 1)] := hl
  refine lv_aload_n hx hb dX5_readFormula_0 rfl (lv_at hl 0 rfl) ?_
  refine lv_iload_n hx hb dX5_readFormula_1 rfl (lv_at hl 1 rfl) ?_
  refine cVi (w := cW cy a) (As := [.int 1]) (rest := []) C hO (T_X5_readBoth_1 l D cy a _ (by exact hJ) (by exact hW)) (cwV 1 ht (gV wd_747 wd_749 wd_18 wd_114 wd_750) rfl rfl rfl hd_yX5_readBoth ⟨Nat.le_of_ble_eq_true rfl, Nat.le_of_ble_eq_true rfl⟩) 27 rfl cW_27 rfl rfl hl.1 (Nat.le_of_ble_eq_true rfl) dX5_readFormula_2 rfl ⟨Nat.zero_le _, Nat.zero_le _⟩ (fun r1 u2 H locs hp3 hO => ?_)
  obtain ⟨hr1, hJ, hTu2, hW⟩ := hp3
  have gr1 : 0 ≤ r1.toInt ∧ r1.toInt ≤ 1 := by rcases hr1 with h | h <;> rw [h] <;> decide
  have hT : KT u u2 := KT.tr (by exact hT) hTu2
  refine lv_istore_n (lv' := [(2, .int r1), (0, .ref (a 27)), (1, .int 1)]) hx hb dX5_readFormula_5 rfl hl (by decide) rfl (fun ls hl => ?_)
  refine lv_iconst (v := 0) hx hb dX5_readFormula_6 (by decide) ?_
  refine lv_istore_n (lv' := [(3, .int 0), (2, .int r1), (0, .ref (a 27)), (1, .int 1)]) hx hb dX5_readFormula_7 rfl hl (by decide) rfl (fun ls hl => ?_)
  have LP_8_k5 : ∀ (n : Nat) (u4 : St) (H : Heap) (locs : List Loc) (ls : Array Slot) (i_k5 : Int32) (w2_k5 : Int32), Wo D A (cW cy a u4) s.heap H locs → lv_has ls 4 [(3, .int i_k5), (2, .int w2_k5), (0, .ref (a 27)), (1, .int 1)] → CI a u4 → KT u u4 → fR u4 2 = a 15 → 0 ≤ i_k5.toInt ∧ i_k5.toInt ≤ 1600 → 0 ≤ w2_k5.toInt ∧ w2_k5.toInt ≤ 1 → 1600 - i_k5.toInt < (n : Int) → W p l e (rmo 53 1207) s m [.ref (a 27), .int 1].toArray below meth c H locs 0 0 Q (F0 m 8 ls []) := by
    intro n
    induction n with
    | zero =>
      intro u4 H locs ls i_k5 w2_k5 hO hl hJ hT hW iv0_k5 iv1_k5 hm_k5
      exact absurd hm_k5 (by omega)
    | succ n ih_k5 =>
      intro u4 H locs ls i_k5 w2_k5 hO hl hJ hT hW iv0_k5 iv1_k5 hm_k5
      refine lv_iload_n hx hb dX5_readFormula_8 rfl (lv_at hl 0 rfl) ?_
      refine lv_sipush (v := 1600) hx hb dX5_readFormula_9 (by decide) ?_
      refine cs_ge (tgt := 62) (X := (i_k5).toInt) (Y := 1600) hx hb dX5_readFormula_12 (by decide) rfl rfl (fun c6 => ?_) (fun c6 => ?_)
      · refine lv_iload_n hx hb dX5_readFormula_62 rfl (lv_at hl 1 rfl) ?_
        have hw2_k5 : w2_k5 = 0 ∨ w2_k5 = 1 := i_b01 rfl (by omega) (by omega)
        refine hret _ _ _ _ _ _ dX5_readFormula_63 (by rcases hw2_k5 with h | h <;> rw [h] <;> rfl) ?_ hO
        exact ⟨hw2_k5, hJ, hT, hW⟩
      · refine lv_iload_n hx hb dX5_readFormula_15 rfl (lv_at hl 1 rfl) ?_
        refine bs_eq (tgt := 62) (X := (w2_k5).toInt) hx hb dX5_readFormula_16 (by decide) rfl (fun c7 => ?_) (fun c7 => ?_)
        · refine lv_iload_n hx hb dX5_readFormula_62 rfl (lv_at hl 1 rfl) ?_
          have hw2_k5 : w2_k5 = 0 ∨ w2_k5 = 1 := i_b01 rfl (by omega) (by omega)
          refine hret _ _ _ _ _ _ dX5_readFormula_63 (by rcases hw2_k5 with h | h <;> rw [h] <;> rfl) ?_ hO
          exact ⟨hw2_k5, hJ, hT, hW⟩
        · refine lv_aload_n hx hb dX5_readFormula_19 rfl (lv_at hl 2 rfl) ?_
          refine gf_RX5_9 (v := .ref (a 1)) C hO 27 cW_27 rfl dX5_readFormula_20 ?_
          refine gf_RX5_36 (v := .int (fI u4 1 4)) C hO 1 cW_1 rfl dX5_readFormula_23 ?_
          refine lv_bipush (v := 13) hx hb dX5_readFormula_26 (by decide) ?_
          refine cs_ne (tgt := 62) (X := ((fI u4 1 4)).toInt) (Y := 13) hx hb dX5_readFormula_28 (by decide) rfl rfl (fun c8 => ?_) (fun c8 => ?_)
          · refine lv_iload_n hx hb dX5_readFormula_62 rfl (lv_at hl 1 rfl) ?_
            have hw2_k5 : w2_k5 = 0 ∨ w2_k5 = 1 := i_b01 rfl (by omega) (by omega)
            refine hret _ _ _ _ _ _ dX5_readFormula_63 (by rcases hw2_k5 with h | h <;> rw [h] <;> rfl) ?_ hO
            exact ⟨hw2_k5, hJ, hT, hW⟩
          · refine lv_aload_n hx hb dX5_readFormula_31 rfl (lv_at hl 2 rfl) ?_
            refine gf_RX5_9 (v := .ref (a 1)) C hO 27 cW_27 rfl dX5_readFormula_32 ?_
            refine cVv (w := cW cy a) (As := []) (rest := []) C hO (T_X7_advance l D cy a _ (by exact hJ) (by exact hW)) (cwV 0 ht (gV wd_695 wd_541 wd_542 wd_111 wd_543) rfl rfl rfl hd_yX7_advance ⟨Nat.le_of_ble_eq_true rfl, Nat.le_of_ble_eq_true rfl⟩) 1 rfl cW_1 rfl rfl hl.1 (Nat.le_of_ble_eq_true rfl) dX5_readFormula_35 rfl ⟨Nat.zero_le _, Nat.zero_le _⟩ (fun u10 H locs hp11 hO => ?_)
            have g12 : 0 ≤ (fI u4 15 9).toInt ∧ (fI u4 15 9).toInt ≤ 8 := by have h := CI_15_9 hJ; exact h
            have g13 : 0 ≤ (fI u4 15 10).toInt ∧ (fI u4 15 10).toInt ≤ 14 := by have h := CI_15_10 hJ; exact h
            have g14 : 0 ≤ (fI u4 15 11).toInt ∧ (fI u4 15 11).toInt ≤ 8 := by have h := CI_15_11 hJ; exact h
            have g15 : 0 ≤ (fI u4 15 12).toInt ∧ (fI u4 15 12).toInt ≤ 6 := by have h := CI_15_12 hJ; exact h
            obtain ⟨hJ, hTu10, hW⟩ := hp11
            have hT : KT u u10 := KT.tr (by exact hT) hTu10.1
            have hI_15_9_u10 : fI u10 15 9 = (fI u4 15 9) := hTu10.2.1
            have hI_15_10_u10 : fI u10 15 10 = (fI u4 15 10) := hTu10.2.2.1
            have hI_15_11_u10 : fI u10 15 11 = (fI u4 15 11) := hTu10.2.2.2.1
            have hI_15_12_u10 : fI u10 15 12 = (fI u4 15 12) := hTu10.2.2.2.2
            refine lv_aload_n hx hb dX5_readFormula_38 rfl (lv_at hl 2 rfl) ?_
            refine lv_iload_n hx hb dX5_readFormula_39 rfl (lv_at hl 3 rfl) ?_
            refine cVi (w := cW cy a) (As := [.int 1]) (rest := []) C hO (T_X5_readBoth_1 l D cy a _ (by exact hJ) (by exact hW)) (cwV 1 ht (gV wd_747 wd_749 wd_18 wd_114 wd_750) rfl rfl rfl hd_yX5_readBoth ⟨Nat.le_of_ble_eq_true rfl, Nat.le_of_ble_eq_true rfl⟩) 27 rfl cW_27 rfl rfl hl.1 (Nat.le_of_ble_eq_true rfl) dX5_readFormula_40 rfl ⟨Nat.zero_le _, Nat.zero_le _⟩ (fun r16 u17 H locs hp18 hO => ?_)
            obtain ⟨hr16, hJ, hTu17, hW⟩ := hp18
            have gr16 : 0 ≤ r16.toInt ∧ r16.toInt ≤ 1 := by rcases hr16 with h | h <;> rw [h] <;> decide
            have hT : KT u u17 := KT.tr (by exact hT) hTu17
            refine lv_istore_n (lv' := [(2, .int r16), (3, .int i_k5), (0, .ref (a 27)), (1, .int 1)]) hx hb dX5_readFormula_43 rfl hl (by decide) rfl (fun ls hl => ?_)
            refine lv_aload_n hx hb dX5_readFormula_44 rfl (lv_at hl 2 rfl) ?_
            refine gf_RX5_15 (v := .ref (a 15)) C hO 27 cW_27 (congrArg (fun z : Nat => some (Value.ref z)) hW) dX5_readFormula_45 ?_
            refine gf_RX5_173 (v := .ref (a 24)) C hO 15 cW_15 rfl dX5_readFormula_48 ?_
            refine lv_bipush (v := (-13)) hx hb dX5_readFormula_51 (by decide) ?_
            refine cVv (w := cW cy a) (As := [.int (-13)]) (rest := []) C hO (T_X4_add l D cy a _ (by exact hJ) (by exact hW) ((-13))) (cwV 1 ht (gV wd_759 wd_760 wd_761 wd_113 wd_762) rfl rfl rfl hd_yX4_add ⟨Nat.le_of_ble_eq_true rfl, Nat.le_of_ble_eq_true rfl⟩) 24 rfl cW_24 rfl rfl hl.1 (Nat.le_of_ble_eq_true rfl) dX5_readFormula_53 rfl ⟨Nat.zero_le _, Nat.zero_le _⟩ (fun u20 H locs hp21 hO => ?_)
            have g22 : 0 ≤ (fI u17 15 9).toInt ∧ (fI u17 15 9).toInt ≤ 8 := by have h := CI_15_9 hJ; exact h
            have g23 : 0 ≤ (fI u17 15 10).toInt ∧ (fI u17 15 10).toInt ≤ 14 := by have h := CI_15_10 hJ; exact h
            have g24 : 0 ≤ (fI u17 15 11).toInt ∧ (fI u17 15 11).toInt ≤ 8 := by have h := CI_15_11 hJ; exact h
            have g25 : 0 ≤ (fI u17 15 12).toInt ∧ (fI u17 15 12).toInt ≤ 6 := by have h := CI_15_12 hJ; exact h
            obtain ⟨hJ, hTu20, hW⟩ := hp21
            have hT : KT u u20 := KT.tr (by exact hT) hTu20.1
            have hI_15_9_u20 : fI u20 15 9 = (fI u17 15 9) := hTu20.2.1
            have hI_15_10_u20 : fI u20 15 10 = (fI u17 15 10) := hTu20.2.2.1
            have hI_15_11_u20 : fI u20 15 11 = (fI u17 15 11) := hTu20.2.2.2.1
            have hI_15_12_u20 : fI u20 15 12 = (fI u17 15 12) := hTu20.2.2.2.2
            have e26 : ((i_k5 + 1)).toInt = (i_k5).toInt + 1 := i_add rfl rfl (by omega)
            refine lv_iinc (v := (i_k5 + 1)) (lv' := [(3, .int (i_k5 + 1)), (2, .int r16), (0, .ref (a 27)), (1, .int 1)]) hx hb dX5_readFormula_56 hl (k := 1) rfl rfl (by decide) rfl (fun ls hl => ?_)
            refine lv_goto (tgt := 8) hx hb dX5_readFormula_59 (by decide) ?_
            exact ih_k5 _ _ _ _ ((i_k5 + 1)) (r16) hO (lv_sub hl [0, 1, 2, 3] rfl) (by exact hJ) (by exact hT) (by exact hW) (by first | decide | omega) (by first | decide | omega) (by first | decide | omega)
  exact LP_8_k5 4000 _ _ _ _ (0) (r1) hO (lv_sub hl [0, 1, 2, 3] rfl) (by exact hJ) (by exact hT) (by exact hW) (by first | decide | omega) (by first | decide | omega) (by first | decide | omega)
set_option maxHeartbeats 4000000 in
set_option maxRecDepth 100000 in
theorem T_X5_readInner_0 (l : Launch) (D : va_G) (cy : Nat → ClassId) (a : Nat → Nat) (u : St) (hJ : CI a u) (hW : fR u 2 = a 15)   : Mi l D cy (cW cy a) yX5_readInner (.code yX5_readInner cX5_readInner 2 (some .boolean)) (rmo 54 1230) [.ref (a 27), .int 0] u (fun (r : Int32) (u' : St) => (r = 0 ∨ r = 1) ∧ (CI a u') ∧ (KT u u') ∧ (fR u' 2 = a 15)) := by
  refine Mi.of (own := RX5) rfl (by decide) (Nat.le_of_ble_eq_true rfl) ?_
  have hT : KT u u := KT.rf
  intro p e s m below meth c A Q ls C hret hO hl
  obtain ⟨hx, hb, hml, hown, ht, hK, hA⟩ := id C
  have hl : lv_has ls 2 [(0, .ref (a 27)), (1, .int 0)] := hl
  refine lv_iload_n hx hb dX5_readInner_0 rfl (lv_at hl 1 rfl) ?_
  refine lv_bipush (v := 6) hx hb dX5_readInner_1 (by decide) ?_
  refine ct_le (tgt := 12) (X := 0) (Y := 6) hx hb dX5_readInner_3 (by decide) rfl rfl (by omega) ?_
  refine lv_aload_n hx hb dX5_readInner_12 rfl (lv_at hl 0 rfl) ?_
  refine gf_RX5_9 (v := .ref (a 1)) C hO 27 cW_27 rfl dX5_readInner_13 ?_
  refine cVv (w := cW cy a) (As := []) (rest := []) C hO (T_X7_advance l D cy a _ (by exact hJ) (by exact hW)) (cwV 0 ht (gV wd_695 wd_541 wd_542 wd_111 wd_543) rfl rfl rfl hd_yX7_advance ⟨Nat.le_of_ble_eq_true rfl, Nat.le_of_ble_eq_true rfl⟩) 1 rfl cW_1 rfl rfl hl.1 (Nat.le_of_ble_eq_true rfl) dX5_readInner_16 rfl ⟨Nat.zero_le _, Nat.zero_le _⟩ (fun u2 H locs hp3 hO => ?_)
  have g4 : 0 ≤ (fI u 15 9).toInt ∧ (fI u 15 9).toInt ≤ 8 := by have h := CI_15_9 hJ; exact h
  have g5 : 0 ≤ (fI u 15 10).toInt ∧ (fI u 15 10).toInt ≤ 14 := by have h := CI_15_10 hJ; exact h
  have g6 : 0 ≤ (fI u 15 11).toInt ∧ (fI u 15 11).toInt ≤ 8 := by have h := CI_15_11 hJ; exact h
  have g7 : 0 ≤ (fI u 15 12).toInt ∧ (fI u 15 12).toInt ≤ 6 := by have h := CI_15_12 hJ; exact h
  obtain ⟨hJ, hTu2, hW⟩ := hp3
  have hT : KT u u2 := KT.tr (by exact hT) hTu2.1
  have hI_15_9_u2 : fI u2 15 9 = (fI u 15 9) := hTu2.2.1
  have hI_15_10_u2 : fI u2 15 10 = (fI u 15 10) := hTu2.2.2.1
  have hI_15_11_u2 : fI u2 15 11 = (fI u 15 11) := hTu2.2.2.2.1
  have hI_15_12_u2 : fI u2 15 12 = (fI u 15 12) := hTu2.2.2.2.2
  refine lv_aload_n hx hb dX5_readInner_19 rfl (lv_at hl 0 rfl) ?_
  refine lv_iload_n hx hb dX5_readInner_20 rfl (lv_at hl 1 rfl) ?_
  refine lv_iconst (v := 1) hx hb dX5_readInner_21 (by decide) ?_
  refine lv_iadd hx hb dX5_readInner_22 ?_
  refine tE (y := 1) rfl ?_
  refine cVi (w := cW cy a) (As := [.int 1]) (rest := []) C hO (T_X5_readFormula_1 l D cy a _ (by exact hJ) (by exact hW)) (cwV 1 ht (gV wd_743 wd_745 wd_17 wd_114 wd_746) rfl rfl rfl hd_yX5_readFormula ⟨Nat.le_of_ble_eq_true rfl, Nat.le_of_ble_eq_true rfl⟩) 27 rfl cW_27 rfl rfl hl.1 (Nat.le_of_ble_eq_true rfl) dX5_readInner_23 rfl ⟨Nat.zero_le _, Nat.zero_le _⟩ (fun r8 u9 H locs hp10 hO => ?_)
  obtain ⟨hr8, hJ, hTu9, hW⟩ := hp10
  have gr8 : 0 ≤ r8.toInt ∧ r8.toInt ≤ 1 := by rcases hr8 with h | h <;> rw [h] <;> decide
  have hT : KT u u9 := KT.tr (by exact hT) hTu9
  refine bs_eq (tgt := 42) (X := (r8).toInt) hx hb dX5_readInner_26 (by decide) rfl (fun c11 => ?_) (fun c11 => ?_)
  · refine lv_iconst (v := 0) hx hb dX5_readInner_42 (by decide) ?_
    refine hret _ _ _ _ _ _ dX5_readInner_43 rfl ?_ hO
    exact ⟨Or.inl rfl, hJ, hT, hW⟩
  · refine lv_aload_n hx hb dX5_readInner_29 rfl (lv_at hl 0 rfl) ?_
    refine lv_bipush (v := 41) hx hb dX5_readInner_30 (by decide) ?_
    refine cVi (w := cW cy a) (As := [.int 41]) (rest := []) C hO (T_X5_skip l D cy a _ (by exact hJ) (by exact hW) (41)) (cwV 1 ht (gV wd_719 wd_721 wd_11 wd_114 wd_722) rfl rfl rfl hd_yX5_skip ⟨Nat.le_of_ble_eq_true rfl, Nat.le_of_ble_eq_true rfl⟩) 27 rfl cW_27 rfl rfl hl.1 (Nat.le_of_ble_eq_true rfl) dX5_readInner_32 rfl ⟨Nat.zero_le _, Nat.zero_le _⟩ (fun r12 u13 H locs hp14 hO => ?_)
    have g15 : 0 ≤ (fI u9 15 9).toInt ∧ (fI u9 15 9).toInt ≤ 8 := by have h := CI_15_9 hJ; exact h
    have g16 : 0 ≤ (fI u9 15 10).toInt ∧ (fI u9 15 10).toInt ≤ 14 := by have h := CI_15_10 hJ; exact h
    have g17 : 0 ≤ (fI u9 15 11).toInt ∧ (fI u9 15 11).toInt ≤ 8 := by have h := CI_15_11 hJ; exact h
    have g18 : 0 ≤ (fI u9 15 12).toInt ∧ (fI u9 15 12).toInt ≤ 6 := by have h := CI_15_12 hJ; exact h
    obtain ⟨hr12, hJ, hTu13, hW⟩ := hp14
    have gr12 : 0 ≤ r12.toInt ∧ r12.toInt ≤ 1 := by rcases hr12 with h | h <;> rw [h] <;> decide
    have hT : KT u u13 := KT.tr (by exact hT) hTu13.1
    have hI_15_9_u13 : fI u13 15 9 = (fI u9 15 9) := hTu13.2.1
    have hI_15_10_u13 : fI u13 15 10 = (fI u9 15 10) := hTu13.2.2.1
    have hI_15_11_u13 : fI u13 15 11 = (fI u9 15 11) := hTu13.2.2.2.1
    have hI_15_12_u13 : fI u13 15 12 = (fI u9 15 12) := hTu13.2.2.2.2
    refine bs_eq (tgt := 42) (X := (r12).toInt) hx hb dX5_readInner_35 (by decide) rfl (fun c19 => ?_) (fun c19 => ?_)
    · refine lv_iconst (v := 0) hx hb dX5_readInner_42 (by decide) ?_
      refine hret _ _ _ _ _ _ dX5_readInner_43 rfl ?_ hO
      exact ⟨Or.inl rfl, hJ, hT, hW⟩
    · refine lv_iconst (v := 1) hx hb dX5_readInner_38 (by decide) ?_
      refine lv_goto (tgt := 43) hx hb dX5_readInner_39 (by decide) ?_
      refine hret _ _ _ _ _ _ dX5_readInner_43 rfl ?_ hO
      exact ⟨Or.inr rfl, hJ, hT, hW⟩
set_option maxHeartbeats 4000000 in
set_option maxRecDepth 100000 in
theorem T_X5_readUnit_0 (l : Launch) (D : va_G) (cy : Nat → ClassId) (a : Nat → Nat) (u : St) (hJ : CI a u) (hW : fR u 2 = a 15)   : Mi l D cy (cW cy a) yX5_readUnit (.code yX5_readUnit cX5_readUnit 3 (some .boolean)) (rmo 55 1251) [.ref (a 27), .int 0] u (fun (r : Int32) (u' : St) => (r = 0 ∨ r = 1) ∧ (CI a u') ∧ (KT u u') ∧ (fR u' 2 = a 15)) := by
  refine Mi.of (own := RX5) rfl (by decide) (Nat.le_of_ble_eq_true rfl) ?_
  have hT : KT u u := KT.rf
  intro p e s m below meth c A Q ls C hret hO hl
  obtain ⟨hx, hb, hml, hown, ht, hK, hA⟩ := id C
  have hl : lv_has ls 3 [(0, .ref (a 27)), (1, .int 0)] := hl
  refine lv_aload_n hx hb dX5_readUnit_0 rfl (lv_at hl 0 rfl) ?_
  refine gf_RX5_9 (v := .ref (a 1)) C hO 27 cW_27 rfl dX5_readUnit_1 ?_
  refine gf_RX5_36 (v := .int (fI u 1 4)) C hO 1 cW_1 rfl dX5_readUnit_4 ?_
  refine lv_istore_n (lv' := [(2, .int (fI u 1 4)), (0, .ref (a 27)), (1, .int 0)]) hx hb dX5_readUnit_7 rfl hl (by decide) rfl (fun ls hl => ?_)
  refine lv_aload_n hx hb dX5_readUnit_8 rfl (lv_at hl 1 rfl) ?_
  refine gf_RX5_15 (v := .ref (a 15)) C hO 27 cW_27 (congrArg (fun z : Nat => some (Value.ref z)) hW) dX5_readUnit_9 ?_
  refine gf_RX5_173 (v := .ref (a 24)) C hO 15 cW_15 rfl dX5_readUnit_12 ?_
  refine cVi (w := cW cy a) (As := []) (rest := []) C hO (T_X4_isFull l D cy a _ (by exact hJ)) (cwV 0 ht (gV wd_775 wd_776 wd_777 wd_113 wd_778) rfl rfl rfl hd_yX4_isFull ⟨Nat.le_of_ble_eq_true rfl, Nat.le_of_ble_eq_true rfl⟩) 24 rfl cW_24 rfl rfl hl.1 (Nat.le_of_ble_eq_true rfl) dX5_readUnit_15 rfl ⟨Nat.zero_le _, Nat.zero_le _⟩ (fun r1 u2 H locs hp3 hO => ?_)
  obtain ⟨hr1, hu2⟩ := hp3
  have gr1 : 0 ≤ r1.toInt ∧ r1.toInt ≤ 1 := by rcases hr1 with h | h <;> rw [h] <;> decide
  rw [hu2] at hO
  refine bs_ne (tgt := 41) (X := (r1).toInt) hx hb dX5_readUnit_18 (by decide) rfl (fun c4 => ?_) (fun c4 => ?_)
  · refine lv_aload_n hx hb dX5_readUnit_41 rfl (lv_at hl 1 rfl) ?_
    refine lv_iconst (v := 2) hx hb dX5_readUnit_42 (by decide) ?_
    refine cVi (w := cW cy a) (As := [.int 2]) (rest := []) C hO (T_X5_refuse l D cy a _ (by exact hJ) (by exact hW) (2)) (cwV 1 ht (gV wd_691 wd_693 wd_6 wd_114 wd_694) rfl rfl rfl hd_yX5_refuse ⟨Nat.le_of_ble_eq_true rfl, Nat.le_of_ble_eq_true rfl⟩) 27 rfl cW_27 rfl rfl hl.1 (Nat.le_of_ble_eq_true rfl) dX5_readUnit_43 rfl ⟨Nat.zero_le _, Nat.zero_le _⟩ (fun r5 u6 H locs hp7 hO => ?_)
    have g8 : 0 ≤ (fI u 15 9).toInt ∧ (fI u 15 9).toInt ≤ 8 := by have h := CI_15_9 hJ; exact h
    have g9 : 0 ≤ (fI u 15 10).toInt ∧ (fI u 15 10).toInt ≤ 14 := by have h := CI_15_10 hJ; exact h
    have g10 : 0 ≤ (fI u 15 11).toInt ∧ (fI u 15 11).toInt ≤ 8 := by have h := CI_15_11 hJ; exact h
    have g11 : 0 ≤ (fI u 15 12).toInt ∧ (fI u 15 12).toInt ≤ 6 := by have h := CI_15_12 hJ; exact h
    obtain ⟨hr5, hJ, hTu6, hW⟩ := hp7
    subst hr5
    have hT : KT u u6 := KT.tr (by exact hT) hTu6.1
    have hI_15_9_u6 : fI u6 15 9 = (fI u 15 9) := hTu6.2.1
    have hI_15_10_u6 : fI u6 15 10 = (fI u 15 10) := hTu6.2.2.1
    have hI_15_11_u6 : fI u6 15 11 = (fI u 15 11) := hTu6.2.2.2.1
    have hI_15_12_u6 : fI u6 15 12 = (fI u 15 12) := hTu6.2.2.2.2
    refine hret _ _ _ _ _ _ dX5_readUnit_46 rfl ?_ hO
    exact ⟨Or.inl rfl, hJ, hT, hW⟩
  · refine lv_iload_n hx hb dX5_readUnit_21 rfl (lv_at hl 0 rfl) ?_
    refine lv_sipush (v := 201) hx hb dX5_readUnit_22 (by decide) ?_
    refine cs_eq (tgt := 47) (X := ((fI u 1 4)).toInt) (Y := 201) hx hb dX5_readUnit_25 (by decide) rfl rfl (fun c12 => ?_) (fun c12 => ?_)
    · refine lv_aload_n hx hb dX5_readUnit_47 rfl (lv_at hl 1 rfl) ?_
      refine gf_RX5_15 (v := .ref (a 15)) C hO 27 cW_27 (congrArg (fun z : Nat => some (Value.ref z)) hW) dX5_readUnit_48 ?_
      refine gf_RX5_173 (v := .ref (a 24)) C hO 15 cW_15 rfl dX5_readUnit_51 ?_
      refine lv_dup hx hb dX5_readUnit_54 rfl ?_
      refine gf_RX5_207 (v := .int (fI u 24 4)) C hO 24 cW_24 rfl dX5_readUnit_55 ?_
      refine lv_iconst (v := 1) hx hb dX5_readUnit_58 (by decide) ?_
      refine lv_iadd hx hb dX5_readUnit_59 ?_
      refine pf_RX5_207 C hO 24 cW_24 (Nat.le_of_ble_eq_true rfl) cW_s24_4 dX5_readUnit_60 (fun H locs hO => ?_)
      have hJ := CIs_24_4 (v := ((fI u 24 4) + 1)) hJ
      refine lv_iload_n hx hb dX5_readUnit_63 rfl (lv_at hl 0 rfl) ?_
      refine lv_bipush (v := 40) hx hb dX5_readUnit_64 (by decide) ?_
      refine ct_ne (tgt := 75) (X := ((fI u 1 4)).toInt) (Y := 40) hx hb dX5_readUnit_66 (by decide) rfl rfl (by omega) ?_
      refine lv_aload_n hx hb dX5_readUnit_75 rfl (lv_at hl 1 rfl) ?_
      refine gf_RX5_15 (v := .ref (a 15)) C hO 27 cW_27 (congrArg (fun z : Nat => some (Value.ref z)) hW) dX5_readUnit_76 ?_
      refine gf_RX5_173 (v := .ref (a 24)) C hO 15 cW_15 rfl dX5_readUnit_79 ?_
      refine lv_iload_n hx hb dX5_readUnit_82 rfl (lv_at hl 0 rfl) ?_
      refine lv_sipush (v := 201) hx hb dX5_readUnit_83 (by decide) ?_
      refine cn_ne (X := ((fI u 1 4)).toInt) (Y := 201) hx hb dX5_readUnit_86 rfl rfl (by omega) ?_ (tgt := 99) (by decide)
      refine lv_aload_n hx hb dX5_readUnit_89 rfl (lv_at hl 1 rfl) ?_
      refine gf_RX5_9 (v := .ref (a 1)) C hO 27 cW_27 rfl dX5_readUnit_90 ?_
      refine gf_RX5_94 (v := .int (fI u 1 6)) C hO 1 cW_1 rfl dX5_readUnit_93 ?_
      refine lv_goto (tgt := 101) hx hb dX5_readUnit_96 (by decide) ?_
      refine cVv (w := cW cy a) (As := [.int (fI u 1 6)]) (rest := []) C hO (T_X4_add l D cy a _ (by exact hJ) (by exact hW) ((fI u 1 6))) (cwV 1 ht (gV wd_759 wd_760 wd_761 wd_113 wd_762) rfl rfl rfl hd_yX4_add ⟨Nat.le_of_ble_eq_true rfl, Nat.le_of_ble_eq_true rfl⟩) 24 rfl cW_24 rfl rfl hl.1 (Nat.le_of_ble_eq_true rfl) dX5_readUnit_101 rfl ⟨Nat.zero_le _, Nat.zero_le _⟩ (fun u14 H locs hp15 hO => ?_)
      have g16 : 0 ≤ (fI u 15 9).toInt ∧ (fI u 15 9).toInt ≤ 8 := by have h := CI_15_9 hJ; exact h
      have g17 : 0 ≤ (fI u 15 10).toInt ∧ (fI u 15 10).toInt ≤ 14 := by have h := CI_15_10 hJ; exact h
      have g18 : 0 ≤ (fI u 15 11).toInt ∧ (fI u 15 11).toInt ≤ 8 := by have h := CI_15_11 hJ; exact h
      have g19 : 0 ≤ (fI u 15 12).toInt ∧ (fI u 15 12).toInt ≤ 6 := by have h := CI_15_12 hJ; exact h
      obtain ⟨hJ, hTu14, hW⟩ := hp15
      have hT : KT u u14 := KT.tr (by exact hT) hTu14.1
      have hI_15_9_u14 : fI u14 15 9 = (fI u 15 9) := hTu14.2.1
      have hI_15_10_u14 : fI u14 15 10 = (fI u 15 10) := hTu14.2.2.1
      have hI_15_11_u14 : fI u14 15 11 = (fI u 15 11) := hTu14.2.2.2.1
      have hI_15_12_u14 : fI u14 15 12 = (fI u 15 12) := hTu14.2.2.2.2
      refine lv_aload_n hx hb dX5_readUnit_104 rfl (lv_at hl 1 rfl) ?_
      refine gf_RX5_9 (v := .ref (a 1)) C hO 27 cW_27 rfl dX5_readUnit_105 ?_
      refine cVv (w := cW cy a) (As := []) (rest := []) C hO (T_X7_advance l D cy a _ (by exact hJ) (by exact hW)) (cwV 0 ht (gV wd_695 wd_541 wd_542 wd_111 wd_543) rfl rfl rfl hd_yX7_advance ⟨Nat.le_of_ble_eq_true rfl, Nat.le_of_ble_eq_true rfl⟩) 1 rfl cW_1 rfl rfl hl.1 (Nat.le_of_ble_eq_true rfl) dX5_readUnit_108 rfl ⟨Nat.zero_le _, Nat.zero_le _⟩ (fun u21 H locs hp22 hO => ?_)
      obtain ⟨hJ, hTu21, hW⟩ := hp22
      have hT : KT u u21 := KT.tr (by exact hT) hTu21.1
      have hI_15_9_u21 : fI u21 15 9 = (fI u 15 9) := Eq.trans (hTu21.2.1) (hI_15_9_u14)
      have hI_15_10_u21 : fI u21 15 10 = (fI u 15 10) := Eq.trans (hTu21.2.2.1) (hI_15_10_u14)
      have hI_15_11_u21 : fI u21 15 11 = (fI u 15 11) := Eq.trans (hTu21.2.2.2.1) (hI_15_11_u14)
      have hI_15_12_u21 : fI u21 15 12 = (fI u 15 12) := Eq.trans (hTu21.2.2.2.2) (hI_15_12_u14)
      refine lv_iconst (v := 1) hx hb dX5_readUnit_111 (by decide) ?_
      refine hret _ _ _ _ _ _ dX5_readUnit_112 rfl ?_ hO
      exact ⟨Or.inr rfl, hJ, hT, hW⟩
    · refine lv_iload_n hx hb dX5_readUnit_28 rfl (lv_at hl 0 rfl) ?_
      refine lv_bipush (v := 40) hx hb dX5_readUnit_29 (by decide) ?_
      refine cs_eq (tgt := 47) (X := ((fI u 1 4)).toInt) (Y := 40) hx hb dX5_readUnit_31 (by decide) rfl rfl (fun c23 => ?_) (fun c23 => ?_)
      · refine lv_aload_n hx hb dX5_readUnit_47 rfl (lv_at hl 1 rfl) ?_
        refine gf_RX5_15 (v := .ref (a 15)) C hO 27 cW_27 (congrArg (fun z : Nat => some (Value.ref z)) hW) dX5_readUnit_48 ?_
        refine gf_RX5_173 (v := .ref (a 24)) C hO 15 cW_15 rfl dX5_readUnit_51 ?_
        refine lv_dup hx hb dX5_readUnit_54 rfl ?_
        refine gf_RX5_207 (v := .int (fI u 24 4)) C hO 24 cW_24 rfl dX5_readUnit_55 ?_
        refine lv_iconst (v := 1) hx hb dX5_readUnit_58 (by decide) ?_
        refine lv_iadd hx hb dX5_readUnit_59 ?_
        refine pf_RX5_207 C hO 24 cW_24 (Nat.le_of_ble_eq_true rfl) cW_s24_4 dX5_readUnit_60 (fun H locs hO => ?_)
        have hJ := CIs_24_4 (v := ((fI u 24 4) + 1)) hJ
        refine lv_iload_n hx hb dX5_readUnit_63 rfl (lv_at hl 0 rfl) ?_
        refine lv_bipush (v := 40) hx hb dX5_readUnit_64 (by decide) ?_
        refine cn_ne (X := ((fI u 1 4)).toInt) (Y := 40) hx hb dX5_readUnit_66 rfl rfl (by omega) ?_ (tgt := 75) (by decide)
        refine lv_aload_n hx hb dX5_readUnit_69 rfl (lv_at hl 1 rfl) ?_
        refine lv_iload_n hx hb dX5_readUnit_70 rfl (lv_at hl 2 rfl) ?_
        refine cVi (w := cW cy a) (As := [.int 0]) (rest := []) C hO (T_X5_readInner_0 l D cy a _ (by exact hJ) (by exact hW)) (cwV 1 ht (gV wd_782 wd_784 wd_24 wd_114 wd_785) rfl rfl rfl hd_yX5_readInner ⟨Nat.le_of_ble_eq_true rfl, Nat.le_of_ble_eq_true rfl⟩) 27 rfl cW_27 rfl rfl hl.1 (Nat.le_of_ble_eq_true rfl) dX5_readUnit_71 rfl ⟨Nat.zero_le _, Nat.zero_le _⟩ (fun r24 u25 H locs hp26 hO => ?_)
        obtain ⟨hr24, hJ, hTu25, hW⟩ := hp26
        have gr24 : 0 ≤ r24.toInt ∧ r24.toInt ≤ 1 := by rcases hr24 with h | h <;> rw [h] <;> decide
        have hT : KT u u25 := KT.tr (by exact hT) hTu25
        refine hret _ _ _ _ _ _ dX5_readUnit_74 (by rcases hr24 with h | h <;> rw [h] <;> rfl) ?_ hO
        exact ⟨hr24, hJ, hT, hW⟩
      · refine lv_iload_n hx hb dX5_readUnit_34 rfl (lv_at hl 0 rfl) ?_
        refine cSi (w := cW cy a) (As := [.int (fI u 1 4)]) (rest := []) C hO (T_X4_isGiven l D cy a _ (by exact hJ) ((fI u 1 4))) (va_cwS 1 ht (gSS wd_779 wd_780 wd_113 wd_781) rfl rfl rfl hd_yX4_isGiven ⟨Nat.le_of_ble_eq_true rfl, Nat.le_of_ble_eq_true rfl⟩)  rfl hl.1 (Nat.le_of_ble_eq_true rfl) dX5_readUnit_35 rfl ⟨Nat.zero_le _, Nat.zero_le _⟩ (fun r27 u28 H locs hp29 hO => ?_)
        obtain ⟨hr27, hu28⟩ := hp29
        have gr27 : 0 ≤ r27.toInt ∧ r27.toInt ≤ 1 := by rcases hr27 with h | h <;> rw [h] <;> decide
        rw [hu28] at hO
        refine bs_ne (tgt := 47) (X := (r27).toInt) hx hb dX5_readUnit_38 (by decide) rfl (fun c30 => ?_) (fun c30 => ?_)
        · refine lv_aload_n hx hb dX5_readUnit_47 rfl (lv_at hl 1 rfl) ?_
          refine gf_RX5_15 (v := .ref (a 15)) C hO 27 cW_27 (congrArg (fun z : Nat => some (Value.ref z)) hW) dX5_readUnit_48 ?_
          refine gf_RX5_173 (v := .ref (a 24)) C hO 15 cW_15 rfl dX5_readUnit_51 ?_
          refine lv_dup hx hb dX5_readUnit_54 rfl ?_
          refine gf_RX5_207 (v := .int (fI u 24 4)) C hO 24 cW_24 rfl dX5_readUnit_55 ?_
          refine lv_iconst (v := 1) hx hb dX5_readUnit_58 (by decide) ?_
          refine lv_iadd hx hb dX5_readUnit_59 ?_
          refine pf_RX5_207 C hO 24 cW_24 (Nat.le_of_ble_eq_true rfl) cW_s24_4 dX5_readUnit_60 (fun H locs hO => ?_)
          have hJ := CIs_24_4 (v := ((fI u 24 4) + 1)) hJ
          refine lv_iload_n hx hb dX5_readUnit_63 rfl (lv_at hl 0 rfl) ?_
          refine lv_bipush (v := 40) hx hb dX5_readUnit_64 (by decide) ?_
          refine cs_ne (tgt := 75) (X := ((fI u 1 4)).toInt) (Y := 40) hx hb dX5_readUnit_66 (by decide) rfl rfl (fun c31 => ?_) (fun c31 => ?_)
          · refine lv_aload_n hx hb dX5_readUnit_75 rfl (lv_at hl 1 rfl) ?_
            refine gf_RX5_15 (v := .ref (a 15)) C hO 27 cW_27 (congrArg (fun z : Nat => some (Value.ref z)) hW) dX5_readUnit_76 ?_
            refine gf_RX5_173 (v := .ref (a 24)) C hO 15 cW_15 rfl dX5_readUnit_79 ?_
            refine lv_iload_n hx hb dX5_readUnit_82 rfl (lv_at hl 0 rfl) ?_
            refine lv_sipush (v := 201) hx hb dX5_readUnit_83 (by decide) ?_
            refine cs_ne (tgt := 99) (X := ((fI u 1 4)).toInt) (Y := 201) hx hb dX5_readUnit_86 (by decide) rfl rfl (fun c32 => ?_) (fun c32 => ?_)
            · refine lv_iload_n hx hb dX5_readUnit_99 rfl (lv_at hl 0 rfl) ?_
              refine lv_ineg hx hb dX5_readUnit_100 ?_
              refine lv_topi (fun z33 ez33 => ?_)
              refine cVv (w := cW cy a) (As := [.int z33]) (rest := []) C hO (T_X4_add l D cy a _ (by exact hJ) (by exact hW) (z33)) (cwV 1 ht (gV wd_759 wd_760 wd_761 wd_113 wd_762) rfl rfl rfl hd_yX4_add ⟨Nat.le_of_ble_eq_true rfl, Nat.le_of_ble_eq_true rfl⟩) 24 rfl cW_24 rfl rfl hl.1 (Nat.le_of_ble_eq_true rfl) dX5_readUnit_101 rfl ⟨Nat.zero_le _, Nat.zero_le _⟩ (fun u35 H locs hp36 hO => ?_)
              have g37 : 0 ≤ (fI u 15 9).toInt ∧ (fI u 15 9).toInt ≤ 8 := by have h := CI_15_9 hJ; exact h
              have g38 : 0 ≤ (fI u 15 10).toInt ∧ (fI u 15 10).toInt ≤ 14 := by have h := CI_15_10 hJ; exact h
              have g39 : 0 ≤ (fI u 15 11).toInt ∧ (fI u 15 11).toInt ≤ 8 := by have h := CI_15_11 hJ; exact h
              have g40 : 0 ≤ (fI u 15 12).toInt ∧ (fI u 15 12).toInt ≤ 6 := by have h := CI_15_12 hJ; exact h
              obtain ⟨hJ, hTu35, hW⟩ := hp36
              have hT : KT u u35 := KT.tr (by exact hT) hTu35.1
              have hI_15_9_u35 : fI u35 15 9 = (fI u 15 9) := hTu35.2.1
              have hI_15_10_u35 : fI u35 15 10 = (fI u 15 10) := hTu35.2.2.1
              have hI_15_11_u35 : fI u35 15 11 = (fI u 15 11) := hTu35.2.2.2.1
              have hI_15_12_u35 : fI u35 15 12 = (fI u 15 12) := hTu35.2.2.2.2
              refine lv_aload_n hx hb dX5_readUnit_104 rfl (lv_at hl 1 rfl) ?_
              refine gf_RX5_9 (v := .ref (a 1)) C hO 27 cW_27 rfl dX5_readUnit_105 ?_
              refine cVv (w := cW cy a) (As := []) (rest := []) C hO (T_X7_advance l D cy a _ (by exact hJ) (by exact hW)) (cwV 0 ht (gV wd_695 wd_541 wd_542 wd_111 wd_543) rfl rfl rfl hd_yX7_advance ⟨Nat.le_of_ble_eq_true rfl, Nat.le_of_ble_eq_true rfl⟩) 1 rfl cW_1 rfl rfl hl.1 (Nat.le_of_ble_eq_true rfl) dX5_readUnit_108 rfl ⟨Nat.zero_le _, Nat.zero_le _⟩ (fun u42 H locs hp43 hO => ?_)
              obtain ⟨hJ, hTu42, hW⟩ := hp43
              have hT : KT u u42 := KT.tr (by exact hT) hTu42.1
              have hI_15_9_u42 : fI u42 15 9 = (fI u 15 9) := Eq.trans (hTu42.2.1) (hI_15_9_u35)
              have hI_15_10_u42 : fI u42 15 10 = (fI u 15 10) := Eq.trans (hTu42.2.2.1) (hI_15_10_u35)
              have hI_15_11_u42 : fI u42 15 11 = (fI u 15 11) := Eq.trans (hTu42.2.2.2.1) (hI_15_11_u35)
              have hI_15_12_u42 : fI u42 15 12 = (fI u 15 12) := Eq.trans (hTu42.2.2.2.2) (hI_15_12_u35)
              refine lv_iconst (v := 1) hx hb dX5_readUnit_111 (by decide) ?_
              refine hret _ _ _ _ _ _ dX5_readUnit_112 rfl ?_ hO
              exact ⟨Or.inr rfl, hJ, hT, hW⟩
            · refine lv_aload_n hx hb dX5_readUnit_89 rfl (lv_at hl 1 rfl) ?_
              refine gf_RX5_9 (v := .ref (a 1)) C hO 27 cW_27 rfl dX5_readUnit_90 ?_
              refine gf_RX5_94 (v := .int (fI u 1 6)) C hO 1 cW_1 rfl dX5_readUnit_93 ?_
              refine lv_goto (tgt := 101) hx hb dX5_readUnit_96 (by decide) ?_
              refine cVv (w := cW cy a) (As := [.int (fI u 1 6)]) (rest := []) C hO (T_X4_add l D cy a _ (by exact hJ) (by exact hW) ((fI u 1 6))) (cwV 1 ht (gV wd_759 wd_760 wd_761 wd_113 wd_762) rfl rfl rfl hd_yX4_add ⟨Nat.le_of_ble_eq_true rfl, Nat.le_of_ble_eq_true rfl⟩) 24 rfl cW_24 rfl rfl hl.1 (Nat.le_of_ble_eq_true rfl) dX5_readUnit_101 rfl ⟨Nat.zero_le _, Nat.zero_le _⟩ (fun u45 H locs hp46 hO => ?_)
              have g47 : 0 ≤ (fI u 15 9).toInt ∧ (fI u 15 9).toInt ≤ 8 := by have h := CI_15_9 hJ; exact h
              have g48 : 0 ≤ (fI u 15 10).toInt ∧ (fI u 15 10).toInt ≤ 14 := by have h := CI_15_10 hJ; exact h
              have g49 : 0 ≤ (fI u 15 11).toInt ∧ (fI u 15 11).toInt ≤ 8 := by have h := CI_15_11 hJ; exact h
              have g50 : 0 ≤ (fI u 15 12).toInt ∧ (fI u 15 12).toInt ≤ 6 := by have h := CI_15_12 hJ; exact h
              obtain ⟨hJ, hTu45, hW⟩ := hp46
              have hT : KT u u45 := KT.tr (by exact hT) hTu45.1
              have hI_15_9_u45 : fI u45 15 9 = (fI u 15 9) := hTu45.2.1
              have hI_15_10_u45 : fI u45 15 10 = (fI u 15 10) := hTu45.2.2.1
              have hI_15_11_u45 : fI u45 15 11 = (fI u 15 11) := hTu45.2.2.2.1
              have hI_15_12_u45 : fI u45 15 12 = (fI u 15 12) := hTu45.2.2.2.2
              refine lv_aload_n hx hb dX5_readUnit_104 rfl (lv_at hl 1 rfl) ?_
              refine gf_RX5_9 (v := .ref (a 1)) C hO 27 cW_27 rfl dX5_readUnit_105 ?_
              refine cVv (w := cW cy a) (As := []) (rest := []) C hO (T_X7_advance l D cy a _ (by exact hJ) (by exact hW)) (cwV 0 ht (gV wd_695 wd_541 wd_542 wd_111 wd_543) rfl rfl rfl hd_yX7_advance ⟨Nat.le_of_ble_eq_true rfl, Nat.le_of_ble_eq_true rfl⟩) 1 rfl cW_1 rfl rfl hl.1 (Nat.le_of_ble_eq_true rfl) dX5_readUnit_108 rfl ⟨Nat.zero_le _, Nat.zero_le _⟩ (fun u52 H locs hp53 hO => ?_)
              obtain ⟨hJ, hTu52, hW⟩ := hp53
              have hT : KT u u52 := KT.tr (by exact hT) hTu52.1
              have hI_15_9_u52 : fI u52 15 9 = (fI u 15 9) := Eq.trans (hTu52.2.1) (hI_15_9_u45)
              have hI_15_10_u52 : fI u52 15 10 = (fI u 15 10) := Eq.trans (hTu52.2.2.1) (hI_15_10_u45)
              have hI_15_11_u52 : fI u52 15 11 = (fI u 15 11) := Eq.trans (hTu52.2.2.2.1) (hI_15_11_u45)
              have hI_15_12_u52 : fI u52 15 12 = (fI u 15 12) := Eq.trans (hTu52.2.2.2.2) (hI_15_12_u45)
              refine lv_iconst (v := 1) hx hb dX5_readUnit_111 (by decide) ?_
              refine hret _ _ _ _ _ _ dX5_readUnit_112 rfl ?_ hO
              exact ⟨Or.inr rfl, hJ, hT, hW⟩
          · refine lv_aload_n hx hb dX5_readUnit_69 rfl (lv_at hl 1 rfl) ?_
            refine lv_iload_n hx hb dX5_readUnit_70 rfl (lv_at hl 2 rfl) ?_
            refine cVi (w := cW cy a) (As := [.int 0]) (rest := []) C hO (T_X5_readInner_0 l D cy a _ (by exact hJ) (by exact hW)) (cwV 1 ht (gV wd_782 wd_784 wd_24 wd_114 wd_785) rfl rfl rfl hd_yX5_readInner ⟨Nat.le_of_ble_eq_true rfl, Nat.le_of_ble_eq_true rfl⟩) 27 rfl cW_27 rfl rfl hl.1 (Nat.le_of_ble_eq_true rfl) dX5_readUnit_71 rfl ⟨Nat.zero_le _, Nat.zero_le _⟩ (fun r54 u55 H locs hp56 hO => ?_)
            obtain ⟨hr54, hJ, hTu55, hW⟩ := hp56
            have gr54 : 0 ≤ r54.toInt ∧ r54.toInt ≤ 1 := by rcases hr54 with h | h <;> rw [h] <;> decide
            have hT : KT u u55 := KT.tr (by exact hT) hTu55
            refine hret _ _ _ _ _ _ dX5_readUnit_74 (by rcases hr54 with h | h <;> rw [h] <;> rfl) ?_ hO
            exact ⟨hr54, hJ, hT, hW⟩
        · refine lv_aload_n hx hb dX5_readUnit_41 rfl (lv_at hl 1 rfl) ?_
          refine lv_iconst (v := 2) hx hb dX5_readUnit_42 (by decide) ?_
          refine cVi (w := cW cy a) (As := [.int 2]) (rest := []) C hO (T_X5_refuse l D cy a _ (by exact hJ) (by exact hW) (2)) (cwV 1 ht (gV wd_691 wd_693 wd_6 wd_114 wd_694) rfl rfl rfl hd_yX5_refuse ⟨Nat.le_of_ble_eq_true rfl, Nat.le_of_ble_eq_true rfl⟩) 27 rfl cW_27 rfl rfl hl.1 (Nat.le_of_ble_eq_true rfl) dX5_readUnit_43 rfl ⟨Nat.zero_le _, Nat.zero_le _⟩ (fun r57 u58 H locs hp59 hO => ?_)
          have g60 : 0 ≤ (fI u 15 9).toInt ∧ (fI u 15 9).toInt ≤ 8 := by have h := CI_15_9 hJ; exact h
          have g61 : 0 ≤ (fI u 15 10).toInt ∧ (fI u 15 10).toInt ≤ 14 := by have h := CI_15_10 hJ; exact h
          have g62 : 0 ≤ (fI u 15 11).toInt ∧ (fI u 15 11).toInt ≤ 8 := by have h := CI_15_11 hJ; exact h
          have g63 : 0 ≤ (fI u 15 12).toInt ∧ (fI u 15 12).toInt ≤ 6 := by have h := CI_15_12 hJ; exact h
          obtain ⟨hr57, hJ, hTu58, hW⟩ := hp59
          subst hr57
          have hT : KT u u58 := KT.tr (by exact hT) hTu58.1
          have hI_15_9_u58 : fI u58 15 9 = (fI u 15 9) := hTu58.2.1
          have hI_15_10_u58 : fI u58 15 10 = (fI u 15 10) := hTu58.2.2.1
          have hI_15_11_u58 : fI u58 15 11 = (fI u 15 11) := hTu58.2.2.2.1
          have hI_15_12_u58 : fI u58 15 12 = (fI u 15 12) := hTu58.2.2.2.2
          refine hret _ _ _ _ _ _ dX5_readUnit_46 rfl ?_ hO
          exact ⟨Or.inl rfl, hJ, hT, hW⟩
set_option maxHeartbeats 4000000 in
set_option maxRecDepth 100000 in
theorem T_X5_readProduct_0 (l : Launch) (D : va_G) (cy : Nat → ClassId) (a : Nat → Nat) (u : St) (hJ : CI a u) (hW : fR u 2 = a 15)   : Mi l D cy (cW cy a) yX5_readProduct (.code yX5_readProduct cX5_readProduct 5 (some .boolean)) (rmo 56 1273) [.ref (a 27), .int 0] u (fun (r : Int32) (u' : St) => (r = 0 ∨ r = 1) ∧ (CI a u') ∧ (KT u u') ∧ (fR u' 2 = a 15)) := by
  refine Mi.of (own := RX5) rfl (by decide) (Nat.le_of_ble_eq_true rfl) ?_
  have hT : KT u u := KT.rf
  intro p e s m below meth c A Q ls C hret hO hl
  obtain ⟨hx, hb, hml, hown, ht, hK, hA⟩ := id C
  have hl : lv_has ls 5 [(0, .ref (a 27)), (1, .int 0)] := hl
  refine lv_aload_n hx hb dX5_readProduct_0 rfl (lv_at hl 0 rfl) ?_
  refine lv_iload_n hx hb dX5_readProduct_1 rfl (lv_at hl 1 rfl) ?_
  refine cVi (w := cW cy a) (As := [.int 0]) (rest := []) C hO (T_X5_readUnit_0 l D cy a _ (by exact hJ) (by exact hW)) (cwV 1 ht (gV wd_771 wd_773 wd_23 wd_114 wd_774) rfl rfl rfl hd_yX5_readUnit ⟨Nat.le_of_ble_eq_true rfl, Nat.le_of_ble_eq_true rfl⟩) 27 rfl cW_27 rfl rfl hl.1 (Nat.le_of_ble_eq_true rfl) dX5_readProduct_2 rfl ⟨Nat.zero_le _, Nat.zero_le _⟩ (fun r1 u2 H locs hp3 hO => ?_)
  obtain ⟨hr1, hJ, hTu2, hW⟩ := hp3
  have gr1 : 0 ≤ r1.toInt ∧ r1.toInt ≤ 1 := by rcases hr1 with h | h <;> rw [h] <;> decide
  have hT : KT u u2 := KT.tr (by exact hT) hTu2
  refine lv_istore_n (lv' := [(2, .int r1), (0, .ref (a 27)), (1, .int 0)]) hx hb dX5_readProduct_5 rfl hl (by decide) rfl (fun ls hl => ?_)
  refine lv_iconst (v := 0) hx hb dX5_readProduct_6 (by decide) ?_
  refine lv_istore_n (lv' := [(3, .int 0), (2, .int r1), (0, .ref (a 27)), (1, .int 0)]) hx hb dX5_readProduct_7 rfl hl (by decide) rfl (fun ls hl => ?_)
  have LP_8_k5 : ∀ (n : Nat) (u4 : St) (H : Heap) (locs : List Loc) (ls : Array Slot) (i_k5 : Int32) (w2_k5 : Int32), Wo D A (cW cy a u4) s.heap H locs → lv_has ls 5 [(3, .int i_k5), (2, .int w2_k5), (0, .ref (a 27)), (1, .int 0)] → CI a u4 → KT u u4 → fR u4 2 = a 15 → 0 ≤ i_k5.toInt ∧ i_k5.toInt ≤ 1600 → 0 ≤ w2_k5.toInt ∧ w2_k5.toInt ≤ 1 → 1600 - i_k5.toInt < (n : Int) → W p l e (rmo 56 1273) s m [.ref (a 27), .int 0].toArray below meth c H locs 0 0 Q (F0 m 8 ls []) := by
    intro n
    induction n with
    | zero =>
      intro u4 H locs ls i_k5 w2_k5 hO hl hJ hT hW iv0_k5 iv1_k5 hm_k5
      exact absurd hm_k5 (by omega)
    | succ n ih_k5 =>
      intro u4 H locs ls i_k5 w2_k5 hO hl hJ hT hW iv0_k5 iv1_k5 hm_k5
      refine lv_iload_n hx hb dX5_readProduct_8 rfl (lv_at hl 0 rfl) ?_
      refine lv_sipush (v := 1600) hx hb dX5_readProduct_9 (by decide) ?_
      refine cs_ge (tgt := 73) (X := (i_k5).toInt) (Y := 1600) hx hb dX5_readProduct_12 (by decide) rfl rfl (fun c6 => ?_) (fun c6 => ?_)
      · refine lv_iload_n hx hb dX5_readProduct_73 rfl (lv_at hl 1 rfl) ?_
        have hw2_k5 : w2_k5 = 0 ∨ w2_k5 = 1 := i_b01 rfl (by omega) (by omega)
        refine hret _ _ _ _ _ _ dX5_readProduct_74 (by rcases hw2_k5 with h | h <;> rw [h] <;> rfl) ?_ hO
        exact ⟨hw2_k5, hJ, hT, hW⟩
      · refine lv_iload_n hx hb dX5_readProduct_15 rfl (lv_at hl 1 rfl) ?_
        refine bs_eq (tgt := 73) (X := (w2_k5).toInt) hx hb dX5_readProduct_16 (by decide) rfl (fun c7 => ?_) (fun c7 => ?_)
        · refine lv_iload_n hx hb dX5_readProduct_73 rfl (lv_at hl 1 rfl) ?_
          have hw2_k5 : w2_k5 = 0 ∨ w2_k5 = 1 := i_b01 rfl (by omega) (by omega)
          refine hret _ _ _ _ _ _ dX5_readProduct_74 (by rcases hw2_k5 with h | h <;> rw [h] <;> rfl) ?_ hO
          exact ⟨hw2_k5, hJ, hT, hW⟩
        · refine lv_aload_n hx hb dX5_readProduct_19 rfl (lv_at hl 2 rfl) ?_
          refine gf_RX5_9 (v := .ref (a 1)) C hO 27 cW_27 rfl dX5_readProduct_20 ?_
          refine gf_RX5_36 (v := .int (fI u4 1 4)) C hO 1 cW_1 rfl dX5_readProduct_23 ?_
          refine cSi (w := cW cy a) (As := [.int (fI u4 1 4)]) (rest := []) C hO (T_X5_isTimes l D cy a _ (by exact hJ) ((fI u4 1 4))) (va_cwS 1 ht (gSS wd_786 wd_787 wd_114 wd_788) rfl rfl rfl hd_yX5_isTimes ⟨Nat.le_of_ble_eq_true rfl, Nat.le_of_ble_eq_true rfl⟩)  rfl hl.1 (Nat.le_of_ble_eq_true rfl) dX5_readProduct_26 rfl ⟨Nat.zero_le _, Nat.zero_le _⟩ (fun r8 u9 H locs hp10 hO => ?_)
          obtain ⟨hr8, hu9⟩ := hp10
          have gr8 : 0 ≤ r8.toInt ∧ r8.toInt ≤ 1 := by rcases hr8 with h | h <;> rw [h] <;> decide
          rw [hu9] at hO
          refine bs_eq (tgt := 73) (X := (r8).toInt) hx hb dX5_readProduct_29 (by decide) rfl (fun c11 => ?_) (fun c11 => ?_)
          · refine lv_iload_n hx hb dX5_readProduct_73 rfl (lv_at hl 1 rfl) ?_
            have hw2_k5 : w2_k5 = 0 ∨ w2_k5 = 1 := i_b01 rfl (by omega) (by omega)
            refine hret _ _ _ _ _ _ dX5_readProduct_74 (by rcases hw2_k5 with h | h <;> rw [h] <;> rfl) ?_ hO
            exact ⟨hw2_k5, hJ, hT, hW⟩
          · refine lv_aload_n hx hb dX5_readProduct_32 rfl (lv_at hl 2 rfl) ?_
            refine gf_RX5_9 (v := .ref (a 1)) C hO 27 cW_27 rfl dX5_readProduct_33 ?_
            refine gf_RX5_36 (v := .int (fI u4 1 4)) C hO 1 cW_1 rfl dX5_readProduct_36 ?_
            refine lv_istore (lv' := [(4, .int (fI u4 1 4)), (3, .int i_k5), (2, .int w2_k5), (0, .ref (a 27)), (1, .int 0)]) hx hb dX5_readProduct_39 hl (by decide) rfl (fun ls hl => ?_)
            refine lv_aload_n hx hb dX5_readProduct_41 rfl (lv_at hl 3 rfl) ?_
            refine gf_RX5_9 (v := .ref (a 1)) C hO 27 cW_27 rfl dX5_readProduct_42 ?_
            refine cVv (w := cW cy a) (As := []) (rest := []) C hO (T_X7_advance l D cy a _ (by exact hJ) (by exact hW)) (cwV 0 ht (gV wd_695 wd_541 wd_542 wd_111 wd_543) rfl rfl rfl hd_yX7_advance ⟨Nat.le_of_ble_eq_true rfl, Nat.le_of_ble_eq_true rfl⟩) 1 rfl cW_1 rfl rfl hl.1 (Nat.le_of_ble_eq_true rfl) dX5_readProduct_45 rfl ⟨Nat.zero_le _, Nat.zero_le _⟩ (fun u13 H locs hp14 hO => ?_)
            have g15 : 0 ≤ (fI u4 15 9).toInt ∧ (fI u4 15 9).toInt ≤ 8 := by have h := CI_15_9 hJ; exact h
            have g16 : 0 ≤ (fI u4 15 10).toInt ∧ (fI u4 15 10).toInt ≤ 14 := by have h := CI_15_10 hJ; exact h
            have g17 : 0 ≤ (fI u4 15 11).toInt ∧ (fI u4 15 11).toInt ≤ 8 := by have h := CI_15_11 hJ; exact h
            have g18 : 0 ≤ (fI u4 15 12).toInt ∧ (fI u4 15 12).toInt ≤ 6 := by have h := CI_15_12 hJ; exact h
            obtain ⟨hJ, hTu13, hW⟩ := hp14
            have hT : KT u u13 := KT.tr (by exact hT) hTu13.1
            have hI_15_9_u13 : fI u13 15 9 = (fI u4 15 9) := hTu13.2.1
            have hI_15_10_u13 : fI u13 15 10 = (fI u4 15 10) := hTu13.2.2.1
            have hI_15_11_u13 : fI u13 15 11 = (fI u4 15 11) := hTu13.2.2.2.1
            have hI_15_12_u13 : fI u13 15 12 = (fI u4 15 12) := hTu13.2.2.2.2
            refine lv_aload_n hx hb dX5_readProduct_48 rfl (lv_at hl 3 rfl) ?_
            refine lv_iload_n hx hb dX5_readProduct_49 rfl (lv_at hl 4 rfl) ?_
            refine cVi (w := cW cy a) (As := [.int 0]) (rest := []) C hO (T_X5_readUnit_0 l D cy a _ (by exact hJ) (by exact hW)) (cwV 1 ht (gV wd_771 wd_773 wd_23 wd_114 wd_774) rfl rfl rfl hd_yX5_readUnit ⟨Nat.le_of_ble_eq_true rfl, Nat.le_of_ble_eq_true rfl⟩) 27 rfl cW_27 rfl rfl hl.1 (Nat.le_of_ble_eq_true rfl) dX5_readProduct_50 rfl ⟨Nat.zero_le _, Nat.zero_le _⟩ (fun r19 u20 H locs hp21 hO => ?_)
            obtain ⟨hr19, hJ, hTu20, hW⟩ := hp21
            have gr19 : 0 ≤ r19.toInt ∧ r19.toInt ≤ 1 := by rcases hr19 with h | h <;> rw [h] <;> decide
            have hT : KT u u20 := KT.tr (by exact hT) hTu20
            refine lv_istore_n (lv' := [(2, .int r19), (4, .int (fI u4 1 4)), (3, .int i_k5), (0, .ref (a 27)), (1, .int 0)]) hx hb dX5_readProduct_53 rfl hl (by decide) rfl (fun ls hl => ?_)
            refine lv_aload_n hx hb dX5_readProduct_54 rfl (lv_at hl 3 rfl) ?_
            refine gf_RX5_15 (v := .ref (a 15)) C hO 27 cW_27 (congrArg (fun z : Nat => some (Value.ref z)) hW) dX5_readProduct_55 ?_
            refine gf_RX5_173 (v := .ref (a 24)) C hO 15 cW_15 rfl dX5_readProduct_58 ?_
            refine lv_iload hx hb dX5_readProduct_61 (lv_at hl 1 rfl) ?_
            refine lv_ineg hx hb dX5_readProduct_63 ?_
            refine lv_topi (fun z22 ez22 => ?_)
            refine cVv (w := cW cy a) (As := [.int z22]) (rest := []) C hO (T_X4_add l D cy a _ (by exact hJ) (by exact hW) (z22)) (cwV 1 ht (gV wd_759 wd_760 wd_761 wd_113 wd_762) rfl rfl rfl hd_yX4_add ⟨Nat.le_of_ble_eq_true rfl, Nat.le_of_ble_eq_true rfl⟩) 24 rfl cW_24 rfl rfl hl.1 (Nat.le_of_ble_eq_true rfl) dX5_readProduct_64 rfl ⟨Nat.zero_le _, Nat.zero_le _⟩ (fun u24 H locs hp25 hO => ?_)
            have g26 : 0 ≤ (fI u20 15 9).toInt ∧ (fI u20 15 9).toInt ≤ 8 := by have h := CI_15_9 hJ; exact h
            have g27 : 0 ≤ (fI u20 15 10).toInt ∧ (fI u20 15 10).toInt ≤ 14 := by have h := CI_15_10 hJ; exact h
            have g28 : 0 ≤ (fI u20 15 11).toInt ∧ (fI u20 15 11).toInt ≤ 8 := by have h := CI_15_11 hJ; exact h
            have g29 : 0 ≤ (fI u20 15 12).toInt ∧ (fI u20 15 12).toInt ≤ 6 := by have h := CI_15_12 hJ; exact h
            obtain ⟨hJ, hTu24, hW⟩ := hp25
            have hT : KT u u24 := KT.tr (by exact hT) hTu24.1
            have hI_15_9_u24 : fI u24 15 9 = (fI u20 15 9) := hTu24.2.1
            have hI_15_10_u24 : fI u24 15 10 = (fI u20 15 10) := hTu24.2.2.1
            have hI_15_11_u24 : fI u24 15 11 = (fI u20 15 11) := hTu24.2.2.2.1
            have hI_15_12_u24 : fI u24 15 12 = (fI u20 15 12) := hTu24.2.2.2.2
            have e30 : ((i_k5 + 1)).toInt = (i_k5).toInt + 1 := i_add rfl rfl (by omega)
            refine lv_iinc (v := (i_k5 + 1)) (lv' := [(3, .int (i_k5 + 1)), (2, .int r19), (4, .int (fI u4 1 4)), (0, .ref (a 27)), (1, .int 0)]) hx hb dX5_readProduct_67 hl (k := 2) rfl rfl (by decide) rfl (fun ls hl => ?_)
            refine lv_goto (tgt := 8) hx hb dX5_readProduct_70 (by decide) ?_
            exact ih_k5 _ _ _ _ ((i_k5 + 1)) (r19) hO (lv_sub hl [0, 1, 3, 4] rfl) (by exact hJ) (by exact hT) (by exact hW) (by first | decide | omega) (by first | decide | omega) (by first | decide | omega)
  exact LP_8_k5 4000 _ _ _ _ (0) (r1) hO (lv_sub hl [0, 1, 2, 3] rfl) (by exact hJ) (by exact hT) (by exact hW) (by first | decide | omega) (by first | decide | omega) (by first | decide | omega)
set_option maxHeartbeats 4000000 in
set_option maxRecDepth 100000 in
theorem T_X5_readSum_0 (l : Launch) (D : va_G) (cy : Nat → ClassId) (a : Nat → Nat) (u : St) (hJ : CI a u) (hW : fR u 2 = a 15)   : Mi l D cy (cW cy a) yX5_readSum (.code yX5_readSum cX5_readSum 5 (some .boolean)) (rmo 57 1297) [.ref (a 27), .int 0] u (fun (r : Int32) (u' : St) => (r = 0 ∨ r = 1) ∧ (CI a u') ∧ (KT u u') ∧ (fR u' 2 = a 15)) := by
  refine Mi.of (own := RX5) rfl (by decide) (Nat.le_of_ble_eq_true rfl) ?_
  have hT : KT u u := KT.rf
  intro p e s m below meth c A Q ls C hret hO hl
  obtain ⟨hx, hb, hml, hown, ht, hK, hA⟩ := id C
  have hl : lv_has ls 5 [(0, .ref (a 27)), (1, .int 0)] := hl
  refine lv_aload_n hx hb dX5_readSum_0 rfl (lv_at hl 0 rfl) ?_
  refine lv_iload_n hx hb dX5_readSum_1 rfl (lv_at hl 1 rfl) ?_
  refine cVi (w := cW cy a) (As := [.int 0]) (rest := []) C hO (T_X5_readProduct_0 l D cy a _ (by exact hJ) (by exact hW)) (cwV 1 ht (gV wd_767 wd_769 wd_22 wd_114 wd_770) rfl rfl rfl hd_yX5_readProduct ⟨Nat.le_of_ble_eq_true rfl, Nat.le_of_ble_eq_true rfl⟩) 27 rfl cW_27 rfl rfl hl.1 (Nat.le_of_ble_eq_true rfl) dX5_readSum_2 rfl ⟨Nat.zero_le _, Nat.zero_le _⟩ (fun r1 u2 H locs hp3 hO => ?_)
  obtain ⟨hr1, hJ, hTu2, hW⟩ := hp3
  have gr1 : 0 ≤ r1.toInt ∧ r1.toInt ≤ 1 := by rcases hr1 with h | h <;> rw [h] <;> decide
  have hT : KT u u2 := KT.tr (by exact hT) hTu2
  refine lv_istore_n (lv' := [(2, .int r1), (0, .ref (a 27)), (1, .int 0)]) hx hb dX5_readSum_5 rfl hl (by decide) rfl (fun ls hl => ?_)
  refine lv_iconst (v := 0) hx hb dX5_readSum_6 (by decide) ?_
  refine lv_istore_n (lv' := [(3, .int 0), (2, .int r1), (0, .ref (a 27)), (1, .int 0)]) hx hb dX5_readSum_7 rfl hl (by decide) rfl (fun ls hl => ?_)
  have LP_8_k5 : ∀ (n : Nat) (u4 : St) (H : Heap) (locs : List Loc) (ls : Array Slot) (i_k5 : Int32) (w2_k5 : Int32), Wo D A (cW cy a u4) s.heap H locs → lv_has ls 5 [(3, .int i_k5), (2, .int w2_k5), (0, .ref (a 27)), (1, .int 0)] → CI a u4 → KT u u4 → fR u4 2 = a 15 → 0 ≤ i_k5.toInt ∧ i_k5.toInt ≤ 1600 → 0 ≤ w2_k5.toInt ∧ w2_k5.toInt ≤ 1 → 1600 - i_k5.toInt < (n : Int) → W p l e (rmo 57 1297) s m [.ref (a 27), .int 0].toArray below meth c H locs 0 0 Q (F0 m 8 ls []) := by
    intro n
    induction n with
    | zero =>
      intro u4 H locs ls i_k5 w2_k5 hO hl hJ hT hW iv0_k5 iv1_k5 hm_k5
      exact absurd hm_k5 (by omega)
    | succ n ih_k5 =>
      intro u4 H locs ls i_k5 w2_k5 hO hl hJ hT hW iv0_k5 iv1_k5 hm_k5
      refine lv_iload_n hx hb dX5_readSum_8 rfl (lv_at hl 0 rfl) ?_
      refine lv_sipush (v := 1600) hx hb dX5_readSum_9 (by decide) ?_
      refine cs_ge (tgt := 84) (X := (i_k5).toInt) (Y := 1600) hx hb dX5_readSum_12 (by decide) rfl rfl (fun c6 => ?_) (fun c6 => ?_)
      · refine lv_iload_n hx hb dX5_readSum_84 rfl (lv_at hl 1 rfl) ?_
        have hw2_k5 : w2_k5 = 0 ∨ w2_k5 = 1 := i_b01 rfl (by omega) (by omega)
        refine hret _ _ _ _ _ _ dX5_readSum_85 (by rcases hw2_k5 with h | h <;> rw [h] <;> rfl) ?_ hO
        exact ⟨hw2_k5, hJ, hT, hW⟩
      · refine lv_iload_n hx hb dX5_readSum_15 rfl (lv_at hl 1 rfl) ?_
        refine bs_eq (tgt := 84) (X := (w2_k5).toInt) hx hb dX5_readSum_16 (by decide) rfl (fun c7 => ?_) (fun c7 => ?_)
        · refine lv_iload_n hx hb dX5_readSum_84 rfl (lv_at hl 1 rfl) ?_
          have hw2_k5 : w2_k5 = 0 ∨ w2_k5 = 1 := i_b01 rfl (by omega) (by omega)
          refine hret _ _ _ _ _ _ dX5_readSum_85 (by rcases hw2_k5 with h | h <;> rw [h] <;> rfl) ?_ hO
          exact ⟨hw2_k5, hJ, hT, hW⟩
        · refine lv_aload_n hx hb dX5_readSum_19 rfl (lv_at hl 2 rfl) ?_
          refine gf_RX5_9 (v := .ref (a 1)) C hO 27 cW_27 rfl dX5_readSum_20 ?_
          refine gf_RX5_36 (v := .int (fI u4 1 4)) C hO 1 cW_1 rfl dX5_readSum_23 ?_
          refine lv_bipush (v := 43) hx hb dX5_readSum_26 (by decide) ?_
          refine cs_eq (tgt := 43) (X := ((fI u4 1 4)).toInt) (Y := 43) hx hb dX5_readSum_28 (by decide) rfl rfl (fun c8 => ?_) (fun c8 => ?_)
          · refine lv_aload_n hx hb dX5_readSum_43 rfl (lv_at hl 2 rfl) ?_
            refine gf_RX5_9 (v := .ref (a 1)) C hO 27 cW_27 rfl dX5_readSum_44 ?_
            refine gf_RX5_36 (v := .int (fI u4 1 4)) C hO 1 cW_1 rfl dX5_readSum_47 ?_
            refine lv_istore (lv' := [(4, .int (fI u4 1 4)), (3, .int i_k5), (2, .int w2_k5), (0, .ref (a 27)), (1, .int 0)]) hx hb dX5_readSum_50 hl (by decide) rfl (fun ls hl => ?_)
            refine lv_aload_n hx hb dX5_readSum_52 rfl (lv_at hl 3 rfl) ?_
            refine gf_RX5_9 (v := .ref (a 1)) C hO 27 cW_27 rfl dX5_readSum_53 ?_
            refine cVv (w := cW cy a) (As := []) (rest := []) C hO (T_X7_advance l D cy a _ (by exact hJ) (by exact hW)) (cwV 0 ht (gV wd_695 wd_541 wd_542 wd_111 wd_543) rfl rfl rfl hd_yX7_advance ⟨Nat.le_of_ble_eq_true rfl, Nat.le_of_ble_eq_true rfl⟩) 1 rfl cW_1 rfl rfl hl.1 (Nat.le_of_ble_eq_true rfl) dX5_readSum_56 rfl ⟨Nat.zero_le _, Nat.zero_le _⟩ (fun u10 H locs hp11 hO => ?_)
            have g12 : 0 ≤ (fI u4 15 9).toInt ∧ (fI u4 15 9).toInt ≤ 8 := by have h := CI_15_9 hJ; exact h
            have g13 : 0 ≤ (fI u4 15 10).toInt ∧ (fI u4 15 10).toInt ≤ 14 := by have h := CI_15_10 hJ; exact h
            have g14 : 0 ≤ (fI u4 15 11).toInt ∧ (fI u4 15 11).toInt ≤ 8 := by have h := CI_15_11 hJ; exact h
            have g15 : 0 ≤ (fI u4 15 12).toInt ∧ (fI u4 15 12).toInt ≤ 6 := by have h := CI_15_12 hJ; exact h
            obtain ⟨hJ, hTu10, hW⟩ := hp11
            have hT : KT u u10 := KT.tr (by exact hT) hTu10.1
            have hI_15_9_u10 : fI u10 15 9 = (fI u4 15 9) := hTu10.2.1
            have hI_15_10_u10 : fI u10 15 10 = (fI u4 15 10) := hTu10.2.2.1
            have hI_15_11_u10 : fI u10 15 11 = (fI u4 15 11) := hTu10.2.2.2.1
            have hI_15_12_u10 : fI u10 15 12 = (fI u4 15 12) := hTu10.2.2.2.2
            refine lv_aload_n hx hb dX5_readSum_59 rfl (lv_at hl 3 rfl) ?_
            refine lv_iload_n hx hb dX5_readSum_60 rfl (lv_at hl 4 rfl) ?_
            refine cVi (w := cW cy a) (As := [.int 0]) (rest := []) C hO (T_X5_readProduct_0 l D cy a _ (by exact hJ) (by exact hW)) (cwV 1 ht (gV wd_767 wd_769 wd_22 wd_114 wd_770) rfl rfl rfl hd_yX5_readProduct ⟨Nat.le_of_ble_eq_true rfl, Nat.le_of_ble_eq_true rfl⟩) 27 rfl cW_27 rfl rfl hl.1 (Nat.le_of_ble_eq_true rfl) dX5_readSum_61 rfl ⟨Nat.zero_le _, Nat.zero_le _⟩ (fun r16 u17 H locs hp18 hO => ?_)
            obtain ⟨hr16, hJ, hTu17, hW⟩ := hp18
            have gr16 : 0 ≤ r16.toInt ∧ r16.toInt ≤ 1 := by rcases hr16 with h | h <;> rw [h] <;> decide
            have hT : KT u u17 := KT.tr (by exact hT) hTu17
            refine lv_istore_n (lv' := [(2, .int r16), (4, .int (fI u4 1 4)), (3, .int i_k5), (0, .ref (a 27)), (1, .int 0)]) hx hb dX5_readSum_64 rfl hl (by decide) rfl (fun ls hl => ?_)
            refine lv_aload_n hx hb dX5_readSum_65 rfl (lv_at hl 3 rfl) ?_
            refine gf_RX5_15 (v := .ref (a 15)) C hO 27 cW_27 (congrArg (fun z : Nat => some (Value.ref z)) hW) dX5_readSum_66 ?_
            refine gf_RX5_173 (v := .ref (a 24)) C hO 15 cW_15 rfl dX5_readSum_69 ?_
            refine lv_iload hx hb dX5_readSum_72 (lv_at hl 1 rfl) ?_
            refine lv_ineg hx hb dX5_readSum_74 ?_
            refine lv_topi (fun z19 ez19 => ?_)
            refine cVv (w := cW cy a) (As := [.int z19]) (rest := []) C hO (T_X4_add l D cy a _ (by exact hJ) (by exact hW) (z19)) (cwV 1 ht (gV wd_759 wd_760 wd_761 wd_113 wd_762) rfl rfl rfl hd_yX4_add ⟨Nat.le_of_ble_eq_true rfl, Nat.le_of_ble_eq_true rfl⟩) 24 rfl cW_24 rfl rfl hl.1 (Nat.le_of_ble_eq_true rfl) dX5_readSum_75 rfl ⟨Nat.zero_le _, Nat.zero_le _⟩ (fun u21 H locs hp22 hO => ?_)
            have g23 : 0 ≤ (fI u17 15 9).toInt ∧ (fI u17 15 9).toInt ≤ 8 := by have h := CI_15_9 hJ; exact h
            have g24 : 0 ≤ (fI u17 15 10).toInt ∧ (fI u17 15 10).toInt ≤ 14 := by have h := CI_15_10 hJ; exact h
            have g25 : 0 ≤ (fI u17 15 11).toInt ∧ (fI u17 15 11).toInt ≤ 8 := by have h := CI_15_11 hJ; exact h
            have g26 : 0 ≤ (fI u17 15 12).toInt ∧ (fI u17 15 12).toInt ≤ 6 := by have h := CI_15_12 hJ; exact h
            obtain ⟨hJ, hTu21, hW⟩ := hp22
            have hT : KT u u21 := KT.tr (by exact hT) hTu21.1
            have hI_15_9_u21 : fI u21 15 9 = (fI u17 15 9) := hTu21.2.1
            have hI_15_10_u21 : fI u21 15 10 = (fI u17 15 10) := hTu21.2.2.1
            have hI_15_11_u21 : fI u21 15 11 = (fI u17 15 11) := hTu21.2.2.2.1
            have hI_15_12_u21 : fI u21 15 12 = (fI u17 15 12) := hTu21.2.2.2.2
            have e27 : ((i_k5 + 1)).toInt = (i_k5).toInt + 1 := i_add rfl rfl (by omega)
            refine lv_iinc (v := (i_k5 + 1)) (lv' := [(3, .int (i_k5 + 1)), (2, .int r16), (4, .int (fI u4 1 4)), (0, .ref (a 27)), (1, .int 0)]) hx hb dX5_readSum_78 hl (k := 2) rfl rfl (by decide) rfl (fun ls hl => ?_)
            refine lv_goto (tgt := 8) hx hb dX5_readSum_81 (by decide) ?_
            exact ih_k5 _ _ _ _ ((i_k5 + 1)) (r16) hO (lv_sub hl [0, 1, 3, 4] rfl) (by exact hJ) (by exact hT) (by exact hW) (by first | decide | omega) (by first | decide | omega) (by first | decide | omega)
          · refine lv_aload_n hx hb dX5_readSum_31 rfl (lv_at hl 2 rfl) ?_
            refine gf_RX5_9 (v := .ref (a 1)) C hO 27 cW_27 rfl dX5_readSum_32 ?_
            refine gf_RX5_36 (v := .int (fI u4 1 4)) C hO 1 cW_1 rfl dX5_readSum_35 ?_
            refine lv_bipush (v := 45) hx hb dX5_readSum_38 (by decide) ?_
            refine cs_ne (tgt := 84) (X := ((fI u4 1 4)).toInt) (Y := 45) hx hb dX5_readSum_40 (by decide) rfl rfl (fun c28 => ?_) (fun c28 => ?_)
            · refine lv_iload_n hx hb dX5_readSum_84 rfl (lv_at hl 1 rfl) ?_
              have hw2_k5 : w2_k5 = 0 ∨ w2_k5 = 1 := i_b01 rfl (by omega) (by omega)
              refine hret _ _ _ _ _ _ dX5_readSum_85 (by rcases hw2_k5 with h | h <;> rw [h] <;> rfl) ?_ hO
              exact ⟨hw2_k5, hJ, hT, hW⟩
            · refine lv_aload_n hx hb dX5_readSum_43 rfl (lv_at hl 2 rfl) ?_
              refine gf_RX5_9 (v := .ref (a 1)) C hO 27 cW_27 rfl dX5_readSum_44 ?_
              refine gf_RX5_36 (v := .int (fI u4 1 4)) C hO 1 cW_1 rfl dX5_readSum_47 ?_
              refine lv_istore (lv' := [(4, .int (fI u4 1 4)), (3, .int i_k5), (2, .int w2_k5), (0, .ref (a 27)), (1, .int 0)]) hx hb dX5_readSum_50 hl (by decide) rfl (fun ls hl => ?_)
              refine lv_aload_n hx hb dX5_readSum_52 rfl (lv_at hl 3 rfl) ?_
              refine gf_RX5_9 (v := .ref (a 1)) C hO 27 cW_27 rfl dX5_readSum_53 ?_
              refine cVv (w := cW cy a) (As := []) (rest := []) C hO (T_X7_advance l D cy a _ (by exact hJ) (by exact hW)) (cwV 0 ht (gV wd_695 wd_541 wd_542 wd_111 wd_543) rfl rfl rfl hd_yX7_advance ⟨Nat.le_of_ble_eq_true rfl, Nat.le_of_ble_eq_true rfl⟩) 1 rfl cW_1 rfl rfl hl.1 (Nat.le_of_ble_eq_true rfl) dX5_readSum_56 rfl ⟨Nat.zero_le _, Nat.zero_le _⟩ (fun u30 H locs hp31 hO => ?_)
              have g32 : 0 ≤ (fI u4 15 9).toInt ∧ (fI u4 15 9).toInt ≤ 8 := by have h := CI_15_9 hJ; exact h
              have g33 : 0 ≤ (fI u4 15 10).toInt ∧ (fI u4 15 10).toInt ≤ 14 := by have h := CI_15_10 hJ; exact h
              have g34 : 0 ≤ (fI u4 15 11).toInt ∧ (fI u4 15 11).toInt ≤ 8 := by have h := CI_15_11 hJ; exact h
              have g35 : 0 ≤ (fI u4 15 12).toInt ∧ (fI u4 15 12).toInt ≤ 6 := by have h := CI_15_12 hJ; exact h
              obtain ⟨hJ, hTu30, hW⟩ := hp31
              have hT : KT u u30 := KT.tr (by exact hT) hTu30.1
              have hI_15_9_u30 : fI u30 15 9 = (fI u4 15 9) := hTu30.2.1
              have hI_15_10_u30 : fI u30 15 10 = (fI u4 15 10) := hTu30.2.2.1
              have hI_15_11_u30 : fI u30 15 11 = (fI u4 15 11) := hTu30.2.2.2.1
              have hI_15_12_u30 : fI u30 15 12 = (fI u4 15 12) := hTu30.2.2.2.2
              refine lv_aload_n hx hb dX5_readSum_59 rfl (lv_at hl 3 rfl) ?_
              refine lv_iload_n hx hb dX5_readSum_60 rfl (lv_at hl 4 rfl) ?_
              refine cVi (w := cW cy a) (As := [.int 0]) (rest := []) C hO (T_X5_readProduct_0 l D cy a _ (by exact hJ) (by exact hW)) (cwV 1 ht (gV wd_767 wd_769 wd_22 wd_114 wd_770) rfl rfl rfl hd_yX5_readProduct ⟨Nat.le_of_ble_eq_true rfl, Nat.le_of_ble_eq_true rfl⟩) 27 rfl cW_27 rfl rfl hl.1 (Nat.le_of_ble_eq_true rfl) dX5_readSum_61 rfl ⟨Nat.zero_le _, Nat.zero_le _⟩ (fun r36 u37 H locs hp38 hO => ?_)
              obtain ⟨hr36, hJ, hTu37, hW⟩ := hp38
              have gr36 : 0 ≤ r36.toInt ∧ r36.toInt ≤ 1 := by rcases hr36 with h | h <;> rw [h] <;> decide
              have hT : KT u u37 := KT.tr (by exact hT) hTu37
              refine lv_istore_n (lv' := [(2, .int r36), (4, .int (fI u4 1 4)), (3, .int i_k5), (0, .ref (a 27)), (1, .int 0)]) hx hb dX5_readSum_64 rfl hl (by decide) rfl (fun ls hl => ?_)
              refine lv_aload_n hx hb dX5_readSum_65 rfl (lv_at hl 3 rfl) ?_
              refine gf_RX5_15 (v := .ref (a 15)) C hO 27 cW_27 (congrArg (fun z : Nat => some (Value.ref z)) hW) dX5_readSum_66 ?_
              refine gf_RX5_173 (v := .ref (a 24)) C hO 15 cW_15 rfl dX5_readSum_69 ?_
              refine lv_iload hx hb dX5_readSum_72 (lv_at hl 1 rfl) ?_
              refine lv_ineg hx hb dX5_readSum_74 ?_
              refine lv_topi (fun z39 ez39 => ?_)
              refine cVv (w := cW cy a) (As := [.int z39]) (rest := []) C hO (T_X4_add l D cy a _ (by exact hJ) (by exact hW) (z39)) (cwV 1 ht (gV wd_759 wd_760 wd_761 wd_113 wd_762) rfl rfl rfl hd_yX4_add ⟨Nat.le_of_ble_eq_true rfl, Nat.le_of_ble_eq_true rfl⟩) 24 rfl cW_24 rfl rfl hl.1 (Nat.le_of_ble_eq_true rfl) dX5_readSum_75 rfl ⟨Nat.zero_le _, Nat.zero_le _⟩ (fun u41 H locs hp42 hO => ?_)
              have g43 : 0 ≤ (fI u37 15 9).toInt ∧ (fI u37 15 9).toInt ≤ 8 := by have h := CI_15_9 hJ; exact h
              have g44 : 0 ≤ (fI u37 15 10).toInt ∧ (fI u37 15 10).toInt ≤ 14 := by have h := CI_15_10 hJ; exact h
              have g45 : 0 ≤ (fI u37 15 11).toInt ∧ (fI u37 15 11).toInt ≤ 8 := by have h := CI_15_11 hJ; exact h
              have g46 : 0 ≤ (fI u37 15 12).toInt ∧ (fI u37 15 12).toInt ≤ 6 := by have h := CI_15_12 hJ; exact h
              obtain ⟨hJ, hTu41, hW⟩ := hp42
              have hT : KT u u41 := KT.tr (by exact hT) hTu41.1
              have hI_15_9_u41 : fI u41 15 9 = (fI u37 15 9) := hTu41.2.1
              have hI_15_10_u41 : fI u41 15 10 = (fI u37 15 10) := hTu41.2.2.1
              have hI_15_11_u41 : fI u41 15 11 = (fI u37 15 11) := hTu41.2.2.2.1
              have hI_15_12_u41 : fI u41 15 12 = (fI u37 15 12) := hTu41.2.2.2.2
              have e47 : ((i_k5 + 1)).toInt = (i_k5).toInt + 1 := i_add rfl rfl (by omega)
              refine lv_iinc (v := (i_k5 + 1)) (lv' := [(3, .int (i_k5 + 1)), (2, .int r36), (4, .int (fI u4 1 4)), (0, .ref (a 27)), (1, .int 0)]) hx hb dX5_readSum_78 hl (k := 2) rfl rfl (by decide) rfl (fun ls hl => ?_)
              refine lv_goto (tgt := 8) hx hb dX5_readSum_81 (by decide) ?_
              exact ih_k5 _ _ _ _ ((i_k5 + 1)) (r36) hO (lv_sub hl [0, 1, 3, 4] rfl) (by exact hJ) (by exact hT) (by exact hW) (by first | decide | omega) (by first | decide | omega) (by first | decide | omega)
  exact LP_8_k5 4000 _ _ _ _ (0) (r1) hO (lv_sub hl [0, 1, 2, 3] rfl) (by exact hJ) (by exact hT) (by exact hW) (by first | decide | omega) (by first | decide | omega) (by first | decide | omega)
set_option maxHeartbeats 4000000 in
set_option maxRecDepth 100000 in
theorem T_X5_readNot_0 (l : Launch) (D : va_G) (cy : Nat → ClassId) (a : Nat → Nat) (u : St) (hJ : CI a u) (hW : fR u 2 = a 15)   : Mi l D cy (cW cy a) yX5_readNot (.code yX5_readNot cX5_readNot 3 (some .boolean)) (rmo 52 1184) [.ref (a 27), .int 0] u (fun (r : Int32) (u' : St) => (r = 0 ∨ r = 1) ∧ (CI a u') ∧ (KT u u') ∧ (fR u' 2 = a 15)) := by
  refine Mi.of (own := RX5) rfl (by decide) (Nat.le_of_ble_eq_true rfl) ?_
  have hT : KT u u := KT.rf
  intro p e s m below meth c A Q ls C hret hO hl
  obtain ⟨hx, hb, hml, hown, ht, hK, hA⟩ := id C
  have hl : lv_has ls 3 [(0, .ref (a 27)), (1, .int 0)] := hl
  refine lv_iload_n hx hb dX5_readNot_0 rfl (lv_at hl 1 rfl) ?_
  refine lv_bipush (v := 6) hx hb dX5_readNot_1 (by decide) ?_
  refine ct_le (tgt := 12) (X := 0) (Y := 6) hx hb dX5_readNot_3 (by decide) rfl rfl (by omega) ?_
  refine lv_aload_n hx hb dX5_readNot_12 rfl (lv_at hl 0 rfl) ?_
  refine gf_RX5_9 (v := .ref (a 1)) C hO 27 cW_27 rfl dX5_readNot_13 ?_
  refine cVv (w := cW cy a) (As := []) (rest := []) C hO (T_X7_advance l D cy a _ (by exact hJ) (by exact hW)) (cwV 0 ht (gV wd_695 wd_541 wd_542 wd_111 wd_543) rfl rfl rfl hd_yX7_advance ⟨Nat.le_of_ble_eq_true rfl, Nat.le_of_ble_eq_true rfl⟩) 1 rfl cW_1 rfl rfl hl.1 (Nat.le_of_ble_eq_true rfl) dX5_readNot_16 rfl ⟨Nat.zero_le _, Nat.zero_le _⟩ (fun u2 H locs hp3 hO => ?_)
  have g4 : 0 ≤ (fI u 15 9).toInt ∧ (fI u 15 9).toInt ≤ 8 := by have h := CI_15_9 hJ; exact h
  have g5 : 0 ≤ (fI u 15 10).toInt ∧ (fI u 15 10).toInt ≤ 14 := by have h := CI_15_10 hJ; exact h
  have g6 : 0 ≤ (fI u 15 11).toInt ∧ (fI u 15 11).toInt ≤ 8 := by have h := CI_15_11 hJ; exact h
  have g7 : 0 ≤ (fI u 15 12).toInt ∧ (fI u 15 12).toInt ≤ 6 := by have h := CI_15_12 hJ; exact h
  obtain ⟨hJ, hTu2, hW⟩ := hp3
  have hT : KT u u2 := KT.tr (by exact hT) hTu2.1
  have hI_15_9_u2 : fI u2 15 9 = (fI u 15 9) := hTu2.2.1
  have hI_15_10_u2 : fI u2 15 10 = (fI u 15 10) := hTu2.2.2.1
  have hI_15_11_u2 : fI u2 15 11 = (fI u 15 11) := hTu2.2.2.2.1
  have hI_15_12_u2 : fI u2 15 12 = (fI u 15 12) := hTu2.2.2.2.2
  refine lv_aload_n hx hb dX5_readNot_19 rfl (lv_at hl 0 rfl) ?_
  refine lv_iload_n hx hb dX5_readNot_20 rfl (lv_at hl 1 rfl) ?_
  refine lv_iconst (v := 1) hx hb dX5_readNot_21 (by decide) ?_
  refine lv_iadd hx hb dX5_readNot_22 ?_
  refine tE (y := 1) rfl ?_
  refine cVi (w := cW cy a) (As := [.int 1]) (rest := []) C hO (T_X5_readOne_1 l D cy a _ (by exact hJ) (by exact hW)) (cwV 1 ht (gV wd_751 wd_753 wd_19 wd_114 wd_754) rfl rfl rfl hd_yX5_readOne ⟨Nat.le_of_ble_eq_true rfl, Nat.le_of_ble_eq_true rfl⟩) 27 rfl cW_27 rfl rfl hl.1 (Nat.le_of_ble_eq_true rfl) dX5_readNot_23 rfl ⟨Nat.zero_le _, Nat.zero_le _⟩ (fun r8 u9 H locs hp10 hO => ?_)
  obtain ⟨hr8, hJ, hTu9, hW⟩ := hp10
  have gr8 : 0 ≤ r8.toInt ∧ r8.toInt ≤ 1 := by rcases hr8 with h | h <;> rw [h] <;> decide
  have hT : KT u u9 := KT.tr (by exact hT) hTu9
  refine lv_istore_n (lv' := [(2, .int r8), (0, .ref (a 27)), (1, .int 0)]) hx hb dX5_readNot_26 rfl hl (by decide) rfl (fun ls hl => ?_)
  refine lv_aload_n hx hb dX5_readNot_27 rfl (lv_at hl 1 rfl) ?_
  refine gf_RX5_15 (v := .ref (a 15)) C hO 27 cW_27 (congrArg (fun z : Nat => some (Value.ref z)) hW) dX5_readNot_28 ?_
  refine gf_RX5_173 (v := .ref (a 24)) C hO 15 cW_15 rfl dX5_readNot_31 ?_
  refine lv_bipush (v := (-15)) hx hb dX5_readNot_34 (by decide) ?_
  refine cVv (w := cW cy a) (As := [.int (-15)]) (rest := []) C hO (T_X4_add l D cy a _ (by exact hJ) (by exact hW) ((-15))) (cwV 1 ht (gV wd_759 wd_760 wd_761 wd_113 wd_762) rfl rfl rfl hd_yX4_add ⟨Nat.le_of_ble_eq_true rfl, Nat.le_of_ble_eq_true rfl⟩) 24 rfl cW_24 rfl rfl hl.1 (Nat.le_of_ble_eq_true rfl) dX5_readNot_36 rfl ⟨Nat.zero_le _, Nat.zero_le _⟩ (fun u12 H locs hp13 hO => ?_)
  have g14 : 0 ≤ (fI u9 15 9).toInt ∧ (fI u9 15 9).toInt ≤ 8 := by have h := CI_15_9 hJ; exact h
  have g15 : 0 ≤ (fI u9 15 10).toInt ∧ (fI u9 15 10).toInt ≤ 14 := by have h := CI_15_10 hJ; exact h
  have g16 : 0 ≤ (fI u9 15 11).toInt ∧ (fI u9 15 11).toInt ≤ 8 := by have h := CI_15_11 hJ; exact h
  have g17 : 0 ≤ (fI u9 15 12).toInt ∧ (fI u9 15 12).toInt ≤ 6 := by have h := CI_15_12 hJ; exact h
  obtain ⟨hJ, hTu12, hW⟩ := hp13
  have hT : KT u u12 := KT.tr (by exact hT) hTu12.1
  have hI_15_9_u12 : fI u12 15 9 = (fI u9 15 9) := hTu12.2.1
  have hI_15_10_u12 : fI u12 15 10 = (fI u9 15 10) := hTu12.2.2.1
  have hI_15_11_u12 : fI u12 15 11 = (fI u9 15 11) := hTu12.2.2.2.1
  have hI_15_12_u12 : fI u12 15 12 = (fI u9 15 12) := hTu12.2.2.2.2
  refine lv_iload_n hx hb dX5_readNot_39 rfl (lv_at hl 0 rfl) ?_
  refine hret _ _ _ _ _ _ dX5_readNot_40 (by rcases hr8 with h | h <;> rw [h] <;> rfl) ?_ hO
  exact ⟨hr8, hJ, hT, hW⟩
set_option maxHeartbeats 4000000 in
set_option maxRecDepth 100000 in
theorem T_X5_readOne_0 (l : Launch) (D : va_G) (cy : Nat → ClassId) (a : Nat → Nat) (u : St) (hJ : CI a u) (hW : fR u 2 = a 15)   : Mi l D cy (cW cy a) yX5_readOne (.code yX5_readOne cX5_readOne 4 (some .boolean)) (rmo 58 1321) [.ref (a 27), .int 0] u (fun (r : Int32) (u' : St) => (r = 0 ∨ r = 1) ∧ (CI a u') ∧ (KT u u') ∧ (fR u' 2 = a 15)) := by
  refine Mi.of (own := RX5) rfl (by decide) (Nat.le_of_ble_eq_true rfl) ?_
  have hT : KT u u := KT.rf
  intro p e s m below meth c A Q ls C hret hO hl
  obtain ⟨hx, hb, hml, hown, ht, hK, hA⟩ := id C
  have hl : lv_has ls 4 [(0, .ref (a 27)), (1, .int 0)] := hl
  refine lv_aload_n hx hb dX5_readOne_0 rfl (lv_at hl 0 rfl) ?_
  refine gf_RX5_9 (v := .ref (a 1)) C hO 27 cW_27 rfl dX5_readOne_1 ?_
  refine gf_RX5_36 (v := .int (fI u 1 4)) C hO 1 cW_1 rfl dX5_readOne_4 ?_
  refine lv_bipush (v := 15) hx hb dX5_readOne_7 (by decide) ?_
  refine cs_ne (tgt := 18) (X := ((fI u 1 4)).toInt) (Y := 15) hx hb dX5_readOne_9 (by decide) rfl rfl (fun c1 => ?_) (fun c1 => ?_)
  · refine lv_aload_n hx hb dX5_readOne_18 rfl (lv_at hl 0 rfl) ?_
    refine lv_iload_n hx hb dX5_readOne_19 rfl (lv_at hl 1 rfl) ?_
    refine cVi (w := cW cy a) (As := [.int 0]) (rest := []) C hO (T_X5_readSum_0 l D cy a _ (by exact hJ) (by exact hW)) (cwV 1 ht (gV wd_763 wd_765 wd_21 wd_114 wd_766) rfl rfl rfl hd_yX5_readSum ⟨Nat.le_of_ble_eq_true rfl, Nat.le_of_ble_eq_true rfl⟩) 27 rfl cW_27 rfl rfl hl.1 (Nat.le_of_ble_eq_true rfl) dX5_readOne_20 rfl ⟨Nat.zero_le _, Nat.zero_le _⟩ (fun r2 u3 H locs hp4 hO => ?_)
    obtain ⟨hr2, hJ, hTu3, hW⟩ := hp4
    have gr2 : 0 ≤ r2.toInt ∧ r2.toInt ≤ 1 := by rcases hr2 with h | h <;> rw [h] <;> decide
    have hT : KT u u3 := KT.tr (by exact hT) hTu3
    refine bs_ne (tgt := 28) (X := (r2).toInt) hx hb dX5_readOne_23 (by decide) rfl (fun c5 => ?_) (fun c5 => ?_)
    · refine lv_aload_n hx hb dX5_readOne_28 rfl (lv_at hl 0 rfl) ?_
      refine gf_RX5_9 (v := .ref (a 1)) C hO 27 cW_27 rfl dX5_readOne_29 ?_
      refine gf_RX5_36 (v := .int (fI u3 1 4)) C hO 1 cW_1 rfl dX5_readOne_32 ?_
      refine lv_istore_n (lv' := [(2, .int (fI u3 1 4)), (0, .ref (a 27)), (1, .int 0)]) hx hb dX5_readOne_35 rfl hl (by decide) rfl (fun ls hl => ?_)
      refine lv_iload_n hx hb dX5_readOne_36 rfl (lv_at hl 0 rfl) ?_
      refine lv_bipush (v := 60) hx hb dX5_readOne_37 (by decide) ?_
      refine cs_eq (tgt := 56) (X := ((fI u3 1 4)).toInt) (Y := 60) hx hb dX5_readOne_39 (by decide) rfl rfl (fun c6 => ?_) (fun c6 => ?_)
      · refine lv_aload_n hx hb dX5_readOne_56 rfl (lv_at hl 1 rfl) ?_
        refine gf_RX5_9 (v := .ref (a 1)) C hO 27 cW_27 rfl dX5_readOne_57 ?_
        refine cVv (w := cW cy a) (As := []) (rest := []) C hO (T_X7_advance l D cy a _ (by exact hJ) (by exact hW)) (cwV 0 ht (gV wd_695 wd_541 wd_542 wd_111 wd_543) rfl rfl rfl hd_yX7_advance ⟨Nat.le_of_ble_eq_true rfl, Nat.le_of_ble_eq_true rfl⟩) 1 rfl cW_1 rfl rfl hl.1 (Nat.le_of_ble_eq_true rfl) dX5_readOne_60 rfl ⟨Nat.zero_le _, Nat.zero_le _⟩ (fun u8 H locs hp9 hO => ?_)
        have g10 : 0 ≤ (fI u3 15 9).toInt ∧ (fI u3 15 9).toInt ≤ 8 := by have h := CI_15_9 hJ; exact h
        have g11 : 0 ≤ (fI u3 15 10).toInt ∧ (fI u3 15 10).toInt ≤ 14 := by have h := CI_15_10 hJ; exact h
        have g12 : 0 ≤ (fI u3 15 11).toInt ∧ (fI u3 15 11).toInt ≤ 8 := by have h := CI_15_11 hJ; exact h
        have g13 : 0 ≤ (fI u3 15 12).toInt ∧ (fI u3 15 12).toInt ≤ 6 := by have h := CI_15_12 hJ; exact h
        obtain ⟨hJ, hTu8, hW⟩ := hp9
        have hT : KT u u8 := KT.tr (by exact hT) hTu8.1
        have hI_15_9_u8 : fI u8 15 9 = (fI u3 15 9) := hTu8.2.1
        have hI_15_10_u8 : fI u8 15 10 = (fI u3 15 10) := hTu8.2.2.1
        have hI_15_11_u8 : fI u8 15 11 = (fI u3 15 11) := hTu8.2.2.2.1
        have hI_15_12_u8 : fI u8 15 12 = (fI u3 15 12) := hTu8.2.2.2.2
        refine lv_aload_n hx hb dX5_readOne_63 rfl (lv_at hl 1 rfl) ?_
        refine lv_iload_n hx hb dX5_readOne_64 rfl (lv_at hl 2 rfl) ?_
        refine cVi (w := cW cy a) (As := [.int 0]) (rest := []) C hO (T_X5_readSum_0 l D cy a _ (by exact hJ) (by exact hW)) (cwV 1 ht (gV wd_763 wd_765 wd_21 wd_114 wd_766) rfl rfl rfl hd_yX5_readSum ⟨Nat.le_of_ble_eq_true rfl, Nat.le_of_ble_eq_true rfl⟩) 27 rfl cW_27 rfl rfl hl.1 (Nat.le_of_ble_eq_true rfl) dX5_readOne_65 rfl ⟨Nat.zero_le _, Nat.zero_le _⟩ (fun r14 u15 H locs hp16 hO => ?_)
        obtain ⟨hr14, hJ, hTu15, hW⟩ := hp16
        have gr14 : 0 ≤ r14.toInt ∧ r14.toInt ≤ 1 := by rcases hr14 with h | h <;> rw [h] <;> decide
        have hT : KT u u15 := KT.tr (by exact hT) hTu15
        refine lv_istore_n (lv' := [(3, .int r14), (2, .int (fI u3 1 4)), (0, .ref (a 27)), (1, .int 0)]) hx hb dX5_readOne_68 rfl hl (by decide) rfl (fun ls hl => ?_)
        refine lv_aload_n hx hb dX5_readOne_69 rfl (lv_at hl 2 rfl) ?_
        refine gf_RX5_15 (v := .ref (a 15)) C hO 27 cW_27 (congrArg (fun z : Nat => some (Value.ref z)) hW) dX5_readOne_70 ?_
        refine gf_RX5_173 (v := .ref (a 24)) C hO 15 cW_15 rfl dX5_readOne_73 ?_
        refine lv_iload_n hx hb dX5_readOne_76 rfl (lv_at hl 1 rfl) ?_
        refine lv_ineg hx hb dX5_readOne_77 ?_
        refine lv_topi (fun z17 ez17 => ?_)
        refine cVv (w := cW cy a) (As := [.int z17]) (rest := []) C hO (T_X4_add l D cy a _ (by exact hJ) (by exact hW) (z17)) (cwV 1 ht (gV wd_759 wd_760 wd_761 wd_113 wd_762) rfl rfl rfl hd_yX4_add ⟨Nat.le_of_ble_eq_true rfl, Nat.le_of_ble_eq_true rfl⟩) 24 rfl cW_24 rfl rfl hl.1 (Nat.le_of_ble_eq_true rfl) dX5_readOne_78 rfl ⟨Nat.zero_le _, Nat.zero_le _⟩ (fun u19 H locs hp20 hO => ?_)
        have g21 : 0 ≤ (fI u15 15 9).toInt ∧ (fI u15 15 9).toInt ≤ 8 := by have h := CI_15_9 hJ; exact h
        have g22 : 0 ≤ (fI u15 15 10).toInt ∧ (fI u15 15 10).toInt ≤ 14 := by have h := CI_15_10 hJ; exact h
        have g23 : 0 ≤ (fI u15 15 11).toInt ∧ (fI u15 15 11).toInt ≤ 8 := by have h := CI_15_11 hJ; exact h
        have g24 : 0 ≤ (fI u15 15 12).toInt ∧ (fI u15 15 12).toInt ≤ 6 := by have h := CI_15_12 hJ; exact h
        obtain ⟨hJ, hTu19, hW⟩ := hp20
        have hT : KT u u19 := KT.tr (by exact hT) hTu19.1
        have hI_15_9_u19 : fI u19 15 9 = (fI u15 15 9) := hTu19.2.1
        have hI_15_10_u19 : fI u19 15 10 = (fI u15 15 10) := hTu19.2.2.1
        have hI_15_11_u19 : fI u19 15 11 = (fI u15 15 11) := hTu19.2.2.2.1
        have hI_15_12_u19 : fI u19 15 12 = (fI u15 15 12) := hTu19.2.2.2.2
        refine lv_iload_n hx hb dX5_readOne_81 rfl (lv_at hl 0 rfl) ?_
        refine hret _ _ _ _ _ _ dX5_readOne_82 (by rcases hr14 with h | h <;> rw [h] <;> rfl) ?_ hO
        exact ⟨hr14, hJ, hT, hW⟩
      · refine lv_iload_n hx hb dX5_readOne_42 rfl (lv_at hl 0 rfl) ?_
        refine lv_bipush (v := 62) hx hb dX5_readOne_43 (by decide) ?_
        refine cs_eq (tgt := 56) (X := ((fI u3 1 4)).toInt) (Y := 62) hx hb dX5_readOne_45 (by decide) rfl rfl (fun c25 => ?_) (fun c25 => ?_)
        · refine lv_aload_n hx hb dX5_readOne_56 rfl (lv_at hl 1 rfl) ?_
          refine gf_RX5_9 (v := .ref (a 1)) C hO 27 cW_27 rfl dX5_readOne_57 ?_
          refine cVv (w := cW cy a) (As := []) (rest := []) C hO (T_X7_advance l D cy a _ (by exact hJ) (by exact hW)) (cwV 0 ht (gV wd_695 wd_541 wd_542 wd_111 wd_543) rfl rfl rfl hd_yX7_advance ⟨Nat.le_of_ble_eq_true rfl, Nat.le_of_ble_eq_true rfl⟩) 1 rfl cW_1 rfl rfl hl.1 (Nat.le_of_ble_eq_true rfl) dX5_readOne_60 rfl ⟨Nat.zero_le _, Nat.zero_le _⟩ (fun u27 H locs hp28 hO => ?_)
          have g29 : 0 ≤ (fI u3 15 9).toInt ∧ (fI u3 15 9).toInt ≤ 8 := by have h := CI_15_9 hJ; exact h
          have g30 : 0 ≤ (fI u3 15 10).toInt ∧ (fI u3 15 10).toInt ≤ 14 := by have h := CI_15_10 hJ; exact h
          have g31 : 0 ≤ (fI u3 15 11).toInt ∧ (fI u3 15 11).toInt ≤ 8 := by have h := CI_15_11 hJ; exact h
          have g32 : 0 ≤ (fI u3 15 12).toInt ∧ (fI u3 15 12).toInt ≤ 6 := by have h := CI_15_12 hJ; exact h
          obtain ⟨hJ, hTu27, hW⟩ := hp28
          have hT : KT u u27 := KT.tr (by exact hT) hTu27.1
          have hI_15_9_u27 : fI u27 15 9 = (fI u3 15 9) := hTu27.2.1
          have hI_15_10_u27 : fI u27 15 10 = (fI u3 15 10) := hTu27.2.2.1
          have hI_15_11_u27 : fI u27 15 11 = (fI u3 15 11) := hTu27.2.2.2.1
          have hI_15_12_u27 : fI u27 15 12 = (fI u3 15 12) := hTu27.2.2.2.2
          refine lv_aload_n hx hb dX5_readOne_63 rfl (lv_at hl 1 rfl) ?_
          refine lv_iload_n hx hb dX5_readOne_64 rfl (lv_at hl 2 rfl) ?_
          refine cVi (w := cW cy a) (As := [.int 0]) (rest := []) C hO (T_X5_readSum_0 l D cy a _ (by exact hJ) (by exact hW)) (cwV 1 ht (gV wd_763 wd_765 wd_21 wd_114 wd_766) rfl rfl rfl hd_yX5_readSum ⟨Nat.le_of_ble_eq_true rfl, Nat.le_of_ble_eq_true rfl⟩) 27 rfl cW_27 rfl rfl hl.1 (Nat.le_of_ble_eq_true rfl) dX5_readOne_65 rfl ⟨Nat.zero_le _, Nat.zero_le _⟩ (fun r33 u34 H locs hp35 hO => ?_)
          obtain ⟨hr33, hJ, hTu34, hW⟩ := hp35
          have gr33 : 0 ≤ r33.toInt ∧ r33.toInt ≤ 1 := by rcases hr33 with h | h <;> rw [h] <;> decide
          have hT : KT u u34 := KT.tr (by exact hT) hTu34
          refine lv_istore_n (lv' := [(3, .int r33), (2, .int (fI u3 1 4)), (0, .ref (a 27)), (1, .int 0)]) hx hb dX5_readOne_68 rfl hl (by decide) rfl (fun ls hl => ?_)
          refine lv_aload_n hx hb dX5_readOne_69 rfl (lv_at hl 2 rfl) ?_
          refine gf_RX5_15 (v := .ref (a 15)) C hO 27 cW_27 (congrArg (fun z : Nat => some (Value.ref z)) hW) dX5_readOne_70 ?_
          refine gf_RX5_173 (v := .ref (a 24)) C hO 15 cW_15 rfl dX5_readOne_73 ?_
          refine lv_iload_n hx hb dX5_readOne_76 rfl (lv_at hl 1 rfl) ?_
          refine lv_ineg hx hb dX5_readOne_77 ?_
          refine lv_topi (fun z36 ez36 => ?_)
          refine cVv (w := cW cy a) (As := [.int z36]) (rest := []) C hO (T_X4_add l D cy a _ (by exact hJ) (by exact hW) (z36)) (cwV 1 ht (gV wd_759 wd_760 wd_761 wd_113 wd_762) rfl rfl rfl hd_yX4_add ⟨Nat.le_of_ble_eq_true rfl, Nat.le_of_ble_eq_true rfl⟩) 24 rfl cW_24 rfl rfl hl.1 (Nat.le_of_ble_eq_true rfl) dX5_readOne_78 rfl ⟨Nat.zero_le _, Nat.zero_le _⟩ (fun u38 H locs hp39 hO => ?_)
          have g40 : 0 ≤ (fI u34 15 9).toInt ∧ (fI u34 15 9).toInt ≤ 8 := by have h := CI_15_9 hJ; exact h
          have g41 : 0 ≤ (fI u34 15 10).toInt ∧ (fI u34 15 10).toInt ≤ 14 := by have h := CI_15_10 hJ; exact h
          have g42 : 0 ≤ (fI u34 15 11).toInt ∧ (fI u34 15 11).toInt ≤ 8 := by have h := CI_15_11 hJ; exact h
          have g43 : 0 ≤ (fI u34 15 12).toInt ∧ (fI u34 15 12).toInt ≤ 6 := by have h := CI_15_12 hJ; exact h
          obtain ⟨hJ, hTu38, hW⟩ := hp39
          have hT : KT u u38 := KT.tr (by exact hT) hTu38.1
          have hI_15_9_u38 : fI u38 15 9 = (fI u34 15 9) := hTu38.2.1
          have hI_15_10_u38 : fI u38 15 10 = (fI u34 15 10) := hTu38.2.2.1
          have hI_15_11_u38 : fI u38 15 11 = (fI u34 15 11) := hTu38.2.2.2.1
          have hI_15_12_u38 : fI u38 15 12 = (fI u34 15 12) := hTu38.2.2.2.2
          refine lv_iload_n hx hb dX5_readOne_81 rfl (lv_at hl 0 rfl) ?_
          refine hret _ _ _ _ _ _ dX5_readOne_82 (by rcases hr33 with h | h <;> rw [h] <;> rfl) ?_ hO
          exact ⟨hr33, hJ, hT, hW⟩
        · refine lv_iload_n hx hb dX5_readOne_48 rfl (lv_at hl 0 rfl) ?_
          refine lv_bipush (v := 61) hx hb dX5_readOne_49 (by decide) ?_
          refine cs_eq (tgt := 56) (X := ((fI u3 1 4)).toInt) (Y := 61) hx hb dX5_readOne_51 (by decide) rfl rfl (fun c44 => ?_) (fun c44 => ?_)
          · refine lv_aload_n hx hb dX5_readOne_56 rfl (lv_at hl 1 rfl) ?_
            refine gf_RX5_9 (v := .ref (a 1)) C hO 27 cW_27 rfl dX5_readOne_57 ?_
            refine cVv (w := cW cy a) (As := []) (rest := []) C hO (T_X7_advance l D cy a _ (by exact hJ) (by exact hW)) (cwV 0 ht (gV wd_695 wd_541 wd_542 wd_111 wd_543) rfl rfl rfl hd_yX7_advance ⟨Nat.le_of_ble_eq_true rfl, Nat.le_of_ble_eq_true rfl⟩) 1 rfl cW_1 rfl rfl hl.1 (Nat.le_of_ble_eq_true rfl) dX5_readOne_60 rfl ⟨Nat.zero_le _, Nat.zero_le _⟩ (fun u46 H locs hp47 hO => ?_)
            have g48 : 0 ≤ (fI u3 15 9).toInt ∧ (fI u3 15 9).toInt ≤ 8 := by have h := CI_15_9 hJ; exact h
            have g49 : 0 ≤ (fI u3 15 10).toInt ∧ (fI u3 15 10).toInt ≤ 14 := by have h := CI_15_10 hJ; exact h
            have g50 : 0 ≤ (fI u3 15 11).toInt ∧ (fI u3 15 11).toInt ≤ 8 := by have h := CI_15_11 hJ; exact h
            have g51 : 0 ≤ (fI u3 15 12).toInt ∧ (fI u3 15 12).toInt ≤ 6 := by have h := CI_15_12 hJ; exact h
            obtain ⟨hJ, hTu46, hW⟩ := hp47
            have hT : KT u u46 := KT.tr (by exact hT) hTu46.1
            have hI_15_9_u46 : fI u46 15 9 = (fI u3 15 9) := hTu46.2.1
            have hI_15_10_u46 : fI u46 15 10 = (fI u3 15 10) := hTu46.2.2.1
            have hI_15_11_u46 : fI u46 15 11 = (fI u3 15 11) := hTu46.2.2.2.1
            have hI_15_12_u46 : fI u46 15 12 = (fI u3 15 12) := hTu46.2.2.2.2
            refine lv_aload_n hx hb dX5_readOne_63 rfl (lv_at hl 1 rfl) ?_
            refine lv_iload_n hx hb dX5_readOne_64 rfl (lv_at hl 2 rfl) ?_
            refine cVi (w := cW cy a) (As := [.int 0]) (rest := []) C hO (T_X5_readSum_0 l D cy a _ (by exact hJ) (by exact hW)) (cwV 1 ht (gV wd_763 wd_765 wd_21 wd_114 wd_766) rfl rfl rfl hd_yX5_readSum ⟨Nat.le_of_ble_eq_true rfl, Nat.le_of_ble_eq_true rfl⟩) 27 rfl cW_27 rfl rfl hl.1 (Nat.le_of_ble_eq_true rfl) dX5_readOne_65 rfl ⟨Nat.zero_le _, Nat.zero_le _⟩ (fun r52 u53 H locs hp54 hO => ?_)
            obtain ⟨hr52, hJ, hTu53, hW⟩ := hp54
            have gr52 : 0 ≤ r52.toInt ∧ r52.toInt ≤ 1 := by rcases hr52 with h | h <;> rw [h] <;> decide
            have hT : KT u u53 := KT.tr (by exact hT) hTu53
            refine lv_istore_n (lv' := [(3, .int r52), (2, .int (fI u3 1 4)), (0, .ref (a 27)), (1, .int 0)]) hx hb dX5_readOne_68 rfl hl (by decide) rfl (fun ls hl => ?_)
            refine lv_aload_n hx hb dX5_readOne_69 rfl (lv_at hl 2 rfl) ?_
            refine gf_RX5_15 (v := .ref (a 15)) C hO 27 cW_27 (congrArg (fun z : Nat => some (Value.ref z)) hW) dX5_readOne_70 ?_
            refine gf_RX5_173 (v := .ref (a 24)) C hO 15 cW_15 rfl dX5_readOne_73 ?_
            refine lv_iload_n hx hb dX5_readOne_76 rfl (lv_at hl 1 rfl) ?_
            refine lv_ineg hx hb dX5_readOne_77 ?_
            refine lv_topi (fun z55 ez55 => ?_)
            refine cVv (w := cW cy a) (As := [.int z55]) (rest := []) C hO (T_X4_add l D cy a _ (by exact hJ) (by exact hW) (z55)) (cwV 1 ht (gV wd_759 wd_760 wd_761 wd_113 wd_762) rfl rfl rfl hd_yX4_add ⟨Nat.le_of_ble_eq_true rfl, Nat.le_of_ble_eq_true rfl⟩) 24 rfl cW_24 rfl rfl hl.1 (Nat.le_of_ble_eq_true rfl) dX5_readOne_78 rfl ⟨Nat.zero_le _, Nat.zero_le _⟩ (fun u57 H locs hp58 hO => ?_)
            have g59 : 0 ≤ (fI u53 15 9).toInt ∧ (fI u53 15 9).toInt ≤ 8 := by have h := CI_15_9 hJ; exact h
            have g60 : 0 ≤ (fI u53 15 10).toInt ∧ (fI u53 15 10).toInt ≤ 14 := by have h := CI_15_10 hJ; exact h
            have g61 : 0 ≤ (fI u53 15 11).toInt ∧ (fI u53 15 11).toInt ≤ 8 := by have h := CI_15_11 hJ; exact h
            have g62 : 0 ≤ (fI u53 15 12).toInt ∧ (fI u53 15 12).toInt ≤ 6 := by have h := CI_15_12 hJ; exact h
            obtain ⟨hJ, hTu57, hW⟩ := hp58
            have hT : KT u u57 := KT.tr (by exact hT) hTu57.1
            have hI_15_9_u57 : fI u57 15 9 = (fI u53 15 9) := hTu57.2.1
            have hI_15_10_u57 : fI u57 15 10 = (fI u53 15 10) := hTu57.2.2.1
            have hI_15_11_u57 : fI u57 15 11 = (fI u53 15 11) := hTu57.2.2.2.1
            have hI_15_12_u57 : fI u57 15 12 = (fI u53 15 12) := hTu57.2.2.2.2
            refine lv_iload_n hx hb dX5_readOne_81 rfl (lv_at hl 0 rfl) ?_
            refine hret _ _ _ _ _ _ dX5_readOne_82 (by rcases hr52 with h | h <;> rw [h] <;> rfl) ?_ hO
            exact ⟨hr52, hJ, hT, hW⟩
          · refine lv_iconst (v := 1) hx hb dX5_readOne_54 (by decide) ?_
            refine hret _ _ _ _ _ _ dX5_readOne_55 rfl ?_ hO
            exact ⟨Or.inr rfl, hJ, hT, hW⟩
    · refine lv_iconst (v := 0) hx hb dX5_readOne_26 (by decide) ?_
      refine hret _ _ _ _ _ _ dX5_readOne_27 rfl ?_ hO
      exact ⟨Or.inl rfl, hJ, hT, hW⟩
  · refine lv_aload_n hx hb dX5_readOne_12 rfl (lv_at hl 0 rfl) ?_
    refine lv_iload_n hx hb dX5_readOne_13 rfl (lv_at hl 1 rfl) ?_
    refine cVi (w := cW cy a) (As := [.int 0]) (rest := []) C hO (T_X5_readNot_0 l D cy a _ (by exact hJ) (by exact hW)) (cwV 1 ht (gV wd_755 wd_757 wd_20 wd_114 wd_758) rfl rfl rfl hd_yX5_readNot ⟨Nat.le_of_ble_eq_true rfl, Nat.le_of_ble_eq_true rfl⟩) 27 rfl cW_27 rfl rfl hl.1 (Nat.le_of_ble_eq_true rfl) dX5_readOne_14 rfl ⟨Nat.zero_le _, Nat.zero_le _⟩ (fun r63 u64 H locs hp65 hO => ?_)
    obtain ⟨hr63, hJ, hTu64, hW⟩ := hp65
    have gr63 : 0 ≤ r63.toInt ∧ r63.toInt ≤ 1 := by rcases hr63 with h | h <;> rw [h] <;> decide
    have hT : KT u u64 := KT.tr (by exact hT) hTu64
    refine hret _ _ _ _ _ _ dX5_readOne_17 (by rcases hr63 with h | h <;> rw [h] <;> rfl) ?_ hO
    exact ⟨hr63, hJ, hT, hW⟩
set_option maxHeartbeats 4000000 in
set_option maxRecDepth 100000 in
theorem T_X5_readBoth_0 (l : Launch) (D : va_G) (cy : Nat → ClassId) (a : Nat → Nat) (u : St) (hJ : CI a u) (hW : fR u 2 = a 15)   : Mi l D cy (cW cy a) yX5_readBoth (.code yX5_readBoth cX5_readBoth 4 (some .boolean)) (rmo 59 1344) [.ref (a 27), .int 0] u (fun (r : Int32) (u' : St) => (r = 0 ∨ r = 1) ∧ (CI a u') ∧ (KT u u') ∧ (fR u' 2 = a 15)) := by
  refine Mi.of (own := RX5) rfl (by decide) (Nat.le_of_ble_eq_true rfl) ?_
  have hT : KT u u := KT.rf
  intro p e s m below meth c A Q ls C hret hO hl
  obtain ⟨hx, hb, hml, hown, ht, hK, hA⟩ := id C
  have hl : lv_has ls 4 [(0, .ref (a 27)), (1, .int 0)] := hl
  refine lv_aload_n hx hb dX5_readBoth_0 rfl (lv_at hl 0 rfl) ?_
  refine lv_iload_n hx hb dX5_readBoth_1 rfl (lv_at hl 1 rfl) ?_
  refine cVi (w := cW cy a) (As := [.int 0]) (rest := []) C hO (T_X5_readOne_0 l D cy a _ (by exact hJ) (by exact hW)) (cwV 1 ht (gV wd_751 wd_753 wd_19 wd_114 wd_754) rfl rfl rfl hd_yX5_readOne ⟨Nat.le_of_ble_eq_true rfl, Nat.le_of_ble_eq_true rfl⟩) 27 rfl cW_27 rfl rfl hl.1 (Nat.le_of_ble_eq_true rfl) dX5_readBoth_2 rfl ⟨Nat.zero_le _, Nat.zero_le _⟩ (fun r1 u2 H locs hp3 hO => ?_)
  obtain ⟨hr1, hJ, hTu2, hW⟩ := hp3
  have gr1 : 0 ≤ r1.toInt ∧ r1.toInt ≤ 1 := by rcases hr1 with h | h <;> rw [h] <;> decide
  have hT : KT u u2 := KT.tr (by exact hT) hTu2
  refine lv_istore_n (lv' := [(2, .int r1), (0, .ref (a 27)), (1, .int 0)]) hx hb dX5_readBoth_5 rfl hl (by decide) rfl (fun ls hl => ?_)
  refine lv_iconst (v := 0) hx hb dX5_readBoth_6 (by decide) ?_
  refine lv_istore_n (lv' := [(3, .int 0), (2, .int r1), (0, .ref (a 27)), (1, .int 0)]) hx hb dX5_readBoth_7 rfl hl (by decide) rfl (fun ls hl => ?_)
  have LP_8_k5 : ∀ (n : Nat) (u4 : St) (H : Heap) (locs : List Loc) (ls : Array Slot) (i_k5 : Int32) (w2_k5 : Int32), Wo D A (cW cy a u4) s.heap H locs → lv_has ls 4 [(3, .int i_k5), (2, .int w2_k5), (0, .ref (a 27)), (1, .int 0)] → CI a u4 → KT u u4 → fR u4 2 = a 15 → 0 ≤ i_k5.toInt ∧ i_k5.toInt ≤ 1600 → 0 ≤ w2_k5.toInt ∧ w2_k5.toInt ≤ 1 → 1600 - i_k5.toInt < (n : Int) → W p l e (rmo 59 1344) s m [.ref (a 27), .int 0].toArray below meth c H locs 0 0 Q (F0 m 8 ls []) := by
    intro n
    induction n with
    | zero =>
      intro u4 H locs ls i_k5 w2_k5 hO hl hJ hT hW iv0_k5 iv1_k5 hm_k5
      exact absurd hm_k5 (by omega)
    | succ n ih_k5 =>
      intro u4 H locs ls i_k5 w2_k5 hO hl hJ hT hW iv0_k5 iv1_k5 hm_k5
      refine lv_iload_n hx hb dX5_readBoth_8 rfl (lv_at hl 0 rfl) ?_
      refine lv_sipush (v := 1600) hx hb dX5_readBoth_9 (by decide) ?_
      refine cs_ge (tgt := 62) (X := (i_k5).toInt) (Y := 1600) hx hb dX5_readBoth_12 (by decide) rfl rfl (fun c6 => ?_) (fun c6 => ?_)
      · refine lv_iload_n hx hb dX5_readBoth_62 rfl (lv_at hl 1 rfl) ?_
        have hw2_k5 : w2_k5 = 0 ∨ w2_k5 = 1 := i_b01 rfl (by omega) (by omega)
        refine hret _ _ _ _ _ _ dX5_readBoth_63 (by rcases hw2_k5 with h | h <;> rw [h] <;> rfl) ?_ hO
        exact ⟨hw2_k5, hJ, hT, hW⟩
      · refine lv_iload_n hx hb dX5_readBoth_15 rfl (lv_at hl 1 rfl) ?_
        refine bs_eq (tgt := 62) (X := (w2_k5).toInt) hx hb dX5_readBoth_16 (by decide) rfl (fun c7 => ?_) (fun c7 => ?_)
        · refine lv_iload_n hx hb dX5_readBoth_62 rfl (lv_at hl 1 rfl) ?_
          have hw2_k5 : w2_k5 = 0 ∨ w2_k5 = 1 := i_b01 rfl (by omega) (by omega)
          refine hret _ _ _ _ _ _ dX5_readBoth_63 (by rcases hw2_k5 with h | h <;> rw [h] <;> rfl) ?_ hO
          exact ⟨hw2_k5, hJ, hT, hW⟩
        · refine lv_aload_n hx hb dX5_readBoth_19 rfl (lv_at hl 2 rfl) ?_
          refine gf_RX5_9 (v := .ref (a 1)) C hO 27 cW_27 rfl dX5_readBoth_20 ?_
          refine gf_RX5_36 (v := .int (fI u4 1 4)) C hO 1 cW_1 rfl dX5_readBoth_23 ?_
          refine lv_bipush (v := 14) hx hb dX5_readBoth_26 (by decide) ?_
          refine cs_ne (tgt := 62) (X := ((fI u4 1 4)).toInt) (Y := 14) hx hb dX5_readBoth_28 (by decide) rfl rfl (fun c8 => ?_) (fun c8 => ?_)
          · refine lv_iload_n hx hb dX5_readBoth_62 rfl (lv_at hl 1 rfl) ?_
            have hw2_k5 : w2_k5 = 0 ∨ w2_k5 = 1 := i_b01 rfl (by omega) (by omega)
            refine hret _ _ _ _ _ _ dX5_readBoth_63 (by rcases hw2_k5 with h | h <;> rw [h] <;> rfl) ?_ hO
            exact ⟨hw2_k5, hJ, hT, hW⟩
          · refine lv_aload_n hx hb dX5_readBoth_31 rfl (lv_at hl 2 rfl) ?_
            refine gf_RX5_9 (v := .ref (a 1)) C hO 27 cW_27 rfl dX5_readBoth_32 ?_
            refine cVv (w := cW cy a) (As := []) (rest := []) C hO (T_X7_advance l D cy a _ (by exact hJ) (by exact hW)) (cwV 0 ht (gV wd_695 wd_541 wd_542 wd_111 wd_543) rfl rfl rfl hd_yX7_advance ⟨Nat.le_of_ble_eq_true rfl, Nat.le_of_ble_eq_true rfl⟩) 1 rfl cW_1 rfl rfl hl.1 (Nat.le_of_ble_eq_true rfl) dX5_readBoth_35 rfl ⟨Nat.zero_le _, Nat.zero_le _⟩ (fun u10 H locs hp11 hO => ?_)
            have g12 : 0 ≤ (fI u4 15 9).toInt ∧ (fI u4 15 9).toInt ≤ 8 := by have h := CI_15_9 hJ; exact h
            have g13 : 0 ≤ (fI u4 15 10).toInt ∧ (fI u4 15 10).toInt ≤ 14 := by have h := CI_15_10 hJ; exact h
            have g14 : 0 ≤ (fI u4 15 11).toInt ∧ (fI u4 15 11).toInt ≤ 8 := by have h := CI_15_11 hJ; exact h
            have g15 : 0 ≤ (fI u4 15 12).toInt ∧ (fI u4 15 12).toInt ≤ 6 := by have h := CI_15_12 hJ; exact h
            obtain ⟨hJ, hTu10, hW⟩ := hp11
            have hT : KT u u10 := KT.tr (by exact hT) hTu10.1
            have hI_15_9_u10 : fI u10 15 9 = (fI u4 15 9) := hTu10.2.1
            have hI_15_10_u10 : fI u10 15 10 = (fI u4 15 10) := hTu10.2.2.1
            have hI_15_11_u10 : fI u10 15 11 = (fI u4 15 11) := hTu10.2.2.2.1
            have hI_15_12_u10 : fI u10 15 12 = (fI u4 15 12) := hTu10.2.2.2.2
            refine lv_aload_n hx hb dX5_readBoth_38 rfl (lv_at hl 2 rfl) ?_
            refine lv_iload_n hx hb dX5_readBoth_39 rfl (lv_at hl 3 rfl) ?_
            refine cVi (w := cW cy a) (As := [.int 0]) (rest := []) C hO (T_X5_readOne_0 l D cy a _ (by exact hJ) (by exact hW)) (cwV 1 ht (gV wd_751 wd_753 wd_19 wd_114 wd_754) rfl rfl rfl hd_yX5_readOne ⟨Nat.le_of_ble_eq_true rfl, Nat.le_of_ble_eq_true rfl⟩) 27 rfl cW_27 rfl rfl hl.1 (Nat.le_of_ble_eq_true rfl) dX5_readBoth_40 rfl ⟨Nat.zero_le _, Nat.zero_le _⟩ (fun r16 u17 H locs hp18 hO => ?_)
            obtain ⟨hr16, hJ, hTu17, hW⟩ := hp18
            have gr16 : 0 ≤ r16.toInt ∧ r16.toInt ≤ 1 := by rcases hr16 with h | h <;> rw [h] <;> decide
            have hT : KT u u17 := KT.tr (by exact hT) hTu17
            refine lv_istore_n (lv' := [(2, .int r16), (3, .int i_k5), (0, .ref (a 27)), (1, .int 0)]) hx hb dX5_readBoth_43 rfl hl (by decide) rfl (fun ls hl => ?_)
            refine lv_aload_n hx hb dX5_readBoth_44 rfl (lv_at hl 2 rfl) ?_
            refine gf_RX5_15 (v := .ref (a 15)) C hO 27 cW_27 (congrArg (fun z : Nat => some (Value.ref z)) hW) dX5_readBoth_45 ?_
            refine gf_RX5_173 (v := .ref (a 24)) C hO 15 cW_15 rfl dX5_readBoth_48 ?_
            refine lv_bipush (v := (-14)) hx hb dX5_readBoth_51 (by decide) ?_
            refine cVv (w := cW cy a) (As := [.int (-14)]) (rest := []) C hO (T_X4_add l D cy a _ (by exact hJ) (by exact hW) ((-14))) (cwV 1 ht (gV wd_759 wd_760 wd_761 wd_113 wd_762) rfl rfl rfl hd_yX4_add ⟨Nat.le_of_ble_eq_true rfl, Nat.le_of_ble_eq_true rfl⟩) 24 rfl cW_24 rfl rfl hl.1 (Nat.le_of_ble_eq_true rfl) dX5_readBoth_53 rfl ⟨Nat.zero_le _, Nat.zero_le _⟩ (fun u20 H locs hp21 hO => ?_)
            have g22 : 0 ≤ (fI u17 15 9).toInt ∧ (fI u17 15 9).toInt ≤ 8 := by have h := CI_15_9 hJ; exact h
            have g23 : 0 ≤ (fI u17 15 10).toInt ∧ (fI u17 15 10).toInt ≤ 14 := by have h := CI_15_10 hJ; exact h
            have g24 : 0 ≤ (fI u17 15 11).toInt ∧ (fI u17 15 11).toInt ≤ 8 := by have h := CI_15_11 hJ; exact h
            have g25 : 0 ≤ (fI u17 15 12).toInt ∧ (fI u17 15 12).toInt ≤ 6 := by have h := CI_15_12 hJ; exact h
            obtain ⟨hJ, hTu20, hW⟩ := hp21
            have hT : KT u u20 := KT.tr (by exact hT) hTu20.1
            have hI_15_9_u20 : fI u20 15 9 = (fI u17 15 9) := hTu20.2.1
            have hI_15_10_u20 : fI u20 15 10 = (fI u17 15 10) := hTu20.2.2.1
            have hI_15_11_u20 : fI u20 15 11 = (fI u17 15 11) := hTu20.2.2.2.1
            have hI_15_12_u20 : fI u20 15 12 = (fI u17 15 12) := hTu20.2.2.2.2
            have e26 : ((i_k5 + 1)).toInt = (i_k5).toInt + 1 := i_add rfl rfl (by omega)
            refine lv_iinc (v := (i_k5 + 1)) (lv' := [(3, .int (i_k5 + 1)), (2, .int r16), (0, .ref (a 27)), (1, .int 0)]) hx hb dX5_readBoth_56 hl (k := 1) rfl rfl (by decide) rfl (fun ls hl => ?_)
            refine lv_goto (tgt := 8) hx hb dX5_readBoth_59 (by decide) ?_
            exact ih_k5 _ _ _ _ ((i_k5 + 1)) (r16) hO (lv_sub hl [0, 1, 2, 3] rfl) (by exact hJ) (by exact hT) (by exact hW) (by first | decide | omega) (by first | decide | omega) (by first | decide | omega)
  exact LP_8_k5 4000 _ _ _ _ (0) (r1) hO (lv_sub hl [0, 1, 2, 3] rfl) (by exact hJ) (by exact hT) (by exact hW) (by first | decide | omega) (by first | decide | omega) (by first | decide | omega)
set_option maxHeartbeats 4000000 in
set_option maxRecDepth 100000 in
theorem T_X5_readFormula_0 (l : Launch) (D : va_G) (cy : Nat → ClassId) (a : Nat → Nat) (u : St) (hJ : CI a u) (hW : fR u 2 = a 15)   : Mi l D cy (cW cy a) yX5_readFormula (.code yX5_readFormula cX5_readFormula 4 (some .boolean)) (rmo 60 1367) [.ref (a 27), .int 0] u (fun (r : Int32) (u' : St) => (r = 0 ∨ r = 1) ∧ (CI a u') ∧ (KT u u') ∧ (fR u' 2 = a 15)) := by
  refine Mi.of (own := RX5) rfl (by decide) (Nat.le_of_ble_eq_true rfl) ?_
  have hT : KT u u := KT.rf
  intro p e s m below meth c A Q ls C hret hO hl
  obtain ⟨hx, hb, hml, hown, ht, hK, hA⟩ := id C
  have hl : lv_has ls 4 [(0, .ref (a 27)), (1, .int 0)] := hl
  refine lv_aload_n hx hb dX5_readFormula_0 rfl (lv_at hl 0 rfl) ?_
  refine lv_iload_n hx hb dX5_readFormula_1 rfl (lv_at hl 1 rfl) ?_
  refine cVi (w := cW cy a) (As := [.int 0]) (rest := []) C hO (T_X5_readBoth_0 l D cy a _ (by exact hJ) (by exact hW)) (cwV 1 ht (gV wd_747 wd_749 wd_18 wd_114 wd_750) rfl rfl rfl hd_yX5_readBoth ⟨Nat.le_of_ble_eq_true rfl, Nat.le_of_ble_eq_true rfl⟩) 27 rfl cW_27 rfl rfl hl.1 (Nat.le_of_ble_eq_true rfl) dX5_readFormula_2 rfl ⟨Nat.zero_le _, Nat.zero_le _⟩ (fun r1 u2 H locs hp3 hO => ?_)
  obtain ⟨hr1, hJ, hTu2, hW⟩ := hp3
  have gr1 : 0 ≤ r1.toInt ∧ r1.toInt ≤ 1 := by rcases hr1 with h | h <;> rw [h] <;> decide
  have hT : KT u u2 := KT.tr (by exact hT) hTu2
  refine lv_istore_n (lv' := [(2, .int r1), (0, .ref (a 27)), (1, .int 0)]) hx hb dX5_readFormula_5 rfl hl (by decide) rfl (fun ls hl => ?_)
  refine lv_iconst (v := 0) hx hb dX5_readFormula_6 (by decide) ?_
  refine lv_istore_n (lv' := [(3, .int 0), (2, .int r1), (0, .ref (a 27)), (1, .int 0)]) hx hb dX5_readFormula_7 rfl hl (by decide) rfl (fun ls hl => ?_)
  have LP_8_k5 : ∀ (n : Nat) (u4 : St) (H : Heap) (locs : List Loc) (ls : Array Slot) (i_k5 : Int32) (w2_k5 : Int32), Wo D A (cW cy a u4) s.heap H locs → lv_has ls 4 [(3, .int i_k5), (2, .int w2_k5), (0, .ref (a 27)), (1, .int 0)] → CI a u4 → KT u u4 → fR u4 2 = a 15 → 0 ≤ i_k5.toInt ∧ i_k5.toInt ≤ 1600 → 0 ≤ w2_k5.toInt ∧ w2_k5.toInt ≤ 1 → 1600 - i_k5.toInt < (n : Int) → W p l e (rmo 60 1367) s m [.ref (a 27), .int 0].toArray below meth c H locs 0 0 Q (F0 m 8 ls []) := by
    intro n
    induction n with
    | zero =>
      intro u4 H locs ls i_k5 w2_k5 hO hl hJ hT hW iv0_k5 iv1_k5 hm_k5
      exact absurd hm_k5 (by omega)
    | succ n ih_k5 =>
      intro u4 H locs ls i_k5 w2_k5 hO hl hJ hT hW iv0_k5 iv1_k5 hm_k5
      refine lv_iload_n hx hb dX5_readFormula_8 rfl (lv_at hl 0 rfl) ?_
      refine lv_sipush (v := 1600) hx hb dX5_readFormula_9 (by decide) ?_
      refine cs_ge (tgt := 62) (X := (i_k5).toInt) (Y := 1600) hx hb dX5_readFormula_12 (by decide) rfl rfl (fun c6 => ?_) (fun c6 => ?_)
      · refine lv_iload_n hx hb dX5_readFormula_62 rfl (lv_at hl 1 rfl) ?_
        have hw2_k5 : w2_k5 = 0 ∨ w2_k5 = 1 := i_b01 rfl (by omega) (by omega)
        refine hret _ _ _ _ _ _ dX5_readFormula_63 (by rcases hw2_k5 with h | h <;> rw [h] <;> rfl) ?_ hO
        exact ⟨hw2_k5, hJ, hT, hW⟩
      · refine lv_iload_n hx hb dX5_readFormula_15 rfl (lv_at hl 1 rfl) ?_
        refine bs_eq (tgt := 62) (X := (w2_k5).toInt) hx hb dX5_readFormula_16 (by decide) rfl (fun c7 => ?_) (fun c7 => ?_)
        · refine lv_iload_n hx hb dX5_readFormula_62 rfl (lv_at hl 1 rfl) ?_
          have hw2_k5 : w2_k5 = 0 ∨ w2_k5 = 1 := i_b01 rfl (by omega) (by omega)
          refine hret _ _ _ _ _ _ dX5_readFormula_63 (by rcases hw2_k5 with h | h <;> rw [h] <;> rfl) ?_ hO
          exact ⟨hw2_k5, hJ, hT, hW⟩
        · refine lv_aload_n hx hb dX5_readFormula_19 rfl (lv_at hl 2 rfl) ?_
          refine gf_RX5_9 (v := .ref (a 1)) C hO 27 cW_27 rfl dX5_readFormula_20 ?_
          refine gf_RX5_36 (v := .int (fI u4 1 4)) C hO 1 cW_1 rfl dX5_readFormula_23 ?_
          refine lv_bipush (v := 13) hx hb dX5_readFormula_26 (by decide) ?_
          refine cs_ne (tgt := 62) (X := ((fI u4 1 4)).toInt) (Y := 13) hx hb dX5_readFormula_28 (by decide) rfl rfl (fun c8 => ?_) (fun c8 => ?_)
          · refine lv_iload_n hx hb dX5_readFormula_62 rfl (lv_at hl 1 rfl) ?_
            have hw2_k5 : w2_k5 = 0 ∨ w2_k5 = 1 := i_b01 rfl (by omega) (by omega)
            refine hret _ _ _ _ _ _ dX5_readFormula_63 (by rcases hw2_k5 with h | h <;> rw [h] <;> rfl) ?_ hO
            exact ⟨hw2_k5, hJ, hT, hW⟩
          · refine lv_aload_n hx hb dX5_readFormula_31 rfl (lv_at hl 2 rfl) ?_
            refine gf_RX5_9 (v := .ref (a 1)) C hO 27 cW_27 rfl dX5_readFormula_32 ?_
            refine cVv (w := cW cy a) (As := []) (rest := []) C hO (T_X7_advance l D cy a _ (by exact hJ) (by exact hW)) (cwV 0 ht (gV wd_695 wd_541 wd_542 wd_111 wd_543) rfl rfl rfl hd_yX7_advance ⟨Nat.le_of_ble_eq_true rfl, Nat.le_of_ble_eq_true rfl⟩) 1 rfl cW_1 rfl rfl hl.1 (Nat.le_of_ble_eq_true rfl) dX5_readFormula_35 rfl ⟨Nat.zero_le _, Nat.zero_le _⟩ (fun u10 H locs hp11 hO => ?_)
            have g12 : 0 ≤ (fI u4 15 9).toInt ∧ (fI u4 15 9).toInt ≤ 8 := by have h := CI_15_9 hJ; exact h
            have g13 : 0 ≤ (fI u4 15 10).toInt ∧ (fI u4 15 10).toInt ≤ 14 := by have h := CI_15_10 hJ; exact h
            have g14 : 0 ≤ (fI u4 15 11).toInt ∧ (fI u4 15 11).toInt ≤ 8 := by have h := CI_15_11 hJ; exact h
            have g15 : 0 ≤ (fI u4 15 12).toInt ∧ (fI u4 15 12).toInt ≤ 6 := by have h := CI_15_12 hJ; exact h
            obtain ⟨hJ, hTu10, hW⟩ := hp11
            have hT : KT u u10 := KT.tr (by exact hT) hTu10.1
            have hI_15_9_u10 : fI u10 15 9 = (fI u4 15 9) := hTu10.2.1
            have hI_15_10_u10 : fI u10 15 10 = (fI u4 15 10) := hTu10.2.2.1
            have hI_15_11_u10 : fI u10 15 11 = (fI u4 15 11) := hTu10.2.2.2.1
            have hI_15_12_u10 : fI u10 15 12 = (fI u4 15 12) := hTu10.2.2.2.2
            refine lv_aload_n hx hb dX5_readFormula_38 rfl (lv_at hl 2 rfl) ?_
            refine lv_iload_n hx hb dX5_readFormula_39 rfl (lv_at hl 3 rfl) ?_
            refine cVi (w := cW cy a) (As := [.int 0]) (rest := []) C hO (T_X5_readBoth_0 l D cy a _ (by exact hJ) (by exact hW)) (cwV 1 ht (gV wd_747 wd_749 wd_18 wd_114 wd_750) rfl rfl rfl hd_yX5_readBoth ⟨Nat.le_of_ble_eq_true rfl, Nat.le_of_ble_eq_true rfl⟩) 27 rfl cW_27 rfl rfl hl.1 (Nat.le_of_ble_eq_true rfl) dX5_readFormula_40 rfl ⟨Nat.zero_le _, Nat.zero_le _⟩ (fun r16 u17 H locs hp18 hO => ?_)
            obtain ⟨hr16, hJ, hTu17, hW⟩ := hp18
            have gr16 : 0 ≤ r16.toInt ∧ r16.toInt ≤ 1 := by rcases hr16 with h | h <;> rw [h] <;> decide
            have hT : KT u u17 := KT.tr (by exact hT) hTu17
            refine lv_istore_n (lv' := [(2, .int r16), (3, .int i_k5), (0, .ref (a 27)), (1, .int 0)]) hx hb dX5_readFormula_43 rfl hl (by decide) rfl (fun ls hl => ?_)
            refine lv_aload_n hx hb dX5_readFormula_44 rfl (lv_at hl 2 rfl) ?_
            refine gf_RX5_15 (v := .ref (a 15)) C hO 27 cW_27 (congrArg (fun z : Nat => some (Value.ref z)) hW) dX5_readFormula_45 ?_
            refine gf_RX5_173 (v := .ref (a 24)) C hO 15 cW_15 rfl dX5_readFormula_48 ?_
            refine lv_bipush (v := (-13)) hx hb dX5_readFormula_51 (by decide) ?_
            refine cVv (w := cW cy a) (As := [.int (-13)]) (rest := []) C hO (T_X4_add l D cy a _ (by exact hJ) (by exact hW) ((-13))) (cwV 1 ht (gV wd_759 wd_760 wd_761 wd_113 wd_762) rfl rfl rfl hd_yX4_add ⟨Nat.le_of_ble_eq_true rfl, Nat.le_of_ble_eq_true rfl⟩) 24 rfl cW_24 rfl rfl hl.1 (Nat.le_of_ble_eq_true rfl) dX5_readFormula_53 rfl ⟨Nat.zero_le _, Nat.zero_le _⟩ (fun u20 H locs hp21 hO => ?_)
            have g22 : 0 ≤ (fI u17 15 9).toInt ∧ (fI u17 15 9).toInt ≤ 8 := by have h := CI_15_9 hJ; exact h
            have g23 : 0 ≤ (fI u17 15 10).toInt ∧ (fI u17 15 10).toInt ≤ 14 := by have h := CI_15_10 hJ; exact h
            have g24 : 0 ≤ (fI u17 15 11).toInt ∧ (fI u17 15 11).toInt ≤ 8 := by have h := CI_15_11 hJ; exact h
            have g25 : 0 ≤ (fI u17 15 12).toInt ∧ (fI u17 15 12).toInt ≤ 6 := by have h := CI_15_12 hJ; exact h
            obtain ⟨hJ, hTu20, hW⟩ := hp21
            have hT : KT u u20 := KT.tr (by exact hT) hTu20.1
            have hI_15_9_u20 : fI u20 15 9 = (fI u17 15 9) := hTu20.2.1
            have hI_15_10_u20 : fI u20 15 10 = (fI u17 15 10) := hTu20.2.2.1
            have hI_15_11_u20 : fI u20 15 11 = (fI u17 15 11) := hTu20.2.2.2.1
            have hI_15_12_u20 : fI u20 15 12 = (fI u17 15 12) := hTu20.2.2.2.2
            have e26 : ((i_k5 + 1)).toInt = (i_k5).toInt + 1 := i_add rfl rfl (by omega)
            refine lv_iinc (v := (i_k5 + 1)) (lv' := [(3, .int (i_k5 + 1)), (2, .int r16), (0, .ref (a 27)), (1, .int 0)]) hx hb dX5_readFormula_56 hl (k := 1) rfl rfl (by decide) rfl (fun ls hl => ?_)
            refine lv_goto (tgt := 8) hx hb dX5_readFormula_59 (by decide) ?_
            exact ih_k5 _ _ _ _ ((i_k5 + 1)) (r16) hO (lv_sub hl [0, 1, 2, 3] rfl) (by exact hJ) (by exact hT) (by exact hW) (by first | decide | omega) (by first | decide | omega) (by first | decide | omega)
  exact LP_8_k5 4000 _ _ _ _ (0) (r1) hO (lv_sub hl [0, 1, 2, 3] rfl) (by exact hJ) (by exact hT) (by exact hW) (by first | decide | omega) (by first | decide | omega) (by first | decide | omega)
theorem dX5_readLine_0 : decode cX5_readLine 0 = .ok (.aload_n 0, 1) := by decide +kernel
theorem dX5_readLine_1 : decode cX5_readLine 1 = .ok (.getfield 9, 3) := by decide +kernel
theorem dX5_readLine_4 : decode cX5_readLine 4 = .ok (.getfield 36, 3) := by decide +kernel
theorem dX5_readLine_7 : decode cX5_readLine 7 = .ok (.tableswitch 117 1 12 #[61, 66, 117, 71, 117, 76, 117, 117, 81, 86, 107, 112], 61) := by decide +kernel
theorem dX5_readLine_68 : decode cX5_readLine 68 = .ok (.aload_n 0, 1) := by decide +kernel
theorem dX5_readLine_69 : decode cX5_readLine 69 = .ok (.invokevirtual 47, 3) := by decide +kernel
theorem dX5_readLine_72 : decode cX5_readLine 72 = .ok (.ireturn, 1) := by decide +kernel
theorem dX5_readLine_73 : decode cX5_readLine 73 = .ok (.aload_n 0, 1) := by decide +kernel
theorem dX5_readLine_74 : decode cX5_readLine 74 = .ok (.invokevirtual 50, 3) := by decide +kernel
theorem dX5_readLine_77 : decode cX5_readLine 77 = .ok (.ireturn, 1) := by decide +kernel
theorem dX5_readLine_78 : decode cX5_readLine 78 = .ok (.aload_n 0, 1) := by decide +kernel
theorem dX5_readLine_79 : decode cX5_readLine 79 = .ok (.invokevirtual 53, 3) := by decide +kernel
theorem dX5_readLine_82 : decode cX5_readLine 82 = .ok (.ireturn, 1) := by decide +kernel
theorem dX5_readLine_83 : decode cX5_readLine 83 = .ok (.aload_n 0, 1) := by decide +kernel
theorem dX5_readLine_84 : decode cX5_readLine 84 = .ok (.invokevirtual 56, 3) := by decide +kernel
theorem dX5_readLine_87 : decode cX5_readLine 87 = .ok (.ireturn, 1) := by decide +kernel
theorem dX5_readLine_88 : decode cX5_readLine 88 = .ok (.aload_n 0, 1) := by decide +kernel
theorem dX5_readLine_89 : decode cX5_readLine 89 = .ok (.invokevirtual 59, 3) := by decide +kernel
theorem dX5_readLine_92 : decode cX5_readLine 92 = .ok (.ireturn, 1) := by decide +kernel
theorem dX5_readLine_93 : decode cX5_readLine 93 = .ok (.aload_n 0, 1) := by decide +kernel
theorem dX5_readLine_94 : decode cX5_readLine 94 = .ok (.invokevirtual 62, 3) := by decide +kernel
theorem dX5_readLine_97 : decode cX5_readLine 97 = .ok (.ifCond .eq 15, 3) := by decide +kernel
theorem dX5_readLine_100 : decode cX5_readLine 100 = .ok (.aload_n 0, 1) := by decide +kernel
theorem dX5_readLine_101 : decode cX5_readLine 101 = .ok (.iconst 0, 1) := by decide +kernel
theorem dX5_readLine_102 : decode cX5_readLine 102 = .ok (.invokevirtual 65, 3) := by decide +kernel
theorem dX5_readLine_105 : decode cX5_readLine 105 = .ok (.ifCond .eq 7, 3) := by decide +kernel
theorem dX5_readLine_108 : decode cX5_readLine 108 = .ok (.iconst 1, 1) := by decide +kernel
theorem dX5_readLine_109 : decode cX5_readLine 109 = .ok (.goto 4, 3) := by decide +kernel
theorem dX5_readLine_112 : decode cX5_readLine 112 = .ok (.iconst 0, 1) := by decide +kernel
theorem dX5_readLine_113 : decode cX5_readLine 113 = .ok (.ireturn, 1) := by decide +kernel
theorem dX5_readLine_114 : decode cX5_readLine 114 = .ok (.aload_n 0, 1) := by decide +kernel
theorem dX5_readLine_115 : decode cX5_readLine 115 = .ok (.invokevirtual 68, 3) := by decide +kernel
theorem dX5_readLine_118 : decode cX5_readLine 118 = .ok (.ireturn, 1) := by decide +kernel
theorem dX5_readLine_119 : decode cX5_readLine 119 = .ok (.aload_n 0, 1) := by decide +kernel
theorem dX5_readLine_120 : decode cX5_readLine 120 = .ok (.invokevirtual 71, 3) := by decide +kernel
theorem dX5_readLine_123 : decode cX5_readLine 123 = .ok (.ireturn, 1) := by decide +kernel
theorem dX5_readLine_124 : decode cX5_readLine 124 = .ok (.aload_n 0, 1) := by decide +kernel
theorem dX5_readLine_125 : decode cX5_readLine 125 = .ok (.iconst 2, 1) := by decide +kernel
theorem dX5_readLine_126 : decode cX5_readLine 126 = .ok (.invokevirtual 74, 3) := by decide +kernel
theorem dX5_readLine_129 : decode cX5_readLine 129 = .ok (.ireturn, 1) := by decide +kernel
theorem wd_682 : (Cond.code ⟨"WebCourt$Reader", "readLine", "()Z"⟩ prog_7_method_3_code (1 : Nat) (Option.some FieldType.boolean)) ∈ gtb := gtb_c3 93 (by decide +kernel) rfl
theorem wd_683 : (Cond.methodLink "WebCourt$Reader" (47 : Nat) ⟨"WebCourt$Reader", "readKnot", "()Z"⟩) ∈ gtb := gtb_c3 94 (by decide +kernel) rfl
theorem wd_685 : (Cond.instanceMethod ⟨"WebCourt$Reader", "readKnot", "()Z"⟩) ∈ gtb := gtb_c3 96 (by decide +kernel) rfl
theorem wd_4 : (Cond.selects "WebCourt$Reader" ⟨"WebCourt$Reader", "readKnot", "()Z"⟩ ⟨"WebCourt$Reader", "readKnot", "()Z"⟩) ∈ gtb := gtb_p 4 (by decide +kernel) rfl
theorem hd_yX5_readKnot : yX5_readKnot.cls = RX5 ∧ yX5_readKnot.cls ≠ "java/lang/invoke/MethodHandle" ∧ yX5_readKnot.cls ≠ "java/lang/invoke/VarHandle" ∧ (parseMethodDescriptor yX5_readKnot.desc).map (fun d => d.parameters.length) = some 0 := by decide +kernel
theorem wd_703 : (Cond.methodLink "WebCourt$Reader" (50 : Nat) ⟨"WebCourt$Reader", "readThread", "()Z"⟩) ∈ gtb := gtb_c3 114 (by decide +kernel) rfl
theorem wd_705 : (Cond.instanceMethod ⟨"WebCourt$Reader", "readThread", "()Z"⟩) ∈ gtb := gtb_c3 116 (by decide +kernel) rfl
theorem wd_8 : (Cond.selects "WebCourt$Reader" ⟨"WebCourt$Reader", "readThread", "()Z"⟩ ⟨"WebCourt$Reader", "readThread", "()Z"⟩) ∈ gtb := gtb_p 8 (by decide +kernel) rfl
theorem hd_yX5_readThread : yX5_readThread.cls = RX5 ∧ yX5_readThread.cls ≠ "java/lang/invoke/MethodHandle" ∧ yX5_readThread.cls ≠ "java/lang/invoke/VarHandle" ∧ (parseMethodDescriptor yX5_readThread.desc).map (fun d => d.parameters.length) = some 0 := by decide +kernel
theorem wd_715 : (Cond.methodLink "WebCourt$Reader" (53 : Nat) ⟨"WebCourt$Reader", "readPlea", "()Z"⟩) ∈ gtb := gtb_c3 126 (by decide +kernel) rfl
theorem wd_717 : (Cond.instanceMethod ⟨"WebCourt$Reader", "readPlea", "()Z"⟩) ∈ gtb := gtb_c3 128 (by decide +kernel) rfl
theorem wd_10 : (Cond.selects "WebCourt$Reader" ⟨"WebCourt$Reader", "readPlea", "()Z"⟩ ⟨"WebCourt$Reader", "readPlea", "()Z"⟩) ∈ gtb := gtb_p 10 (by decide +kernel) rfl
theorem hd_yX5_readPlea : yX5_readPlea.cls = RX5 ∧ yX5_readPlea.cls ≠ "java/lang/invoke/MethodHandle" ∧ yX5_readPlea.cls ≠ "java/lang/invoke/VarHandle" ∧ (parseMethodDescriptor yX5_readPlea.desc).map (fun d => d.parameters.length) = some 0 := by decide +kernel
theorem wd_727 : (Cond.methodLink "WebCourt$Reader" (56 : Nat) ⟨"WebCourt$Reader", "readCase", "()Z"⟩) ∈ gtb := gtb_c3 138 (by decide +kernel) rfl
theorem wd_729 : (Cond.instanceMethod ⟨"WebCourt$Reader", "readCase", "()Z"⟩) ∈ gtb := gtb_c3 140 (by decide +kernel) rfl
theorem wd_13 : (Cond.selects "WebCourt$Reader" ⟨"WebCourt$Reader", "readCase", "()Z"⟩ ⟨"WebCourt$Reader", "readCase", "()Z"⟩) ∈ gtb := gtb_p 13 (by decide +kernel) rfl
theorem hd_yX5_readCase : yX5_readCase.cls = RX5 ∧ yX5_readCase.cls ≠ "java/lang/invoke/MethodHandle" ∧ yX5_readCase.cls ≠ "java/lang/invoke/VarHandle" ∧ (parseMethodDescriptor yX5_readCase.desc).map (fun d => d.parameters.length) = some 0 := by decide +kernel
theorem wd_735 : (Cond.methodLink "WebCourt$Reader" (59 : Nat) ⟨"WebCourt$Reader", "readBench", "()Z"⟩) ∈ gtb := gtb_c3 146 (by decide +kernel) rfl
theorem wd_737 : (Cond.instanceMethod ⟨"WebCourt$Reader", "readBench", "()Z"⟩) ∈ gtb := gtb_c3 148 (by decide +kernel) rfl
theorem wd_15 : (Cond.selects "WebCourt$Reader" ⟨"WebCourt$Reader", "readBench", "()Z"⟩ ⟨"WebCourt$Reader", "readBench", "()Z"⟩) ∈ gtb := gtb_p 15 (by decide +kernel) rfl
theorem hd_yX5_readBench : yX5_readBench.cls = RX5 ∧ yX5_readBench.cls ≠ "java/lang/invoke/MethodHandle" ∧ yX5_readBench.cls ≠ "java/lang/invoke/VarHandle" ∧ (parseMethodDescriptor yX5_readBench.desc).map (fun d => d.parameters.length) = some 0 := by decide +kernel
theorem wd_789 : (Cond.methodLink "WebCourt$Reader" (68 : Nat) ⟨"WebCourt$Reader", "readBack", "()Z"⟩) ∈ gtb := gtb_c3 200 (by decide +kernel) rfl
theorem wd_791 : (Cond.instanceMethod ⟨"WebCourt$Reader", "readBack", "()Z"⟩) ∈ gtb := gtb_c3 202 (by decide +kernel) rfl
theorem wd_25 : (Cond.selects "WebCourt$Reader" ⟨"WebCourt$Reader", "readBack", "()Z"⟩ ⟨"WebCourt$Reader", "readBack", "()Z"⟩) ∈ gtb := gtb_p 25 (by decide +kernel) rfl
theorem hd_yX5_readBack : yX5_readBack.cls = RX5 ∧ yX5_readBack.cls ≠ "java/lang/invoke/MethodHandle" ∧ yX5_readBack.cls ≠ "java/lang/invoke/VarHandle" ∧ (parseMethodDescriptor yX5_readBack.desc).map (fun d => d.parameters.length) = some 0 := by decide +kernel
theorem wd_793 : (Cond.methodLink "WebCourt$Reader" (71 : Nat) ⟨"WebCourt$Reader", "readDraw", "()Z"⟩) ∈ gtb := gtb_c3 204 (by decide +kernel) rfl
theorem wd_795 : (Cond.instanceMethod ⟨"WebCourt$Reader", "readDraw", "()Z"⟩) ∈ gtb := gtb_c3 206 (by decide +kernel) rfl
theorem wd_26 : (Cond.selects "WebCourt$Reader" ⟨"WebCourt$Reader", "readDraw", "()Z"⟩ ⟨"WebCourt$Reader", "readDraw", "()Z"⟩) ∈ gtb := gtb_p 26 (by decide +kernel) rfl
theorem hd_yX5_readDraw : yX5_readDraw.cls = RX5 ∧ yX5_readDraw.cls ≠ "java/lang/invoke/MethodHandle" ∧ yX5_readDraw.cls ≠ "java/lang/invoke/VarHandle" ∧ (parseMethodDescriptor yX5_readDraw.desc).map (fun d => d.parameters.length) = some 0 := by decide +kernel
set_option maxHeartbeats 4000000 in
set_option maxRecDepth 100000 in
theorem T_X5_readLine (l : Launch) (D : va_G) (cy : Nat → ClassId) (a : Nat → Nat) (u : St) (hJ : CI a u) (hW : fR u 2 = a 15)   : Mi l D cy (cW cy a) yX5_readLine (.code yX5_readLine cX5_readLine 1 (some .boolean)) (rmo 61 1390) [.ref (a 27)] u (fun (r : Int32) (u' : St) => (r = 0 ∨ r = 1) ∧ (CI a u') ∧ (KT u u') ∧ (fR u' 2 = a 15)) := by
  refine Mi.of (own := RX5) rfl (by decide) (Nat.le_of_ble_eq_true rfl) ?_
  have hT : KT u u := KT.rf
  intro p e s m below meth c A Q ls C hret hO hl
  obtain ⟨hx, hb, hml, hown, ht, hK, hA⟩ := id C
  have hl : lv_has ls 1 [(0, .ref (a 27))] := hl
  refine lv_aload_n hx hb dX5_readLine_0 rfl (lv_at hl 0 rfl) ?_
  refine gf_RX5_9 (v := .ref (a 1)) C hO 27 cW_27 rfl dX5_readLine_1 ?_
  refine gf_RX5_36 (v := .int (fI u 1 4)) C hO 1 cW_1 rfl dX5_readLine_4 ?_
  have c1 : (((fI u 1 4)).toInt < 1 ∨ 12 < ((fI u 1 4)).toInt) ∨ ((fI u 1 4)).toInt = 1 ∨ ((fI u 1 4)).toInt = 2 ∨ ((fI u 1 4)).toInt = 3 ∨ ((fI u 1 4)).toInt = 4 ∨ ((fI u 1 4)).toInt = 5 ∨ ((fI u 1 4)).toInt = 6 ∨ ((fI u 1 4)).toInt = 7 ∨ ((fI u 1 4)).toInt = 8 ∨ ((fI u 1 4)).toInt = 9 ∨ ((fI u 1 4)).toInt = 10 ∨ ((fI u 1 4)).toInt = 11 ∨ ((fI u 1 4)).toInt = 12 := by omega
  rcases c1 with c1 | c1 | c1 | c1 | c1 | c1 | c1 | c1 | c1 | c1 | c1 | c1 | c1
  · refine lv_tableOut (tgt := 124) hx hb dX5_readLine_7 (by rw [show (fI u 1 4).toInt = ((fI u 1 4)).toInt from rfl]; exact c1) (by decide) ?_
    refine lv_aload_n hx hb dX5_readLine_124 rfl (lv_at hl 0 rfl) ?_
    refine lv_iconst (v := 2) hx hb dX5_readLine_125 (by decide) ?_
    refine cVi (w := cW cy a) (As := [.int 2]) (rest := []) C hO (T_X5_refuse l D cy a _ (by exact hJ) (by exact hW) (2)) (cwV 1 ht (gV wd_691 wd_693 wd_6 wd_114 wd_694) rfl rfl rfl hd_yX5_refuse ⟨Nat.le_of_ble_eq_true rfl, Nat.le_of_ble_eq_true rfl⟩) 27 rfl cW_27 rfl rfl hl.1 (Nat.le_of_ble_eq_true rfl) dX5_readLine_126 rfl ⟨Nat.zero_le _, Nat.zero_le _⟩ (fun r2 u3 H locs hp4 hO => ?_)
    have g5 : 0 ≤ (fI u 15 9).toInt ∧ (fI u 15 9).toInt ≤ 8 := by have h := CI_15_9 hJ; exact h
    have g6 : 0 ≤ (fI u 15 10).toInt ∧ (fI u 15 10).toInt ≤ 14 := by have h := CI_15_10 hJ; exact h
    have g7 : 0 ≤ (fI u 15 11).toInt ∧ (fI u 15 11).toInt ≤ 8 := by have h := CI_15_11 hJ; exact h
    have g8 : 0 ≤ (fI u 15 12).toInt ∧ (fI u 15 12).toInt ≤ 6 := by have h := CI_15_12 hJ; exact h
    obtain ⟨hr2, hJ, hTu3, hW⟩ := hp4
    subst hr2
    have hT : KT u u3 := KT.tr (by exact hT) hTu3.1
    have hI_15_9_u3 : fI u3 15 9 = (fI u 15 9) := hTu3.2.1
    have hI_15_10_u3 : fI u3 15 10 = (fI u 15 10) := hTu3.2.2.1
    have hI_15_11_u3 : fI u3 15 11 = (fI u 15 11) := hTu3.2.2.2.1
    have hI_15_12_u3 : fI u3 15 12 = (fI u 15 12) := hTu3.2.2.2.2
    refine hret _ _ _ _ _ _ dX5_readLine_129 rfl ?_ hO
    exact ⟨Or.inl rfl, hJ, hT, hW⟩
  · refine lv_tableIn (tgt := 68) hx hb dX5_readLine_7 (by rw [c1]; decide) (by rw [c1]; decide) (by rw [c1]; rfl) (by decide) ?_
    refine lv_aload_n hx hb dX5_readLine_68 rfl (lv_at hl 0 rfl) ?_
    refine cVi (w := cW cy a) (As := []) (rest := []) C hO (T_X5_readKnot l D cy a _ (by exact hJ) (by exact hW)) (cwV 0 ht (gV wd_683 wd_685 wd_4 wd_114 wd_686) rfl rfl rfl hd_yX5_readKnot ⟨Nat.le_of_ble_eq_true rfl, Nat.le_of_ble_eq_true rfl⟩) 27 rfl cW_27 rfl rfl hl.1 (Nat.le_of_ble_eq_true rfl) dX5_readLine_69 rfl ⟨Nat.zero_le _, Nat.zero_le _⟩ (fun r9 u10 H locs hp11 hO => ?_)
    obtain ⟨hr9, hJ, hTu10, hW⟩ := hp11
    have gr9 : 0 ≤ r9.toInt ∧ r9.toInt ≤ 1 := by rcases hr9 with h | h <;> rw [h] <;> decide
    have hT : KT u u10 := KT.tr (by exact hT) hTu10
    refine hret _ _ _ _ _ _ dX5_readLine_72 (by rcases hr9 with h | h <;> rw [h] <;> rfl) ?_ hO
    exact ⟨hr9, hJ, hT, hW⟩
  · refine lv_tableIn (tgt := 73) hx hb dX5_readLine_7 (by rw [c1]; decide) (by rw [c1]; decide) (by rw [c1]; rfl) (by decide) ?_
    refine lv_aload_n hx hb dX5_readLine_73 rfl (lv_at hl 0 rfl) ?_
    refine cVi (w := cW cy a) (As := []) (rest := []) C hO (T_X5_readThread l D cy a _ (by exact hJ) (by exact hW)) (cwV 0 ht (gV wd_703 wd_705 wd_8 wd_114 wd_706) rfl rfl rfl hd_yX5_readThread ⟨Nat.le_of_ble_eq_true rfl, Nat.le_of_ble_eq_true rfl⟩) 27 rfl cW_27 rfl rfl hl.1 (Nat.le_of_ble_eq_true rfl) dX5_readLine_74 rfl ⟨Nat.zero_le _, Nat.zero_le _⟩ (fun r12 u13 H locs hp14 hO => ?_)
    obtain ⟨hr12, hJ, hTu13, hW⟩ := hp14
    have gr12 : 0 ≤ r12.toInt ∧ r12.toInt ≤ 1 := by rcases hr12 with h | h <;> rw [h] <;> decide
    have hT : KT u u13 := KT.tr (by exact hT) hTu13
    refine hret _ _ _ _ _ _ dX5_readLine_77 (by rcases hr12 with h | h <;> rw [h] <;> rfl) ?_ hO
    exact ⟨hr12, hJ, hT, hW⟩
  · refine lv_tableIn (tgt := 124) hx hb dX5_readLine_7 (by rw [c1]; decide) (by rw [c1]; decide) (by rw [c1]; rfl) (by decide) ?_
    refine lv_aload_n hx hb dX5_readLine_124 rfl (lv_at hl 0 rfl) ?_
    refine lv_iconst (v := 2) hx hb dX5_readLine_125 (by decide) ?_
    refine cVi (w := cW cy a) (As := [.int 2]) (rest := []) C hO (T_X5_refuse l D cy a _ (by exact hJ) (by exact hW) (2)) (cwV 1 ht (gV wd_691 wd_693 wd_6 wd_114 wd_694) rfl rfl rfl hd_yX5_refuse ⟨Nat.le_of_ble_eq_true rfl, Nat.le_of_ble_eq_true rfl⟩) 27 rfl cW_27 rfl rfl hl.1 (Nat.le_of_ble_eq_true rfl) dX5_readLine_126 rfl ⟨Nat.zero_le _, Nat.zero_le _⟩ (fun r15 u16 H locs hp17 hO => ?_)
    have g18 : 0 ≤ (fI u 15 9).toInt ∧ (fI u 15 9).toInt ≤ 8 := by have h := CI_15_9 hJ; exact h
    have g19 : 0 ≤ (fI u 15 10).toInt ∧ (fI u 15 10).toInt ≤ 14 := by have h := CI_15_10 hJ; exact h
    have g20 : 0 ≤ (fI u 15 11).toInt ∧ (fI u 15 11).toInt ≤ 8 := by have h := CI_15_11 hJ; exact h
    have g21 : 0 ≤ (fI u 15 12).toInt ∧ (fI u 15 12).toInt ≤ 6 := by have h := CI_15_12 hJ; exact h
    obtain ⟨hr15, hJ, hTu16, hW⟩ := hp17
    subst hr15
    have hT : KT u u16 := KT.tr (by exact hT) hTu16.1
    have hI_15_9_u16 : fI u16 15 9 = (fI u 15 9) := hTu16.2.1
    have hI_15_10_u16 : fI u16 15 10 = (fI u 15 10) := hTu16.2.2.1
    have hI_15_11_u16 : fI u16 15 11 = (fI u 15 11) := hTu16.2.2.2.1
    have hI_15_12_u16 : fI u16 15 12 = (fI u 15 12) := hTu16.2.2.2.2
    refine hret _ _ _ _ _ _ dX5_readLine_129 rfl ?_ hO
    exact ⟨Or.inl rfl, hJ, hT, hW⟩
  · refine lv_tableIn (tgt := 78) hx hb dX5_readLine_7 (by rw [c1]; decide) (by rw [c1]; decide) (by rw [c1]; rfl) (by decide) ?_
    refine lv_aload_n hx hb dX5_readLine_78 rfl (lv_at hl 0 rfl) ?_
    refine cVi (w := cW cy a) (As := []) (rest := []) C hO (T_X5_readPlea l D cy a _ (by exact hJ) (by exact hW)) (cwV 0 ht (gV wd_715 wd_717 wd_10 wd_114 wd_718) rfl rfl rfl hd_yX5_readPlea ⟨Nat.le_of_ble_eq_true rfl, Nat.le_of_ble_eq_true rfl⟩) 27 rfl cW_27 rfl rfl hl.1 (Nat.le_of_ble_eq_true rfl) dX5_readLine_79 rfl ⟨Nat.zero_le _, Nat.zero_le _⟩ (fun r22 u23 H locs hp24 hO => ?_)
    obtain ⟨hr22, hJ, hTu23, hW⟩ := hp24
    have gr22 : 0 ≤ r22.toInt ∧ r22.toInt ≤ 1 := by rcases hr22 with h | h <;> rw [h] <;> decide
    have hT : KT u u23 := KT.tr (by exact hT) hTu23
    refine hret _ _ _ _ _ _ dX5_readLine_82 (by rcases hr22 with h | h <;> rw [h] <;> rfl) ?_ hO
    exact ⟨hr22, hJ, hT, hW⟩
  · refine lv_tableIn (tgt := 124) hx hb dX5_readLine_7 (by rw [c1]; decide) (by rw [c1]; decide) (by rw [c1]; rfl) (by decide) ?_
    refine lv_aload_n hx hb dX5_readLine_124 rfl (lv_at hl 0 rfl) ?_
    refine lv_iconst (v := 2) hx hb dX5_readLine_125 (by decide) ?_
    refine cVi (w := cW cy a) (As := [.int 2]) (rest := []) C hO (T_X5_refuse l D cy a _ (by exact hJ) (by exact hW) (2)) (cwV 1 ht (gV wd_691 wd_693 wd_6 wd_114 wd_694) rfl rfl rfl hd_yX5_refuse ⟨Nat.le_of_ble_eq_true rfl, Nat.le_of_ble_eq_true rfl⟩) 27 rfl cW_27 rfl rfl hl.1 (Nat.le_of_ble_eq_true rfl) dX5_readLine_126 rfl ⟨Nat.zero_le _, Nat.zero_le _⟩ (fun r25 u26 H locs hp27 hO => ?_)
    have g28 : 0 ≤ (fI u 15 9).toInt ∧ (fI u 15 9).toInt ≤ 8 := by have h := CI_15_9 hJ; exact h
    have g29 : 0 ≤ (fI u 15 10).toInt ∧ (fI u 15 10).toInt ≤ 14 := by have h := CI_15_10 hJ; exact h
    have g30 : 0 ≤ (fI u 15 11).toInt ∧ (fI u 15 11).toInt ≤ 8 := by have h := CI_15_11 hJ; exact h
    have g31 : 0 ≤ (fI u 15 12).toInt ∧ (fI u 15 12).toInt ≤ 6 := by have h := CI_15_12 hJ; exact h
    obtain ⟨hr25, hJ, hTu26, hW⟩ := hp27
    subst hr25
    have hT : KT u u26 := KT.tr (by exact hT) hTu26.1
    have hI_15_9_u26 : fI u26 15 9 = (fI u 15 9) := hTu26.2.1
    have hI_15_10_u26 : fI u26 15 10 = (fI u 15 10) := hTu26.2.2.1
    have hI_15_11_u26 : fI u26 15 11 = (fI u 15 11) := hTu26.2.2.2.1
    have hI_15_12_u26 : fI u26 15 12 = (fI u 15 12) := hTu26.2.2.2.2
    refine hret _ _ _ _ _ _ dX5_readLine_129 rfl ?_ hO
    exact ⟨Or.inl rfl, hJ, hT, hW⟩
  · refine lv_tableIn (tgt := 83) hx hb dX5_readLine_7 (by rw [c1]; decide) (by rw [c1]; decide) (by rw [c1]; rfl) (by decide) ?_
    refine lv_aload_n hx hb dX5_readLine_83 rfl (lv_at hl 0 rfl) ?_
    refine cVi (w := cW cy a) (As := []) (rest := []) C hO (T_X5_readCase l D cy a _ (by exact hJ) (by exact hW)) (cwV 0 ht (gV wd_727 wd_729 wd_13 wd_114 wd_730) rfl rfl rfl hd_yX5_readCase ⟨Nat.le_of_ble_eq_true rfl, Nat.le_of_ble_eq_true rfl⟩) 27 rfl cW_27 rfl rfl hl.1 (Nat.le_of_ble_eq_true rfl) dX5_readLine_84 rfl ⟨Nat.zero_le _, Nat.zero_le _⟩ (fun r32 u33 H locs hp34 hO => ?_)
    obtain ⟨hr32, hJ, hTu33, hW⟩ := hp34
    have gr32 : 0 ≤ r32.toInt ∧ r32.toInt ≤ 1 := by rcases hr32 with h | h <;> rw [h] <;> decide
    have hT : KT u u33 := KT.tr (by exact hT) hTu33
    refine hret _ _ _ _ _ _ dX5_readLine_87 (by rcases hr32 with h | h <;> rw [h] <;> rfl) ?_ hO
    exact ⟨hr32, hJ, hT, hW⟩
  · refine lv_tableIn (tgt := 124) hx hb dX5_readLine_7 (by rw [c1]; decide) (by rw [c1]; decide) (by rw [c1]; rfl) (by decide) ?_
    refine lv_aload_n hx hb dX5_readLine_124 rfl (lv_at hl 0 rfl) ?_
    refine lv_iconst (v := 2) hx hb dX5_readLine_125 (by decide) ?_
    refine cVi (w := cW cy a) (As := [.int 2]) (rest := []) C hO (T_X5_refuse l D cy a _ (by exact hJ) (by exact hW) (2)) (cwV 1 ht (gV wd_691 wd_693 wd_6 wd_114 wd_694) rfl rfl rfl hd_yX5_refuse ⟨Nat.le_of_ble_eq_true rfl, Nat.le_of_ble_eq_true rfl⟩) 27 rfl cW_27 rfl rfl hl.1 (Nat.le_of_ble_eq_true rfl) dX5_readLine_126 rfl ⟨Nat.zero_le _, Nat.zero_le _⟩ (fun r35 u36 H locs hp37 hO => ?_)
    have g38 : 0 ≤ (fI u 15 9).toInt ∧ (fI u 15 9).toInt ≤ 8 := by have h := CI_15_9 hJ; exact h
    have g39 : 0 ≤ (fI u 15 10).toInt ∧ (fI u 15 10).toInt ≤ 14 := by have h := CI_15_10 hJ; exact h
    have g40 : 0 ≤ (fI u 15 11).toInt ∧ (fI u 15 11).toInt ≤ 8 := by have h := CI_15_11 hJ; exact h
    have g41 : 0 ≤ (fI u 15 12).toInt ∧ (fI u 15 12).toInt ≤ 6 := by have h := CI_15_12 hJ; exact h
    obtain ⟨hr35, hJ, hTu36, hW⟩ := hp37
    subst hr35
    have hT : KT u u36 := KT.tr (by exact hT) hTu36.1
    have hI_15_9_u36 : fI u36 15 9 = (fI u 15 9) := hTu36.2.1
    have hI_15_10_u36 : fI u36 15 10 = (fI u 15 10) := hTu36.2.2.1
    have hI_15_11_u36 : fI u36 15 11 = (fI u 15 11) := hTu36.2.2.2.1
    have hI_15_12_u36 : fI u36 15 12 = (fI u 15 12) := hTu36.2.2.2.2
    refine hret _ _ _ _ _ _ dX5_readLine_129 rfl ?_ hO
    exact ⟨Or.inl rfl, hJ, hT, hW⟩
  · refine lv_tableIn (tgt := 124) hx hb dX5_readLine_7 (by rw [c1]; decide) (by rw [c1]; decide) (by rw [c1]; rfl) (by decide) ?_
    refine lv_aload_n hx hb dX5_readLine_124 rfl (lv_at hl 0 rfl) ?_
    refine lv_iconst (v := 2) hx hb dX5_readLine_125 (by decide) ?_
    refine cVi (w := cW cy a) (As := [.int 2]) (rest := []) C hO (T_X5_refuse l D cy a _ (by exact hJ) (by exact hW) (2)) (cwV 1 ht (gV wd_691 wd_693 wd_6 wd_114 wd_694) rfl rfl rfl hd_yX5_refuse ⟨Nat.le_of_ble_eq_true rfl, Nat.le_of_ble_eq_true rfl⟩) 27 rfl cW_27 rfl rfl hl.1 (Nat.le_of_ble_eq_true rfl) dX5_readLine_126 rfl ⟨Nat.zero_le _, Nat.zero_le _⟩ (fun r42 u43 H locs hp44 hO => ?_)
    have g45 : 0 ≤ (fI u 15 9).toInt ∧ (fI u 15 9).toInt ≤ 8 := by have h := CI_15_9 hJ; exact h
    have g46 : 0 ≤ (fI u 15 10).toInt ∧ (fI u 15 10).toInt ≤ 14 := by have h := CI_15_10 hJ; exact h
    have g47 : 0 ≤ (fI u 15 11).toInt ∧ (fI u 15 11).toInt ≤ 8 := by have h := CI_15_11 hJ; exact h
    have g48 : 0 ≤ (fI u 15 12).toInt ∧ (fI u 15 12).toInt ≤ 6 := by have h := CI_15_12 hJ; exact h
    obtain ⟨hr42, hJ, hTu43, hW⟩ := hp44
    subst hr42
    have hT : KT u u43 := KT.tr (by exact hT) hTu43.1
    have hI_15_9_u43 : fI u43 15 9 = (fI u 15 9) := hTu43.2.1
    have hI_15_10_u43 : fI u43 15 10 = (fI u 15 10) := hTu43.2.2.1
    have hI_15_11_u43 : fI u43 15 11 = (fI u 15 11) := hTu43.2.2.2.1
    have hI_15_12_u43 : fI u43 15 12 = (fI u 15 12) := hTu43.2.2.2.2
    refine hret _ _ _ _ _ _ dX5_readLine_129 rfl ?_ hO
    exact ⟨Or.inl rfl, hJ, hT, hW⟩
  · refine lv_tableIn (tgt := 88) hx hb dX5_readLine_7 (by rw [c1]; decide) (by rw [c1]; decide) (by rw [c1]; rfl) (by decide) ?_
    refine lv_aload_n hx hb dX5_readLine_88 rfl (lv_at hl 0 rfl) ?_
    refine cVi (w := cW cy a) (As := []) (rest := []) C hO (T_X5_readBench l D cy a _ (by exact hJ) (by exact hW)) (cwV 0 ht (gV wd_735 wd_737 wd_15 wd_114 wd_738) rfl rfl rfl hd_yX5_readBench ⟨Nat.le_of_ble_eq_true rfl, Nat.le_of_ble_eq_true rfl⟩) 27 rfl cW_27 rfl rfl hl.1 (Nat.le_of_ble_eq_true rfl) dX5_readLine_89 rfl ⟨Nat.zero_le _, Nat.zero_le _⟩ (fun r49 u50 H locs hp51 hO => ?_)
    obtain ⟨hr49, hJ, hTu50, hW⟩ := hp51
    have gr49 : 0 ≤ r49.toInt ∧ r49.toInt ≤ 1 := by rcases hr49 with h | h <;> rw [h] <;> decide
    have hT : KT u u50 := KT.tr (by exact hT) hTu50
    refine hret _ _ _ _ _ _ dX5_readLine_92 (by rcases hr49 with h | h <;> rw [h] <;> rfl) ?_ hO
    exact ⟨hr49, hJ, hT, hW⟩
  · refine lv_tableIn (tgt := 93) hx hb dX5_readLine_7 (by rw [c1]; decide) (by rw [c1]; decide) (by rw [c1]; rfl) (by decide) ?_
    refine lv_aload_n hx hb dX5_readLine_93 rfl (lv_at hl 0 rfl) ?_
    refine cVi (w := cW cy a) (As := []) (rest := []) C hO (T_X5_openOnce l D cy a _ (by exact hJ) (by exact hW)) (cwV 0 ht (gV wd_739 wd_741 wd_16 wd_114 wd_742) rfl rfl rfl hd_yX5_openOnce ⟨Nat.le_of_ble_eq_true rfl, Nat.le_of_ble_eq_true rfl⟩) 27 rfl cW_27 rfl rfl hl.1 (Nat.le_of_ble_eq_true rfl) dX5_readLine_94 rfl ⟨Nat.zero_le _, Nat.zero_le _⟩ (fun r52 u53 H locs hp54 hO => ?_)
    have g55 : 0 ≤ (fI u 15 9).toInt ∧ (fI u 15 9).toInt ≤ 8 := by have h := CI_15_9 hJ; exact h
    have g56 : 0 ≤ (fI u 15 10).toInt ∧ (fI u 15 10).toInt ≤ 14 := by have h := CI_15_10 hJ; exact h
    have g57 : 0 ≤ (fI u 15 11).toInt ∧ (fI u 15 11).toInt ≤ 8 := by have h := CI_15_11 hJ; exact h
    have g58 : 0 ≤ (fI u 15 12).toInt ∧ (fI u 15 12).toInt ≤ 6 := by have h := CI_15_12 hJ; exact h
    obtain ⟨hr52, hJ, hTu53, hW⟩ := hp54
    have gr52 : 0 ≤ r52.toInt ∧ r52.toInt ≤ 1 := by rcases hr52 with h | h <;> rw [h] <;> decide
    have hT : KT u u53 := KT.tr (by exact hT) hTu53.1
    have hI_15_9_u53 : fI u53 15 9 = (fI u 15 9) := hTu53.2.1
    have hI_15_10_u53 : fI u53 15 10 = (fI u 15 10) := hTu53.2.2.1
    have hI_15_11_u53 : fI u53 15 11 = (fI u 15 11) := hTu53.2.2.2.1
    have hI_15_12_u53 : fI u53 15 12 = (fI u 15 12) := hTu53.2.2.2.2
    refine bs_eq (tgt := 112) (X := (r52).toInt) hx hb dX5_readLine_97 (by decide) rfl (fun c59 => ?_) (fun c59 => ?_)
    · refine lv_iconst (v := 0) hx hb dX5_readLine_112 (by decide) ?_
      refine hret _ _ _ _ _ _ dX5_readLine_113 rfl ?_ hO
      exact ⟨Or.inl rfl, hJ, hT, hW⟩
    · refine lv_aload_n hx hb dX5_readLine_100 rfl (lv_at hl 0 rfl) ?_
      refine lv_iconst (v := 0) hx hb dX5_readLine_101 (by decide) ?_
      refine cVi (w := cW cy a) (As := [.int 0]) (rest := []) C hO (T_X5_readFormula_0 l D cy a _ (by exact hJ) (by exact hW)) (cwV 1 ht (gV wd_743 wd_745 wd_17 wd_114 wd_746) rfl rfl rfl hd_yX5_readFormula ⟨Nat.le_of_ble_eq_true rfl, Nat.le_of_ble_eq_true rfl⟩) 27 rfl cW_27 rfl rfl hl.1 (Nat.le_of_ble_eq_true rfl) dX5_readLine_102 rfl ⟨Nat.zero_le _, Nat.zero_le _⟩ (fun r60 u61 H locs hp62 hO => ?_)
      obtain ⟨hr60, hJ, hTu61, hW⟩ := hp62
      have gr60 : 0 ≤ r60.toInt ∧ r60.toInt ≤ 1 := by rcases hr60 with h | h <;> rw [h] <;> decide
      have hT : KT u u61 := KT.tr (by exact hT) hTu61
      refine bs_eq (tgt := 112) (X := (r60).toInt) hx hb dX5_readLine_105 (by decide) rfl (fun c63 => ?_) (fun c63 => ?_)
      · refine lv_iconst (v := 0) hx hb dX5_readLine_112 (by decide) ?_
        refine hret _ _ _ _ _ _ dX5_readLine_113 rfl ?_ hO
        exact ⟨Or.inl rfl, hJ, hT, hW⟩
      · refine lv_iconst (v := 1) hx hb dX5_readLine_108 (by decide) ?_
        refine lv_goto (tgt := 113) hx hb dX5_readLine_109 (by decide) ?_
        refine hret _ _ _ _ _ _ dX5_readLine_113 rfl ?_ hO
        exact ⟨Or.inr rfl, hJ, hT, hW⟩
  · refine lv_tableIn (tgt := 114) hx hb dX5_readLine_7 (by rw [c1]; decide) (by rw [c1]; decide) (by rw [c1]; rfl) (by decide) ?_
    refine lv_aload_n hx hb dX5_readLine_114 rfl (lv_at hl 0 rfl) ?_
    refine cVi (w := cW cy a) (As := []) (rest := []) C hO (T_X5_readBack l D cy a _ (by exact hJ) (by exact hW)) (cwV 0 ht (gV wd_789 wd_791 wd_25 wd_114 wd_792) rfl rfl rfl hd_yX5_readBack ⟨Nat.le_of_ble_eq_true rfl, Nat.le_of_ble_eq_true rfl⟩) 27 rfl cW_27 rfl rfl hl.1 (Nat.le_of_ble_eq_true rfl) dX5_readLine_115 rfl ⟨Nat.zero_le _, Nat.zero_le _⟩ (fun r64 u65 H locs hp66 hO => ?_)
    obtain ⟨hr64, hJ, hTu65, hW⟩ := hp66
    have gr64 : 0 ≤ r64.toInt ∧ r64.toInt ≤ 1 := by rcases hr64 with h | h <;> rw [h] <;> decide
    have hT : KT u u65 := KT.tr (by exact hT) hTu65
    refine hret _ _ _ _ _ _ dX5_readLine_118 (by rcases hr64 with h | h <;> rw [h] <;> rfl) ?_ hO
    exact ⟨hr64, hJ, hT, hW⟩
  · refine lv_tableIn (tgt := 119) hx hb dX5_readLine_7 (by rw [c1]; decide) (by rw [c1]; decide) (by rw [c1]; rfl) (by decide) ?_
    refine lv_aload_n hx hb dX5_readLine_119 rfl (lv_at hl 0 rfl) ?_
    refine cVi (w := cW cy a) (As := []) (rest := []) C hO (T_X5_readDraw l D cy a _ (by exact hJ) (by exact hW)) (cwV 0 ht (gV wd_793 wd_795 wd_26 wd_114 wd_796) rfl rfl rfl hd_yX5_readDraw ⟨Nat.le_of_ble_eq_true rfl, Nat.le_of_ble_eq_true rfl⟩) 27 rfl cW_27 rfl rfl hl.1 (Nat.le_of_ble_eq_true rfl) dX5_readLine_120 rfl ⟨Nat.zero_le _, Nat.zero_le _⟩ (fun r67 u68 H locs hp69 hO => ?_)
    obtain ⟨hr67, hJ, hTu68, hW⟩ := hp69
    have gr67 : 0 ≤ r67.toInt ∧ r67.toInt ≤ 1 := by rcases hr67 with h | h <;> rw [h] <;> decide
    have hT : KT u u68 := KT.tr (by exact hT) hTu68
    refine hret _ _ _ _ _ _ dX5_readLine_123 (by rcases hr67 with h | h <;> rw [h] <;> rfl) ?_ hO
    exact ⟨hr67, hJ, hT, hW⟩
theorem dX5_read_0 : decode cX5_read 0 = .ok (.aload_n 0, 1) := by decide +kernel
theorem dX5_read_1 : decode cX5_read 1 = .ok (.aload_n 1, 1) := by decide +kernel
theorem dX5_read_2 : decode cX5_read 2 = .ok (.putfield 15, 3) := by decide +kernel
theorem dX5_read_5 : decode cX5_read 5 = .ok (.aload_n 0, 1) := by decide +kernel
theorem dX5_read_6 : decode cX5_read 6 = .ok (.getfield 15, 3) := by decide +kernel
theorem dX5_read_9 : decode cX5_read 9 = .ok (.invokevirtual 23, 3) := by decide +kernel
theorem dX5_read_12 : decode cX5_read 12 = .ok (.aload_n 0, 1) := by decide +kernel
theorem dX5_read_13 : decode cX5_read 13 = .ok (.iconst 0, 1) := by decide +kernel
theorem dX5_read_14 : decode cX5_read 14 = .ok (.putfield 28, 3) := by decide +kernel
theorem dX5_read_17 : decode cX5_read 17 = .ok (.aload_n 0, 1) := by decide +kernel
theorem dX5_read_18 : decode cX5_read 18 = .ok (.iconst (-1), 1) := by decide +kernel
theorem dX5_read_19 : decode cX5_read 19 = .ok (.putfield 19, 3) := by decide +kernel
theorem dX5_read_22 : decode cX5_read 22 = .ok (.aload_n 0, 1) := by decide +kernel
theorem dX5_read_23 : decode cX5_read 23 = .ok (.getfield 9, 3) := by decide +kernel
theorem dX5_read_26 : decode cX5_read 26 = .ok (.invokevirtual 31, 3) := by decide +kernel
theorem dX5_read_29 : decode cX5_read 29 = .ok (.iconst 1, 1) := by decide +kernel
theorem dX5_read_30 : decode cX5_read 30 = .ok (.istore_n 2, 1) := by decide +kernel
theorem dX5_read_31 : decode cX5_read 31 = .ok (.iconst 0, 1) := by decide +kernel
theorem dX5_read_32 : decode cX5_read 32 = .ok (.istore_n 3, 1) := by decide +kernel
theorem dX5_read_33 : decode cX5_read 33 = .ok (.iload_n 3, 1) := by decide +kernel
theorem dX5_read_34 : decode cX5_read 34 = .ok (.sipush 1600, 3) := by decide +kernel
theorem dX5_read_37 : decode cX5_read 37 = .ok (.if_icmp .gt 48, 3) := by decide +kernel
theorem dX5_read_40 : decode cX5_read 40 = .ok (.iload_n 2, 1) := by decide +kernel
theorem dX5_read_41 : decode cX5_read 41 = .ok (.ifCond .eq 44, 3) := by decide +kernel
theorem dX5_read_44 : decode cX5_read 44 = .ok (.aload_n 0, 1) := by decide +kernel
theorem dX5_read_45 : decode cX5_read 45 = .ok (.getfield 9, 3) := by decide +kernel
theorem dX5_read_48 : decode cX5_read 48 = .ok (.getfield 36, 3) := by decide +kernel
theorem dX5_read_51 : decode cX5_read 51 = .ok (.sipush 202, 3) := by decide +kernel
theorem dX5_read_54 : decode cX5_read 54 = .ok (.if_icmp .eq 31, 3) := by decide +kernel
theorem dX5_read_57 : decode cX5_read 57 = .ok (.aload_n 0, 1) := by decide +kernel
theorem dX5_read_58 : decode cX5_read 58 = .ok (.invokevirtual 39, 3) := by decide +kernel
theorem dX5_read_61 : decode cX5_read 61 = .ok (.ifCond .eq 16, 3) := by decide +kernel
theorem dX5_read_64 : decode cX5_read 64 = .ok (.aload_n 0, 1) := by decide +kernel
theorem dX5_read_65 : decode cX5_read 65 = .ok (.bipush 59, 2) := by decide +kernel
theorem dX5_read_67 : decode cX5_read 67 = .ok (.invokevirtual 43, 3) := by decide +kernel
theorem dX5_read_70 : decode cX5_read 70 = .ok (.ifCond .eq 7, 3) := by decide +kernel
theorem dX5_read_73 : decode cX5_read 73 = .ok (.iconst 1, 1) := by decide +kernel
theorem dX5_read_74 : decode cX5_read 74 = .ok (.goto 4, 3) := by decide +kernel
theorem dX5_read_77 : decode cX5_read 77 = .ok (.iconst 0, 1) := by decide +kernel
theorem dX5_read_78 : decode cX5_read 78 = .ok (.istore_n 2, 1) := by decide +kernel
theorem dX5_read_79 : decode cX5_read 79 = .ok (.iinc 3 1, 3) := by decide +kernel
theorem dX5_read_82 : decode cX5_read 82 = .ok (.goto (-49), 3) := by decide +kernel
theorem dX5_read_85 : decode cX5_read 85 = .ok (.iload_n 2, 1) := by decide +kernel
theorem dX5_read_86 : decode cX5_read 86 = .ok (.ireturn, 1) := by decide +kernel
theorem wd_527 : (Cond.code ⟨"WebCourt$Reader", "read", "(LWebCourt$Web;)Z"⟩ prog_7_method_2_code (4 : Nat) (Option.some FieldType.boolean)) ∈ gtb := gtb_c2 178 (by decide +kernel) rfl
theorem pf_RX5_15 {p : Program} {l : Launch} {e : Env} {R : Room} {s : State} {m : MethodId} {args : Array Value} {below : List Frame} {meth : Method} {c : Code} {H : Heap} {locs : List Loc} {cells slots : Nat} {Q : State → Prop} {cc : ByteArray} {pc nL : Nat} {ls : Array Slot} {rest : List Value} {D : va_G} {cy : Nat → ClassId} {A : Nat → Prop} {ws : va_W} {b : Nat} {fs : List Value} {v : Nat} {ws' : va_W} (C : Cx p s m args c cc nL RX5 D cy A) (hO : Wo D A ws s.heap H locs) (q0 : Nat) (he : ws[q0]? = some (b, .inr (5, fs))) (hlen : 1 < fs.length) (hw : ws.set q0 (b, .inr (5, fs.set 1 (.ref v))) = ws') (hdg : decode cc pc = .ok (.putfield 15, 3)) (kk : ∀ (H : Heap) (locs : List Loc), Wo D A ws' s.heap H locs → W p l e R s m args below meth c H locs cells slots Q (F0 m (pc + 3) ls rest)) : W p l e R s m args below meth c H locs cells slots Q (F0 m pc ls (.ref v :: .ref b :: rest)) := pF (k := 1) (ty := .object "WebCourt$Web") C hO q0 he rfl inFX5 (by decide) wd_333 rfl tyX5 tyX5_ok nmX5 rfl (by decide +kernel) rfl rfl hlen hw hdg kk
theorem wd_528 : (Cond.methodLink "WebCourt$Reader" (23 : Nat) ⟨"WebCourt$Web", "clear", "()V"⟩) ∈ gtb := gtb_c2 179 (by decide +kernel) rfl
theorem wd_529 : (Cond.instanceMethod ⟨"WebCourt$Web", "clear", "()V"⟩) ∈ gtb := gtb_c2 180 (by decide +kernel) rfl
theorem wd_530 : (Cond.selects "WebCourt$Web" ⟨"WebCourt$Web", "clear", "()V"⟩ ⟨"WebCourt$Web", "clear", "()V"⟩) ∈ gtb := gtb_c2 181 (by decide +kernel) rfl
theorem hd_yX9_clear : yX9_clear.cls = RX9 ∧ yX9_clear.cls ≠ "java/lang/invoke/MethodHandle" ∧ yX9_clear.cls ≠ "java/lang/invoke/VarHandle" ∧ (parseMethodDescriptor yX9_clear.desc).map (fun d => d.parameters.length) = some 0 := by decide +kernel
theorem wd_536 : (Cond.methodLink "WebCourt$Reader" (31 : Nat) ⟨"WebCourt$Tape", "rewind", "()V"⟩) ∈ gtb := gtb_c2 187 (by decide +kernel) rfl
theorem wd_537 : (Cond.instanceMethod ⟨"WebCourt$Tape", "rewind", "()V"⟩) ∈ gtb := gtb_c2 188 (by decide +kernel) rfl
theorem wd_538 : (Cond.selects "WebCourt$Tape" ⟨"WebCourt$Tape", "rewind", "()V"⟩ ⟨"WebCourt$Tape", "rewind", "()V"⟩) ∈ gtb := gtb_c2 189 (by decide +kernel) rfl
theorem hd_yX7_rewind : yX7_rewind.cls = RX7 ∧ yX7_rewind.cls ≠ "java/lang/invoke/MethodHandle" ∧ yX7_rewind.cls ≠ "java/lang/invoke/VarHandle" ∧ (parseMethodDescriptor yX7_rewind.desc).map (fun d => d.parameters.length) = some 0 := by decide +kernel
theorem wd_679 : (Cond.methodLink "WebCourt$Reader" (39 : Nat) ⟨"WebCourt$Reader", "readLine", "()Z"⟩) ∈ gtb := gtb_c3 90 (by decide +kernel) rfl
theorem wd_681 : (Cond.instanceMethod ⟨"WebCourt$Reader", "readLine", "()Z"⟩) ∈ gtb := gtb_c3 92 (by decide +kernel) rfl
theorem wd_3 : (Cond.selects "WebCourt$Reader" ⟨"WebCourt$Reader", "readLine", "()Z"⟩ ⟨"WebCourt$Reader", "readLine", "()Z"⟩) ∈ gtb := gtb_p 3 (by decide +kernel) rfl
theorem hd_yX5_readLine : yX5_readLine.cls = RX5 ∧ yX5_readLine.cls ≠ "java/lang/invoke/MethodHandle" ∧ yX5_readLine.cls ≠ "java/lang/invoke/VarHandle" ∧ (parseMethodDescriptor yX5_readLine.desc).map (fun d => d.parameters.length) = some 0 := by decide +kernel
set_option maxHeartbeats 4000000 in
set_option maxRecDepth 100000 in
theorem T_X5_read (l : Launch) (D : va_G) (cy : Nat → ClassId) (a : Nat → Nat) (u : St) (hJ : CI a u)   : Mi l D cy (cW cy a) yX5_read (.code yX5_read cX5_read 4 (some .boolean)) (rmo 62 1410) [.ref (a 27), .ref (a 15)] u (fun (r : Int32) (u' : St) => (r = 0 ∨ r = 1) ∧ (CI a u') ∧ (KT u u')) := by
  refine Mi.of (own := RX5) rfl (by decide) (Nat.le_of_ble_eq_true rfl) ?_
  have hT : KT u u := KT.rf
  intro p e s m below meth c A Q ls C hret hO hl
  obtain ⟨hx, hb, hml, hown, ht, hK, hA⟩ := id C
  have hl : lv_has ls 4 [(0, .ref (a 27)), (1, .ref (a 15))] := hl
  refine lv_aload_n hx hb dX5_read_0 rfl (lv_at hl 0 rfl) ?_
  refine lv_aload_n hx hb dX5_read_1 rfl (lv_at hl 1 rfl) ?_
  refine pf_RX5_15 C hO 27 cW_27 (Nat.le_of_ble_eq_true rfl) cW_s27_1 dX5_read_2 (fun H locs hO => ?_)
  have hJ := CIsR2 (v := (a 15)) hJ
  obtain ⟨u1, hO, hJ, hT, hW⟩ : ∃ z : St, Wo D A (cW cy a z) s.heap H locs ∧ CI a z ∧ KT u z ∧ fR z 2 = a 15 := ⟨_, hO, hJ, hT, rfl⟩
  refine lv_aload_n hx hb dX5_read_5 rfl (lv_at hl 0 rfl) ?_
  refine gf_RX5_15 (v := .ref (a 15)) C hO 27 cW_27 (congrArg (fun z : Nat => some (Value.ref z)) hW) dX5_read_6 ?_
  refine cVv (w := cW cy a) (As := []) (rest := []) C hO (T_X9_clear l D cy a _ (by exact hJ) (by exact hW)) (cwV 0 ht (gV wd_528 wd_529 wd_530 wd_112 wd_531) rfl rfl rfl hd_yX9_clear ⟨Nat.le_of_ble_eq_true rfl, Nat.le_of_ble_eq_true rfl⟩) 15 rfl cW_15 rfl rfl hl.1 (Nat.le_of_ble_eq_true rfl) dX5_read_9 rfl ⟨Nat.zero_le _, Nat.zero_le _⟩ (fun u3 H locs hp4 hO => ?_)
  obtain ⟨hJ, hTu3, hW⟩ := hp4
  have hT : KT u u3 := KT.tr (by exact hT) hTu3
  refine lv_aload_n hx hb dX5_read_12 rfl (lv_at hl 0 rfl) ?_
  refine lv_iconst (v := 0) hx hb dX5_read_13 (by decide) ?_
  refine pf_RX5_28 C hO 27 cW_27 (Nat.le_of_ble_eq_true rfl) cW_s27_2 dX5_read_14 (fun H locs hO => ?_)
  have hJ := CIs_27_2 (v := 0) hJ
  refine lv_aload_n hx hb dX5_read_17 rfl (lv_at hl 0 rfl) ?_
  refine lv_iconst (v := (-1)) hx hb dX5_read_18 (by decide) ?_
  refine pf_RX5_19 C hO 27 cW_27 (Nat.le_of_ble_eq_true rfl) cW_s27_3 dX5_read_19 (fun H locs hO => ?_)
  have hJ := CIs_27_3 (v := (-1)) hJ
  refine lv_aload_n hx hb dX5_read_22 rfl (lv_at hl 0 rfl) ?_
  refine gf_RX5_9 (v := .ref (a 1)) C hO 27 cW_27 rfl dX5_read_23 ?_
  refine cVv (w := cW cy a) (As := []) (rest := []) C hO (T_X7_rewind l D cy a _ (by exact hJ) (by exact hW)) (cwV 0 ht (gV wd_536 wd_537 wd_538 wd_111 wd_539) rfl rfl rfl hd_yX7_rewind ⟨Nat.le_of_ble_eq_true rfl, Nat.le_of_ble_eq_true rfl⟩) 1 rfl cW_1 rfl rfl hl.1 (Nat.le_of_ble_eq_true rfl) dX5_read_26 rfl ⟨Nat.zero_le _, Nat.zero_le _⟩ (fun u6 H locs hp7 hO => ?_)
  have g8 : 0 ≤ (fI u3 15 9).toInt ∧ (fI u3 15 9).toInt ≤ 8 := by have h := CI_15_9 hJ; exact h
  have g9 : 0 ≤ (fI u3 15 10).toInt ∧ (fI u3 15 10).toInt ≤ 14 := by have h := CI_15_10 hJ; exact h
  have g10 : 0 ≤ (fI u3 15 11).toInt ∧ (fI u3 15 11).toInt ≤ 8 := by have h := CI_15_11 hJ; exact h
  have g11 : 0 ≤ (fI u3 15 12).toInt ∧ (fI u3 15 12).toInt ≤ 6 := by have h := CI_15_12 hJ; exact h
  obtain ⟨hJ, hTu6, hW⟩ := hp7
  have hT : KT u u6 := KT.tr (by exact hT) hTu6.1
  have hI_15_9_u6 : fI u6 15 9 = (fI u3 15 9) := hTu6.2.1
  have hI_15_10_u6 : fI u6 15 10 = (fI u3 15 10) := hTu6.2.2.1
  have hI_15_11_u6 : fI u6 15 11 = (fI u3 15 11) := hTu6.2.2.2.1
  have hI_15_12_u6 : fI u6 15 12 = (fI u3 15 12) := hTu6.2.2.2.2
  refine lv_iconst (v := 1) hx hb dX5_read_29 (by decide) ?_
  refine lv_istore_n (lv' := [(2, .int 1), (0, .ref (a 27)), (1, .ref (a 15))]) hx hb dX5_read_30 rfl hl (by decide) rfl (fun ls hl => ?_)
  refine lv_iconst (v := 0) hx hb dX5_read_31 (by decide) ?_
  refine lv_istore_n (lv' := [(3, .int 0), (2, .int 1), (0, .ref (a 27)), (1, .ref (a 15))]) hx hb dX5_read_32 rfl hl (by decide) rfl (fun ls hl => ?_)
  have LP_33_k13 : ∀ (n : Nat) (u12 : St) (H : Heap) (locs : List Loc) (ls : Array Slot) (i_k13 : Int32) (w2_k13 : Int32), Wo D A (cW cy a u12) s.heap H locs → lv_has ls 4 [(3, .int i_k13), (2, .int w2_k13), (0, .ref (a 27)), (1, .ref (a 15))] → CI a u12 → KT u u12 → fR u12 2 = a 15 → 0 ≤ i_k13.toInt ∧ i_k13.toInt ≤ 1601 → 0 ≤ w2_k13.toInt ∧ w2_k13.toInt ≤ 1 → 1601 - i_k13.toInt < (n : Int) → W p l e (rmo 62 1410) s m [.ref (a 27), .ref (a 15)].toArray below meth c H locs 0 0 Q (F0 m 33 ls []) := by
    intro n
    induction n with
    | zero =>
      intro u12 H locs ls i_k13 w2_k13 hO hl hJ hT hW iv0_k13 iv1_k13 hm_k13
      exact absurd hm_k13 (by omega)
    | succ n ih_k13 =>
      intro u12 H locs ls i_k13 w2_k13 hO hl hJ hT hW iv0_k13 iv1_k13 hm_k13
      refine lv_iload_n hx hb dX5_read_33 rfl (lv_at hl 0 rfl) ?_
      refine lv_sipush (v := 1600) hx hb dX5_read_34 (by decide) ?_
      refine cs_gt (tgt := 85) (X := (i_k13).toInt) (Y := 1600) hx hb dX5_read_37 (by decide) rfl rfl (fun c14 => ?_) (fun c14 => ?_)
      · refine lv_iload_n hx hb dX5_read_85 rfl (lv_at hl 1 rfl) ?_
        have hw2_k13 : w2_k13 = 0 ∨ w2_k13 = 1 := i_b01 rfl (by omega) (by omega)
        refine hret _ _ _ _ _ _ dX5_read_86 (by rcases hw2_k13 with h | h <;> rw [h] <;> rfl) ?_ hO
        exact ⟨hw2_k13, hJ, hT⟩
      · refine lv_iload_n hx hb dX5_read_40 rfl (lv_at hl 1 rfl) ?_
        refine bs_eq (tgt := 85) (X := (w2_k13).toInt) hx hb dX5_read_41 (by decide) rfl (fun c15 => ?_) (fun c15 => ?_)
        · refine lv_iload_n hx hb dX5_read_85 rfl (lv_at hl 1 rfl) ?_
          have hw2_k13 : w2_k13 = 0 ∨ w2_k13 = 1 := i_b01 rfl (by omega) (by omega)
          refine hret _ _ _ _ _ _ dX5_read_86 (by rcases hw2_k13 with h | h <;> rw [h] <;> rfl) ?_ hO
          exact ⟨hw2_k13, hJ, hT⟩
        · refine lv_aload_n hx hb dX5_read_44 rfl (lv_at hl 2 rfl) ?_
          refine gf_RX5_9 (v := .ref (a 1)) C hO 27 cW_27 rfl dX5_read_45 ?_
          refine gf_RX5_36 (v := .int (fI u12 1 4)) C hO 1 cW_1 rfl dX5_read_48 ?_
          refine lv_sipush (v := 202) hx hb dX5_read_51 (by decide) ?_
          refine cs_eq (tgt := 85) (X := ((fI u12 1 4)).toInt) (Y := 202) hx hb dX5_read_54 (by decide) rfl rfl (fun c16 => ?_) (fun c16 => ?_)
          · refine lv_iload_n hx hb dX5_read_85 rfl (lv_at hl 1 rfl) ?_
            have hw2_k13 : w2_k13 = 0 ∨ w2_k13 = 1 := i_b01 rfl (by omega) (by omega)
            refine hret _ _ _ _ _ _ dX5_read_86 (by rcases hw2_k13 with h | h <;> rw [h] <;> rfl) ?_ hO
            exact ⟨hw2_k13, hJ, hT⟩
          · refine lv_aload_n hx hb dX5_read_57 rfl (lv_at hl 2 rfl) ?_
            refine cVi (w := cW cy a) (As := []) (rest := []) C hO (T_X5_readLine l D cy a _ (by exact hJ) (by exact hW)) (cwV 0 ht (gV wd_679 wd_681 wd_3 wd_114 wd_682) rfl rfl rfl hd_yX5_readLine ⟨Nat.le_of_ble_eq_true rfl, Nat.le_of_ble_eq_true rfl⟩) 27 rfl cW_27 rfl rfl hl.1 (Nat.le_of_ble_eq_true rfl) dX5_read_58 rfl ⟨Nat.zero_le _, Nat.zero_le _⟩ (fun r17 u18 H locs hp19 hO => ?_)
            obtain ⟨hr17, hJ, hTu18, hW⟩ := hp19
            have gr17 : 0 ≤ r17.toInt ∧ r17.toInt ≤ 1 := by rcases hr17 with h | h <;> rw [h] <;> decide
            have hT : KT u u18 := KT.tr (by exact hT) hTu18
            refine bs_eq (tgt := 77) (X := (r17).toInt) hx hb dX5_read_61 (by decide) rfl (fun c20 => ?_) (fun c20 => ?_)
            · refine lv_iconst (v := 0) hx hb dX5_read_77 (by decide) ?_
              refine lv_istore_n (lv' := [(2, .int 0), (3, .int i_k13), (0, .ref (a 27)), (1, .ref (a 15))]) hx hb dX5_read_78 rfl hl (by decide) rfl (fun ls hl => ?_)
              have e21 : ((i_k13 + 1)).toInt = (i_k13).toInt + 1 := i_add rfl rfl (by omega)
              refine lv_iinc (v := (i_k13 + 1)) (lv' := [(3, .int (i_k13 + 1)), (2, .int 0), (0, .ref (a 27)), (1, .ref (a 15))]) hx hb dX5_read_79 hl (k := 1) rfl rfl (by decide) rfl (fun ls hl => ?_)
              refine lv_goto (tgt := 33) hx hb dX5_read_82 (by decide) ?_
              exact ih_k13 _ _ _ _ ((i_k13 + 1)) (0) hO (lv_sub hl [0, 1, 2, 3] rfl) (by exact hJ) (by exact hT) (by exact hW) (by first | decide | omega) (by first | decide | omega) (by first | decide | omega)
            · refine lv_aload_n hx hb dX5_read_64 rfl (lv_at hl 2 rfl) ?_
              refine lv_bipush (v := 59) hx hb dX5_read_65 (by decide) ?_
              refine cVi (w := cW cy a) (As := [.int 59]) (rest := []) C hO (T_X5_skip l D cy a _ (by exact hJ) (by exact hW) (59)) (cwV 1 ht (gV wd_719 wd_721 wd_11 wd_114 wd_722) rfl rfl rfl hd_yX5_skip ⟨Nat.le_of_ble_eq_true rfl, Nat.le_of_ble_eq_true rfl⟩) 27 rfl cW_27 rfl rfl hl.1 (Nat.le_of_ble_eq_true rfl) dX5_read_67 rfl ⟨Nat.zero_le _, Nat.zero_le _⟩ (fun r22 u23 H locs hp24 hO => ?_)
              have g25 : 0 ≤ (fI u18 15 9).toInt ∧ (fI u18 15 9).toInt ≤ 8 := by have h := CI_15_9 hJ; exact h
              have g26 : 0 ≤ (fI u18 15 10).toInt ∧ (fI u18 15 10).toInt ≤ 14 := by have h := CI_15_10 hJ; exact h
              have g27 : 0 ≤ (fI u18 15 11).toInt ∧ (fI u18 15 11).toInt ≤ 8 := by have h := CI_15_11 hJ; exact h
              have g28 : 0 ≤ (fI u18 15 12).toInt ∧ (fI u18 15 12).toInt ≤ 6 := by have h := CI_15_12 hJ; exact h
              obtain ⟨hr22, hJ, hTu23, hW⟩ := hp24
              have gr22 : 0 ≤ r22.toInt ∧ r22.toInt ≤ 1 := by rcases hr22 with h | h <;> rw [h] <;> decide
              have hT : KT u u23 := KT.tr (by exact hT) hTu23.1
              have hI_15_9_u23 : fI u23 15 9 = (fI u18 15 9) := hTu23.2.1
              have hI_15_10_u23 : fI u23 15 10 = (fI u18 15 10) := hTu23.2.2.1
              have hI_15_11_u23 : fI u23 15 11 = (fI u18 15 11) := hTu23.2.2.2.1
              have hI_15_12_u23 : fI u23 15 12 = (fI u18 15 12) := hTu23.2.2.2.2
              refine bs_eq (tgt := 77) (X := (r22).toInt) hx hb dX5_read_70 (by decide) rfl (fun c29 => ?_) (fun c29 => ?_)
              · refine lv_iconst (v := 0) hx hb dX5_read_77 (by decide) ?_
                refine lv_istore_n (lv' := [(2, .int 0), (3, .int i_k13), (0, .ref (a 27)), (1, .ref (a 15))]) hx hb dX5_read_78 rfl hl (by decide) rfl (fun ls hl => ?_)
                have e30 : ((i_k13 + 1)).toInt = (i_k13).toInt + 1 := i_add rfl rfl (by omega)
                refine lv_iinc (v := (i_k13 + 1)) (lv' := [(3, .int (i_k13 + 1)), (2, .int 0), (0, .ref (a 27)), (1, .ref (a 15))]) hx hb dX5_read_79 hl (k := 1) rfl rfl (by decide) rfl (fun ls hl => ?_)
                refine lv_goto (tgt := 33) hx hb dX5_read_82 (by decide) ?_
                exact ih_k13 _ _ _ _ ((i_k13 + 1)) (0) hO (lv_sub hl [0, 1, 2, 3] rfl) (by exact hJ) (by exact hT) (by exact hW) (by first | decide | omega) (by first | decide | omega) (by first | decide | omega)
              · refine lv_iconst (v := 1) hx hb dX5_read_73 (by decide) ?_
                refine lv_goto (tgt := 78) hx hb dX5_read_74 (by decide) ?_
                refine lv_istore_n (lv' := [(2, .int 1), (3, .int i_k13), (0, .ref (a 27)), (1, .ref (a 15))]) hx hb dX5_read_78 rfl hl (by decide) rfl (fun ls hl => ?_)
                have e31 : ((i_k13 + 1)).toInt = (i_k13).toInt + 1 := i_add rfl rfl (by omega)
                refine lv_iinc (v := (i_k13 + 1)) (lv' := [(3, .int (i_k13 + 1)), (2, .int 1), (0, .ref (a 27)), (1, .ref (a 15))]) hx hb dX5_read_79 hl (k := 1) rfl rfl (by decide) rfl (fun ls hl => ?_)
                refine lv_goto (tgt := 33) hx hb dX5_read_82 (by decide) ?_
                exact ih_k13 _ _ _ _ ((i_k13 + 1)) (1) hO (lv_sub hl [0, 1, 2, 3] rfl) (by exact hJ) (by exact hT) (by exact hW) (by first | decide | omega) (by first | decide | omega) (by first | decide | omega)
  exact LP_33_k13 4000 _ _ _ _ (0) (1) hO (lv_sub hl [0, 1, 2, 3] rfl) (by exact hJ) (by exact hT) (by exact hW) (by first | decide | omega) (by first | decide | omega) (by first | decide | omega)
