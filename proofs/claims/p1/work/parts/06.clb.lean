theorem dX0_takeBack_0 : decode cX0_takeBack 0 = .ok (.aload_n 0, 1) := by decide +kernel
theorem dX0_takeBack_1 : decode cX0_takeBack 1 = .ok (.getfield 16, 3) := by decide +kernel
theorem dX0_takeBack_4 : decode cX0_takeBack 4 = .ok (.ifCond .ne 5, 3) := by decide +kernel
theorem dX0_takeBack_7 : decode cX0_takeBack 7 = .ok (.iconst 0, 1) := by decide +kernel
theorem dX0_takeBack_8 : decode cX0_takeBack 8 = .ok (.ireturn, 1) := by decide +kernel
theorem dX0_takeBack_9 : decode cX0_takeBack 9 = .ok (.aload_n 1, 1) := by decide +kernel
theorem dX0_takeBack_10 : decode cX0_takeBack 10 = .ok (.aload_n 0, 1) := by decide +kernel
theorem dX0_takeBack_11 : decode cX0_takeBack 11 = .ok (.getfield 13, 3) := by decide +kernel
theorem dX0_takeBack_14 : decode cX0_takeBack 14 = .ok (.aload_n 0, 1) := by decide +kernel
theorem dX0_takeBack_15 : decode cX0_takeBack 15 = .ok (.getfield 23, 3) := by decide +kernel
theorem dX0_takeBack_18 : decode cX0_takeBack 18 = .ok (.aload_n 0, 1) := by decide +kernel
theorem dX0_takeBack_19 : decode cX0_takeBack 19 = .ok (.getfield 16, 3) := by decide +kernel
theorem dX0_takeBack_22 : decode cX0_takeBack 22 = .ok (.iadd, 1) := by decide +kernel
theorem dX0_takeBack_23 : decode cX0_takeBack 23 = .ok (.bipush 41, 2) := by decide +kernel
theorem dX0_takeBack_25 : decode cX0_takeBack 25 = .ok (.irem, 1) := by decide +kernel
theorem dX0_takeBack_26 : decode cX0_takeBack 26 = .ok (.aaload, 1) := by decide +kernel
theorem dX0_takeBack_27 : decode cX0_takeBack 27 = .ok (.invokestatic 26, 3) := by decide +kernel
theorem dX0_takeBack_30 : decode cX0_takeBack 30 = .ok (.aload_n 0, 1) := by decide +kernel
theorem dX0_takeBack_31 : decode cX0_takeBack 31 = .ok (.dup, 1) := by decide +kernel
theorem dX0_takeBack_32 : decode cX0_takeBack 32 = .ok (.getfield 16, 3) := by decide +kernel
theorem dX0_takeBack_35 : decode cX0_takeBack 35 = .ok (.iconst 1, 1) := by decide +kernel
theorem dX0_takeBack_36 : decode cX0_takeBack 36 = .ok (.isub, 1) := by decide +kernel
theorem dX0_takeBack_37 : decode cX0_takeBack 37 = .ok (.putfield 16, 3) := by decide +kernel
theorem dX0_takeBack_40 : decode cX0_takeBack 40 = .ok (.aload_n 0, 1) := by decide +kernel
theorem dX0_takeBack_41 : decode cX0_takeBack 41 = .ok (.dup, 1) := by decide +kernel
theorem dX0_takeBack_42 : decode cX0_takeBack 42 = .ok (.getfield 20, 3) := by decide +kernel
theorem dX0_takeBack_45 : decode cX0_takeBack 45 = .ok (.iconst 1, 1) := by decide +kernel
theorem dX0_takeBack_46 : decode cX0_takeBack 46 = .ok (.iadd, 1) := by decide +kernel
theorem dX0_takeBack_47 : decode cX0_takeBack 47 = .ok (.putfield 20, 3) := by decide +kernel
theorem dX0_takeBack_50 : decode cX0_takeBack 50 = .ok (.aload_n 0, 1) := by decide +kernel
theorem dX0_takeBack_51 : decode cX0_takeBack 51 = .ok (.getfield 13, 3) := by decide +kernel
theorem dX0_takeBack_54 : decode cX0_takeBack 54 = .ok (.aload_n 0, 1) := by decide +kernel
theorem dX0_takeBack_55 : decode cX0_takeBack 55 = .ok (.getfield 23, 3) := by decide +kernel
theorem dX0_takeBack_58 : decode cX0_takeBack 58 = .ok (.aload_n 0, 1) := by decide +kernel
theorem dX0_takeBack_59 : decode cX0_takeBack 59 = .ok (.getfield 16, 3) := by decide +kernel
theorem dX0_takeBack_62 : decode cX0_takeBack 62 = .ok (.iadd, 1) := by decide +kernel
theorem dX0_takeBack_63 : decode cX0_takeBack 63 = .ok (.bipush 41, 2) := by decide +kernel
theorem dX0_takeBack_65 : decode cX0_takeBack 65 = .ok (.irem, 1) := by decide +kernel
theorem dX0_takeBack_66 : decode cX0_takeBack 66 = .ok (.aaload, 1) := by decide +kernel
theorem dX0_takeBack_67 : decode cX0_takeBack 67 = .ok (.aload_n 1, 1) := by decide +kernel
theorem dX0_takeBack_68 : decode cX0_takeBack 68 = .ok (.invokestatic 26, 3) := by decide +kernel
theorem dX0_takeBack_71 : decode cX0_takeBack 71 = .ok (.iconst 1, 1) := by decide +kernel
theorem dX0_takeBack_72 : decode cX0_takeBack 72 = .ok (.ireturn, 1) := by decide +kernel
theorem wd_974 : (Cond.code ⟨"WebCourt$Acts", "takeBack", "([I)Z"⟩ prog_2_method_4_code (2 : Nat) (Option.some FieldType.boolean)) ∈ gtb := gtb_c4 145 (by decide +kernel) rfl
theorem wd_378 : (Cond.fieldLink "WebCourt$Acts" (16 : Nat) "WebCourt$Acts" "done" "I") ∈ gtb := gtb_c2 29 (by decide +kernel) rfl
theorem wd_382 : (Cond.laysFinal "WebCourt$Acts" "WebCourt$Acts" "rows" "[[I") ∈ gtb := gtb_c2 33 (by decide +kernel) rfl
theorem wd_384 : (Cond.lays "WebCourt$Acts" "WebCourt$Acts" "first" "I") ∈ gtb := gtb_c2 35 (by decide +kernel) rfl
theorem wd_386 : (Cond.lays "WebCourt$Acts" "WebCourt$Acts" "done" "I") ∈ gtb := gtb_c2 37 (by decide +kernel) rfl
theorem wd_388 : (Cond.lays "WebCourt$Acts" "WebCourt$Acts" "undone" "I") ∈ gtb := gtb_c2 39 (by decide +kernel) rfl
theorem inFX0 : ∀ w ∈ u_ws RX0 TX0 4, w ∈ gtb := by
  show ∀ w ∈ [u_lay RX0 TX0 0, u_lay RX0 TX0 1, u_lay RX0 TX0 2, u_lay RX0 TX0 3], w ∈ gtb
  exact List.forall_mem_cons.mpr ⟨wd_382, List.forall_mem_cons.mpr ⟨wd_384, List.forall_mem_cons.mpr ⟨wd_386, List.forall_mem_cons.mpr ⟨wd_388, fun _ h => absurd h List.not_mem_nil⟩⟩⟩⟩
theorem gf_RX0_16 {p : Program} {l : Launch} {e : Env} {R : Room} {s : State} {m : MethodId} {args : Array Value} {below : List Frame} {meth : Method} {c : Code} {H : Heap} {locs : List Loc} {cells slots : Nat} {Q : State → Prop} {cc : ByteArray} {pc nL : Nat} {ls : Array Slot} {rest : List Value} {D : va_G} {cy : Nat → ClassId} {A : Nat → Prop} {ws : va_W} {b : Nat} {fs : List Value} {v : Value} (C : Cx p s m args c cc nL RX0 D cy A) (hO : Wo D A ws s.heap H locs) (q0 : Nat) (he : ws[q0]? = some (b, .inr (0, fs))) (hv : fs[2]? = some v) (hdg : decode cc pc = .ok (.getfield 16, 3)) (kk : W p l e R s m args below meth c H locs cells slots Q (F0 m (pc + 3) ls (v :: rest))) : W p l e R s m args below meth c H locs cells slots Q (F0 m pc ls (.ref b :: rest)) := gF (k := 2) C hO q0 he rfl inFX0 (by decide) wd_378 rfl hv hdg kk
set_option maxHeartbeats 4000000 in
set_option maxRecDepth 100000 in
theorem T_X0_takeBack (l : Launch) (D : va_G) (cy : Nat → ClassId) (a : Nat → Nat) (u : St) (hI_30_2 : fI u 30 2 = 0)   : Mi l D cy (cW cy a) yX0_takeBack (.code yX0_takeBack cX0_takeBack 2 (some .boolean)) (rmo 0 0) [.ref (a 30), .ref (a 29)] u (fun (r : Int32) (u' : St) => (r = 0) ∧ (u' = u)) := by
  refine Mi.of (own := RX0) rfl (by decide) (Nat.le_of_ble_eq_true rfl) ?_
  intro p e s m below meth c A Q ls C hret hO hl
  obtain ⟨hx, hb, hml, hown, ht, hK, hA⟩ := id C
  have hl : lv_has ls 2 [(0, .ref (a 30)), (1, .ref (a 29))] := hl
  refine lv_aload_n hx hb dX0_takeBack_0 rfl (lv_at hl 0 rfl) ?_
  refine gf_RX0_16 (v := .int 0) C hO 30 cW_30 (congrArg (fun z : Int32 => some (Value.int z)) hI_30_2) dX0_takeBack_1 ?_
  refine bn_ne (X := 0) hx hb dX0_takeBack_4 rfl (by omega) ?_ (tgt := 9) (by decide)
  refine lv_iconst (v := 0) hx hb dX0_takeBack_7 (by decide) ?_
  refine hret _ _ _ _ _ _ dX0_takeBack_8 rfl ?_ hO
  exact ⟨rfl, rfl⟩
theorem dX0_doAgain_0 : decode cX0_doAgain 0 = .ok (.aload_n 0, 1) := by decide +kernel
theorem dX0_doAgain_1 : decode cX0_doAgain 1 = .ok (.getfield 20, 3) := by decide +kernel
theorem dX0_doAgain_4 : decode cX0_doAgain 4 = .ok (.ifCond .ne 5, 3) := by decide +kernel
theorem dX0_doAgain_7 : decode cX0_doAgain 7 = .ok (.iconst 0, 1) := by decide +kernel
theorem dX0_doAgain_8 : decode cX0_doAgain 8 = .ok (.ireturn, 1) := by decide +kernel
theorem dX0_doAgain_9 : decode cX0_doAgain 9 = .ok (.aload_n 0, 1) := by decide +kernel
theorem dX0_doAgain_10 : decode cX0_doAgain 10 = .ok (.dup, 1) := by decide +kernel
theorem dX0_doAgain_11 : decode cX0_doAgain 11 = .ok (.getfield 16, 3) := by decide +kernel
theorem dX0_doAgain_14 : decode cX0_doAgain 14 = .ok (.iconst 1, 1) := by decide +kernel
theorem dX0_doAgain_15 : decode cX0_doAgain 15 = .ok (.iadd, 1) := by decide +kernel
theorem dX0_doAgain_16 : decode cX0_doAgain 16 = .ok (.putfield 16, 3) := by decide +kernel
theorem dX0_doAgain_19 : decode cX0_doAgain 19 = .ok (.aload_n 0, 1) := by decide +kernel
theorem dX0_doAgain_20 : decode cX0_doAgain 20 = .ok (.dup, 1) := by decide +kernel
theorem dX0_doAgain_21 : decode cX0_doAgain 21 = .ok (.getfield 20, 3) := by decide +kernel
theorem dX0_doAgain_24 : decode cX0_doAgain 24 = .ok (.iconst 1, 1) := by decide +kernel
theorem dX0_doAgain_25 : decode cX0_doAgain 25 = .ok (.isub, 1) := by decide +kernel
theorem dX0_doAgain_26 : decode cX0_doAgain 26 = .ok (.putfield 20, 3) := by decide +kernel
theorem dX0_doAgain_29 : decode cX0_doAgain 29 = .ok (.aload_n 0, 1) := by decide +kernel
theorem dX0_doAgain_30 : decode cX0_doAgain 30 = .ok (.getfield 13, 3) := by decide +kernel
theorem dX0_doAgain_33 : decode cX0_doAgain 33 = .ok (.aload_n 0, 1) := by decide +kernel
theorem dX0_doAgain_34 : decode cX0_doAgain 34 = .ok (.getfield 23, 3) := by decide +kernel
theorem dX0_doAgain_37 : decode cX0_doAgain 37 = .ok (.aload_n 0, 1) := by decide +kernel
theorem dX0_doAgain_38 : decode cX0_doAgain 38 = .ok (.getfield 16, 3) := by decide +kernel
theorem dX0_doAgain_41 : decode cX0_doAgain 41 = .ok (.iadd, 1) := by decide +kernel
theorem dX0_doAgain_42 : decode cX0_doAgain 42 = .ok (.bipush 41, 2) := by decide +kernel
theorem dX0_doAgain_44 : decode cX0_doAgain 44 = .ok (.irem, 1) := by decide +kernel
theorem dX0_doAgain_45 : decode cX0_doAgain 45 = .ok (.aaload, 1) := by decide +kernel
theorem dX0_doAgain_46 : decode cX0_doAgain 46 = .ok (.aload_n 1, 1) := by decide +kernel
theorem dX0_doAgain_47 : decode cX0_doAgain 47 = .ok (.invokestatic 26, 3) := by decide +kernel
theorem dX0_doAgain_50 : decode cX0_doAgain 50 = .ok (.iconst 1, 1) := by decide +kernel
theorem dX0_doAgain_51 : decode cX0_doAgain 51 = .ok (.ireturn, 1) := by decide +kernel
theorem wd_982 : (Cond.code ⟨"WebCourt$Acts", "doAgain", "([I)Z"⟩ prog_2_method_5_code (2 : Nat) (Option.some FieldType.boolean)) ∈ gtb := gtb_c4 153 (by decide +kernel) rfl
theorem wd_380 : (Cond.fieldLink "WebCourt$Acts" (20 : Nat) "WebCourt$Acts" "undone" "I") ∈ gtb := gtb_c2 31 (by decide +kernel) rfl
theorem gf_RX0_20 {p : Program} {l : Launch} {e : Env} {R : Room} {s : State} {m : MethodId} {args : Array Value} {below : List Frame} {meth : Method} {c : Code} {H : Heap} {locs : List Loc} {cells slots : Nat} {Q : State → Prop} {cc : ByteArray} {pc nL : Nat} {ls : Array Slot} {rest : List Value} {D : va_G} {cy : Nat → ClassId} {A : Nat → Prop} {ws : va_W} {b : Nat} {fs : List Value} {v : Value} (C : Cx p s m args c cc nL RX0 D cy A) (hO : Wo D A ws s.heap H locs) (q0 : Nat) (he : ws[q0]? = some (b, .inr (0, fs))) (hv : fs[3]? = some v) (hdg : decode cc pc = .ok (.getfield 20, 3)) (kk : W p l e R s m args below meth c H locs cells slots Q (F0 m (pc + 3) ls (v :: rest))) : W p l e R s m args below meth c H locs cells slots Q (F0 m pc ls (.ref b :: rest)) := gF (k := 3) C hO q0 he rfl inFX0 (by decide) wd_380 rfl hv hdg kk
set_option maxHeartbeats 4000000 in
set_option maxRecDepth 100000 in
theorem T_X0_doAgain (l : Launch) (D : va_G) (cy : Nat → ClassId) (a : Nat → Nat) (u : St) (hI_30_3 : fI u 30 3 = 0)   : Mi l D cy (cW cy a) yX0_doAgain (.code yX0_doAgain cX0_doAgain 2 (some .boolean)) (rmo 0 0) [.ref (a 30), .ref (a 29)] u (fun (r : Int32) (u' : St) => (r = 0) ∧ (u' = u)) := by
  refine Mi.of (own := RX0) rfl (by decide) (Nat.le_of_ble_eq_true rfl) ?_
  intro p e s m below meth c A Q ls C hret hO hl
  obtain ⟨hx, hb, hml, hown, ht, hK, hA⟩ := id C
  have hl : lv_has ls 2 [(0, .ref (a 30)), (1, .ref (a 29))] := hl
  refine lv_aload_n hx hb dX0_doAgain_0 rfl (lv_at hl 0 rfl) ?_
  refine gf_RX0_20 (v := .int 0) C hO 30 cW_30 (congrArg (fun z : Int32 => some (Value.int z)) hI_30_3) dX0_doAgain_1 ?_
  refine bn_ne (X := 0) hx hb dX0_doAgain_4 rfl (by omega) ?_ (tgt := 9) (by decide)
  refine lv_iconst (v := 0) hx hb dX0_doAgain_7 (by decide) ?_
  refine hret _ _ _ _ _ _ dX0_doAgain_8 rfl ?_ hO
  exact ⟨rfl, rfl⟩
theorem dX10_undo_0 : decode cX10_undo 0 = .ok (.aload_n 0, 1) := by decide +kernel
theorem dX10_undo_1 : decode cX10_undo 1 = .ok (.getfield 44, 3) := by decide +kernel
theorem dX10_undo_4 : decode cX10_undo 4 = .ok (.aload_n 0, 1) := by decide +kernel
theorem dX10_undo_5 : decode cX10_undo 5 = .ok (.getfield 37, 3) := by decide +kernel
theorem dX10_undo_8 : decode cX10_undo 8 = .ok (.getfield 150, 3) := by decide +kernel
theorem dX10_undo_11 : decode cX10_undo 11 = .ok (.invokevirtual 199, 3) := by decide +kernel
theorem dX10_undo_14 : decode cX10_undo 14 = .ok (.ireturn, 1) := by decide +kernel
theorem wd_970 : (Cond.code ⟨"WebCourt", "undo", "()Z"⟩ prog_1_method_17_code (1 : Nat) (Option.some FieldType.boolean)) ∈ gtb := gtb_c4 141 (by decide +kernel) rfl
theorem wd_471 : (Cond.fieldLink "WebCourt" (44 : Nat) "WebCourt" "acts" "LWebCourt$Acts;") ∈ gtb := gtb_c2 122 (by decide +kernel) rfl
theorem gf_RX10_44 {p : Program} {l : Launch} {e : Env} {R : Room} {s : State} {m : MethodId} {args : Array Value} {below : List Frame} {meth : Method} {c : Code} {H : Heap} {locs : List Loc} {cells slots : Nat} {Q : State → Prop} {cc : ByteArray} {pc nL : Nat} {ls : Array Slot} {rest : List Value} {D : va_G} {cy : Nat → ClassId} {A : Nat → Prop} {ws : va_W} {b : Nat} {fs : List Value} {v : Value} (C : Cx p s m args c cc nL RX10 D cy A) (hO : Wo D A ws s.heap H locs) (q0 : Nat) (he : ws[q0]? = some (b, .inr (10, fs))) (hv : fs[3]? = some v) (hdg : decode cc pc = .ok (.getfield 44, 3)) (kk : W p l e R s m args below meth c H locs cells slots Q (F0 m (pc + 3) ls (v :: rest))) : W p l e R s m args below meth c H locs cells slots Q (F0 m pc ls (.ref b :: rest)) := gF (k := 3) C hO q0 he rfl inFX10 (by decide) wd_471 rfl hv hdg kk
theorem wd_357 : (Cond.fieldLink "WebCourt" (150 : Nat) "WebCourt$Court" "row" "[I") ∈ gtb := gtb_c2 8 (by decide +kernel) rfl
theorem gf_RX10_150 {p : Program} {l : Launch} {e : Env} {R : Room} {s : State} {m : MethodId} {args : Array Value} {below : List Frame} {meth : Method} {c : Code} {H : Heap} {locs : List Loc} {cells slots : Nat} {Q : State → Prop} {cc : ByteArray} {pc nL : Nat} {ls : Array Slot} {rest : List Value} {D : va_G} {cy : Nat → ClassId} {A : Nat → Prop} {ws : va_W} {b : Nat} {fs : List Value} {v : Value} (C : Cx p s m args c cc nL RX10 D cy A) (hO : Wo D A ws s.heap H locs) (q0 : Nat) (he : ws[q0]? = some (b, .inr (2, fs))) (hv : fs[0]? = some v) (hdg : decode cc pc = .ok (.getfield 150, 3)) (kk : W p l e R s m args below meth c H locs cells slots Q (F0 m (pc + 3) ls (v :: rest))) : W p l e R s m args below meth c H locs cells slots Q (F0 m pc ls (.ref b :: rest)) := gF (k := 0) C hO q0 he rfl inFX2 (by decide) wd_357 rfl hv hdg kk
theorem wd_971 : (Cond.methodLink "WebCourt" (199 : Nat) ⟨"WebCourt$Acts", "takeBack", "([I)Z"⟩) ∈ gtb := gtb_c4 142 (by decide +kernel) rfl
theorem wd_972 : (Cond.instanceMethod ⟨"WebCourt$Acts", "takeBack", "([I)Z"⟩) ∈ gtb := gtb_c4 143 (by decide +kernel) rfl
theorem wd_973 : (Cond.selects "WebCourt$Acts" ⟨"WebCourt$Acts", "takeBack", "([I)Z"⟩ ⟨"WebCourt$Acts", "takeBack", "([I)Z"⟩) ∈ gtb := gtb_c4 144 (by decide +kernel) rfl
theorem wd_116 : (Cond.initialized "WebCourt$Acts") ∈ gtb := gtb_c1 7 (by decide +kernel) rfl
theorem hd_yX0_takeBack : yX0_takeBack.cls = RX0 ∧ yX0_takeBack.cls ≠ "java/lang/invoke/MethodHandle" ∧ yX0_takeBack.cls ≠ "java/lang/invoke/VarHandle" ∧ (parseMethodDescriptor yX0_takeBack.desc).map (fun d => d.parameters.length) = some 1 := by decide +kernel
set_option maxHeartbeats 4000000 in
set_option maxRecDepth 100000 in
theorem T_X10_undo (l : Launch) (D : va_G) (cy : Nat → ClassId) (a : Nat → Nat) (u : St) (hI_30_2 : fI u 30 2 = 0)   : Mi l D cy (cW cy a) yX10_undo (.code yX10_undo cX10_undo 1 (some .boolean)) (rmo 1 21) [.ref (a 0)] u (fun (r : Int32) (u' : St) => (r = 0) ∧ (u' = u)) := by
  refine Mi.of (own := RX10) rfl (by decide) (Nat.le_of_ble_eq_true rfl) ?_
  intro p e s m below meth c A Q ls C hret hO hl
  obtain ⟨hx, hb, hml, hown, ht, hK, hA⟩ := id C
  have hl : lv_has ls 1 [(0, .ref (a 0))] := hl
  refine lv_aload_n hx hb dX10_undo_0 rfl (lv_at hl 0 rfl) ?_
  refine gf_RX10_44 (v := .ref (a 30)) C hO 0 cW_0 rfl dX10_undo_1 ?_
  refine lv_aload_n hx hb dX10_undo_4 rfl (lv_at hl 0 rfl) ?_
  refine gf_RX10_37 (v := .ref (a 28)) C hO 0 cW_0 rfl dX10_undo_5 ?_
  refine gf_RX10_150 (v := .ref (a 29)) C hO 28 cW_28 rfl dX10_undo_8 ?_
  refine cVi (w := cW cy a) (As := [.ref (a 29)]) (rest := []) C hO (T_X0_takeBack l D cy a _ (by exact hI_30_2)) (cwV 1 ht (gV wd_971 wd_972 wd_973 wd_116 wd_974) rfl rfl rfl hd_yX0_takeBack ⟨Nat.le_of_ble_eq_true rfl, Nat.le_of_ble_eq_true rfl⟩) 30 rfl cW_30 rfl rfl hl.1 (Nat.le_of_ble_eq_true rfl) dX10_undo_11 rfl ⟨Nat.zero_le _, Nat.zero_le _⟩ (fun r1 u2 H locs hp3 hO => ?_)
  obtain ⟨hr1, hu2⟩ := hp3
  subst hr1
  rw [hu2] at hO
  refine hret _ _ _ _ _ _ dX10_undo_14 rfl ?_ hO
  exact ⟨rfl, rfl⟩
theorem dX10_redo_0 : decode cX10_redo 0 = .ok (.aload_n 0, 1) := by decide +kernel
theorem dX10_redo_1 : decode cX10_redo 1 = .ok (.getfield 44, 3) := by decide +kernel
theorem dX10_redo_4 : decode cX10_redo 4 = .ok (.aload_n 0, 1) := by decide +kernel
theorem dX10_redo_5 : decode cX10_redo 5 = .ok (.getfield 37, 3) := by decide +kernel
theorem dX10_redo_8 : decode cX10_redo 8 = .ok (.getfield 150, 3) := by decide +kernel
theorem dX10_redo_11 : decode cX10_redo 11 = .ok (.invokevirtual 203, 3) := by decide +kernel
theorem dX10_redo_14 : decode cX10_redo 14 = .ok (.ireturn, 1) := by decide +kernel
theorem wd_978 : (Cond.code ⟨"WebCourt", "redo", "()Z"⟩ prog_1_method_18_code (1 : Nat) (Option.some FieldType.boolean)) ∈ gtb := gtb_c4 149 (by decide +kernel) rfl
theorem wd_979 : (Cond.methodLink "WebCourt" (203 : Nat) ⟨"WebCourt$Acts", "doAgain", "([I)Z"⟩) ∈ gtb := gtb_c4 150 (by decide +kernel) rfl
theorem wd_980 : (Cond.instanceMethod ⟨"WebCourt$Acts", "doAgain", "([I)Z"⟩) ∈ gtb := gtb_c4 151 (by decide +kernel) rfl
theorem wd_981 : (Cond.selects "WebCourt$Acts" ⟨"WebCourt$Acts", "doAgain", "([I)Z"⟩ ⟨"WebCourt$Acts", "doAgain", "([I)Z"⟩) ∈ gtb := gtb_c4 152 (by decide +kernel) rfl
theorem hd_yX0_doAgain : yX0_doAgain.cls = RX0 ∧ yX0_doAgain.cls ≠ "java/lang/invoke/MethodHandle" ∧ yX0_doAgain.cls ≠ "java/lang/invoke/VarHandle" ∧ (parseMethodDescriptor yX0_doAgain.desc).map (fun d => d.parameters.length) = some 1 := by decide +kernel
set_option maxHeartbeats 4000000 in
set_option maxRecDepth 100000 in
theorem T_X10_redo (l : Launch) (D : va_G) (cy : Nat → ClassId) (a : Nat → Nat) (u : St) (hI_30_3 : fI u 30 3 = 0)   : Mi l D cy (cW cy a) yX10_redo (.code yX10_redo cX10_redo 1 (some .boolean)) (rmo 1 21) [.ref (a 0)] u (fun (r : Int32) (u' : St) => (r = 0) ∧ (u' = u)) := by
  refine Mi.of (own := RX10) rfl (by decide) (Nat.le_of_ble_eq_true rfl) ?_
  intro p e s m below meth c A Q ls C hret hO hl
  obtain ⟨hx, hb, hml, hown, ht, hK, hA⟩ := id C
  have hl : lv_has ls 1 [(0, .ref (a 0))] := hl
  refine lv_aload_n hx hb dX10_redo_0 rfl (lv_at hl 0 rfl) ?_
  refine gf_RX10_44 (v := .ref (a 30)) C hO 0 cW_0 rfl dX10_redo_1 ?_
  refine lv_aload_n hx hb dX10_redo_4 rfl (lv_at hl 0 rfl) ?_
  refine gf_RX10_37 (v := .ref (a 28)) C hO 0 cW_0 rfl dX10_redo_5 ?_
  refine gf_RX10_150 (v := .ref (a 29)) C hO 28 cW_28 rfl dX10_redo_8 ?_
  refine cVi (w := cW cy a) (As := [.ref (a 29)]) (rest := []) C hO (T_X0_doAgain l D cy a _ (by exact hI_30_3)) (cwV 1 ht (gV wd_979 wd_980 wd_981 wd_116 wd_982) rfl rfl rfl hd_yX0_doAgain ⟨Nat.le_of_ble_eq_true rfl, Nat.le_of_ble_eq_true rfl⟩) 30 rfl cW_30 rfl rfl hl.1 (Nat.le_of_ble_eq_true rfl) dX10_redo_11 rfl ⟨Nat.zero_le _, Nat.zero_le _⟩ (fun r1 u2 H locs hp3 hO => ?_)
  obtain ⟨hr1, hu2⟩ := hp3
  subst hr1
  rw [hu2] at hO
  refine hret _ _ _ _ _ _ dX10_redo_14 rfl ?_ hO
  exact ⟨rfl, rfl⟩
theorem dX10_fewestOf_0 : decode cX10_fewestOf 0 = .ok (.aload_n 0, 1) := by decide +kernel
theorem dX10_fewestOf_1 : decode cX10_fewestOf 1 = .ok (.getfield 37, 3) := by decide +kernel
theorem dX10_fewestOf_4 : decode cX10_fewestOf 4 = .ok (.iload_n 1, 1) := by decide +kernel
theorem dX10_fewestOf_5 : decode cX10_fewestOf 5 = .ok (.invokevirtual 189, 3) := by decide +kernel
theorem dX10_fewestOf_8 : decode cX10_fewestOf 8 = .ok (.ifCond .eq 12, 3) := by decide +kernel
theorem dX10_fewestOf_11 : decode cX10_fewestOf 11 = .ok (.iload_n 3, 1) := by decide +kernel
theorem dX10_fewestOf_12 : decode cX10_fewestOf 12 = .ok (.ifCond .lt 8, 3) := by decide +kernel
theorem dX10_fewestOf_15 : decode cX10_fewestOf 15 = .ok (.iload_n 3, 1) := by decide +kernel
theorem dX10_fewestOf_16 : decode cX10_fewestOf 16 = .ok (.iconst 1, 1) := by decide +kernel
theorem dX10_fewestOf_17 : decode cX10_fewestOf 17 = .ok (.if_icmp .le 5, 3) := by decide +kernel
theorem dX10_fewestOf_20 : decode cX10_fewestOf 20 = .ok (.iconst (-1), 1) := by decide +kernel
theorem dX10_fewestOf_21 : decode cX10_fewestOf 21 = .ok (.ireturn, 1) := by decide +kernel
theorem dX10_fewestOf_22 : decode cX10_fewestOf 22 = .ok (.aload_n 0, 1) := by decide +kernel
theorem dX10_fewestOf_23 : decode cX10_fewestOf 23 = .ok (.getfield 69, 3) := by decide +kernel
theorem dX10_fewestOf_26 : decode cX10_fewestOf 26 = .ok (.iload_n 1, 1) := by decide +kernel
theorem dX10_fewestOf_27 : decode cX10_fewestOf 27 = .ok (.iload_n 2, 1) := by decide +kernel
theorem dX10_fewestOf_28 : decode cX10_fewestOf 28 = .ok (.invokevirtual 213, 3) := by decide +kernel
theorem dX10_fewestOf_31 : decode cX10_fewestOf 31 = .ok (.istore 4, 2) := by decide +kernel
theorem dX10_fewestOf_33 : decode cX10_fewestOf 33 = .ok (.iload 4, 2) := by decide +kernel
theorem dX10_fewestOf_35 : decode cX10_fewestOf 35 = .ok (.ifCond .ne 5, 3) := by decide +kernel
theorem dX10_fewestOf_38 : decode cX10_fewestOf 38 = .ok (.iconst (-1), 1) := by decide +kernel
theorem dX10_fewestOf_39 : decode cX10_fewestOf 39 = .ok (.ireturn, 1) := by decide +kernel
theorem dX10_fewestOf_40 : decode cX10_fewestOf 40 = .ok (.iload_n 3, 1) := by decide +kernel
theorem dX10_fewestOf_41 : decode cX10_fewestOf 41 = .ok (.ifCond .ne 11, 3) := by decide +kernel
theorem dX10_fewestOf_44 : decode cX10_fewestOf 44 = .ok (.iload 4, 2) := by decide +kernel
theorem dX10_fewestOf_46 : decode cX10_fewestOf 46 = .ok (.invokestatic 180, 3) := by decide +kernel
theorem dX10_fewestOf_49 : decode cX10_fewestOf 49 = .ok (.goto 5, 3) := by decide +kernel
theorem dX10_fewestOf_52 : decode cX10_fewestOf 52 = .ok (.iload 4, 2) := by decide +kernel
theorem dX10_fewestOf_54 : decode cX10_fewestOf 54 = .ok (.ireturn, 1) := by decide +kernel
theorem wd_990 : (Cond.code ⟨"WebCourt", "fewestOf", "(III)I"⟩ prog_1_method_21_code (5 : Nat) (Option.some FieldType.int)) ∈ gtb := gtb_c4 161 (by decide +kernel) rfl
theorem wd_961 : (Cond.methodLink "WebCourt" (189 : Nat) ⟨"WebCourt$Court", "isHeld", "(I)Z"⟩) ∈ gtb := gtb_c4 132 (by decide +kernel) rfl
set_option maxHeartbeats 4000000 in
set_option maxRecDepth 100000 in
theorem T_X10_fewestOf (l : Launch) (D : va_G) (cy : Nat → ClassId) (a : Nat → Nat) (u : St) (hI_3_12 : fI u 3 12 = 0) (hR_0 : fR u 0 = a 3) (x1 : Int32) (x2 : Int32) (x3 : Int32)  : Mi l D cy (cW cy a) yX10_fewestOf (.code yX10_fewestOf cX10_fewestOf 5 (some .int)) (rmo 2 42) [.ref (a 0), .int x1, .int x2, .int x3] u (fun (r : Int32) (u' : St) => (r = (-1)) ∧ (u' = u)) := by
  refine Mi.of (own := RX10) rfl (by decide) (Nat.le_of_ble_eq_true rfl) ?_
  intro p e s m below meth c A Q ls C hret hO hl
  obtain ⟨hx, hb, hml, hown, ht, hK, hA⟩ := id C
  have hl : lv_has ls 5 [(0, .ref (a 0)), (1, .int x1), (2, .int x2), (3, .int x3)] := hl
  refine lv_aload_n hx hb dX10_fewestOf_0 rfl (lv_at hl 0 rfl) ?_
  refine gf_RX10_37 (v := .ref (a 28)) C hO 0 cW_0 rfl dX10_fewestOf_1 ?_
  refine lv_iload_n hx hb dX10_fewestOf_4 rfl (lv_at hl 1 rfl) ?_
  refine cVi (w := cW cy a) (As := [.int x1]) (rest := []) C hO (T_X2_isHeld l D cy a _ (by exact hI_3_12) (by exact hR_0) (x1)) (cwV 1 ht (gV wd_961 wd_930 wd_931 wd_115 wd_932) rfl rfl rfl hd_yX2_isHeld ⟨Nat.le_of_ble_eq_true rfl, Nat.le_of_ble_eq_true rfl⟩) 28 rfl cW_28 rfl rfl hl.1 (Nat.le_of_ble_eq_true rfl) dX10_fewestOf_5 rfl ⟨Nat.zero_le _, Nat.zero_le _⟩ (fun r1 u2 H locs hp3 hO => ?_)
  obtain ⟨hr1, hu2⟩ := hp3
  subst hr1
  rw [hu2] at hO
  refine bt_eq (tgt := 20) (X := 0) hx hb dX10_fewestOf_8 (by decide) rfl (by omega) ?_
  refine lv_iconst (v := (-1)) hx hb dX10_fewestOf_20 (by decide) ?_
  refine hret _ _ _ _ _ _ dX10_fewestOf_21 rfl ?_ hO
  exact ⟨rfl, rfl⟩
theorem dX10_shortest_0 : decode cX10_shortest 0 = .ok (.aload_n 0, 1) := by decide +kernel
theorem dX10_shortest_1 : decode cX10_shortest 1 = .ok (.iload_n 1, 1) := by decide +kernel
theorem dX10_shortest_2 : decode cX10_shortest 2 = .ok (.iconst 1, 1) := by decide +kernel
theorem dX10_shortest_3 : decode cX10_shortest 3 = .ok (.aload_n 0, 1) := by decide +kernel
theorem dX10_shortest_4 : decode cX10_shortest 4 = .ok (.getfield 37, 3) := by decide +kernel
theorem dX10_shortest_7 : decode cX10_shortest 7 = .ok (.getfield 101, 3) := by decide +kernel
theorem dX10_shortest_10 : decode cX10_shortest 10 = .ok (.getfield 206, 3) := by decide +kernel
theorem dX10_shortest_13 : decode cX10_shortest 13 = .ok (.ishl, 1) := by decide +kernel
theorem dX10_shortest_14 : decode cX10_shortest 14 = .ok (.iconst 1, 1) := by decide +kernel
theorem dX10_shortest_15 : decode cX10_shortest 15 = .ok (.isub, 1) := by decide +kernel
theorem dX10_shortest_16 : decode cX10_shortest 16 = .ok (.iload_n 2, 1) := by decide +kernel
theorem dX10_shortest_17 : decode cX10_shortest 17 = .ok (.invokevirtual 209, 3) := by decide +kernel
theorem dX10_shortest_20 : decode cX10_shortest 20 = .ok (.ireturn, 1) := by decide +kernel
theorem wd_986 : (Cond.code ⟨"WebCourt", "shortest", "(II)I"⟩ prog_1_method_19_code (3 : Nat) (Option.some FieldType.int)) ∈ gtb := gtb_c4 157 (by decide +kernel) rfl
theorem wd_266 : (Cond.fieldLink "WebCourt" (206 : Nat) "WebCourt$Web" "pleas" "I") ∈ gtb := gtb_c1 157 (by decide +kernel) rfl
theorem gf_RX10_206 {p : Program} {l : Launch} {e : Env} {R : Room} {s : State} {m : MethodId} {args : Array Value} {below : List Frame} {meth : Method} {c : Code} {H : Heap} {locs : List Loc} {cells slots : Nat} {Q : State → Prop} {cc : ByteArray} {pc nL : Nat} {ls : Array Slot} {rest : List Value} {D : va_G} {cy : Nat → ClassId} {A : Nat → Prop} {ws : va_W} {b : Nat} {fs : List Value} {v : Value} (C : Cx p s m args c cc nL RX10 D cy A) (hO : Wo D A ws s.heap H locs) (q0 : Nat) (he : ws[q0]? = some (b, .inr (9, fs))) (hv : fs[11]? = some v) (hdg : decode cc pc = .ok (.getfield 206, 3)) (kk : W p l e R s m args below meth c H locs cells slots Q (F0 m (pc + 3) ls (v :: rest))) : W p l e R s m args below meth c H locs cells slots Q (F0 m pc ls (.ref b :: rest)) := gF (k := 11) C hO q0 he rfl inFX9 (by decide) wd_266 rfl hv hdg kk
theorem wd_987 : (Cond.methodLink "WebCourt" (209 : Nat) ⟨"WebCourt", "fewestOf", "(III)I"⟩) ∈ gtb := gtb_c4 158 (by decide +kernel) rfl
theorem wd_989 : (Cond.instanceMethod ⟨"WebCourt", "fewestOf", "(III)I"⟩) ∈ gtb := gtb_c4 160 (by decide +kernel) rfl
theorem wd_32 : (Cond.selects "WebCourt" ⟨"WebCourt", "fewestOf", "(III)I"⟩ ⟨"WebCourt", "fewestOf", "(III)I"⟩) ∈ gtb := gtb_p 32 (by decide +kernel) rfl
theorem wd_110 : (Cond.initialized "WebCourt") ∈ gtb := gtb_c1 1 (by decide +kernel) rfl
theorem hd_yX10_fewestOf : yX10_fewestOf.cls = RX10 ∧ yX10_fewestOf.cls ≠ "java/lang/invoke/MethodHandle" ∧ yX10_fewestOf.cls ≠ "java/lang/invoke/VarHandle" ∧ (parseMethodDescriptor yX10_fewestOf.desc).map (fun d => d.parameters.length) = some 3 := by decide +kernel
set_option maxHeartbeats 4000000 in
set_option maxRecDepth 100000 in
theorem T_X10_shortest (l : Launch) (D : va_G) (cy : Nat → ClassId) (a : Nat → Nat) (u : St) (hI_3_11 : fI u 3 11 = 0) (hI_3_12 : fI u 3 12 = 0) (hR_0 : fR u 0 = a 3) (x1 : Int32) (x2 : Int32)  : Mi l D cy (cW cy a) yX10_shortest (.code yX10_shortest cX10_shortest 3 (some .int)) (rmo 3 66) [.ref (a 0), .int x1, .int x2] u (fun (r : Int32) (u' : St) => (r = (-1)) ∧ (u' = u)) := by
  refine Mi.of (own := RX10) rfl (by decide) (Nat.le_of_ble_eq_true rfl) ?_
  intro p e s m below meth c A Q ls C hret hO hl
  obtain ⟨hx, hb, hml, hown, ht, hK, hA⟩ := id C
  have hl : lv_has ls 3 [(0, .ref (a 0)), (1, .int x1), (2, .int x2)] := hl
  refine lv_aload_n hx hb dX10_shortest_0 rfl (lv_at hl 0 rfl) ?_
  refine lv_iload_n hx hb dX10_shortest_1 rfl (lv_at hl 1 rfl) ?_
  refine lv_iconst (v := 1) hx hb dX10_shortest_2 (by decide) ?_
  refine lv_aload_n hx hb dX10_shortest_3 rfl (lv_at hl 0 rfl) ?_
  refine gf_RX10_37 (v := .ref (a 28)) C hO 0 cW_0 rfl dX10_shortest_4 ?_
  refine gf_RX10_101 (v := .ref (a 3)) C hO 28 cW_28 (congrArg (fun z : Nat => some (Value.ref z)) hR_0) dX10_shortest_7 ?_
  refine gf_RX10_206 (v := .int 0) C hO 3 cW_3 (congrArg (fun z : Int32 => some (Value.int z)) hI_3_11) dX10_shortest_10 ?_
  refine lv_ishl hx hb dX10_shortest_13 ?_
  refine tE (y := 1) (by decide) ?_
  refine lv_iconst (v := 1) hx hb dX10_shortest_14 (by decide) ?_
  refine lv_isub hx hb dX10_shortest_15 ?_
  refine tE (y := 0) rfl ?_
  refine lv_iload_n hx hb dX10_shortest_16 rfl (lv_at hl 2 rfl) ?_
  refine cVi (w := cW cy a) (As := [.int x1, .int 0, .int x2]) (rest := []) C hO (T_X10_fewestOf l D cy a _ (by exact hI_3_12) (by exact hR_0) (x1) (0) (x2)) (cwV 3 ht (gV wd_987 wd_989 wd_32 wd_110 wd_990) rfl rfl rfl hd_yX10_fewestOf ⟨Nat.le_of_ble_eq_true rfl, Nat.le_of_ble_eq_true rfl⟩) 0 rfl cW_0 rfl rfl hl.1 (Nat.le_of_ble_eq_true rfl) dX10_shortest_17 rfl ⟨Nat.zero_le _, Nat.zero_le _⟩ (fun r1 u2 H locs hp3 hO => ?_)
  obtain ⟨hr1, hu2⟩ := hp3
  subst hr1
  rw [hu2] at hO
  refine hret _ _ _ _ _ _ dX10_shortest_20 rfl ?_ hO
  exact ⟨rfl, rfl⟩
theorem dX10_honest_0 : decode cX10_honest 0 = .ok (.aload_n 0, 1) := by decide +kernel
theorem dX10_honest_1 : decode cX10_honest 1 = .ok (.getfield 37, 3) := by decide +kernel
theorem dX10_honest_4 : decode cX10_honest 4 = .ok (.iload_n 1, 1) := by decide +kernel
theorem dX10_honest_5 : decode cX10_honest 5 = .ok (.invokevirtual 144, 3) := by decide +kernel
theorem dX10_honest_8 : decode cX10_honest 8 = .ok (.ifCond .eq 24, 3) := by decide +kernel
theorem dX10_honest_11 : decode cX10_honest 11 = .ok (.aload_n 0, 1) := by decide +kernel
theorem dX10_honest_12 : decode cX10_honest 12 = .ok (.iload_n 1, 1) := by decide +kernel
theorem dX10_honest_13 : decode cX10_honest 13 = .ok (.aload_n 0, 1) := by decide +kernel
theorem dX10_honest_14 : decode cX10_honest 14 = .ok (.getfield 37, 3) := by decide +kernel
theorem dX10_honest_17 : decode cX10_honest 17 = .ok (.getfield 101, 3) := by decide +kernel
theorem dX10_honest_20 : decode cX10_honest 20 = .ok (.getfield 153, 3) := by decide +kernel
theorem dX10_honest_23 : decode cX10_honest 23 = .ok (.iload_n 1, 1) := by decide +kernel
theorem dX10_honest_24 : decode cX10_honest 24 = .ok (.iaload, 1) := by decide +kernel
theorem dX10_honest_25 : decode cX10_honest 25 = .ok (.iload_n 2, 1) := by decide +kernel
theorem dX10_honest_26 : decode cX10_honest 26 = .ok (.invokevirtual 209, 3) := by decide +kernel
theorem dX10_honest_29 : decode cX10_honest 29 = .ok (.goto 4, 3) := by decide +kernel
theorem dX10_honest_32 : decode cX10_honest 32 = .ok (.iconst (-1), 1) := by decide +kernel
theorem dX10_honest_33 : decode cX10_honest 33 = .ok (.ireturn, 1) := by decide +kernel
theorem wd_1003 : (Cond.code ⟨"WebCourt", "honest", "(II)I"⟩ prog_1_method_20_code (3 : Nat) (Option.some FieldType.int)) ∈ gtb := gtb_c4 174 (by decide +kernel) rfl
set_option maxHeartbeats 4000000 in
set_option maxRecDepth 100000 in
theorem T_X10_honest (l : Launch) (D : va_G) (cy : Nat → ClassId) (a : Nat → Nat) (u : St) (hI_3_12 : fI u 3 12 = 0) (hR_0 : fR u 0 = a 3) (x1 : Int32) (x2 : Int32)  : Mi l D cy (cW cy a) yX10_honest (.code yX10_honest cX10_honest 3 (some .int)) (rmo 1 21) [.ref (a 0), .int x1, .int x2] u (fun (r : Int32) (u' : St) => (r = (-1)) ∧ (u' = u)) := by
  refine Mi.of (own := RX10) rfl (by decide) (Nat.le_of_ble_eq_true rfl) ?_
  intro p e s m below meth c A Q ls C hret hO hl
  obtain ⟨hx, hb, hml, hown, ht, hK, hA⟩ := id C
  have hl : lv_has ls 3 [(0, .ref (a 0)), (1, .int x1), (2, .int x2)] := hl
  refine lv_aload_n hx hb dX10_honest_0 rfl (lv_at hl 0 rfl) ?_
  refine gf_RX10_37 (v := .ref (a 28)) C hO 0 cW_0 rfl dX10_honest_1 ?_
  refine lv_iload_n hx hb dX10_honest_4 rfl (lv_at hl 1 rfl) ?_
  refine cVi (w := cW cy a) (As := [.int x1]) (rest := []) C hO (T_X2_hasCase l D cy a _ (by exact hI_3_12) (by exact hR_0) (x1)) (cwV 1 ht (gV wd_841 wd_842 wd_843 wd_115 wd_844) rfl rfl rfl hd_yX2_hasCase ⟨Nat.le_of_ble_eq_true rfl, Nat.le_of_ble_eq_true rfl⟩) 28 rfl cW_28 rfl rfl hl.1 (Nat.le_of_ble_eq_true rfl) dX10_honest_5 rfl ⟨Nat.zero_le _, Nat.zero_le _⟩ (fun r1 u2 H locs hp3 hO => ?_)
  obtain ⟨hr1, hu2⟩ := hp3
  subst hr1
  rw [hu2] at hO
  refine bt_eq (tgt := 32) (X := 0) hx hb dX10_honest_8 (by decide) rfl (by omega) ?_
  refine lv_iconst (v := (-1)) hx hb dX10_honest_32 (by decide) ?_
  refine hret _ _ _ _ _ _ dX10_honest_33 rfl ?_ hO
  exact ⟨rfl, rfl⟩
theorem dX10_way_0 : decode cX10_way 0 = .ok (.aload_n 0, 1) := by decide +kernel
theorem dX10_way_1 : decode cX10_way 1 = .ok (.iconst 0, 1) := by decide +kernel
theorem dX10_way_2 : decode cX10_way 2 = .ok (.putfield 111, 3) := by decide +kernel
theorem dX10_way_5 : decode cX10_way 5 = .ok (.aload_n 0, 1) := by decide +kernel
theorem dX10_way_6 : decode cX10_way 6 = .ok (.getfield 37, 3) := by decide +kernel
theorem dX10_way_9 : decode cX10_way 9 = .ok (.iload_n 1, 1) := by decide +kernel
theorem dX10_way_10 : decode cX10_way 10 = .ok (.invokevirtual 126, 3) := by decide +kernel
theorem dX10_way_13 : decode cX10_way 13 = .ok (.ifCond .ne 5, 3) := by decide +kernel
theorem dX10_way_16 : decode cX10_way 16 = .ok (.iconst (-1), 1) := by decide +kernel
theorem dX10_way_17 : decode cX10_way 17 = .ok (.ireturn, 1) := by decide +kernel
theorem dX10_way_18 : decode cX10_way 18 = .ok (.aload_n 0, 1) := by decide +kernel
theorem dX10_way_19 : decode cX10_way 19 = .ok (.getfield 53, 3) := by decide +kernel
theorem dX10_way_22 : decode cX10_way 22 = .ok (.invokevirtual 216, 3) := by decide +kernel
theorem dX10_way_25 : decode cX10_way 25 = .ok (.aload_n 0, 1) := by decide +kernel
theorem dX10_way_26 : decode cX10_way 26 = .ok (.getfield 53, 3) := by decide +kernel
theorem dX10_way_29 : decode cX10_way 29 = .ok (.aload_n 0, 1) := by decide +kernel
theorem dX10_way_30 : decode cX10_way 30 = .ok (.getfield 37, 3) := by decide +kernel
theorem dX10_way_33 : decode cX10_way 33 = .ok (.getfield 150, 3) := by decide +kernel
theorem dX10_way_36 : decode cX10_way 36 = .ok (.iconst 0, 1) := by decide +kernel
theorem dX10_way_37 : decode cX10_way 37 = .ok (.iaload, 1) := by decide +kernel
theorem dX10_way_38 : decode cX10_way 38 = .ok (.iload_n 1, 1) := by decide +kernel
theorem dX10_way_39 : decode cX10_way 39 = .ok (.invokevirtual 219, 3) := by decide +kernel
theorem dX10_way_42 : decode cX10_way 42 = .ok (.istore_n 2, 1) := by decide +kernel
theorem dX10_way_43 : decode cX10_way 43 = .ok (.iload_n 2, 1) := by decide +kernel
theorem dX10_way_44 : decode cX10_way 44 = .ok (.sipush 1000, 3) := by decide +kernel
theorem dX10_way_47 : decode cX10_way 47 = .ok (.if_icmp .lt 5, 3) := by decide +kernel
theorem dX10_way_50 : decode cX10_way 50 = .ok (.iconst (-1), 1) := by decide +kernel
theorem dX10_way_51 : decode cX10_way 51 = .ok (.ireturn, 1) := by decide +kernel
theorem dX10_way_52 : decode cX10_way 52 = .ok (.aload_n 0, 1) := by decide +kernel
theorem dX10_way_53 : decode cX10_way 53 = .ok (.aload_n 0, 1) := by decide +kernel
theorem dX10_way_54 : decode cX10_way 54 = .ok (.getfield 53, 3) := by decide +kernel
theorem dX10_way_57 : decode cX10_way 57 = .ok (.iload_n 1, 1) := by decide +kernel
theorem dX10_way_58 : decode cX10_way 58 = .ok (.aload_n 0, 1) := by decide +kernel
theorem dX10_way_59 : decode cX10_way 59 = .ok (.getfield 85, 3) := by decide +kernel
theorem dX10_way_62 : decode cX10_way 62 = .ok (.invokevirtual 222, 3) := by decide +kernel
theorem dX10_way_65 : decode cX10_way 65 = .ok (.putfield 111, 3) := by decide +kernel
theorem dX10_way_68 : decode cX10_way 68 = .ok (.iload_n 2, 1) := by decide +kernel
theorem dX10_way_69 : decode cX10_way 69 = .ok (.ireturn, 1) := by decide +kernel
theorem wd_1007 : (Cond.code ⟨"WebCourt", "way", "(I)I"⟩ prog_1_method_22_code (3 : Nat) (Option.some FieldType.int)) ∈ gtb := gtb_c4 178 (by decide +kernel) rfl
theorem wd_478 : (Cond.fieldLink "WebCourt" (111 : Nat) "WebCourt" "lyingCount" "I") ∈ gtb := gtb_c2 129 (by decide +kernel) rfl
theorem pf_RX10_111 {p : Program} {l : Launch} {e : Env} {R : Room} {s : State} {m : MethodId} {args : Array Value} {below : List Frame} {meth : Method} {c : Code} {H : Heap} {locs : List Loc} {cells slots : Nat} {Q : State → Prop} {cc : ByteArray} {pc nL : Nat} {ls : Array Slot} {rest : List Value} {D : va_G} {cy : Nat → ClassId} {A : Nat → Prop} {ws : va_W} {b : Nat} {fs : List Value} {v : Int32} {ws' : va_W} (C : Cx p s m args c cc nL RX10 D cy A) (hO : Wo D A ws s.heap H locs) (q0 : Nat) (he : ws[q0]? = some (b, .inr (10, fs))) (hlen : 10 < fs.length) (hw : ws.set q0 (b, .inr (10, fs.set 10 (.int v))) = ws') (hdg : decode cc pc = .ok (.putfield 111, 3)) (kk : ∀ (H : Heap) (locs : List Loc), Wo D A ws' s.heap H locs → W p l e R s m args below meth c H locs cells slots Q (F0 m (pc + 3) ls rest)) : W p l e R s m args below meth c H locs cells slots Q (F0 m pc ls (.int v :: .ref b :: rest)) := pF (k := 10) (ty := .int) C hO q0 he rfl inFX10 (by decide) wd_478 rfl tyX10 tyX10_ok nmX10 rfl (by decide +kernel) rfl rfl hlen hw hdg kk
set_option maxHeartbeats 4000000 in
set_option maxRecDepth 100000 in
theorem T_X10_way (l : Launch) (D : va_G) (cy : Nat → ClassId) (a : Nat → Nat) (u : St) (hI_3_9 : fI u 3 9 = 0) (hR_0 : fR u 0 = a 3) (x1 : Int32)  : Mi l D cy (cW cy a) yX10_way (.code yX10_way cX10_way 3 (some .int)) (rmo 1 21) [.ref (a 0), .int x1] u (fun (r : Int32) (u' : St) => (r = (-1)) ∧ (u' = (sI u 0 10 0))) := by
  refine Mi.of (own := RX10) rfl (by decide) (Nat.le_of_ble_eq_true rfl) ?_
  intro p e s m below meth c A Q ls C hret hO hl
  obtain ⟨hx, hb, hml, hown, ht, hK, hA⟩ := id C
  have hl : lv_has ls 3 [(0, .ref (a 0)), (1, .int x1)] := hl
  refine lv_aload_n hx hb dX10_way_0 rfl (lv_at hl 0 rfl) ?_
  refine lv_iconst (v := 0) hx hb dX10_way_1 (by decide) ?_
  refine pf_RX10_111 C hO 0 cW_0 (Nat.le_of_ble_eq_true rfl) cW_s0_10 dX10_way_2 (fun H locs hO => ?_)
  refine lv_aload_n hx hb dX10_way_5 rfl (lv_at hl 0 rfl) ?_
  refine gf_RX10_37 (v := .ref (a 28)) C hO 0 cW_0 rfl dX10_way_6 ?_
  refine lv_iload_n hx hb dX10_way_9 rfl (lv_at hl 1 rfl) ?_
  refine cVi (w := cW cy a) (As := [.int x1]) (rest := []) C hO (T_X2_hasKnot l D cy a _ (by exact hI_3_9) (by exact hR_0) (x1)) (cwV 1 ht (gV wd_817 wd_818 wd_819 wd_115 wd_820) rfl rfl rfl hd_yX2_hasKnot ⟨Nat.le_of_ble_eq_true rfl, Nat.le_of_ble_eq_true rfl⟩) 28 rfl cW_28 rfl rfl hl.1 (Nat.le_of_ble_eq_true rfl) dX10_way_10 rfl ⟨Nat.zero_le _, Nat.zero_le _⟩ (fun r1 u2 H locs hp3 hO => ?_)
  obtain ⟨hr1, hu2⟩ := hp3
  subst hr1
  rw [hu2] at hO
  refine bn_ne (X := 0) hx hb dX10_way_13 rfl (by omega) ?_ (tgt := 18) (by decide)
  refine lv_iconst (v := (-1)) hx hb dX10_way_16 (by decide) ?_
  refine hret _ _ _ _ _ _ dX10_way_17 rfl ?_ hO
  exact ⟨rfl, rfl⟩
theorem dX10_round_0 : decode cX10_round 0 = .ok (.aload_n 0, 1) := by decide +kernel
theorem dX10_round_1 : decode cX10_round 1 = .ok (.iconst 0, 1) := by decide +kernel
theorem dX10_round_2 : decode cX10_round 2 = .ok (.putfield 111, 3) := by decide +kernel
theorem dX10_round_5 : decode cX10_round 5 = .ok (.aload_n 0, 1) := by decide +kernel
theorem dX10_round_6 : decode cX10_round 6 = .ok (.getfield 37, 3) := by decide +kernel
theorem dX10_round_9 : decode cX10_round 9 = .ok (.invokevirtual 192, 3) := by decide +kernel
theorem dX10_round_12 : decode cX10_round 12 = .ok (.istore_n 1, 1) := by decide +kernel
theorem dX10_round_13 : decode cX10_round 13 = .ok (.iload_n 1, 1) := by decide +kernel
theorem dX10_round_14 : decode cX10_round 14 = .ok (.ifCond .ne 5, 3) := by decide +kernel
theorem dX10_round_17 : decode cX10_round 17 = .ok (.iconst (-1), 1) := by decide +kernel
theorem dX10_round_18 : decode cX10_round 18 = .ok (.ireturn, 1) := by decide +kernel
theorem dX10_round_19 : decode cX10_round 19 = .ok (.aload_n 0, 1) := by decide +kernel
theorem dX10_round_20 : decode cX10_round 20 = .ok (.getfield 62, 3) := by decide +kernel
theorem dX10_round_23 : decode cX10_round 23 = .ok (.invokevirtual 226, 3) := by decide +kernel
theorem dX10_round_26 : decode cX10_round 26 = .ok (.aload_n 0, 1) := by decide +kernel
theorem dX10_round_27 : decode cX10_round 27 = .ok (.getfield 62, 3) := by decide +kernel
theorem dX10_round_30 : decode cX10_round 30 = .ok (.iload_n 1, 1) := by decide +kernel
theorem dX10_round_31 : decode cX10_round 31 = .ok (.invokevirtual 227, 3) := by decide +kernel
theorem dX10_round_34 : decode cX10_round 34 = .ok (.istore_n 2, 1) := by decide +kernel
theorem dX10_round_35 : decode cX10_round 35 = .ok (.iload_n 2, 1) := by decide +kernel
theorem dX10_round_36 : decode cX10_round 36 = .ok (.sipush 1000, 3) := by decide +kernel
theorem dX10_round_39 : decode cX10_round 39 = .ok (.if_icmp .lt 5, 3) := by decide +kernel
theorem dX10_round_42 : decode cX10_round 42 = .ok (.iconst (-1), 1) := by decide +kernel
theorem dX10_round_43 : decode cX10_round 43 = .ok (.ireturn, 1) := by decide +kernel
theorem dX10_round_44 : decode cX10_round 44 = .ok (.aload_n 0, 1) := by decide +kernel
theorem dX10_round_45 : decode cX10_round 45 = .ok (.aload_n 0, 1) := by decide +kernel
theorem dX10_round_46 : decode cX10_round 46 = .ok (.getfield 62, 3) := by decide +kernel
theorem dX10_round_49 : decode cX10_round 49 = .ok (.iload_n 1, 1) := by decide +kernel
theorem dX10_round_50 : decode cX10_round 50 = .ok (.aload_n 0, 1) := by decide +kernel
theorem dX10_round_51 : decode cX10_round 51 = .ok (.getfield 85, 3) := by decide +kernel
theorem dX10_round_54 : decode cX10_round 54 = .ok (.invokevirtual 230, 3) := by decide +kernel
theorem dX10_round_57 : decode cX10_round 57 = .ok (.putfield 111, 3) := by decide +kernel
theorem dX10_round_60 : decode cX10_round 60 = .ok (.iload_n 2, 1) := by decide +kernel
theorem dX10_round_61 : decode cX10_round 61 = .ok (.ireturn, 1) := by decide +kernel
theorem wd_1034 : (Cond.code ⟨"WebCourt", "round", "()I"⟩ prog_1_method_23_code (3 : Nat) (Option.some FieldType.int)) ∈ gtb := gtb_c4 205 (by decide +kernel) rfl
theorem wd_962 : (Cond.methodLink "WebCourt" (192 : Nat) ⟨"WebCourt$Court", "held", "()I"⟩) ∈ gtb := gtb_c4 133 (by decide +kernel) rfl
theorem wd_858 : (Cond.instanceMethod ⟨"WebCourt$Court", "held", "()I"⟩) ∈ gtb := gtb_c4 29 (by decide +kernel) rfl
theorem wd_859 : (Cond.selects "WebCourt$Court" ⟨"WebCourt$Court", "held", "()I"⟩ ⟨"WebCourt$Court", "held", "()I"⟩) ∈ gtb := gtb_c4 30 (by decide +kernel) rfl
theorem hd_yX2_held : yX2_held.cls = RX2 ∧ yX2_held.cls ≠ "java/lang/invoke/MethodHandle" ∧ yX2_held.cls ≠ "java/lang/invoke/VarHandle" ∧ (parseMethodDescriptor yX2_held.desc).map (fun d => d.parameters.length) = some 0 := by decide +kernel
set_option maxHeartbeats 4000000 in
set_option maxRecDepth 100000 in
theorem T_X10_round (l : Launch) (D : va_G) (cy : Nat → ClassId) (a : Nat → Nat) (u : St) (hI_3_12 : fI u 3 12 = 0) (hR_0 : fR u 0 = a 3)   : Mi l D cy (cW cy a) yX10_round (.code yX10_round cX10_round 3 (some .int)) (rmo 1 22) [.ref (a 0)] u (fun (r : Int32) (u' : St) => (r = (-1)) ∧ (u' = (sI u 0 10 0))) := by
  refine Mi.of (own := RX10) rfl (by decide) (Nat.le_of_ble_eq_true rfl) ?_
  intro p e s m below meth c A Q ls C hret hO hl
  obtain ⟨hx, hb, hml, hown, ht, hK, hA⟩ := id C
  have hl : lv_has ls 3 [(0, .ref (a 0))] := hl
  refine lv_aload_n hx hb dX10_round_0 rfl (lv_at hl 0 rfl) ?_
  refine lv_iconst (v := 0) hx hb dX10_round_1 (by decide) ?_
  refine pf_RX10_111 C hO 0 cW_0 (Nat.le_of_ble_eq_true rfl) cW_s0_10 dX10_round_2 (fun H locs hO => ?_)
  refine lv_aload_n hx hb dX10_round_5 rfl (lv_at hl 0 rfl) ?_
  refine gf_RX10_37 (v := .ref (a 28)) C hO 0 cW_0 rfl dX10_round_6 ?_
  refine cVi (w := cW cy a) (As := []) (rest := []) C hO (T_X2_held l D cy a _ (by exact hI_3_12) (by exact hR_0)) (cwV 0 ht (gV wd_962 wd_858 wd_859 wd_115 wd_860) rfl rfl rfl hd_yX2_held ⟨Nat.le_of_ble_eq_true rfl, Nat.le_of_ble_eq_true rfl⟩) 28 rfl cW_28 rfl rfl hl.1 (Nat.le_of_ble_eq_true rfl) dX10_round_9 rfl ⟨Nat.zero_le _, Nat.zero_le _⟩ (fun r1 u2 H locs hp3 hO => ?_)
  obtain ⟨hr1, hu2⟩ := hp3
  subst hr1
  rw [hu2] at hO
  refine lv_istore_n (lv' := [(1, .int 0), (0, .ref (a 0))]) hx hb dX10_round_12 rfl hl (by decide) rfl (fun ls hl => ?_)
  refine lv_iload_n hx hb dX10_round_13 rfl (lv_at hl 0 rfl) ?_
  refine bn_ne (X := 0) hx hb dX10_round_14 rfl (by omega) ?_ (tgt := 19) (by decide)
  refine lv_iconst (v := (-1)) hx hb dX10_round_17 (by decide) ?_
  refine hret _ _ _ _ _ _ dX10_round_18 rfl ?_ hO
  exact ⟨rfl, rfl⟩
theorem dX10_leave_0 : decode cX10_leave 0 = .ok (.aload_n 0, 1) := by decide +kernel
theorem dX10_leave_1 : decode cX10_leave 1 = .ok (.getfield 37, 3) := by decide +kernel
theorem dX10_leave_4 : decode cX10_leave 4 = .ok (.iload_n 1, 1) := by decide +kernel
theorem dX10_leave_5 : decode cX10_leave 5 = .ok (.invokevirtual 189, 3) := by decide +kernel
theorem dX10_leave_8 : decode cX10_leave 8 = .ok (.ifCond .eq 14, 3) := by decide +kernel
theorem dX10_leave_11 : decode cX10_leave 11 = .ok (.aload_n 0, 1) := by decide +kernel
theorem dX10_leave_12 : decode cX10_leave 12 = .ok (.getfield 69, 3) := by decide +kernel
theorem dX10_leave_15 : decode cX10_leave 15 = .ok (.iload_n 1, 1) := by decide +kernel
theorem dX10_leave_16 : decode cX10_leave 16 = .ok (.invokevirtual 236, 3) := by decide +kernel
theorem dX10_leave_19 : decode cX10_leave 19 = .ok (.goto 4, 3) := by decide +kernel
theorem dX10_leave_22 : decode cX10_leave 22 = .ok (.iconst (-1), 1) := by decide +kernel
theorem dX10_leave_23 : decode cX10_leave 23 = .ok (.ireturn, 1) := by decide +kernel
theorem wd_1076 : (Cond.code ⟨"WebCourt", "leave", "(I)I"⟩ prog_1_method_25_code (2 : Nat) (Option.some FieldType.int)) ∈ gtb := gtb_c5 7 (by decide +kernel) rfl
set_option maxHeartbeats 4000000 in
set_option maxRecDepth 100000 in
theorem T_X10_leave (l : Launch) (D : va_G) (cy : Nat → ClassId) (a : Nat → Nat) (u : St) (hI_3_12 : fI u 3 12 = 0) (hR_0 : fR u 0 = a 3) (x1 : Int32)  : Mi l D cy (cW cy a) yX10_leave (.code yX10_leave cX10_leave 2 (some .int)) (rmo 2 42) [.ref (a 0), .int x1] u (fun (r : Int32) (u' : St) => (r = (-1)) ∧ (u' = u)) := by
  refine Mi.of (own := RX10) rfl (by decide) (Nat.le_of_ble_eq_true rfl) ?_
  intro p e s m below meth c A Q ls C hret hO hl
  obtain ⟨hx, hb, hml, hown, ht, hK, hA⟩ := id C
  have hl : lv_has ls 2 [(0, .ref (a 0)), (1, .int x1)] := hl
  refine lv_aload_n hx hb dX10_leave_0 rfl (lv_at hl 0 rfl) ?_
  refine gf_RX10_37 (v := .ref (a 28)) C hO 0 cW_0 rfl dX10_leave_1 ?_
  refine lv_iload_n hx hb dX10_leave_4 rfl (lv_at hl 1 rfl) ?_
  refine cVi (w := cW cy a) (As := [.int x1]) (rest := []) C hO (T_X2_isHeld l D cy a _ (by exact hI_3_12) (by exact hR_0) (x1)) (cwV 1 ht (gV wd_961 wd_930 wd_931 wd_115 wd_932) rfl rfl rfl hd_yX2_isHeld ⟨Nat.le_of_ble_eq_true rfl, Nat.le_of_ble_eq_true rfl⟩) 28 rfl cW_28 rfl rfl hl.1 (Nat.le_of_ble_eq_true rfl) dX10_leave_5 rfl ⟨Nat.zero_le _, Nat.zero_le _⟩ (fun r1 u2 H locs hp3 hO => ?_)
  obtain ⟨hr1, hu2⟩ := hp3
  subst hr1
  rw [hu2] at hO
  refine bt_eq (tgt := 22) (X := 0) hx hb dX10_leave_8 (by decide) rfl (by omega) ?_
  refine lv_iconst (v := (-1)) hx hb dX10_leave_22 (by decide) ?_
  refine hret _ _ _ _ _ _ dX10_leave_23 rfl ?_ hO
  exact ⟨rfl, rfl⟩
theorem dX1_contraries_0 : decode cX1_contraries 0 = .ok (.iconst 0, 1) := by decide +kernel
theorem dX1_contraries_1 : decode cX1_contraries 1 = .ok (.istore_n 1, 1) := by decide +kernel
theorem dX1_contraries_2 : decode cX1_contraries 2 = .ok (.iload_n 1, 1) := by decide +kernel
theorem dX1_contraries_3 : decode cX1_contraries 3 = .ok (.aload_n 0, 1) := by decide +kernel
theorem dX1_contraries_4 : decode cX1_contraries 4 = .ok (.getfield 18, 3) := by decide +kernel
theorem dX1_contraries_7 : decode cX1_contraries 7 = .ok (.getfield 34, 3) := by decide +kernel
theorem dX1_contraries_10 : decode cX1_contraries 10 = .ok (.getfield 44, 3) := by decide +kernel
theorem dX1_contraries_13 : decode cX1_contraries 13 = .ok (.if_icmp .ge 102, 3) := by decide +kernel
theorem dX1_contraries_16 : decode cX1_contraries 16 = .ok (.iload_n 1, 1) := by decide +kernel
theorem dX1_contraries_17 : decode cX1_contraries 17 = .ok (.iconst 1, 1) := by decide +kernel
theorem dX1_contraries_18 : decode cX1_contraries 18 = .ok (.iadd, 1) := by decide +kernel
theorem dX1_contraries_19 : decode cX1_contraries 19 = .ok (.istore_n 2, 1) := by decide +kernel
theorem dX1_contraries_20 : decode cX1_contraries 20 = .ok (.iload_n 2, 1) := by decide +kernel
theorem dX1_contraries_21 : decode cX1_contraries 21 = .ok (.aload_n 0, 1) := by decide +kernel
theorem dX1_contraries_22 : decode cX1_contraries 22 = .ok (.getfield 18, 3) := by decide +kernel
theorem dX1_contraries_25 : decode cX1_contraries 25 = .ok (.getfield 34, 3) := by decide +kernel
theorem dX1_contraries_28 : decode cX1_contraries 28 = .ok (.getfield 44, 3) := by decide +kernel
theorem dX1_contraries_31 : decode cX1_contraries 31 = .ok (.if_icmp .ge 78, 3) := by decide +kernel
theorem dX1_contraries_34 : decode cX1_contraries 34 = .ok (.aload_n 0, 1) := by decide +kernel
theorem dX1_contraries_35 : decode cX1_contraries 35 = .ok (.getfield 18, 3) := by decide +kernel
theorem dX1_contraries_38 : decode cX1_contraries 38 = .ok (.iload_n 1, 1) := by decide +kernel
theorem dX1_contraries_39 : decode cX1_contraries 39 = .ok (.invokevirtual 47, 3) := by decide +kernel
theorem dX1_contraries_42 : decode cX1_contraries 42 = .ok (.ifCond .eq 61, 3) := by decide +kernel
theorem dX1_contraries_45 : decode cX1_contraries 45 = .ok (.aload_n 0, 1) := by decide +kernel
theorem dX1_contraries_46 : decode cX1_contraries 46 = .ok (.getfield 18, 3) := by decide +kernel
theorem dX1_contraries_49 : decode cX1_contraries 49 = .ok (.iload_n 2, 1) := by decide +kernel
theorem dX1_contraries_50 : decode cX1_contraries 50 = .ok (.invokevirtual 47, 3) := by decide +kernel
theorem dX1_contraries_53 : decode cX1_contraries 53 = .ok (.ifCond .eq 50, 3) := by decide +kernel
theorem dX1_contraries_56 : decode cX1_contraries 56 = .ok (.aload_n 0, 1) := by decide +kernel
theorem dX1_contraries_57 : decode cX1_contraries 57 = .ok (.getfield 18, 3) := by decide +kernel
theorem dX1_contraries_60 : decode cX1_contraries 60 = .ok (.getfield 54, 3) := by decide +kernel
theorem dX1_contraries_63 : decode cX1_contraries 63 = .ok (.bipush 11, 2) := by decide +kernel
theorem dX1_contraries_65 : decode cX1_contraries 65 = .ok (.iload_n 1, 1) := by decide +kernel
theorem dX1_contraries_66 : decode cX1_contraries 66 = .ok (.iadd, 1) := by decide +kernel
theorem dX1_contraries_67 : decode cX1_contraries 67 = .ok (.iaload, 1) := by decide +kernel
theorem dX1_contraries_68 : decode cX1_contraries 68 = .ok (.aload_n 0, 1) := by decide +kernel
theorem dX1_contraries_69 : decode cX1_contraries 69 = .ok (.getfield 18, 3) := by decide +kernel
theorem dX1_contraries_72 : decode cX1_contraries 72 = .ok (.getfield 54, 3) := by decide +kernel
theorem dX1_contraries_75 : decode cX1_contraries 75 = .ok (.bipush 11, 2) := by decide +kernel
theorem dX1_contraries_77 : decode cX1_contraries 77 = .ok (.iload_n 2, 1) := by decide +kernel
theorem dX1_contraries_78 : decode cX1_contraries 78 = .ok (.iadd, 1) := by decide +kernel
theorem dX1_contraries_79 : decode cX1_contraries 79 = .ok (.iaload, 1) := by decide +kernel
theorem dX1_contraries_80 : decode cX1_contraries 80 = .ok (.if_icmp .ne 23, 3) := by decide +kernel
theorem dX1_contraries_83 : decode cX1_contraries 83 = .ok (.aload_n 0, 1) := by decide +kernel
theorem dX1_contraries_84 : decode cX1_contraries 84 = .ok (.iload_n 1, 1) := by decide +kernel
theorem dX1_contraries_85 : decode cX1_contraries 85 = .ok (.invokevirtual 66, 3) := by decide +kernel
theorem dX1_contraries_88 : decode cX1_contraries 88 = .ok (.aload_n 0, 1) := by decide +kernel
theorem dX1_contraries_89 : decode cX1_contraries 89 = .ok (.iload_n 2, 1) := by decide +kernel
theorem dX1_contraries_90 : decode cX1_contraries 90 = .ok (.invokevirtual 66, 3) := by decide +kernel
theorem dX1_contraries_93 : decode cX1_contraries 93 = .ok (.if_icmp .eq 10, 3) := by decide +kernel
theorem dX1_contraries_96 : decode cX1_contraries 96 = .ok (.iload_n 1, 1) := by decide +kernel
theorem dX1_contraries_97 : decode cX1_contraries 97 = .ok (.bipush 6, 2) := by decide +kernel
theorem dX1_contraries_99 : decode cX1_contraries 99 = .ok (.imul, 1) := by decide +kernel
theorem dX1_contraries_100 : decode cX1_contraries 100 = .ok (.iload_n 2, 1) := by decide +kernel
theorem dX1_contraries_101 : decode cX1_contraries 101 = .ok (.iadd, 1) := by decide +kernel
theorem dX1_contraries_102 : decode cX1_contraries 102 = .ok (.ireturn, 1) := by decide +kernel
theorem dX1_contraries_103 : decode cX1_contraries 103 = .ok (.iinc 2 1, 3) := by decide +kernel
theorem dX1_contraries_106 : decode cX1_contraries 106 = .ok (.goto (-86), 3) := by decide +kernel
theorem dX1_contraries_109 : decode cX1_contraries 109 = .ok (.iinc 1 1, 3) := by decide +kernel
theorem dX1_contraries_112 : decode cX1_contraries 112 = .ok (.goto (-110), 3) := by decide +kernel
theorem dX1_contraries_115 : decode cX1_contraries 115 = .ok (.iconst (-1), 1) := by decide +kernel
theorem dX1_contraries_116 : decode cX1_contraries 116 = .ok (.ireturn, 1) := by decide +kernel
theorem wd_1090 : (Cond.code ⟨"WebCourt$Counsel", "contraries", "()I"⟩ prog_3_method_5_code (3 : Nat) (Option.some FieldType.int)) ∈ gtb := gtb_c5 21 (by decide +kernel) rfl
theorem wd_426 : (Cond.fieldLink "WebCourt$Counsel" (18 : Nat) "WebCourt$Counsel" "court" "LWebCourt$Court;") ∈ gtb := gtb_c2 77 (by decide +kernel) rfl
theorem wd_429 : (Cond.laysFinal "WebCourt$Counsel" "WebCourt$Counsel" "court" "LWebCourt$Court;") ∈ gtb := gtb_c2 80 (by decide +kernel) rfl
theorem wd_431 : (Cond.laysFinal "WebCourt$Counsel" "WebCourt$Counsel" "alone" "[I") ∈ gtb := gtb_c2 82 (by decide +kernel) rfl
theorem wd_433 : (Cond.laysFinal "WebCourt$Counsel" "WebCourt$Counsel" "otherAlone" "[I") ∈ gtb := gtb_c2 84 (by decide +kernel) rfl
theorem inFX1 : ∀ w ∈ u_ws RX1 TX1 3, w ∈ gtb := by
  show ∀ w ∈ [u_lay RX1 TX1 0, u_lay RX1 TX1 1, u_lay RX1 TX1 2], w ∈ gtb
  exact List.forall_mem_cons.mpr ⟨wd_429, List.forall_mem_cons.mpr ⟨wd_431, List.forall_mem_cons.mpr ⟨wd_433, fun _ h => absurd h List.not_mem_nil⟩⟩⟩
theorem gf_RX1_18 {p : Program} {l : Launch} {e : Env} {R : Room} {s : State} {m : MethodId} {args : Array Value} {below : List Frame} {meth : Method} {c : Code} {H : Heap} {locs : List Loc} {cells slots : Nat} {Q : State → Prop} {cc : ByteArray} {pc nL : Nat} {ls : Array Slot} {rest : List Value} {D : va_G} {cy : Nat → ClassId} {A : Nat → Prop} {ws : va_W} {b : Nat} {fs : List Value} {v : Value} (C : Cx p s m args c cc nL RX1 D cy A) (hO : Wo D A ws s.heap H locs) (q0 : Nat) (he : ws[q0]? = some (b, .inr (1, fs))) (hv : fs[0]? = some v) (hdg : decode cc pc = .ok (.getfield 18, 3)) (kk : W p l e R s m args below meth c H locs cells slots Q (F0 m (pc + 3) ls (v :: rest))) : W p l e R s m args below meth c H locs cells slots Q (F0 m pc ls (.ref b :: rest)) := gF (k := 0) C hO q0 he rfl inFX1 (by decide) wd_426 rfl hv hdg kk
theorem wd_360 : (Cond.fieldLink "WebCourt$Counsel" (34 : Nat) "WebCourt$Court" "web" "LWebCourt$Web;") ∈ gtb := gtb_c2 11 (by decide +kernel) rfl
theorem gf_RX1_34 {p : Program} {l : Launch} {e : Env} {R : Room} {s : State} {m : MethodId} {args : Array Value} {below : List Frame} {meth : Method} {c : Code} {H : Heap} {locs : List Loc} {cells slots : Nat} {Q : State → Prop} {cc : ByteArray} {pc nL : Nat} {ls : Array Slot} {rest : List Value} {D : va_G} {cy : Nat → ClassId} {A : Nat → Prop} {ws : va_W} {b : Nat} {fs : List Value} {v : Value} (C : Cx p s m args c cc nL RX1 D cy A) (hO : Wo D A ws s.heap H locs) (q0 : Nat) (he : ws[q0]? = some (b, .inr (2, fs))) (hv : fs[1]? = some v) (hdg : decode cc pc = .ok (.getfield 34, 3)) (kk : W p l e R s m args below meth c H locs cells slots Q (F0 m (pc + 3) ls (v :: rest))) : W p l e R s m args below meth c H locs cells slots Q (F0 m pc ls (.ref b :: rest)) := gF (k := 1) C hO q0 he rfl inFX2 (by decide) wd_360 rfl hv hdg kk
theorem wd_270 : (Cond.fieldLink "WebCourt$Counsel" (44 : Nat) "WebCourt$Web" "cases" "I") ∈ gtb := gtb_c1 161 (by decide +kernel) rfl
theorem gf_RX1_44 {p : Program} {l : Launch} {e : Env} {R : Room} {s : State} {m : MethodId} {args : Array Value} {below : List Frame} {meth : Method} {c : Code} {H : Heap} {locs : List Loc} {cells slots : Nat} {Q : State → Prop} {cc : ByteArray} {pc nL : Nat} {ls : Array Slot} {rest : List Value} {D : va_G} {cy : Nat → ClassId} {A : Nat → Prop} {ws : va_W} {b : Nat} {fs : List Value} {v : Value} (C : Cx p s m args c cc nL RX1 D cy A) (hO : Wo D A ws s.heap H locs) (q0 : Nat) (he : ws[q0]? = some (b, .inr (9, fs))) (hv : fs[12]? = some v) (hdg : decode cc pc = .ok (.getfield 44, 3)) (kk : W p l e R s m args below meth c H locs cells slots Q (F0 m (pc + 3) ls (v :: rest))) : W p l e R s m args below meth c H locs cells slots Q (F0 m pc ls (.ref b :: rest)) := gF (k := 12) C hO q0 he rfl inFX9 (by decide) wd_270 rfl hv hdg kk
set_option maxHeartbeats 4000000 in
set_option maxRecDepth 100000 in
theorem T_X1_contraries (l : Launch) (D : va_G) (cy : Nat → ClassId) (a : Nat → Nat) (u : St) (hI_3_12 : fI u 3 12 = 0) (hR_0 : fR u 0 = a 3)   : Mi l D cy (cW cy a) yX1_contraries (.code yX1_contraries cX1_contraries 3 (some .int)) (rmo 0 0) [.ref (a 36)] u (fun (r : Int32) (u' : St) => (r = (-1)) ∧ (u' = u)) := by
  refine Mi.of (own := RX1) rfl (by decide) (Nat.le_of_ble_eq_true rfl) ?_
  intro p e s m below meth c A Q ls C hret hO hl
  obtain ⟨hx, hb, hml, hown, ht, hK, hA⟩ := id C
  have hl : lv_has ls 3 [(0, .ref (a 36))] := hl
  refine lv_iconst (v := 0) hx hb dX1_contraries_0 (by decide) ?_
  refine lv_istore_n (lv' := [(1, .int 0), (0, .ref (a 36))]) hx hb dX1_contraries_1 rfl hl (by decide) rfl (fun ls hl => ?_)
  refine lv_iload_n hx hb dX1_contraries_2 rfl (lv_at hl 0 rfl) ?_
  refine lv_aload_n hx hb dX1_contraries_3 rfl (lv_at hl 1 rfl) ?_
  refine gf_RX1_18 (v := .ref (a 28)) C hO 36 cW_36 rfl dX1_contraries_4 ?_
  refine gf_RX1_34 (v := .ref (a 3)) C hO 28 cW_28 (congrArg (fun z : Nat => some (Value.ref z)) hR_0) dX1_contraries_7 ?_
  refine gf_RX1_44 (v := .int 0) C hO 3 cW_3 (congrArg (fun z : Int32 => some (Value.int z)) hI_3_12) dX1_contraries_10 ?_
  refine ct_ge (tgt := 115) (X := 0) (Y := 0) hx hb dX1_contraries_13 (by decide) rfl rfl (by omega) ?_
  refine lv_iconst (v := (-1)) hx hb dX1_contraries_115 (by decide) ?_
  refine hret _ _ _ _ _ _ dX1_contraries_116 rfl ?_ hO
  exact ⟨rfl, rfl⟩
theorem dX10_memberOf_0 : decode cX10_memberOf 0 = .ok (.iload_n 0, 1) := by decide +kernel
theorem dX10_memberOf_1 : decode cX10_memberOf 1 = .ok (.iconst (-1), 1) := by decide +kernel
theorem dX10_memberOf_2 : decode cX10_memberOf 2 = .ok (.if_icmp .eq 12, 3) := by decide +kernel
theorem dX10_memberOf_5 : decode cX10_memberOf 5 = .ok (.iload_n 1, 1) := by decide +kernel
theorem dX10_memberOf_6 : decode cX10_memberOf 6 = .ok (.ifCond .lt 8, 3) := by decide +kernel
theorem dX10_memberOf_9 : decode cX10_memberOf 9 = .ok (.iload_n 1, 1) := by decide +kernel
theorem dX10_memberOf_10 : decode cX10_memberOf 10 = .ok (.iconst 1, 1) := by decide +kernel
theorem dX10_memberOf_11 : decode cX10_memberOf 11 = .ok (.if_icmp .le 5, 3) := by decide +kernel
theorem dX10_memberOf_14 : decode cX10_memberOf 14 = .ok (.iconst (-1), 1) := by decide +kernel
theorem dX10_memberOf_15 : decode cX10_memberOf 15 = .ok (.ireturn, 1) := by decide +kernel
theorem dX10_memberOf_16 : decode cX10_memberOf 16 = .ok (.iload_n 1, 1) := by decide +kernel
theorem dX10_memberOf_17 : decode cX10_memberOf 17 = .ok (.ifCond .ne 10, 3) := by decide +kernel
theorem dX10_memberOf_20 : decode cX10_memberOf 20 = .ok (.iload_n 0, 1) := by decide +kernel
theorem dX10_memberOf_21 : decode cX10_memberOf 21 = .ok (.bipush 6, 2) := by decide +kernel
theorem dX10_memberOf_23 : decode cX10_memberOf 23 = .ok (.idiv, 1) := by decide +kernel
theorem dX10_memberOf_24 : decode cX10_memberOf 24 = .ok (.goto 7, 3) := by decide +kernel
theorem dX10_memberOf_27 : decode cX10_memberOf 27 = .ok (.iload_n 0, 1) := by decide +kernel
theorem dX10_memberOf_28 : decode cX10_memberOf 28 = .ok (.bipush 6, 2) := by decide +kernel
theorem dX10_memberOf_30 : decode cX10_memberOf 30 = .ok (.irem, 1) := by decide +kernel
theorem dX10_memberOf_31 : decode cX10_memberOf 31 = .ok (.ireturn, 1) := by decide +kernel
theorem wd_1102 : (Cond.code ⟨"WebCourt", "memberOf", "(II)I"⟩ prog_1_method_27_code (2 : Nat) (Option.some FieldType.int)) ∈ gtb := gtb_c5 33 (by decide +kernel) rfl
set_option maxHeartbeats 4000000 in
set_option maxRecDepth 100000 in
theorem T_X10_memberOf_m1 (l : Launch) (D : va_G) (cy : Nat → ClassId) (a : Nat → Nat) (u : St)  (x2 : Int32)  : Mi l D cy (cW cy a) yX10_memberOf (.code yX10_memberOf cX10_memberOf 2 (some .int)) (rmo 0 0) [.int (-1), .int x2] u (fun (r : Int32) (u' : St) => (r = (-1)) ∧ (u' = u)) := by
  refine Mi.of (own := RX10) rfl (by decide) (Nat.le_of_ble_eq_true rfl) ?_
  intro p e s m below meth c A Q ls C hret hO hl
  obtain ⟨hx, hb, hml, hown, ht, hK, hA⟩ := id C
  have hl : lv_has ls 2 [(0, .int (-1)), (1, .int x2)] := hl
  refine lv_iload_n hx hb dX10_memberOf_0 rfl (lv_at hl 0 rfl) ?_
  refine lv_iconst (v := (-1)) hx hb dX10_memberOf_1 (by decide) ?_
  refine ct_eq (tgt := 14) (X := (-1)) (Y := (-1)) hx hb dX10_memberOf_2 (by decide) rfl rfl (by omega) ?_
  refine lv_iconst (v := (-1)) hx hb dX10_memberOf_14 (by decide) ?_
  refine hret _ _ _ _ _ _ dX10_memberOf_15 rfl ?_ hO
  exact ⟨rfl, rfl⟩
theorem dX10_contrary_0 : decode cX10_contrary 0 = .ok (.aload_n 0, 1) := by decide +kernel
theorem dX10_contrary_1 : decode cX10_contrary 1 = .ok (.getfield 69, 3) := by decide +kernel
theorem dX10_contrary_4 : decode cX10_contrary 4 = .ok (.invokevirtual 239, 3) := by decide +kernel
theorem dX10_contrary_7 : decode cX10_contrary 7 = .ok (.iload_n 1, 1) := by decide +kernel
theorem dX10_contrary_8 : decode cX10_contrary 8 = .ok (.invokestatic 242, 3) := by decide +kernel
theorem dX10_contrary_11 : decode cX10_contrary 11 = .ok (.ireturn, 1) := by decide +kernel
theorem wd_1086 : (Cond.code ⟨"WebCourt", "contrary", "(I)I"⟩ prog_1_method_26_code (2 : Nat) (Option.some FieldType.int)) ∈ gtb := gtb_c5 17 (by decide +kernel) rfl
theorem wd_474 : (Cond.fieldLink "WebCourt" (69 : Nat) "WebCourt" "counsel" "LWebCourt$Counsel;") ∈ gtb := gtb_c2 125 (by decide +kernel) rfl
theorem gf_RX10_69 {p : Program} {l : Launch} {e : Env} {R : Room} {s : State} {m : MethodId} {args : Array Value} {below : List Frame} {meth : Method} {c : Code} {H : Heap} {locs : List Loc} {cells slots : Nat} {Q : State → Prop} {cc : ByteArray} {pc nL : Nat} {ls : Array Slot} {rest : List Value} {D : va_G} {cy : Nat → ClassId} {A : Nat → Prop} {ws : va_W} {b : Nat} {fs : List Value} {v : Value} (C : Cx p s m args c cc nL RX10 D cy A) (hO : Wo D A ws s.heap H locs) (q0 : Nat) (he : ws[q0]? = some (b, .inr (10, fs))) (hv : fs[6]? = some v) (hdg : decode cc pc = .ok (.getfield 69, 3)) (kk : W p l e R s m args below meth c H locs cells slots Q (F0 m (pc + 3) ls (v :: rest))) : W p l e R s m args below meth c H locs cells slots Q (F0 m pc ls (.ref b :: rest)) := gF (k := 6) C hO q0 he rfl inFX10 (by decide) wd_474 rfl hv hdg kk
theorem wd_1087 : (Cond.methodLink "WebCourt" (239 : Nat) ⟨"WebCourt$Counsel", "contraries", "()I"⟩) ∈ gtb := gtb_c5 18 (by decide +kernel) rfl
theorem wd_1088 : (Cond.instanceMethod ⟨"WebCourt$Counsel", "contraries", "()I"⟩) ∈ gtb := gtb_c5 19 (by decide +kernel) rfl
theorem wd_1089 : (Cond.selects "WebCourt$Counsel" ⟨"WebCourt$Counsel", "contraries", "()I"⟩ ⟨"WebCourt$Counsel", "contraries", "()I"⟩) ∈ gtb := gtb_c5 20 (by decide +kernel) rfl
theorem wd_119 : (Cond.initialized "WebCourt$Counsel") ∈ gtb := gtb_c1 10 (by decide +kernel) rfl
theorem hd_yX1_contraries : yX1_contraries.cls = RX1 ∧ yX1_contraries.cls ≠ "java/lang/invoke/MethodHandle" ∧ yX1_contraries.cls ≠ "java/lang/invoke/VarHandle" ∧ (parseMethodDescriptor yX1_contraries.desc).map (fun d => d.parameters.length) = some 0 := by decide +kernel
theorem wd_1100 : (Cond.methodLink "WebCourt" (242 : Nat) ⟨"WebCourt", "memberOf", "(II)I"⟩) ∈ gtb := gtb_c5 31 (by decide +kernel) rfl
theorem wd_1101 : (Cond.static ⟨"WebCourt", "memberOf", "(II)I"⟩) ∈ gtb := gtb_c5 32 (by decide +kernel) rfl
theorem gSS {own : String} {idx : Nat} {y : MethodName} {cw : Cond} (h1 : Cond.methodLink own idx y ∈ gtb) (h2 : Cond.static y ∈ gtb) (h3 : Cond.initialized y.cls ∈ gtb) (h5 : cw ∈ gtb) : GoodIn gtb (va_wsS own idx y (cw :: gtb)) := by
  intro w hw
  rcases List.mem_append.mp hw with hw | hw
  · rcases List.mem_cons.mp hw with e | hw
    · subst e; exact ⟨h1, gtb_good h1⟩
    · rcases List.mem_cons.mp hw with e | hw
      · subst e; exact ⟨h2, gtb_good h2⟩
      · rcases List.mem_cons.mp hw with e | hw
        · subst e; exact ⟨h3, gtb_good h3⟩
        · cases hw
  · exact gGood h5 w hw
theorem hd_yX10_memberOf : yX10_memberOf.cls ≠ "java/lang/invoke/MethodHandle" ∧ yX10_memberOf.cls ≠ "java/lang/invoke/VarHandle" ∧ (parseMethodDescriptor yX10_memberOf.desc).map (fun d => d.parameters.length) = some 2 := by decide +kernel
set_option maxHeartbeats 4000000 in
set_option maxRecDepth 100000 in
theorem T_X10_contrary (l : Launch) (D : va_G) (cy : Nat → ClassId) (a : Nat → Nat) (u : St) (hI_3_12 : fI u 3 12 = 0) (hR_0 : fR u 0 = a 3) (x1 : Int32)  : Mi l D cy (cW cy a) yX10_contrary (.code yX10_contrary cX10_contrary 2 (some .int)) (rmo 1 22) [.ref (a 0), .int x1] u (fun (r : Int32) (u' : St) => (r = (-1)) ∧ (u' = u)) := by
  refine Mi.of (own := RX10) rfl (by decide) (Nat.le_of_ble_eq_true rfl) ?_
  intro p e s m below meth c A Q ls C hret hO hl
  obtain ⟨hx, hb, hml, hown, ht, hK, hA⟩ := id C
  have hl : lv_has ls 2 [(0, .ref (a 0)), (1, .int x1)] := hl
  refine lv_aload_n hx hb dX10_contrary_0 rfl (lv_at hl 0 rfl) ?_
  refine gf_RX10_69 (v := .ref (a 36)) C hO 0 cW_0 rfl dX10_contrary_1 ?_
  refine cVi (w := cW cy a) (As := []) (rest := []) C hO (T_X1_contraries l D cy a _ (by exact hI_3_12) (by exact hR_0)) (cwV 0 ht (gV wd_1087 wd_1088 wd_1089 wd_119 wd_1090) rfl rfl rfl hd_yX1_contraries ⟨Nat.le_of_ble_eq_true rfl, Nat.le_of_ble_eq_true rfl⟩) 36 rfl cW_36 rfl rfl hl.1 (Nat.le_of_ble_eq_true rfl) dX10_contrary_4 rfl ⟨Nat.zero_le _, Nat.zero_le _⟩ (fun r1 u2 H locs hp3 hO => ?_)
  obtain ⟨hr1, hu2⟩ := hp3
  subst hr1
  rw [hu2] at hO
  refine lv_iload_n hx hb dX10_contrary_7 rfl (lv_at hl 1 rfl) ?_
  refine cSi (w := cW cy a) (As := [.int (-1), .int x1]) (rest := []) C hO (T_X10_memberOf_m1 l D cy a _ (x1)) (va_cwS 2 ht (gSS wd_1100 wd_1101 wd_110 wd_1102) rfl rfl rfl hd_yX10_memberOf ⟨Nat.le_of_ble_eq_true rfl, Nat.le_of_ble_eq_true rfl⟩)  rfl hl.1 (Nat.le_of_ble_eq_true rfl) dX10_contrary_8 rfl ⟨Nat.zero_le _, Nat.zero_le _⟩ (fun r4 u5 H locs hp6 hO => ?_)
  obtain ⟨hr4, hu5⟩ := hp6
  subst hr4
  rw [hu5] at hO
  refine hret _ _ _ _ _ _ dX10_contrary_11 rfl ?_ hO
  exact ⟨rfl, rfl⟩
theorem dX1_withoutHope_0 : decode cX1_withoutHope 0 = .ok (.iconst 1, 1) := by decide +kernel
theorem dX1_withoutHope_1 : decode cX1_withoutHope 1 = .ok (.aload_n 0, 1) := by decide +kernel
theorem dX1_withoutHope_2 : decode cX1_withoutHope 2 = .ok (.getfield 18, 3) := by decide +kernel
theorem dX1_withoutHope_5 : decode cX1_withoutHope 5 = .ok (.getfield 34, 3) := by decide +kernel
theorem dX1_withoutHope_8 : decode cX1_withoutHope 8 = .ok (.getfield 38, 3) := by decide +kernel
theorem dX1_withoutHope_11 : decode cX1_withoutHope 11 = .ok (.ishl, 1) := by decide +kernel
theorem dX1_withoutHope_12 : decode cX1_withoutHope 12 = .ok (.iconst 1, 1) := by decide +kernel
theorem dX1_withoutHope_13 : decode cX1_withoutHope 13 = .ok (.isub, 1) := by decide +kernel
theorem dX1_withoutHope_14 : decode cX1_withoutHope 14 = .ok (.istore_n 1, 1) := by decide +kernel
theorem dX1_withoutHope_15 : decode cX1_withoutHope 15 = .ok (.iconst 0, 1) := by decide +kernel
theorem dX1_withoutHope_16 : decode cX1_withoutHope 16 = .ok (.istore_n 2, 1) := by decide +kernel
theorem dX1_withoutHope_17 : decode cX1_withoutHope 17 = .ok (.iconst 0, 1) := by decide +kernel
theorem dX1_withoutHope_18 : decode cX1_withoutHope 18 = .ok (.istore_n 3, 1) := by decide +kernel
theorem dX1_withoutHope_19 : decode cX1_withoutHope 19 = .ok (.iload_n 3, 1) := by decide +kernel
theorem dX1_withoutHope_20 : decode cX1_withoutHope 20 = .ok (.aload_n 0, 1) := by decide +kernel
theorem dX1_withoutHope_21 : decode cX1_withoutHope 21 = .ok (.getfield 18, 3) := by decide +kernel
theorem dX1_withoutHope_24 : decode cX1_withoutHope 24 = .ok (.getfield 34, 3) := by decide +kernel
theorem dX1_withoutHope_27 : decode cX1_withoutHope 27 = .ok (.getfield 44, 3) := by decide +kernel
theorem dX1_withoutHope_30 : decode cX1_withoutHope 30 = .ok (.if_icmp .ge 35, 3) := by decide +kernel
theorem dX1_withoutHope_33 : decode cX1_withoutHope 33 = .ok (.aload_n 0, 1) := by decide +kernel
theorem dX1_withoutHope_34 : decode cX1_withoutHope 34 = .ok (.getfield 18, 3) := by decide +kernel
theorem dX1_withoutHope_37 : decode cX1_withoutHope 37 = .ok (.iload_n 3, 1) := by decide +kernel
theorem dX1_withoutHope_38 : decode cX1_withoutHope 38 = .ok (.invokevirtual 47, 3) := by decide +kernel
theorem dX1_withoutHope_41 : decode cX1_withoutHope 41 = .ok (.ifCond .eq 18, 3) := by decide +kernel
theorem dX1_withoutHope_44 : decode cX1_withoutHope 44 = .ok (.aload_n 0, 1) := by decide +kernel
theorem dX1_withoutHope_45 : decode cX1_withoutHope 45 = .ok (.iload_n 3, 1) := by decide +kernel
theorem dX1_withoutHope_46 : decode cX1_withoutHope 46 = .ok (.iload_n 1, 1) := by decide +kernel
theorem dX1_withoutHope_47 : decode cX1_withoutHope 47 = .ok (.invokevirtual 51, 3) := by decide +kernel
theorem dX1_withoutHope_50 : decode cX1_withoutHope 50 = .ok (.ifCond .ne 9, 3) := by decide +kernel
theorem dX1_withoutHope_53 : decode cX1_withoutHope 53 = .ok (.iload_n 2, 1) := by decide +kernel
theorem dX1_withoutHope_54 : decode cX1_withoutHope 54 = .ok (.iconst 1, 1) := by decide +kernel
theorem dX1_withoutHope_55 : decode cX1_withoutHope 55 = .ok (.iload_n 3, 1) := by decide +kernel
theorem dX1_withoutHope_56 : decode cX1_withoutHope 56 = .ok (.ishl, 1) := by decide +kernel
theorem dX1_withoutHope_57 : decode cX1_withoutHope 57 = .ok (.ior, 1) := by decide +kernel
theorem dX1_withoutHope_58 : decode cX1_withoutHope 58 = .ok (.istore_n 2, 1) := by decide +kernel
theorem dX1_withoutHope_59 : decode cX1_withoutHope 59 = .ok (.iinc 3 1, 3) := by decide +kernel
theorem dX1_withoutHope_62 : decode cX1_withoutHope 62 = .ok (.goto (-43), 3) := by decide +kernel
theorem dX1_withoutHope_65 : decode cX1_withoutHope 65 = .ok (.iload_n 2, 1) := by decide +kernel
theorem dX1_withoutHope_66 : decode cX1_withoutHope 66 = .ok (.ireturn, 1) := by decide +kernel
theorem wd_1110 : (Cond.code ⟨"WebCourt$Counsel", "withoutHope", "()I"⟩ prog_3_method_3_code (4 : Nat) (Option.some FieldType.int)) ∈ gtb := gtb_c5 41 (by decide +kernel) rfl
theorem wd_262 : (Cond.fieldLink "WebCourt$Counsel" (38 : Nat) "WebCourt$Web" "pleas" "I") ∈ gtb := gtb_c1 153 (by decide +kernel) rfl
theorem gf_RX1_38 {p : Program} {l : Launch} {e : Env} {R : Room} {s : State} {m : MethodId} {args : Array Value} {below : List Frame} {meth : Method} {c : Code} {H : Heap} {locs : List Loc} {cells slots : Nat} {Q : State → Prop} {cc : ByteArray} {pc nL : Nat} {ls : Array Slot} {rest : List Value} {D : va_G} {cy : Nat → ClassId} {A : Nat → Prop} {ws : va_W} {b : Nat} {fs : List Value} {v : Value} (C : Cx p s m args c cc nL RX1 D cy A) (hO : Wo D A ws s.heap H locs) (q0 : Nat) (he : ws[q0]? = some (b, .inr (9, fs))) (hv : fs[11]? = some v) (hdg : decode cc pc = .ok (.getfield 38, 3)) (kk : W p l e R s m args below meth c H locs cells slots Q (F0 m (pc + 3) ls (v :: rest))) : W p l e R s m args below meth c H locs cells slots Q (F0 m pc ls (.ref b :: rest)) := gF (k := 11) C hO q0 he rfl inFX9 (by decide) wd_262 rfl hv hdg kk
set_option maxHeartbeats 4000000 in
set_option maxRecDepth 100000 in
theorem T_X1_withoutHope (l : Launch) (D : va_G) (cy : Nat → ClassId) (a : Nat → Nat) (u : St) (hI_3_11 : fI u 3 11 = 0) (hI_3_12 : fI u 3 12 = 0) (hR_0 : fR u 0 = a 3)   : Mi l D cy (cW cy a) yX1_withoutHope (.code yX1_withoutHope cX1_withoutHope 4 (some .int)) (rmo 0 0) [.ref (a 36)] u (fun (r : Int32) (u' : St) => (r = 0) ∧ (u' = u)) := by
  refine Mi.of (own := RX1) rfl (by decide) (Nat.le_of_ble_eq_true rfl) ?_
  intro p e s m below meth c A Q ls C hret hO hl
  obtain ⟨hx, hb, hml, hown, ht, hK, hA⟩ := id C
  have hl : lv_has ls 4 [(0, .ref (a 36))] := hl
  refine lv_iconst (v := 1) hx hb dX1_withoutHope_0 (by decide) ?_
  refine lv_aload_n hx hb dX1_withoutHope_1 rfl (lv_at hl 0 rfl) ?_
  refine gf_RX1_18 (v := .ref (a 28)) C hO 36 cW_36 rfl dX1_withoutHope_2 ?_
  refine gf_RX1_34 (v := .ref (a 3)) C hO 28 cW_28 (congrArg (fun z : Nat => some (Value.ref z)) hR_0) dX1_withoutHope_5 ?_
  refine gf_RX1_38 (v := .int 0) C hO 3 cW_3 (congrArg (fun z : Int32 => some (Value.int z)) hI_3_11) dX1_withoutHope_8 ?_
  refine lv_ishl hx hb dX1_withoutHope_11 ?_
  refine tE (y := 1) (by decide) ?_
  refine lv_iconst (v := 1) hx hb dX1_withoutHope_12 (by decide) ?_
  refine lv_isub hx hb dX1_withoutHope_13 ?_
  refine tE (y := 0) rfl ?_
  refine lv_istore_n (lv' := [(1, .int 0), (0, .ref (a 36))]) hx hb dX1_withoutHope_14 rfl hl (by decide) rfl (fun ls hl => ?_)
  refine lv_iconst (v := 0) hx hb dX1_withoutHope_15 (by decide) ?_
  refine lv_istore_n (lv' := [(2, .int 0), (1, .int 0), (0, .ref (a 36))]) hx hb dX1_withoutHope_16 rfl hl (by decide) rfl (fun ls hl => ?_)
  refine lv_iconst (v := 0) hx hb dX1_withoutHope_17 (by decide) ?_
  refine lv_istore_n (lv' := [(3, .int 0), (2, .int 0), (1, .int 0), (0, .ref (a 36))]) hx hb dX1_withoutHope_18 rfl hl (by decide) rfl (fun ls hl => ?_)
  refine lv_iload_n hx hb dX1_withoutHope_19 rfl (lv_at hl 0 rfl) ?_
  refine lv_aload_n hx hb dX1_withoutHope_20 rfl (lv_at hl 3 rfl) ?_
  refine gf_RX1_18 (v := .ref (a 28)) C hO 36 cW_36 rfl dX1_withoutHope_21 ?_
  refine gf_RX1_34 (v := .ref (a 3)) C hO 28 cW_28 (congrArg (fun z : Nat => some (Value.ref z)) hR_0) dX1_withoutHope_24 ?_
  refine gf_RX1_44 (v := .int 0) C hO 3 cW_3 (congrArg (fun z : Int32 => some (Value.int z)) hI_3_12) dX1_withoutHope_27 ?_
  refine ct_ge (tgt := 65) (X := 0) (Y := 0) hx hb dX1_withoutHope_30 (by decide) rfl rfl (by omega) ?_
  refine lv_iload_n hx hb dX1_withoutHope_65 rfl (lv_at hl 1 rfl) ?_
  refine hret _ _ _ _ _ _ dX1_withoutHope_66 rfl ?_ hO
  exact ⟨rfl, rfl⟩
theorem dX10_hopeless_0 : decode cX10_hopeless 0 = .ok (.aload_n 0, 1) := by decide +kernel
theorem dX10_hopeless_1 : decode cX10_hopeless 1 = .ok (.getfield 69, 3) := by decide +kernel
theorem dX10_hopeless_4 : decode cX10_hopeless 4 = .ok (.invokevirtual 245, 3) := by decide +kernel
theorem dX10_hopeless_7 : decode cX10_hopeless 7 = .ok (.ireturn, 1) := by decide +kernel
theorem wd_1106 : (Cond.code ⟨"WebCourt", "hopeless", "()I"⟩ prog_1_method_28_code (1 : Nat) (Option.some FieldType.int)) ∈ gtb := gtb_c5 37 (by decide +kernel) rfl
theorem wd_1107 : (Cond.methodLink "WebCourt" (245 : Nat) ⟨"WebCourt$Counsel", "withoutHope", "()I"⟩) ∈ gtb := gtb_c5 38 (by decide +kernel) rfl
theorem wd_1108 : (Cond.instanceMethod ⟨"WebCourt$Counsel", "withoutHope", "()I"⟩) ∈ gtb := gtb_c5 39 (by decide +kernel) rfl
theorem wd_1109 : (Cond.selects "WebCourt$Counsel" ⟨"WebCourt$Counsel", "withoutHope", "()I"⟩ ⟨"WebCourt$Counsel", "withoutHope", "()I"⟩) ∈ gtb := gtb_c5 40 (by decide +kernel) rfl
theorem hd_yX1_withoutHope : yX1_withoutHope.cls = RX1 ∧ yX1_withoutHope.cls ≠ "java/lang/invoke/MethodHandle" ∧ yX1_withoutHope.cls ≠ "java/lang/invoke/VarHandle" ∧ (parseMethodDescriptor yX1_withoutHope.desc).map (fun d => d.parameters.length) = some 0 := by decide +kernel
set_option maxHeartbeats 4000000 in
set_option maxRecDepth 100000 in
theorem T_X10_hopeless (l : Launch) (D : va_G) (cy : Nat → ClassId) (a : Nat → Nat) (u : St) (hI_3_11 : fI u 3 11 = 0) (hI_3_12 : fI u 3 12 = 0) (hR_0 : fR u 0 = a 3)   : Mi l D cy (cW cy a) yX10_hopeless (.code yX10_hopeless cX10_hopeless 1 (some .int)) (rmo 1 23) [.ref (a 0)] u (fun (r : Int32) (u' : St) => (r = 0) ∧ (u' = u)) := by
  refine Mi.of (own := RX10) rfl (by decide) (Nat.le_of_ble_eq_true rfl) ?_
  intro p e s m below meth c A Q ls C hret hO hl
  obtain ⟨hx, hb, hml, hown, ht, hK, hA⟩ := id C
  have hl : lv_has ls 1 [(0, .ref (a 0))] := hl
  refine lv_aload_n hx hb dX10_hopeless_0 rfl (lv_at hl 0 rfl) ?_
  refine gf_RX10_69 (v := .ref (a 36)) C hO 0 cW_0 rfl dX10_hopeless_1 ?_
  refine cVi (w := cW cy a) (As := []) (rest := []) C hO (T_X1_withoutHope l D cy a _ (by exact hI_3_11) (by exact hI_3_12) (by exact hR_0)) (cwV 0 ht (gV wd_1107 wd_1108 wd_1109 wd_119 wd_1110) rfl rfl rfl hd_yX1_withoutHope ⟨Nat.le_of_ble_eq_true rfl, Nat.le_of_ble_eq_true rfl⟩) 36 rfl cW_36 rfl rfl hl.1 (Nat.le_of_ble_eq_true rfl) dX10_hopeless_4 rfl ⟨Nat.zero_le _, Nat.zero_le _⟩ (fun r1 u2 H locs hp3 hO => ?_)
  obtain ⟨hr1, hu2⟩ := hp3
  subst hr1
  rw [hu2] at hO
  refine hret _ _ _ _ _ _ dX10_hopeless_7 rfl ?_ hO
  exact ⟨rfl, rfl⟩
theorem dX10_rivals_0 : decode cX10_rivals 0 = .ok (.aload_n 0, 1) := by decide +kernel
theorem dX10_rivals_1 : decode cX10_rivals 1 = .ok (.iconst 0, 1) := by decide +kernel
theorem dX10_rivals_2 : decode cX10_rivals 2 = .ok (.putfield 111, 3) := by decide +kernel
theorem dX10_rivals_5 : decode cX10_rivals 5 = .ok (.iload_n 1, 1) := by decide +kernel
theorem dX10_rivals_6 : decode cX10_rivals 6 = .ok (.iload_n 2, 1) := by decide +kernel
theorem dX10_rivals_7 : decode cX10_rivals 7 = .ok (.if_icmp .eq 38, 3) := by decide +kernel
theorem dX10_rivals_10 : decode cX10_rivals 10 = .ok (.aload_n 0, 1) := by decide +kernel
theorem dX10_rivals_11 : decode cX10_rivals 11 = .ok (.getfield 37, 3) := by decide +kernel
theorem dX10_rivals_14 : decode cX10_rivals 14 = .ok (.iload_n 1, 1) := by decide +kernel
theorem dX10_rivals_15 : decode cX10_rivals 15 = .ok (.invokevirtual 189, 3) := by decide +kernel
theorem dX10_rivals_18 : decode cX10_rivals 18 = .ok (.ifCond .eq 27, 3) := by decide +kernel
theorem dX10_rivals_21 : decode cX10_rivals 21 = .ok (.aload_n 0, 1) := by decide +kernel
theorem dX10_rivals_22 : decode cX10_rivals 22 = .ok (.getfield 37, 3) := by decide +kernel
theorem dX10_rivals_25 : decode cX10_rivals 25 = .ok (.iload_n 2, 1) := by decide +kernel
theorem dX10_rivals_26 : decode cX10_rivals 26 = .ok (.invokevirtual 189, 3) := by decide +kernel
theorem dX10_rivals_29 : decode cX10_rivals 29 = .ok (.ifCond .eq 16, 3) := by decide +kernel
theorem dX10_rivals_32 : decode cX10_rivals 32 = .ok (.aload_n 0, 1) := by decide +kernel
theorem dX10_rivals_33 : decode cX10_rivals 33 = .ok (.getfield 37, 3) := by decide +kernel
theorem dX10_rivals_36 : decode cX10_rivals 36 = .ok (.getfield 101, 3) := by decide +kernel
theorem dX10_rivals_39 : decode cX10_rivals 39 = .ok (.getfield 206, 3) := by decide +kernel
theorem dX10_rivals_42 : decode cX10_rivals 42 = .ok (.ifCond .ne 5, 3) := by decide +kernel
theorem dX10_rivals_45 : decode cX10_rivals 45 = .ok (.iconst (-1), 1) := by decide +kernel
theorem dX10_rivals_46 : decode cX10_rivals 46 = .ok (.ireturn, 1) := by decide +kernel
theorem dX10_rivals_47 : decode cX10_rivals 47 = .ok (.aload_n 0, 1) := by decide +kernel
theorem dX10_rivals_48 : decode cX10_rivals 48 = .ok (.getfield 69, 3) := by decide +kernel
theorem dX10_rivals_51 : decode cX10_rivals 51 = .ok (.iload_n 1, 1) := by decide +kernel
theorem dX10_rivals_52 : decode cX10_rivals 52 = .ok (.iload_n 2, 1) := by decide +kernel
theorem dX10_rivals_53 : decode cX10_rivals 53 = .ok (.aload_n 0, 1) := by decide +kernel
theorem dX10_rivals_54 : decode cX10_rivals 54 = .ok (.getfield 85, 3) := by decide +kernel
theorem dX10_rivals_57 : decode cX10_rivals 57 = .ok (.invokevirtual 248, 3) := by decide +kernel
theorem dX10_rivals_60 : decode cX10_rivals 60 = .ok (.istore_n 3, 1) := by decide +kernel
theorem dX10_rivals_61 : decode cX10_rivals 61 = .ok (.aload_n 0, 1) := by decide +kernel
theorem dX10_rivals_62 : decode cX10_rivals 62 = .ok (.iload_n 3, 1) := by decide +kernel
theorem dX10_rivals_63 : decode cX10_rivals 63 = .ok (.ifCond .le 7, 3) := by decide +kernel
theorem dX10_rivals_66 : decode cX10_rivals 66 = .ok (.iconst 2, 1) := by decide +kernel
theorem dX10_rivals_67 : decode cX10_rivals 67 = .ok (.goto 4, 3) := by decide +kernel
theorem dX10_rivals_70 : decode cX10_rivals 70 = .ok (.iconst 0, 1) := by decide +kernel
theorem dX10_rivals_71 : decode cX10_rivals 71 = .ok (.putfield 111, 3) := by decide +kernel
theorem dX10_rivals_74 : decode cX10_rivals 74 = .ok (.iload_n 3, 1) := by decide +kernel
theorem dX10_rivals_75 : decode cX10_rivals 75 = .ok (.ireturn, 1) := by decide +kernel
theorem wd_1115 : (Cond.code ⟨"WebCourt", "rivals", "(II)I"⟩ prog_1_method_29_code (4 : Nat) (Option.some FieldType.int)) ∈ gtb := gtb_c5 46 (by decide +kernel) rfl
set_option maxHeartbeats 4000000 in
set_option maxRecDepth 100000 in
theorem T_X10_rivals (l : Launch) (D : va_G) (cy : Nat → ClassId) (a : Nat → Nat) (u : St) (hI_3_12 : fI u 3 12 = 0) (hR_0 : fR u 0 = a 3) (x1 : Int32) (x2 : Int32)  : Mi l D cy (cW cy a) yX10_rivals (.code yX10_rivals cX10_rivals 4 (some .int)) (rmo 2 42) [.ref (a 0), .int x1, .int x2] u (fun (r : Int32) (u' : St) => (r = (-1)) ∧ (u' = (sI u 0 10 0))) := by
  refine Mi.of (own := RX10) rfl (by decide) (Nat.le_of_ble_eq_true rfl) ?_
  intro p e s m below meth c A Q ls C hret hO hl
  obtain ⟨hx, hb, hml, hown, ht, hK, hA⟩ := id C
  have hl : lv_has ls 4 [(0, .ref (a 0)), (1, .int x1), (2, .int x2)] := hl
  refine lv_aload_n hx hb dX10_rivals_0 rfl (lv_at hl 0 rfl) ?_
  refine lv_iconst (v := 0) hx hb dX10_rivals_1 (by decide) ?_
  refine pf_RX10_111 C hO 0 cW_0 (Nat.le_of_ble_eq_true rfl) cW_s0_10 dX10_rivals_2 (fun H locs hO => ?_)
  refine lv_iload_n hx hb dX10_rivals_5 rfl (lv_at hl 1 rfl) ?_
  refine lv_iload_n hx hb dX10_rivals_6 rfl (lv_at hl 2 rfl) ?_
  refine cs_eq (tgt := 45) (X := (x1).toInt) (Y := (x2).toInt) hx hb dX10_rivals_7 (by decide) rfl rfl (fun c1 => ?_) (fun c1 => ?_)
  · refine lv_iconst (v := (-1)) hx hb dX10_rivals_45 (by decide) ?_
    refine hret _ _ _ _ _ _ dX10_rivals_46 rfl ?_ hO
    exact ⟨rfl, rfl⟩
  · refine lv_aload_n hx hb dX10_rivals_10 rfl (lv_at hl 0 rfl) ?_
    refine gf_RX10_37 (v := .ref (a 28)) C hO 0 cW_0 rfl dX10_rivals_11 ?_
    refine lv_iload_n hx hb dX10_rivals_14 rfl (lv_at hl 1 rfl) ?_
    refine cVi (w := cW cy a) (As := [.int x1]) (rest := []) C hO (T_X2_isHeld l D cy a _ (by exact hI_3_12) (by exact hR_0) (x1)) (cwV 1 ht (gV wd_961 wd_930 wd_931 wd_115 wd_932) rfl rfl rfl hd_yX2_isHeld ⟨Nat.le_of_ble_eq_true rfl, Nat.le_of_ble_eq_true rfl⟩) 28 rfl cW_28 rfl rfl hl.1 (Nat.le_of_ble_eq_true rfl) dX10_rivals_15 rfl ⟨Nat.zero_le _, Nat.zero_le _⟩ (fun r2 u3 H locs hp4 hO => ?_)
    obtain ⟨hr2, hu3⟩ := hp4
    subst hr2
    rw [hu3] at hO
    refine bt_eq (tgt := 45) (X := 0) hx hb dX10_rivals_18 (by decide) rfl (by omega) ?_
    refine lv_iconst (v := (-1)) hx hb dX10_rivals_45 (by decide) ?_
    refine hret _ _ _ _ _ _ dX10_rivals_46 rfl ?_ hO
    exact ⟨rfl, rfl⟩
theorem dX8_bridgeLine_0 : decode cX8_bridgeLine 0 = .ok (.iconst (-1), 1) := by decide +kernel
theorem dX8_bridgeLine_1 : decode cX8_bridgeLine 1 = .ok (.istore_n 1, 1) := by decide +kernel
theorem dX8_bridgeLine_2 : decode cX8_bridgeLine 2 = .ok (.bipush 9, 2) := by decide +kernel
theorem dX8_bridgeLine_4 : decode cX8_bridgeLine 4 = .ok (.istore_n 2, 1) := by decide +kernel
theorem dX8_bridgeLine_5 : decode cX8_bridgeLine 5 = .ok (.iconst 0, 1) := by decide +kernel
theorem dX8_bridgeLine_6 : decode cX8_bridgeLine 6 = .ok (.istore_n 3, 1) := by decide +kernel
theorem dX8_bridgeLine_7 : decode cX8_bridgeLine 7 = .ok (.iload_n 3, 1) := by decide +kernel
theorem dX8_bridgeLine_8 : decode cX8_bridgeLine 8 = .ok (.aload_n 0, 1) := by decide +kernel
theorem dX8_bridgeLine_9 : decode cX8_bridgeLine 9 = .ok (.getfield 15, 3) := by decide +kernel
theorem dX8_bridgeLine_12 : decode cX8_bridgeLine 12 = .ok (.getfield 44, 3) := by decide +kernel
theorem dX8_bridgeLine_15 : decode cX8_bridgeLine 15 = .ok (.getfield 54, 3) := by decide +kernel
theorem dX8_bridgeLine_18 : decode cX8_bridgeLine 18 = .ok (.if_icmp .ge 46, 3) := by decide +kernel
theorem dX8_bridgeLine_21 : decode cX8_bridgeLine 21 = .ok (.aload_n 0, 1) := by decide +kernel
theorem dX8_bridgeLine_22 : decode cX8_bridgeLine 22 = .ok (.getfield 15, 3) := by decide +kernel
theorem dX8_bridgeLine_25 : decode cX8_bridgeLine 25 = .ok (.getfield 33, 3) := by decide +kernel
theorem dX8_bridgeLine_28 : decode cX8_bridgeLine 28 = .ok (.iconst 4, 1) := by decide +kernel
theorem dX8_bridgeLine_29 : decode cX8_bridgeLine 29 = .ok (.iaload, 1) := by decide +kernel
theorem dX8_bridgeLine_30 : decode cX8_bridgeLine 30 = .ok (.iload_n 3, 1) := by decide +kernel
theorem dX8_bridgeLine_31 : decode cX8_bridgeLine 31 = .ok (.ishr, 1) := by decide +kernel
theorem dX8_bridgeLine_32 : decode cX8_bridgeLine 32 = .ok (.iconst 1, 1) := by decide +kernel
theorem dX8_bridgeLine_33 : decode cX8_bridgeLine 33 = .ok (.iand, 1) := by decide +kernel
theorem dX8_bridgeLine_34 : decode cX8_bridgeLine 34 = .ok (.ifCond .eq 6, 3) := by decide +kernel
theorem dX8_bridgeLine_37 : decode cX8_bridgeLine 37 = .ok (.goto 21, 3) := by decide +kernel
theorem dX8_bridgeLine_40 : decode cX8_bridgeLine 40 = .ok (.aload_n 0, 1) := by decide +kernel
theorem dX8_bridgeLine_41 : decode cX8_bridgeLine 41 = .ok (.iload_n 3, 1) := by decide +kernel
theorem dX8_bridgeLine_42 : decode cX8_bridgeLine 42 = .ok (.invokevirtual 72, 3) := by decide +kernel
theorem dX8_bridgeLine_45 : decode cX8_bridgeLine 45 = .ok (.istore 4, 2) := by decide +kernel
theorem dX8_bridgeLine_47 : decode cX8_bridgeLine 47 = .ok (.iload 4, 2) := by decide +kernel
theorem dX8_bridgeLine_49 : decode cX8_bridgeLine 49 = .ok (.iload_n 2, 1) := by decide +kernel
theorem dX8_bridgeLine_50 : decode cX8_bridgeLine 50 = .ok (.if_icmp .ge 8, 3) := by decide +kernel
theorem dX8_bridgeLine_53 : decode cX8_bridgeLine 53 = .ok (.iload 4, 2) := by decide +kernel
theorem dX8_bridgeLine_55 : decode cX8_bridgeLine 55 = .ok (.istore_n 2, 1) := by decide +kernel
theorem dX8_bridgeLine_56 : decode cX8_bridgeLine 56 = .ok (.iload_n 3, 1) := by decide +kernel
theorem dX8_bridgeLine_57 : decode cX8_bridgeLine 57 = .ok (.istore_n 1, 1) := by decide +kernel
theorem dX8_bridgeLine_58 : decode cX8_bridgeLine 58 = .ok (.iinc 3 1, 3) := by decide +kernel
theorem dX8_bridgeLine_61 : decode cX8_bridgeLine 61 = .ok (.goto (-54), 3) := by decide +kernel
theorem dX8_bridgeLine_64 : decode cX8_bridgeLine 64 = .ok (.iload_n 1, 1) := by decide +kernel
theorem dX8_bridgeLine_65 : decode cX8_bridgeLine 65 = .ok (.ireturn, 1) := by decide +kernel
theorem wd_1131 : (Cond.code ⟨"WebCourt$Ways", "bridgeLine", "()I"⟩ prog_10_method_9_code (5 : Nat) (Option.some FieldType.int)) ∈ gtb := gtb_c5 62 (by decide +kernel) rfl
theorem wd_397 : (Cond.fieldLink "WebCourt$Ways" (15 : Nat) "WebCourt$Ways" "court" "LWebCourt$Court;") ∈ gtb := gtb_c2 48 (by decide +kernel) rfl
theorem wd_399 : (Cond.laysFinal "WebCourt$Ways" "WebCourt$Ways" "court" "LWebCourt$Court;") ∈ gtb := gtb_c2 50 (by decide +kernel) rfl
theorem wd_401 : (Cond.laysFinal "WebCourt$Ways" "WebCourt$Ways" "between" "[I") ∈ gtb := gtb_c2 52 (by decide +kernel) rfl
theorem inFX8 : ∀ w ∈ u_ws RX8 TX8 2, w ∈ gtb := by
  show ∀ w ∈ [u_lay RX8 TX8 0, u_lay RX8 TX8 1], w ∈ gtb
  exact List.forall_mem_cons.mpr ⟨wd_399, List.forall_mem_cons.mpr ⟨wd_401, fun _ h => absurd h List.not_mem_nil⟩⟩
theorem gf_RX8_15 {p : Program} {l : Launch} {e : Env} {R : Room} {s : State} {m : MethodId} {args : Array Value} {below : List Frame} {meth : Method} {c : Code} {H : Heap} {locs : List Loc} {cells slots : Nat} {Q : State → Prop} {cc : ByteArray} {pc nL : Nat} {ls : Array Slot} {rest : List Value} {D : va_G} {cy : Nat → ClassId} {A : Nat → Prop} {ws : va_W} {b : Nat} {fs : List Value} {v : Value} (C : Cx p s m args c cc nL RX8 D cy A) (hO : Wo D A ws s.heap H locs) (q0 : Nat) (he : ws[q0]? = some (b, .inr (8, fs))) (hv : fs[0]? = some v) (hdg : decode cc pc = .ok (.getfield 15, 3)) (kk : W p l e R s m args below meth c H locs cells slots Q (F0 m (pc + 3) ls (v :: rest))) : W p l e R s m args below meth c H locs cells slots Q (F0 m pc ls (.ref b :: rest)) := gF (k := 0) C hO q0 he rfl inFX8 (by decide) wd_397 rfl hv hdg kk
theorem wd_362 : (Cond.fieldLink "WebCourt$Ways" (44 : Nat) "WebCourt$Court" "web" "LWebCourt$Web;") ∈ gtb := gtb_c2 13 (by decide +kernel) rfl
theorem gf_RX8_44 {p : Program} {l : Launch} {e : Env} {R : Room} {s : State} {m : MethodId} {args : Array Value} {below : List Frame} {meth : Method} {c : Code} {H : Heap} {locs : List Loc} {cells slots : Nat} {Q : State → Prop} {cc : ByteArray} {pc nL : Nat} {ls : Array Slot} {rest : List Value} {D : va_G} {cy : Nat → ClassId} {A : Nat → Prop} {ws : va_W} {b : Nat} {fs : List Value} {v : Value} (C : Cx p s m args c cc nL RX8 D cy A) (hO : Wo D A ws s.heap H locs) (q0 : Nat) (he : ws[q0]? = some (b, .inr (2, fs))) (hv : fs[1]? = some v) (hdg : decode cc pc = .ok (.getfield 44, 3)) (kk : W p l e R s m args below meth c H locs cells slots Q (F0 m (pc + 3) ls (v :: rest))) : W p l e R s m args below meth c H locs cells slots Q (F0 m pc ls (.ref b :: rest)) := gF (k := 1) C hO q0 he rfl inFX2 (by decide) wd_362 rfl hv hdg kk
theorem wd_257 : (Cond.fieldLink "WebCourt$Ways" (54 : Nat) "WebCourt$Web" "lines" "I") ∈ gtb := gtb_c1 148 (by decide +kernel) rfl
theorem gf_RX8_54 {p : Program} {l : Launch} {e : Env} {R : Room} {s : State} {m : MethodId} {args : Array Value} {below : List Frame} {meth : Method} {c : Code} {H : Heap} {locs : List Loc} {cells slots : Nat} {Q : State → Prop} {cc : ByteArray} {pc nL : Nat} {ls : Array Slot} {rest : List Value} {D : va_G} {cy : Nat → ClassId} {A : Nat → Prop} {ws : va_W} {b : Nat} {fs : List Value} {v : Value} (C : Cx p s m args c cc nL RX8 D cy A) (hO : Wo D A ws s.heap H locs) (q0 : Nat) (he : ws[q0]? = some (b, .inr (9, fs))) (hv : fs[10]? = some v) (hdg : decode cc pc = .ok (.getfield 54, 3)) (kk : W p l e R s m args below meth c H locs cells slots Q (F0 m (pc + 3) ls (v :: rest))) : W p l e R s m args below meth c H locs cells slots Q (F0 m pc ls (.ref b :: rest)) := gF (k := 10) C hO q0 he rfl inFX9 (by decide) wd_257 rfl hv hdg kk
set_option maxHeartbeats 4000000 in
set_option maxRecDepth 100000 in
theorem T_X8_bridgeLine (l : Launch) (D : va_G) (cy : Nat → ClassId) (a : Nat → Nat) (u : St) (hI_3_10 : fI u 3 10 = 0) (hR_0 : fR u 0 = a 3)   : Mi l D cy (cW cy a) yX8_bridgeLine (.code yX8_bridgeLine cX8_bridgeLine 5 (some .int)) (rmo 0 0) [.ref (a 32)] u (fun (r : Int32) (u' : St) => (r = (-1)) ∧ (u' = u)) := by
  refine Mi.of (own := RX8) rfl (by decide) (Nat.le_of_ble_eq_true rfl) ?_
  intro p e s m below meth c A Q ls C hret hO hl
  obtain ⟨hx, hb, hml, hown, ht, hK, hA⟩ := id C
  have hl : lv_has ls 5 [(0, .ref (a 32))] := hl
  refine lv_iconst (v := (-1)) hx hb dX8_bridgeLine_0 (by decide) ?_
  refine lv_istore_n (lv' := [(1, .int (-1)), (0, .ref (a 32))]) hx hb dX8_bridgeLine_1 rfl hl (by decide) rfl (fun ls hl => ?_)
  refine lv_bipush (v := 9) hx hb dX8_bridgeLine_2 (by decide) ?_
  refine lv_istore_n (lv' := [(2, .int 9), (1, .int (-1)), (0, .ref (a 32))]) hx hb dX8_bridgeLine_4 rfl hl (by decide) rfl (fun ls hl => ?_)
  refine lv_iconst (v := 0) hx hb dX8_bridgeLine_5 (by decide) ?_
  refine lv_istore_n (lv' := [(3, .int 0), (2, .int 9), (1, .int (-1)), (0, .ref (a 32))]) hx hb dX8_bridgeLine_6 rfl hl (by decide) rfl (fun ls hl => ?_)
  refine lv_iload_n hx hb dX8_bridgeLine_7 rfl (lv_at hl 0 rfl) ?_
  refine lv_aload_n hx hb dX8_bridgeLine_8 rfl (lv_at hl 3 rfl) ?_
  refine gf_RX8_15 (v := .ref (a 28)) C hO 32 cW_32 rfl dX8_bridgeLine_9 ?_
  refine gf_RX8_44 (v := .ref (a 3)) C hO 28 cW_28 (congrArg (fun z : Nat => some (Value.ref z)) hR_0) dX8_bridgeLine_12 ?_
  refine gf_RX8_54 (v := .int 0) C hO 3 cW_3 (congrArg (fun z : Int32 => some (Value.int z)) hI_3_10) dX8_bridgeLine_15 ?_
  refine ct_ge (tgt := 64) (X := 0) (Y := 0) hx hb dX8_bridgeLine_18 (by decide) rfl rfl (by omega) ?_
  refine lv_iload_n hx hb dX8_bridgeLine_64 rfl (lv_at hl 2 rfl) ?_
  refine hret _ _ _ _ _ _ dX8_bridgeLine_65 rfl ?_ hO
  exact ⟨rfl, rfl⟩
theorem dX10_bridge_0 : decode cX10_bridge 0 = .ok (.aload_n 0, 1) := by decide +kernel
theorem dX10_bridge_1 : decode cX10_bridge 1 = .ok (.getfield 53, 3) := by decide +kernel
theorem dX10_bridge_4 : decode cX10_bridge 4 = .ok (.invokevirtual 252, 3) := by decide +kernel
theorem dX10_bridge_7 : decode cX10_bridge 7 = .ok (.istore_n 2, 1) := by decide +kernel
theorem dX10_bridge_8 : decode cX10_bridge 8 = .ok (.iload_n 2, 1) := by decide +kernel
theorem dX10_bridge_9 : decode cX10_bridge 9 = .ok (.iconst (-1), 1) := by decide +kernel
theorem dX10_bridge_10 : decode cX10_bridge 10 = .ok (.if_icmp .eq 12, 3) := by decide +kernel
theorem dX10_bridge_13 : decode cX10_bridge 13 = .ok (.iload_n 1, 1) := by decide +kernel
theorem dX10_bridge_14 : decode cX10_bridge 14 = .ok (.ifCond .lt 8, 3) := by decide +kernel
theorem dX10_bridge_17 : decode cX10_bridge 17 = .ok (.iload_n 1, 1) := by decide +kernel
theorem dX10_bridge_18 : decode cX10_bridge 18 = .ok (.iconst 1, 1) := by decide +kernel
theorem dX10_bridge_19 : decode cX10_bridge 19 = .ok (.if_icmp .le 5, 3) := by decide +kernel
theorem dX10_bridge_22 : decode cX10_bridge 22 = .ok (.iconst (-1), 1) := by decide +kernel
theorem dX10_bridge_23 : decode cX10_bridge 23 = .ok (.ireturn, 1) := by decide +kernel
theorem dX10_bridge_24 : decode cX10_bridge 24 = .ok (.iload_n 1, 1) := by decide +kernel
theorem dX10_bridge_25 : decode cX10_bridge 25 = .ok (.ifCond .ne 7, 3) := by decide +kernel
theorem dX10_bridge_28 : decode cX10_bridge 28 = .ok (.iload_n 2, 1) := by decide +kernel
theorem dX10_bridge_29 : decode cX10_bridge 29 = .ok (.goto 11, 3) := by decide +kernel
theorem dX10_bridge_32 : decode cX10_bridge 32 = .ok (.aload_n 0, 1) := by decide +kernel
theorem dX10_bridge_33 : decode cX10_bridge 33 = .ok (.getfield 53, 3) := by decide +kernel
theorem dX10_bridge_36 : decode cX10_bridge 36 = .ok (.iload_n 2, 1) := by decide +kernel
theorem dX10_bridge_37 : decode cX10_bridge 37 = .ok (.invokevirtual 255, 3) := by decide +kernel
theorem dX10_bridge_40 : decode cX10_bridge 40 = .ok (.ireturn, 1) := by decide +kernel
theorem wd_1127 : (Cond.code ⟨"WebCourt", "bridge", "(I)I"⟩ prog_1_method_30_code (3 : Nat) (Option.some FieldType.int)) ∈ gtb := gtb_c5 58 (by decide +kernel) rfl
theorem wd_472 : (Cond.fieldLink "WebCourt" (53 : Nat) "WebCourt" "ways" "LWebCourt$Ways;") ∈ gtb := gtb_c2 123 (by decide +kernel) rfl
theorem gf_RX10_53 {p : Program} {l : Launch} {e : Env} {R : Room} {s : State} {m : MethodId} {args : Array Value} {below : List Frame} {meth : Method} {c : Code} {H : Heap} {locs : List Loc} {cells slots : Nat} {Q : State → Prop} {cc : ByteArray} {pc nL : Nat} {ls : Array Slot} {rest : List Value} {D : va_G} {cy : Nat → ClassId} {A : Nat → Prop} {ws : va_W} {b : Nat} {fs : List Value} {v : Value} (C : Cx p s m args c cc nL RX10 D cy A) (hO : Wo D A ws s.heap H locs) (q0 : Nat) (he : ws[q0]? = some (b, .inr (10, fs))) (hv : fs[4]? = some v) (hdg : decode cc pc = .ok (.getfield 53, 3)) (kk : W p l e R s m args below meth c H locs cells slots Q (F0 m (pc + 3) ls (v :: rest))) : W p l e R s m args below meth c H locs cells slots Q (F0 m pc ls (.ref b :: rest)) := gF (k := 4) C hO q0 he rfl inFX10 (by decide) wd_472 rfl hv hdg kk
theorem wd_1128 : (Cond.methodLink "WebCourt" (252 : Nat) ⟨"WebCourt$Ways", "bridgeLine", "()I"⟩) ∈ gtb := gtb_c5 59 (by decide +kernel) rfl
theorem wd_1129 : (Cond.instanceMethod ⟨"WebCourt$Ways", "bridgeLine", "()I"⟩) ∈ gtb := gtb_c5 60 (by decide +kernel) rfl
theorem wd_1130 : (Cond.selects "WebCourt$Ways" ⟨"WebCourt$Ways", "bridgeLine", "()I"⟩ ⟨"WebCourt$Ways", "bridgeLine", "()I"⟩) ∈ gtb := gtb_c5 61 (by decide +kernel) rfl
theorem wd_117 : (Cond.initialized "WebCourt$Ways") ∈ gtb := gtb_c1 8 (by decide +kernel) rfl
theorem hd_yX8_bridgeLine : yX8_bridgeLine.cls = RX8 ∧ yX8_bridgeLine.cls ≠ "java/lang/invoke/MethodHandle" ∧ yX8_bridgeLine.cls ≠ "java/lang/invoke/VarHandle" ∧ (parseMethodDescriptor yX8_bridgeLine.desc).map (fun d => d.parameters.length) = some 0 := by decide +kernel
set_option maxHeartbeats 4000000 in
set_option maxRecDepth 100000 in
theorem T_X10_bridge (l : Launch) (D : va_G) (cy : Nat → ClassId) (a : Nat → Nat) (u : St) (hI_3_10 : fI u 3 10 = 0) (hR_0 : fR u 0 = a 3) (x1 : Int32)  : Mi l D cy (cW cy a) yX10_bridge (.code yX10_bridge cX10_bridge 3 (some .int)) (rmo 1 24) [.ref (a 0), .int x1] u (fun (r : Int32) (u' : St) => (r = (-1)) ∧ (u' = u)) := by
  refine Mi.of (own := RX10) rfl (by decide) (Nat.le_of_ble_eq_true rfl) ?_
  intro p e s m below meth c A Q ls C hret hO hl
  obtain ⟨hx, hb, hml, hown, ht, hK, hA⟩ := id C
  have hl : lv_has ls 3 [(0, .ref (a 0)), (1, .int x1)] := hl
  refine lv_aload_n hx hb dX10_bridge_0 rfl (lv_at hl 0 rfl) ?_
  refine gf_RX10_53 (v := .ref (a 32)) C hO 0 cW_0 rfl dX10_bridge_1 ?_
  refine cVi (w := cW cy a) (As := []) (rest := []) C hO (T_X8_bridgeLine l D cy a _ (by exact hI_3_10) (by exact hR_0)) (cwV 0 ht (gV wd_1128 wd_1129 wd_1130 wd_117 wd_1131) rfl rfl rfl hd_yX8_bridgeLine ⟨Nat.le_of_ble_eq_true rfl, Nat.le_of_ble_eq_true rfl⟩) 32 rfl cW_32 rfl rfl hl.1 (Nat.le_of_ble_eq_true rfl) dX10_bridge_4 rfl ⟨Nat.zero_le _, Nat.zero_le _⟩ (fun r1 u2 H locs hp3 hO => ?_)
  obtain ⟨hr1, hu2⟩ := hp3
  subst hr1
  rw [hu2] at hO
  refine lv_istore_n (lv' := [(2, .int (-1)), (0, .ref (a 0)), (1, .int x1)]) hx hb dX10_bridge_7 rfl hl (by decide) rfl (fun ls hl => ?_)
  refine lv_iload_n hx hb dX10_bridge_8 rfl (lv_at hl 0 rfl) ?_
  refine lv_iconst (v := (-1)) hx hb dX10_bridge_9 (by decide) ?_
  refine ct_eq (tgt := 22) (X := (-1)) (Y := (-1)) hx hb dX10_bridge_10 (by decide) rfl rfl (by omega) ?_
  refine lv_iconst (v := (-1)) hx hb dX10_bridge_22 (by decide) ?_
  refine hret _ _ _ _ _ _ dX10_bridge_23 rfl ?_ hO
  exact ⟨rfl, rfl⟩
theorem dX1_pleaToForbid_0 : decode cX1_pleaToForbid 0 = .ok (.iconst (-1), 1) := by decide +kernel
theorem dX1_pleaToForbid_1 : decode cX1_pleaToForbid 1 = .ok (.istore_n 1, 1) := by decide +kernel
theorem dX1_pleaToForbid_2 : decode cX1_pleaToForbid 2 = .ok (.bipush 7, 2) := by decide +kernel
theorem dX1_pleaToForbid_4 : decode cX1_pleaToForbid 4 = .ok (.istore_n 2, 1) := by decide +kernel
theorem dX1_pleaToForbid_5 : decode cX1_pleaToForbid 5 = .ok (.iconst 0, 1) := by decide +kernel
theorem dX1_pleaToForbid_6 : decode cX1_pleaToForbid 6 = .ok (.istore_n 3, 1) := by decide +kernel
theorem dX1_pleaToForbid_7 : decode cX1_pleaToForbid 7 = .ok (.iload_n 3, 1) := by decide +kernel
theorem dX1_pleaToForbid_8 : decode cX1_pleaToForbid 8 = .ok (.aload_n 0, 1) := by decide +kernel
theorem dX1_pleaToForbid_9 : decode cX1_pleaToForbid 9 = .ok (.getfield 18, 3) := by decide +kernel
theorem dX1_pleaToForbid_12 : decode cX1_pleaToForbid 12 = .ok (.getfield 34, 3) := by decide +kernel
theorem dX1_pleaToForbid_15 : decode cX1_pleaToForbid 15 = .ok (.getfield 38, 3) := by decide +kernel
theorem dX1_pleaToForbid_18 : decode cX1_pleaToForbid 18 = .ok (.if_icmp .ge 27, 3) := by decide +kernel
theorem dX1_pleaToForbid_21 : decode cX1_pleaToForbid 21 = .ok (.aload_n 0, 1) := by decide +kernel
theorem dX1_pleaToForbid_22 : decode cX1_pleaToForbid 22 = .ok (.iload_n 3, 1) := by decide +kernel
theorem dX1_pleaToForbid_23 : decode cX1_pleaToForbid 23 = .ok (.invokevirtual 79, 3) := by decide +kernel
theorem dX1_pleaToForbid_26 : decode cX1_pleaToForbid 26 = .ok (.istore 4, 2) := by decide +kernel
theorem dX1_pleaToForbid_28 : decode cX1_pleaToForbid 28 = .ok (.iload 4, 2) := by decide +kernel
theorem dX1_pleaToForbid_30 : decode cX1_pleaToForbid 30 = .ok (.iload_n 2, 1) := by decide +kernel
theorem dX1_pleaToForbid_31 : decode cX1_pleaToForbid 31 = .ok (.if_icmp .ge 8, 3) := by decide +kernel
theorem dX1_pleaToForbid_34 : decode cX1_pleaToForbid 34 = .ok (.iload 4, 2) := by decide +kernel
theorem dX1_pleaToForbid_36 : decode cX1_pleaToForbid 36 = .ok (.istore_n 2, 1) := by decide +kernel
theorem dX1_pleaToForbid_37 : decode cX1_pleaToForbid 37 = .ok (.iload_n 3, 1) := by decide +kernel
theorem dX1_pleaToForbid_38 : decode cX1_pleaToForbid 38 = .ok (.istore_n 1, 1) := by decide +kernel
theorem dX1_pleaToForbid_39 : decode cX1_pleaToForbid 39 = .ok (.iinc 3 1, 3) := by decide +kernel
theorem dX1_pleaToForbid_42 : decode cX1_pleaToForbid 42 = .ok (.goto (-35), 3) := by decide +kernel
theorem dX1_pleaToForbid_45 : decode cX1_pleaToForbid 45 = .ok (.iload_n 1, 1) := by decide +kernel
theorem dX1_pleaToForbid_46 : decode cX1_pleaToForbid 46 = .ok (.ireturn, 1) := by decide +kernel
theorem wd_1149 : (Cond.code ⟨"WebCourt$Counsel", "pleaToForbid", "()I"⟩ prog_3_method_10_code (5 : Nat) (Option.some FieldType.int)) ∈ gtb := gtb_c5 80 (by decide +kernel) rfl
set_option maxHeartbeats 4000000 in
set_option maxRecDepth 100000 in
theorem T_X1_pleaToForbid (l : Launch) (D : va_G) (cy : Nat → ClassId) (a : Nat → Nat) (u : St) (hI_3_11 : fI u 3 11 = 0) (hR_0 : fR u 0 = a 3)   : Mi l D cy (cW cy a) yX1_pleaToForbid (.code yX1_pleaToForbid cX1_pleaToForbid 5 (some .int)) (rmo 0 0) [.ref (a 36)] u (fun (r : Int32) (u' : St) => (r = (-1)) ∧ (u' = u)) := by
  refine Mi.of (own := RX1) rfl (by decide) (Nat.le_of_ble_eq_true rfl) ?_
  intro p e s m below meth c A Q ls C hret hO hl
  obtain ⟨hx, hb, hml, hown, ht, hK, hA⟩ := id C
  have hl : lv_has ls 5 [(0, .ref (a 36))] := hl
  refine lv_iconst (v := (-1)) hx hb dX1_pleaToForbid_0 (by decide) ?_
  refine lv_istore_n (lv' := [(1, .int (-1)), (0, .ref (a 36))]) hx hb dX1_pleaToForbid_1 rfl hl (by decide) rfl (fun ls hl => ?_)
  refine lv_bipush (v := 7) hx hb dX1_pleaToForbid_2 (by decide) ?_
  refine lv_istore_n (lv' := [(2, .int 7), (1, .int (-1)), (0, .ref (a 36))]) hx hb dX1_pleaToForbid_4 rfl hl (by decide) rfl (fun ls hl => ?_)
  refine lv_iconst (v := 0) hx hb dX1_pleaToForbid_5 (by decide) ?_
  refine lv_istore_n (lv' := [(3, .int 0), (2, .int 7), (1, .int (-1)), (0, .ref (a 36))]) hx hb dX1_pleaToForbid_6 rfl hl (by decide) rfl (fun ls hl => ?_)
  refine lv_iload_n hx hb dX1_pleaToForbid_7 rfl (lv_at hl 0 rfl) ?_
  refine lv_aload_n hx hb dX1_pleaToForbid_8 rfl (lv_at hl 3 rfl) ?_
  refine gf_RX1_18 (v := .ref (a 28)) C hO 36 cW_36 rfl dX1_pleaToForbid_9 ?_
  refine gf_RX1_34 (v := .ref (a 3)) C hO 28 cW_28 (congrArg (fun z : Nat => some (Value.ref z)) hR_0) dX1_pleaToForbid_12 ?_
  refine gf_RX1_38 (v := .int 0) C hO 3 cW_3 (congrArg (fun z : Int32 => some (Value.int z)) hI_3_11) dX1_pleaToForbid_15 ?_
  refine ct_ge (tgt := 45) (X := 0) (Y := 0) hx hb dX1_pleaToForbid_18 (by decide) rfl rfl (by omega) ?_
  refine lv_iload_n hx hb dX1_pleaToForbid_45 rfl (lv_at hl 2 rfl) ?_
  refine hret _ _ _ _ _ _ dX1_pleaToForbid_46 rfl ?_ hO
  exact ⟨rfl, rfl⟩
theorem dX10_forbid_0 : decode cX10_forbid 0 = .ok (.aload_n 0, 1) := by decide +kernel
theorem dX10_forbid_1 : decode cX10_forbid 1 = .ok (.getfield 69, 3) := by decide +kernel
theorem dX10_forbid_4 : decode cX10_forbid 4 = .ok (.invokevirtual 258, 3) := by decide +kernel
theorem dX10_forbid_7 : decode cX10_forbid 7 = .ok (.istore_n 2, 1) := by decide +kernel
theorem dX10_forbid_8 : decode cX10_forbid 8 = .ok (.iload_n 2, 1) := by decide +kernel
theorem dX10_forbid_9 : decode cX10_forbid 9 = .ok (.iconst (-1), 1) := by decide +kernel
theorem dX10_forbid_10 : decode cX10_forbid 10 = .ok (.if_icmp .eq 12, 3) := by decide +kernel
theorem dX10_forbid_13 : decode cX10_forbid 13 = .ok (.iload_n 1, 1) := by decide +kernel
theorem dX10_forbid_14 : decode cX10_forbid 14 = .ok (.ifCond .lt 8, 3) := by decide +kernel
theorem dX10_forbid_17 : decode cX10_forbid 17 = .ok (.iload_n 1, 1) := by decide +kernel
theorem dX10_forbid_18 : decode cX10_forbid 18 = .ok (.iconst 1, 1) := by decide +kernel
theorem dX10_forbid_19 : decode cX10_forbid 19 = .ok (.if_icmp .le 5, 3) := by decide +kernel
theorem dX10_forbid_22 : decode cX10_forbid 22 = .ok (.iconst (-1), 1) := by decide +kernel
theorem dX10_forbid_23 : decode cX10_forbid 23 = .ok (.ireturn, 1) := by decide +kernel
theorem dX10_forbid_24 : decode cX10_forbid 24 = .ok (.iload_n 1, 1) := by decide +kernel
theorem dX10_forbid_25 : decode cX10_forbid 25 = .ok (.ifCond .ne 7, 3) := by decide +kernel
theorem dX10_forbid_28 : decode cX10_forbid 28 = .ok (.iload_n 2, 1) := by decide +kernel
theorem dX10_forbid_29 : decode cX10_forbid 29 = .ok (.goto 11, 3) := by decide +kernel
theorem dX10_forbid_32 : decode cX10_forbid 32 = .ok (.aload_n 0, 1) := by decide +kernel
theorem dX10_forbid_33 : decode cX10_forbid 33 = .ok (.getfield 69, 3) := by decide +kernel
theorem dX10_forbid_36 : decode cX10_forbid 36 = .ok (.iload_n 2, 1) := by decide +kernel
theorem dX10_forbid_37 : decode cX10_forbid 37 = .ok (.invokevirtual 261, 3) := by decide +kernel
theorem dX10_forbid_40 : decode cX10_forbid 40 = .ok (.ireturn, 1) := by decide +kernel
theorem wd_1145 : (Cond.code ⟨"WebCourt", "forbid", "(I)I"⟩ prog_1_method_31_code (3 : Nat) (Option.some FieldType.int)) ∈ gtb := gtb_c5 76 (by decide +kernel) rfl
theorem wd_1146 : (Cond.methodLink "WebCourt" (258 : Nat) ⟨"WebCourt$Counsel", "pleaToForbid", "()I"⟩) ∈ gtb := gtb_c5 77 (by decide +kernel) rfl
theorem wd_1147 : (Cond.instanceMethod ⟨"WebCourt$Counsel", "pleaToForbid", "()I"⟩) ∈ gtb := gtb_c5 78 (by decide +kernel) rfl
theorem wd_1148 : (Cond.selects "WebCourt$Counsel" ⟨"WebCourt$Counsel", "pleaToForbid", "()I"⟩ ⟨"WebCourt$Counsel", "pleaToForbid", "()I"⟩) ∈ gtb := gtb_c5 79 (by decide +kernel) rfl
theorem hd_yX1_pleaToForbid : yX1_pleaToForbid.cls = RX1 ∧ yX1_pleaToForbid.cls ≠ "java/lang/invoke/MethodHandle" ∧ yX1_pleaToForbid.cls ≠ "java/lang/invoke/VarHandle" ∧ (parseMethodDescriptor yX1_pleaToForbid.desc).map (fun d => d.parameters.length) = some 0 := by decide +kernel
set_option maxHeartbeats 4000000 in
set_option maxRecDepth 100000 in
theorem T_X10_forbid (l : Launch) (D : va_G) (cy : Nat → ClassId) (a : Nat → Nat) (u : St) (hI_3_11 : fI u 3 11 = 0) (hR_0 : fR u 0 = a 3) (x1 : Int32)  : Mi l D cy (cW cy a) yX10_forbid (.code yX10_forbid cX10_forbid 3 (some .int)) (rmo 1 24) [.ref (a 0), .int x1] u (fun (r : Int32) (u' : St) => (r = (-1)) ∧ (u' = u)) := by
  refine Mi.of (own := RX10) rfl (by decide) (Nat.le_of_ble_eq_true rfl) ?_
  intro p e s m below meth c A Q ls C hret hO hl
  obtain ⟨hx, hb, hml, hown, ht, hK, hA⟩ := id C
  have hl : lv_has ls 3 [(0, .ref (a 0)), (1, .int x1)] := hl
  refine lv_aload_n hx hb dX10_forbid_0 rfl (lv_at hl 0 rfl) ?_
  refine gf_RX10_69 (v := .ref (a 36)) C hO 0 cW_0 rfl dX10_forbid_1 ?_
  refine cVi (w := cW cy a) (As := []) (rest := []) C hO (T_X1_pleaToForbid l D cy a _ (by exact hI_3_11) (by exact hR_0)) (cwV 0 ht (gV wd_1146 wd_1147 wd_1148 wd_119 wd_1149) rfl rfl rfl hd_yX1_pleaToForbid ⟨Nat.le_of_ble_eq_true rfl, Nat.le_of_ble_eq_true rfl⟩) 36 rfl cW_36 rfl rfl hl.1 (Nat.le_of_ble_eq_true rfl) dX10_forbid_4 rfl ⟨Nat.zero_le _, Nat.zero_le _⟩ (fun r1 u2 H locs hp3 hO => ?_)
  obtain ⟨hr1, hu2⟩ := hp3
  subst hr1
  rw [hu2] at hO
  refine lv_istore_n (lv' := [(2, .int (-1)), (0, .ref (a 0)), (1, .int x1)]) hx hb dX10_forbid_7 rfl hl (by decide) rfl (fun ls hl => ?_)
  refine lv_iload_n hx hb dX10_forbid_8 rfl (lv_at hl 0 rfl) ?_
  refine lv_iconst (v := (-1)) hx hb dX10_forbid_9 (by decide) ?_
  refine ct_eq (tgt := 22) (X := (-1)) (Y := (-1)) hx hb dX10_forbid_10 (by decide) rfl rfl (by omega) ?_
  refine lv_iconst (v := (-1)) hx hb dX10_forbid_22 (by decide) ?_
  refine hret _ _ _ _ _ _ dX10_forbid_23 rfl ?_ hO
  exact ⟨rfl, rfl⟩
theorem dX1_freeByExchange_0 : decode cX1_freeByExchange 0 = .ok (.iconst 0, 1) := by decide +kernel
theorem dX1_freeByExchange_1 : decode cX1_freeByExchange 1 = .ok (.istore_n 3, 1) := by decide +kernel
theorem dX1_freeByExchange_2 : decode cX1_freeByExchange 2 = .ok (.iconst 0, 1) := by decide +kernel
theorem dX1_freeByExchange_3 : decode cX1_freeByExchange 3 = .ok (.istore 4, 2) := by decide +kernel
theorem dX1_freeByExchange_5 : decode cX1_freeByExchange 5 = .ok (.iload 4, 2) := by decide +kernel
theorem dX1_freeByExchange_7 : decode cX1_freeByExchange 7 = .ok (.aload_n 0, 1) := by decide +kernel
theorem dX1_freeByExchange_8 : decode cX1_freeByExchange 8 = .ok (.getfield 18, 3) := by decide +kernel
theorem dX1_freeByExchange_11 : decode cX1_freeByExchange 11 = .ok (.getfield 34, 3) := by decide +kernel
theorem dX1_freeByExchange_14 : decode cX1_freeByExchange 14 = .ok (.getfield 44, 3) := by decide +kernel
theorem dX1_freeByExchange_17 : decode cX1_freeByExchange 17 = .ok (.if_icmp .ge 73, 3) := by decide +kernel
theorem dX1_freeByExchange_20 : decode cX1_freeByExchange 20 = .ok (.iload 4, 2) := by decide +kernel
theorem dX1_freeByExchange_22 : decode cX1_freeByExchange 22 = .ok (.iload_n 1, 1) := by decide +kernel
theorem dX1_freeByExchange_23 : decode cX1_freeByExchange 23 = .ok (.if_icmp .ne 7, 3) := by decide +kernel
theorem dX1_freeByExchange_26 : decode cX1_freeByExchange 26 = .ok (.iload_n 2, 1) := by decide +kernel
theorem dX1_freeByExchange_27 : decode cX1_freeByExchange 27 = .ok (.goto 15, 3) := by decide +kernel
theorem dX1_freeByExchange_30 : decode cX1_freeByExchange 30 = .ok (.iload 4, 2) := by decide +kernel
theorem dX1_freeByExchange_32 : decode cX1_freeByExchange 32 = .ok (.iload_n 2, 1) := by decide +kernel
theorem dX1_freeByExchange_33 : decode cX1_freeByExchange 33 = .ok (.if_icmp .ne 7, 3) := by decide +kernel
theorem dX1_freeByExchange_36 : decode cX1_freeByExchange 36 = .ok (.iload_n 1, 1) := by decide +kernel
theorem dX1_freeByExchange_37 : decode cX1_freeByExchange 37 = .ok (.goto 5, 3) := by decide +kernel
theorem dX1_freeByExchange_40 : decode cX1_freeByExchange 40 = .ok (.iload 4, 2) := by decide +kernel
theorem dX1_freeByExchange_42 : decode cX1_freeByExchange 42 = .ok (.istore 5, 2) := by decide +kernel
theorem dX1_freeByExchange_44 : decode cX1_freeByExchange 44 = .ok (.aload_n 0, 1) := by decide +kernel
theorem dX1_freeByExchange_45 : decode cX1_freeByExchange 45 = .ok (.getfield 18, 3) := by decide +kernel
theorem dX1_freeByExchange_48 : decode cX1_freeByExchange 48 = .ok (.iload 4, 2) := by decide +kernel
theorem dX1_freeByExchange_50 : decode cX1_freeByExchange 50 = .ok (.invokevirtual 47, 3) := by decide +kernel
theorem dX1_freeByExchange_53 : decode cX1_freeByExchange 53 = .ok (.ifCond .eq 31, 3) := by decide +kernel
theorem dX1_freeByExchange_56 : decode cX1_freeByExchange 56 = .ok (.aload_n 0, 1) := by decide +kernel
theorem dX1_freeByExchange_57 : decode cX1_freeByExchange 57 = .ok (.getfield 18, 3) := by decide +kernel
theorem dX1_freeByExchange_60 : decode cX1_freeByExchange 60 = .ok (.iload 4, 2) := by decide +kernel
theorem dX1_freeByExchange_62 : decode cX1_freeByExchange 62 = .ok (.aload_n 0, 1) := by decide +kernel
theorem dX1_freeByExchange_63 : decode cX1_freeByExchange 63 = .ok (.getfield 18, 3) := by decide +kernel
theorem dX1_freeByExchange_66 : decode cX1_freeByExchange 66 = .ok (.getfield 54, 3) := by decide +kernel
theorem dX1_freeByExchange_69 : decode cX1_freeByExchange 69 = .ok (.bipush 11, 2) := by decide +kernel
theorem dX1_freeByExchange_71 : decode cX1_freeByExchange 71 = .ok (.iload 5, 2) := by decide +kernel
theorem dX1_freeByExchange_73 : decode cX1_freeByExchange 73 = .ok (.iadd, 1) := by decide +kernel
theorem dX1_freeByExchange_74 : decode cX1_freeByExchange 74 = .ok (.iaload, 1) := by decide +kernel
theorem dX1_freeByExchange_75 : decode cX1_freeByExchange 75 = .ok (.invokevirtual 28, 3) := by decide +kernel
theorem dX1_freeByExchange_78 : decode cX1_freeByExchange 78 = .ok (.ifCond .le 6, 3) := by decide +kernel
theorem dX1_freeByExchange_81 : decode cX1_freeByExchange 81 = .ok (.iinc 3 1, 3) := by decide +kernel
theorem dX1_freeByExchange_84 : decode cX1_freeByExchange 84 = .ok (.iinc 4 1, 3) := by decide +kernel
theorem dX1_freeByExchange_87 : decode cX1_freeByExchange 87 = .ok (.goto (-82), 3) := by decide +kernel
theorem dX1_freeByExchange_90 : decode cX1_freeByExchange 90 = .ok (.iload_n 3, 1) := by decide +kernel
theorem dX1_freeByExchange_91 : decode cX1_freeByExchange 91 = .ok (.ireturn, 1) := by decide +kernel
theorem wd_1166 : (Cond.code ⟨"WebCourt$Counsel", "freeByExchange", "(II)I"⟩ prog_3_method_11_code (6 : Nat) (Option.some FieldType.int)) ∈ gtb := gtb_c5 97 (by decide +kernel) rfl
set_option maxHeartbeats 4000000 in
set_option maxRecDepth 100000 in
theorem T_X1_freeByExchange_00 (l : Launch) (D : va_G) (cy : Nat → ClassId) (a : Nat → Nat) (u : St) (hI_3_12 : fI u 3 12 = 0) (hR_0 : fR u 0 = a 3)   : Mi l D cy (cW cy a) yX1_freeByExchange (.code yX1_freeByExchange cX1_freeByExchange 6 (some .int)) (rmo 0 0) [.ref (a 36), .int 0, .int 0] u (fun (r : Int32) (u' : St) => (r = 0) ∧ (u' = u)) := by
  refine Mi.of (own := RX1) rfl (by decide) (Nat.le_of_ble_eq_true rfl) ?_
  intro p e s m below meth c A Q ls C hret hO hl
  obtain ⟨hx, hb, hml, hown, ht, hK, hA⟩ := id C
  have hl : lv_has ls 6 [(0, .ref (a 36)), (1, .int 0), (2, .int 0)] := hl
  refine lv_iconst (v := 0) hx hb dX1_freeByExchange_0 (by decide) ?_
  refine lv_istore_n (lv' := [(3, .int 0), (0, .ref (a 36)), (1, .int 0), (2, .int 0)]) hx hb dX1_freeByExchange_1 rfl hl (by decide) rfl (fun ls hl => ?_)
  refine lv_iconst (v := 0) hx hb dX1_freeByExchange_2 (by decide) ?_
  refine lv_istore (lv' := [(4, .int 0), (3, .int 0), (0, .ref (a 36)), (1, .int 0), (2, .int 0)]) hx hb dX1_freeByExchange_3 hl (by decide) rfl (fun ls hl => ?_)
  refine lv_iload hx hb dX1_freeByExchange_5 (lv_at hl 0 rfl) ?_
  refine lv_aload_n hx hb dX1_freeByExchange_7 rfl (lv_at hl 2 rfl) ?_
  refine gf_RX1_18 (v := .ref (a 28)) C hO 36 cW_36 rfl dX1_freeByExchange_8 ?_
  refine gf_RX1_34 (v := .ref (a 3)) C hO 28 cW_28 (congrArg (fun z : Nat => some (Value.ref z)) hR_0) dX1_freeByExchange_11 ?_
  refine gf_RX1_44 (v := .int 0) C hO 3 cW_3 (congrArg (fun z : Int32 => some (Value.int z)) hI_3_12) dX1_freeByExchange_14 ?_
  refine ct_ge (tgt := 90) (X := 0) (Y := 0) hx hb dX1_freeByExchange_17 (by decide) rfl rfl (by omega) ?_
  refine lv_iload_n hx hb dX1_freeByExchange_90 rfl (lv_at hl 1 rfl) ?_
  refine hret _ _ _ _ _ _ dX1_freeByExchange_91 rfl ?_ hO
  exact ⟨rfl, rfl⟩
theorem dX1_bestExchange_0 : decode cX1_bestExchange 0 = .ok (.iconst (-1), 1) := by decide +kernel
theorem dX1_bestExchange_1 : decode cX1_bestExchange 1 = .ok (.istore_n 1, 1) := by decide +kernel
theorem dX1_bestExchange_2 : decode cX1_bestExchange 2 = .ok (.aload_n 0, 1) := by decide +kernel
theorem dX1_bestExchange_3 : decode cX1_bestExchange 3 = .ok (.iconst 0, 1) := by decide +kernel
theorem dX1_bestExchange_4 : decode cX1_bestExchange 4 = .ok (.iconst 0, 1) := by decide +kernel
theorem dX1_bestExchange_5 : decode cX1_bestExchange 5 = .ok (.invokevirtual 82, 3) := by decide +kernel
theorem dX1_bestExchange_8 : decode cX1_bestExchange 8 = .ok (.istore_n 2, 1) := by decide +kernel
theorem dX1_bestExchange_9 : decode cX1_bestExchange 9 = .ok (.iconst 0, 1) := by decide +kernel
theorem dX1_bestExchange_10 : decode cX1_bestExchange 10 = .ok (.istore_n 3, 1) := by decide +kernel
theorem dX1_bestExchange_11 : decode cX1_bestExchange 11 = .ok (.iload_n 3, 1) := by decide +kernel
theorem dX1_bestExchange_12 : decode cX1_bestExchange 12 = .ok (.aload_n 0, 1) := by decide +kernel
theorem dX1_bestExchange_13 : decode cX1_bestExchange 13 = .ok (.getfield 18, 3) := by decide +kernel
theorem dX1_bestExchange_16 : decode cX1_bestExchange 16 = .ok (.getfield 34, 3) := by decide +kernel
theorem dX1_bestExchange_19 : decode cX1_bestExchange 19 = .ok (.getfield 44, 3) := by decide +kernel
theorem dX1_bestExchange_22 : decode cX1_bestExchange 22 = .ok (.if_icmp .ge 88, 3) := by decide +kernel
theorem dX1_bestExchange_25 : decode cX1_bestExchange 25 = .ok (.iload_n 3, 1) := by decide +kernel
theorem dX1_bestExchange_26 : decode cX1_bestExchange 26 = .ok (.iconst 1, 1) := by decide +kernel
theorem dX1_bestExchange_27 : decode cX1_bestExchange 27 = .ok (.iadd, 1) := by decide +kernel
theorem dX1_bestExchange_28 : decode cX1_bestExchange 28 = .ok (.istore 4, 2) := by decide +kernel
theorem dX1_bestExchange_30 : decode cX1_bestExchange 30 = .ok (.iload 4, 2) := by decide +kernel
theorem dX1_bestExchange_32 : decode cX1_bestExchange 32 = .ok (.aload_n 0, 1) := by decide +kernel
theorem dX1_bestExchange_33 : decode cX1_bestExchange 33 = .ok (.getfield 18, 3) := by decide +kernel
theorem dX1_bestExchange_36 : decode cX1_bestExchange 36 = .ok (.getfield 34, 3) := by decide +kernel
theorem dX1_bestExchange_39 : decode cX1_bestExchange 39 = .ok (.getfield 44, 3) := by decide +kernel
theorem dX1_bestExchange_42 : decode cX1_bestExchange 42 = .ok (.if_icmp .ge 62, 3) := by decide +kernel
theorem dX1_bestExchange_45 : decode cX1_bestExchange 45 = .ok (.aload_n 0, 1) := by decide +kernel
theorem dX1_bestExchange_46 : decode cX1_bestExchange 46 = .ok (.getfield 18, 3) := by decide +kernel
theorem dX1_bestExchange_49 : decode cX1_bestExchange 49 = .ok (.iload_n 3, 1) := by decide +kernel
theorem dX1_bestExchange_50 : decode cX1_bestExchange 50 = .ok (.invokevirtual 47, 3) := by decide +kernel
theorem dX1_bestExchange_53 : decode cX1_bestExchange 53 = .ok (.ifCond .eq 25, 3) := by decide +kernel
theorem dX1_bestExchange_56 : decode cX1_bestExchange 56 = .ok (.aload_n 0, 1) := by decide +kernel
theorem dX1_bestExchange_57 : decode cX1_bestExchange 57 = .ok (.getfield 18, 3) := by decide +kernel
theorem dX1_bestExchange_60 : decode cX1_bestExchange 60 = .ok (.iload 4, 2) := by decide +kernel
theorem dX1_bestExchange_62 : decode cX1_bestExchange 62 = .ok (.invokevirtual 47, 3) := by decide +kernel
theorem dX1_bestExchange_65 : decode cX1_bestExchange 65 = .ok (.ifCond .eq 13, 3) := by decide +kernel
theorem dX1_bestExchange_68 : decode cX1_bestExchange 68 = .ok (.aload_n 0, 1) := by decide +kernel
theorem dX1_bestExchange_69 : decode cX1_bestExchange 69 = .ok (.iload_n 3, 1) := by decide +kernel
theorem dX1_bestExchange_70 : decode cX1_bestExchange 70 = .ok (.iload 4, 2) := by decide +kernel
theorem dX1_bestExchange_72 : decode cX1_bestExchange 72 = .ok (.invokevirtual 82, 3) := by decide +kernel
theorem dX1_bestExchange_75 : decode cX1_bestExchange 75 = .ok (.goto 4, 3) := by decide +kernel
theorem dX1_bestExchange_78 : decode cX1_bestExchange 78 = .ok (.iconst 0, 1) := by decide +kernel
theorem dX1_bestExchange_79 : decode cX1_bestExchange 79 = .ok (.istore 5, 2) := by decide +kernel
theorem dX1_bestExchange_81 : decode cX1_bestExchange 81 = .ok (.iload 5, 2) := by decide +kernel
theorem dX1_bestExchange_83 : decode cX1_bestExchange 83 = .ok (.iload_n 2, 1) := by decide +kernel
theorem dX1_bestExchange_84 : decode cX1_bestExchange 84 = .ok (.if_icmp .le 14, 3) := by decide +kernel
theorem dX1_bestExchange_87 : decode cX1_bestExchange 87 = .ok (.iload 5, 2) := by decide +kernel
theorem dX1_bestExchange_89 : decode cX1_bestExchange 89 = .ok (.istore_n 2, 1) := by decide +kernel
theorem dX1_bestExchange_90 : decode cX1_bestExchange 90 = .ok (.iload_n 3, 1) := by decide +kernel
theorem dX1_bestExchange_91 : decode cX1_bestExchange 91 = .ok (.bipush 6, 2) := by decide +kernel
theorem dX1_bestExchange_93 : decode cX1_bestExchange 93 = .ok (.imul, 1) := by decide +kernel
theorem dX1_bestExchange_94 : decode cX1_bestExchange 94 = .ok (.iload 4, 2) := by decide +kernel
theorem dX1_bestExchange_96 : decode cX1_bestExchange 96 = .ok (.iadd, 1) := by decide +kernel
theorem dX1_bestExchange_97 : decode cX1_bestExchange 97 = .ok (.istore_n 1, 1) := by decide +kernel
theorem dX1_bestExchange_98 : decode cX1_bestExchange 98 = .ok (.iinc 4 1, 3) := by decide +kernel
theorem dX1_bestExchange_101 : decode cX1_bestExchange 101 = .ok (.goto (-71), 3) := by decide +kernel
theorem dX1_bestExchange_104 : decode cX1_bestExchange 104 = .ok (.iinc 3 1, 3) := by decide +kernel
theorem dX1_bestExchange_107 : decode cX1_bestExchange 107 = .ok (.goto (-96), 3) := by decide +kernel
theorem dX1_bestExchange_110 : decode cX1_bestExchange 110 = .ok (.iload_n 1, 1) := by decide +kernel
theorem dX1_bestExchange_111 : decode cX1_bestExchange 111 = .ok (.ireturn, 1) := by decide +kernel
theorem wd_1162 : (Cond.code ⟨"WebCourt$Counsel", "bestExchange", "()I"⟩ prog_3_method_12_code (6 : Nat) (Option.some FieldType.int)) ∈ gtb := gtb_c5 93 (by decide +kernel) rfl
theorem wd_1163 : (Cond.methodLink "WebCourt$Counsel" (82 : Nat) ⟨"WebCourt$Counsel", "freeByExchange", "(II)I"⟩) ∈ gtb := gtb_c5 94 (by decide +kernel) rfl
theorem wd_1164 : (Cond.instanceMethod ⟨"WebCourt$Counsel", "freeByExchange", "(II)I"⟩) ∈ gtb := gtb_c5 95 (by decide +kernel) rfl
theorem wd_1165 : (Cond.selects "WebCourt$Counsel" ⟨"WebCourt$Counsel", "freeByExchange", "(II)I"⟩ ⟨"WebCourt$Counsel", "freeByExchange", "(II)I"⟩) ∈ gtb := gtb_c5 96 (by decide +kernel) rfl
theorem hd_yX1_freeByExchange : yX1_freeByExchange.cls = RX1 ∧ yX1_freeByExchange.cls ≠ "java/lang/invoke/MethodHandle" ∧ yX1_freeByExchange.cls ≠ "java/lang/invoke/VarHandle" ∧ (parseMethodDescriptor yX1_freeByExchange.desc).map (fun d => d.parameters.length) = some 2 := by decide +kernel
set_option maxHeartbeats 4000000 in
set_option maxRecDepth 100000 in
theorem T_X1_bestExchange (l : Launch) (D : va_G) (cy : Nat → ClassId) (a : Nat → Nat) (u : St) (hI_3_12 : fI u 3 12 = 0) (hR_0 : fR u 0 = a 3)   : Mi l D cy (cW cy a) yX1_bestExchange (.code yX1_bestExchange cX1_bestExchange 6 (some .int)) (rmo 1 25) [.ref (a 36)] u (fun (r : Int32) (u' : St) => (r = (-1)) ∧ (u' = u)) := by
  refine Mi.of (own := RX1) rfl (by decide) (Nat.le_of_ble_eq_true rfl) ?_
  intro p e s m below meth c A Q ls C hret hO hl
  obtain ⟨hx, hb, hml, hown, ht, hK, hA⟩ := id C
  have hl : lv_has ls 6 [(0, .ref (a 36))] := hl
  refine lv_iconst (v := (-1)) hx hb dX1_bestExchange_0 (by decide) ?_
  refine lv_istore_n (lv' := [(1, .int (-1)), (0, .ref (a 36))]) hx hb dX1_bestExchange_1 rfl hl (by decide) rfl (fun ls hl => ?_)
  refine lv_aload_n hx hb dX1_bestExchange_2 rfl (lv_at hl 1 rfl) ?_
  refine lv_iconst (v := 0) hx hb dX1_bestExchange_3 (by decide) ?_
  refine lv_iconst (v := 0) hx hb dX1_bestExchange_4 (by decide) ?_
  refine cVi (w := cW cy a) (As := [.int 0, .int 0]) (rest := []) C hO (T_X1_freeByExchange_00 l D cy a _ (by exact hI_3_12) (by exact hR_0)) (cwV 2 ht (gV wd_1163 wd_1164 wd_1165 wd_119 wd_1166) rfl rfl rfl hd_yX1_freeByExchange ⟨Nat.le_of_ble_eq_true rfl, Nat.le_of_ble_eq_true rfl⟩) 36 rfl cW_36 rfl rfl hl.1 (Nat.le_of_ble_eq_true rfl) dX1_bestExchange_5 rfl ⟨Nat.zero_le _, Nat.zero_le _⟩ (fun r1 u2 H locs hp3 hO => ?_)
  obtain ⟨hr1, hu2⟩ := hp3
  subst hr1
  rw [hu2] at hO
  refine lv_istore_n (lv' := [(2, .int 0), (1, .int (-1)), (0, .ref (a 36))]) hx hb dX1_bestExchange_8 rfl hl (by decide) rfl (fun ls hl => ?_)
  refine lv_iconst (v := 0) hx hb dX1_bestExchange_9 (by decide) ?_
  refine lv_istore_n (lv' := [(3, .int 0), (2, .int 0), (1, .int (-1)), (0, .ref (a 36))]) hx hb dX1_bestExchange_10 rfl hl (by decide) rfl (fun ls hl => ?_)
  refine lv_iload_n hx hb dX1_bestExchange_11 rfl (lv_at hl 0 rfl) ?_
  refine lv_aload_n hx hb dX1_bestExchange_12 rfl (lv_at hl 3 rfl) ?_
  refine gf_RX1_18 (v := .ref (a 28)) C hO 36 cW_36 rfl dX1_bestExchange_13 ?_
  refine gf_RX1_34 (v := .ref (a 3)) C hO 28 cW_28 (congrArg (fun z : Nat => some (Value.ref z)) hR_0) dX1_bestExchange_16 ?_
  refine gf_RX1_44 (v := .int 0) C hO 3 cW_3 (congrArg (fun z : Int32 => some (Value.int z)) hI_3_12) dX1_bestExchange_19 ?_
  refine ct_ge (tgt := 110) (X := 0) (Y := 0) hx hb dX1_bestExchange_22 (by decide) rfl rfl (by omega) ?_
  refine lv_iload_n hx hb dX1_bestExchange_110 rfl (lv_at hl 2 rfl) ?_
  refine hret _ _ _ _ _ _ dX1_bestExchange_111 rfl ?_ hO
  exact ⟨rfl, rfl⟩
theorem dX10_swap_0 : decode cX10_swap 0 = .ok (.aload_n 0, 1) := by decide +kernel
theorem dX10_swap_1 : decode cX10_swap 1 = .ok (.getfield 69, 3) := by decide +kernel
theorem dX10_swap_4 : decode cX10_swap 4 = .ok (.invokevirtual 264, 3) := by decide +kernel
theorem dX10_swap_7 : decode cX10_swap 7 = .ok (.istore_n 2, 1) := by decide +kernel
theorem dX10_swap_8 : decode cX10_swap 8 = .ok (.iload_n 2, 1) := by decide +kernel
theorem dX10_swap_9 : decode cX10_swap 9 = .ok (.iconst (-1), 1) := by decide +kernel
theorem dX10_swap_10 : decode cX10_swap 10 = .ok (.if_icmp .eq 8, 3) := by decide +kernel
theorem dX10_swap_13 : decode cX10_swap 13 = .ok (.iload_n 1, 1) := by decide +kernel
theorem dX10_swap_14 : decode cX10_swap 14 = .ok (.iconst 2, 1) := by decide +kernel
theorem dX10_swap_15 : decode cX10_swap 15 = .ok (.if_icmp .eq 9, 3) := by decide +kernel
theorem dX10_swap_18 : decode cX10_swap 18 = .ok (.iload_n 2, 1) := by decide +kernel
theorem dX10_swap_19 : decode cX10_swap 19 = .ok (.iload_n 1, 1) := by decide +kernel
theorem dX10_swap_20 : decode cX10_swap 20 = .ok (.invokestatic 242, 3) := by decide +kernel
theorem dX10_swap_23 : decode cX10_swap 23 = .ok (.ireturn, 1) := by decide +kernel
theorem dX10_swap_24 : decode cX10_swap 24 = .ok (.aload_n 0, 1) := by decide +kernel
theorem dX10_swap_25 : decode cX10_swap 25 = .ok (.getfield 69, 3) := by decide +kernel
theorem dX10_swap_28 : decode cX10_swap 28 = .ok (.iload_n 2, 1) := by decide +kernel
theorem dX10_swap_29 : decode cX10_swap 29 = .ok (.bipush 6, 2) := by decide +kernel
theorem dX10_swap_31 : decode cX10_swap 31 = .ok (.idiv, 1) := by decide +kernel
theorem dX10_swap_32 : decode cX10_swap 32 = .ok (.iload_n 2, 1) := by decide +kernel
theorem dX10_swap_33 : decode cX10_swap 33 = .ok (.bipush 6, 2) := by decide +kernel
theorem dX10_swap_35 : decode cX10_swap 35 = .ok (.irem, 1) := by decide +kernel
theorem dX10_swap_36 : decode cX10_swap 36 = .ok (.invokevirtual 267, 3) := by decide +kernel
theorem dX10_swap_39 : decode cX10_swap 39 = .ok (.ireturn, 1) := by decide +kernel
theorem wd_1158 : (Cond.code ⟨"WebCourt", "swap", "(I)I"⟩ prog_1_method_32_code (3 : Nat) (Option.some FieldType.int)) ∈ gtb := gtb_c5 89 (by decide +kernel) rfl
theorem wd_1159 : (Cond.methodLink "WebCourt" (264 : Nat) ⟨"WebCourt$Counsel", "bestExchange", "()I"⟩) ∈ gtb := gtb_c5 90 (by decide +kernel) rfl
theorem wd_1160 : (Cond.instanceMethod ⟨"WebCourt$Counsel", "bestExchange", "()I"⟩) ∈ gtb := gtb_c5 91 (by decide +kernel) rfl
theorem wd_1161 : (Cond.selects "WebCourt$Counsel" ⟨"WebCourt$Counsel", "bestExchange", "()I"⟩ ⟨"WebCourt$Counsel", "bestExchange", "()I"⟩) ∈ gtb := gtb_c5 92 (by decide +kernel) rfl
theorem hd_yX1_bestExchange : yX1_bestExchange.cls = RX1 ∧ yX1_bestExchange.cls ≠ "java/lang/invoke/MethodHandle" ∧ yX1_bestExchange.cls ≠ "java/lang/invoke/VarHandle" ∧ (parseMethodDescriptor yX1_bestExchange.desc).map (fun d => d.parameters.length) = some 0 := by decide +kernel
set_option maxHeartbeats 4000000 in
set_option maxRecDepth 100000 in
theorem T_X10_swap (l : Launch) (D : va_G) (cy : Nat → ClassId) (a : Nat → Nat) (u : St) (hI_3_12 : fI u 3 12 = 0) (hR_0 : fR u 0 = a 3) (x1 : Int32)  : Mi l D cy (cW cy a) yX10_swap (.code yX10_swap cX10_swap 3 (some .int)) (rmo 2 50) [.ref (a 0), .int x1] u (fun (r : Int32) (u' : St) => (r = (-1)) ∧ (u' = u)) := by
  refine Mi.of (own := RX10) rfl (by decide) (Nat.le_of_ble_eq_true rfl) ?_
  intro p e s m below meth c A Q ls C hret hO hl
  obtain ⟨hx, hb, hml, hown, ht, hK, hA⟩ := id C
  have hl : lv_has ls 3 [(0, .ref (a 0)), (1, .int x1)] := hl
  refine lv_aload_n hx hb dX10_swap_0 rfl (lv_at hl 0 rfl) ?_
  refine gf_RX10_69 (v := .ref (a 36)) C hO 0 cW_0 rfl dX10_swap_1 ?_
  refine cVi (w := cW cy a) (As := []) (rest := []) C hO (T_X1_bestExchange l D cy a _ (by exact hI_3_12) (by exact hR_0)) (cwV 0 ht (gV wd_1159 wd_1160 wd_1161 wd_119 wd_1162) rfl rfl rfl hd_yX1_bestExchange ⟨Nat.le_of_ble_eq_true rfl, Nat.le_of_ble_eq_true rfl⟩) 36 rfl cW_36 rfl rfl hl.1 (Nat.le_of_ble_eq_true rfl) dX10_swap_4 rfl ⟨Nat.zero_le _, Nat.zero_le _⟩ (fun r1 u2 H locs hp3 hO => ?_)
  obtain ⟨hr1, hu2⟩ := hp3
  subst hr1
  rw [hu2] at hO
  refine lv_istore_n (lv' := [(2, .int (-1)), (0, .ref (a 0)), (1, .int x1)]) hx hb dX10_swap_7 rfl hl (by decide) rfl (fun ls hl => ?_)
  refine lv_iload_n hx hb dX10_swap_8 rfl (lv_at hl 0 rfl) ?_
  refine lv_iconst (v := (-1)) hx hb dX10_swap_9 (by decide) ?_
  refine ct_eq (tgt := 18) (X := (-1)) (Y := (-1)) hx hb dX10_swap_10 (by decide) rfl rfl (by omega) ?_
  refine lv_iload_n hx hb dX10_swap_18 rfl (lv_at hl 0 rfl) ?_
  refine lv_iload_n hx hb dX10_swap_19 rfl (lv_at hl 2 rfl) ?_
  refine cSi (w := cW cy a) (As := [.int (-1), .int x1]) (rest := []) C hO (T_X10_memberOf_m1 l D cy a _ (x1)) (va_cwS 2 ht (gSS wd_1100 wd_1101 wd_110 wd_1102) rfl rfl rfl hd_yX10_memberOf ⟨Nat.le_of_ble_eq_true rfl, Nat.le_of_ble_eq_true rfl⟩)  rfl hl.1 (Nat.le_of_ble_eq_true rfl) dX10_swap_20 rfl ⟨Nat.zero_le _, Nat.zero_le _⟩ (fun r4 u5 H locs hp6 hO => ?_)
  obtain ⟨hr4, hu5⟩ := hp6
  subst hr4
  rw [hu5] at hO
  refine hret _ _ _ _ _ _ dX10_swap_23 rfl ?_ hO
  exact ⟨rfl, rfl⟩
theorem dX10_advice_0 : decode cX10_advice 0 = .ok (.aload_n 0, 1) := by decide +kernel
theorem dX10_advice_1 : decode cX10_advice 1 = .ok (.getfield 37, 3) := by decide +kernel
theorem dX10_advice_4 : decode cX10_advice 4 = .ok (.iload_n 1, 1) := by decide +kernel
theorem dX10_advice_5 : decode cX10_advice 5 = .ok (.invokevirtual 189, 3) := by decide +kernel
theorem dX10_advice_8 : decode cX10_advice 8 = .ok (.ifCond .eq 12, 3) := by decide +kernel
theorem dX10_advice_11 : decode cX10_advice 11 = .ok (.iload_n 2, 1) := by decide +kernel
theorem dX10_advice_12 : decode cX10_advice 12 = .ok (.ifCond .lt 8, 3) := by decide +kernel
theorem dX10_advice_15 : decode cX10_advice 15 = .ok (.iload_n 2, 1) := by decide +kernel
theorem dX10_advice_16 : decode cX10_advice 16 = .ok (.iconst 1, 1) := by decide +kernel
theorem dX10_advice_17 : decode cX10_advice 17 = .ok (.if_icmp .le 6, 3) := by decide +kernel
theorem dX10_advice_20 : decode cX10_advice 20 = .ok (.ldc 159, 2) := by decide +kernel
theorem dX10_advice_22 : decode cX10_advice 22 = .ok (.ireturn, 1) := by decide +kernel
theorem dX10_advice_23 : decode cX10_advice 23 = .ok (.aload_n 0, 1) := by decide +kernel
theorem dX10_advice_24 : decode cX10_advice 24 = .ok (.getfield 69, 3) := by decide +kernel
theorem dX10_advice_27 : decode cX10_advice 27 = .ok (.iload_n 1, 1) := by decide +kernel
theorem dX10_advice_28 : decode cX10_advice 28 = .ok (.invokevirtual 270, 3) := by decide +kernel
theorem dX10_advice_31 : decode cX10_advice 31 = .ok (.istore_n 3, 1) := by decide +kernel
theorem dX10_advice_32 : decode cX10_advice 32 = .ok (.iload_n 3, 1) := by decide +kernel
theorem dX10_advice_33 : decode cX10_advice 33 = .ok (.iconst (-1), 1) := by decide +kernel
theorem dX10_advice_34 : decode cX10_advice 34 = .ok (.if_icmp .ne 6, 3) := by decide +kernel
theorem dX10_advice_37 : decode cX10_advice 37 = .ok (.ldc 159, 2) := by decide +kernel
theorem dX10_advice_39 : decode cX10_advice 39 = .ok (.ireturn, 1) := by decide +kernel
theorem dX10_advice_40 : decode cX10_advice 40 = .ok (.iload_n 2, 1) := by decide +kernel
theorem dX10_advice_41 : decode cX10_advice 41 = .ok (.ifCond .ne 7, 3) := by decide +kernel
theorem dX10_advice_44 : decode cX10_advice 44 = .ok (.iload_n 3, 1) := by decide +kernel
theorem dX10_advice_45 : decode cX10_advice 45 = .ok (.goto 27, 3) := by decide +kernel
theorem dX10_advice_48 : decode cX10_advice 48 = .ok (.aload_n 0, 1) := by decide +kernel
theorem dX10_advice_49 : decode cX10_advice 49 = .ok (.getfield 37, 3) := by decide +kernel
theorem dX10_advice_52 : decode cX10_advice 52 = .ok (.iload_n 1, 1) := by decide +kernel
theorem dX10_advice_53 : decode cX10_advice 53 = .ok (.aload_n 0, 1) := by decide +kernel
theorem dX10_advice_54 : decode cX10_advice 54 = .ok (.getfield 37, 3) := by decide +kernel
theorem dX10_advice_57 : decode cX10_advice 57 = .ok (.getfield 150, 3) := by decide +kernel
theorem dX10_advice_60 : decode cX10_advice 60 = .ok (.bipush 11, 2) := by decide +kernel
theorem dX10_advice_62 : decode cX10_advice 62 = .ok (.iload_n 1, 1) := by decide +kernel
theorem dX10_advice_63 : decode cX10_advice 63 = .ok (.iadd, 1) := by decide +kernel
theorem dX10_advice_64 : decode cX10_advice 64 = .ok (.iaload, 1) := by decide +kernel
theorem dX10_advice_65 : decode cX10_advice 65 = .ok (.iconst 1, 1) := by decide +kernel
theorem dX10_advice_66 : decode cX10_advice 66 = .ok (.iload_n 3, 1) := by decide +kernel
theorem dX10_advice_67 : decode cX10_advice 67 = .ok (.ishl, 1) := by decide +kernel
theorem dX10_advice_68 : decode cX10_advice 68 = .ok (.ior, 1) := by decide +kernel
theorem dX10_advice_69 : decode cX10_advice 69 = .ok (.invokevirtual 273, 3) := by decide +kernel
theorem dX10_advice_72 : decode cX10_advice 72 = .ok (.ireturn, 1) := by decide +kernel
theorem wd_1171 : (Cond.code ⟨"WebCourt", "advice", "(II)I"⟩ prog_1_method_33_code (4 : Nat) (Option.some FieldType.int)) ∈ gtb := gtb_c5 102 (by decide +kernel) rfl
set_option maxHeartbeats 4000000 in
set_option maxRecDepth 100000 in
theorem T_X10_advice (l : Launch) (D : va_G) (cy : Nat → ClassId) (a : Nat → Nat) (u : St) (hI_3_12 : fI u 3 12 = 0) (hR_0 : fR u 0 = a 3) (x1 : Int32) (x2 : Int32)  : Mi l D cy (cW cy a) yX10_advice (.code yX10_advice cX10_advice 4 (some .int)) (rmo 2 42) [.ref (a 0), .int x1, .int x2] u (fun (r : Int32) (u' : St) => (r = (-1000000000)) ∧ (u' = u)) := by
  refine Mi.of (own := RX10) rfl (by decide) (Nat.le_of_ble_eq_true rfl) ?_
  intro p e s m below meth c A Q ls C hret hO hl
  obtain ⟨hx, hb, hml, hown, ht, hK, hA⟩ := id C
  have hl : lv_has ls 4 [(0, .ref (a 0)), (1, .int x1), (2, .int x2)] := hl
  refine lv_aload_n hx hb dX10_advice_0 rfl (lv_at hl 0 rfl) ?_
  refine gf_RX10_37 (v := .ref (a 28)) C hO 0 cW_0 rfl dX10_advice_1 ?_
  refine lv_iload_n hx hb dX10_advice_4 rfl (lv_at hl 1 rfl) ?_
  refine cVi (w := cW cy a) (As := [.int x1]) (rest := []) C hO (T_X2_isHeld l D cy a _ (by exact hI_3_12) (by exact hR_0) (x1)) (cwV 1 ht (gV wd_961 wd_930 wd_931 wd_115 wd_932) rfl rfl rfl hd_yX2_isHeld ⟨Nat.le_of_ble_eq_true rfl, Nat.le_of_ble_eq_true rfl⟩) 28 rfl cW_28 rfl rfl hl.1 (Nat.le_of_ble_eq_true rfl) dX10_advice_5 rfl ⟨Nat.zero_le _, Nat.zero_le _⟩ (fun r1 u2 H locs hp3 hO => ?_)
  obtain ⟨hr1, hu2⟩ := hp3
  subst hr1
  rw [hu2] at hO
  refine bt_eq (tgt := 20) (X := 0) hx hb dX10_advice_8 (by decide) rfl (by omega) ?_
  refine lv_ldc (v := (-1000000000)) hx hb hown (ht _ wd_895) dX10_advice_20 ?_
  refine hret _ _ _ _ _ _ dX10_advice_22 rfl ?_ hO
  exact ⟨rfl, rfl⟩
theorem dX1_freeNow_0 : decode cX1_freeNow 0 = .ok (.iconst 0, 1) := by decide +kernel
theorem dX1_freeNow_1 : decode cX1_freeNow 1 = .ok (.istore_n 1, 1) := by decide +kernel
theorem dX1_freeNow_2 : decode cX1_freeNow 2 = .ok (.iconst 0, 1) := by decide +kernel
theorem dX1_freeNow_3 : decode cX1_freeNow 3 = .ok (.istore_n 2, 1) := by decide +kernel
theorem dX1_freeNow_4 : decode cX1_freeNow 4 = .ok (.iload_n 2, 1) := by decide +kernel
theorem dX1_freeNow_5 : decode cX1_freeNow 5 = .ok (.aload_n 0, 1) := by decide +kernel
theorem dX1_freeNow_6 : decode cX1_freeNow 6 = .ok (.getfield 18, 3) := by decide +kernel
theorem dX1_freeNow_9 : decode cX1_freeNow 9 = .ok (.getfield 34, 3) := by decide +kernel
theorem dX1_freeNow_12 : decode cX1_freeNow 12 = .ok (.getfield 44, 3) := by decide +kernel
theorem dX1_freeNow_15 : decode cX1_freeNow 15 = .ok (.if_icmp .ge 37, 3) := by decide +kernel
theorem dX1_freeNow_18 : decode cX1_freeNow 18 = .ok (.aload_n 0, 1) := by decide +kernel
theorem dX1_freeNow_19 : decode cX1_freeNow 19 = .ok (.getfield 18, 3) := by decide +kernel
theorem dX1_freeNow_22 : decode cX1_freeNow 22 = .ok (.iload_n 2, 1) := by decide +kernel
theorem dX1_freeNow_23 : decode cX1_freeNow 23 = .ok (.invokevirtual 47, 3) := by decide +kernel
theorem dX1_freeNow_26 : decode cX1_freeNow 26 = .ok (.ifCond .eq 20, 3) := by decide +kernel
theorem dX1_freeNow_29 : decode cX1_freeNow 29 = .ok (.aload_n 0, 1) := by decide +kernel
theorem dX1_freeNow_30 : decode cX1_freeNow 30 = .ok (.getfield 18, 3) := by decide +kernel
theorem dX1_freeNow_33 : decode cX1_freeNow 33 = .ok (.iload_n 2, 1) := by decide +kernel
theorem dX1_freeNow_34 : decode cX1_freeNow 34 = .ok (.invokevirtual 69, 3) := by decide +kernel
theorem dX1_freeNow_37 : decode cX1_freeNow 37 = .ok (.ifCond .le 9, 3) := by decide +kernel
theorem dX1_freeNow_40 : decode cX1_freeNow 40 = .ok (.iload_n 1, 1) := by decide +kernel
theorem dX1_freeNow_41 : decode cX1_freeNow 41 = .ok (.iconst 1, 1) := by decide +kernel
theorem dX1_freeNow_42 : decode cX1_freeNow 42 = .ok (.iload_n 2, 1) := by decide +kernel
theorem dX1_freeNow_43 : decode cX1_freeNow 43 = .ok (.ishl, 1) := by decide +kernel
theorem dX1_freeNow_44 : decode cX1_freeNow 44 = .ok (.ior, 1) := by decide +kernel
theorem dX1_freeNow_45 : decode cX1_freeNow 45 = .ok (.istore_n 1, 1) := by decide +kernel
theorem dX1_freeNow_46 : decode cX1_freeNow 46 = .ok (.iinc 2 1, 3) := by decide +kernel
theorem dX1_freeNow_49 : decode cX1_freeNow 49 = .ok (.goto (-45), 3) := by decide +kernel
theorem dX1_freeNow_52 : decode cX1_freeNow 52 = .ok (.iload_n 1, 1) := by decide +kernel
theorem dX1_freeNow_53 : decode cX1_freeNow 53 = .ok (.ireturn, 1) := by decide +kernel
theorem wd_1184 : (Cond.code ⟨"WebCourt$Counsel", "freeNow", "()I"⟩ prog_3_method_14_code (3 : Nat) (Option.some FieldType.int)) ∈ gtb := gtb_c5 115 (by decide +kernel) rfl
set_option maxHeartbeats 4000000 in
set_option maxRecDepth 100000 in
theorem T_X1_freeNow (l : Launch) (D : va_G) (cy : Nat → ClassId) (a : Nat → Nat) (u : St) (hI_3_12 : fI u 3 12 = 0) (hR_0 : fR u 0 = a 3)   : Mi l D cy (cW cy a) yX1_freeNow (.code yX1_freeNow cX1_freeNow 3 (some .int)) (rmo 0 0) [.ref (a 36)] u (fun (r : Int32) (u' : St) => (r = 0) ∧ (u' = u)) := by
  refine Mi.of (own := RX1) rfl (by decide) (Nat.le_of_ble_eq_true rfl) ?_
  intro p e s m below meth c A Q ls C hret hO hl
  obtain ⟨hx, hb, hml, hown, ht, hK, hA⟩ := id C
  have hl : lv_has ls 3 [(0, .ref (a 36))] := hl
  refine lv_iconst (v := 0) hx hb dX1_freeNow_0 (by decide) ?_
  refine lv_istore_n (lv' := [(1, .int 0), (0, .ref (a 36))]) hx hb dX1_freeNow_1 rfl hl (by decide) rfl (fun ls hl => ?_)
  refine lv_iconst (v := 0) hx hb dX1_freeNow_2 (by decide) ?_
  refine lv_istore_n (lv' := [(2, .int 0), (1, .int 0), (0, .ref (a 36))]) hx hb dX1_freeNow_3 rfl hl (by decide) rfl (fun ls hl => ?_)
  refine lv_iload_n hx hb dX1_freeNow_4 rfl (lv_at hl 0 rfl) ?_
  refine lv_aload_n hx hb dX1_freeNow_5 rfl (lv_at hl 2 rfl) ?_
  refine gf_RX1_18 (v := .ref (a 28)) C hO 36 cW_36 rfl dX1_freeNow_6 ?_
  refine gf_RX1_34 (v := .ref (a 3)) C hO 28 cW_28 (congrArg (fun z : Nat => some (Value.ref z)) hR_0) dX1_freeNow_9 ?_
  refine gf_RX1_44 (v := .int 0) C hO 3 cW_3 (congrArg (fun z : Int32 => some (Value.int z)) hI_3_12) dX1_freeNow_12 ?_
  refine ct_ge (tgt := 52) (X := 0) (Y := 0) hx hb dX1_freeNow_15 (by decide) rfl rfl (by omega) ?_
  refine lv_iload_n hx hb dX1_freeNow_52 rfl (lv_at hl 1 rfl) ?_
  refine hret _ _ _ _ _ _ dX1_freeNow_53 rfl ?_ hO
  exact ⟨rfl, rfl⟩
theorem dX10_free_0 : decode cX10_free 0 = .ok (.aload_n 0, 1) := by decide +kernel
theorem dX10_free_1 : decode cX10_free 1 = .ok (.getfield 69, 3) := by decide +kernel
theorem dX10_free_4 : decode cX10_free 4 = .ok (.invokevirtual 276, 3) := by decide +kernel
theorem dX10_free_7 : decode cX10_free 7 = .ok (.ireturn, 1) := by decide +kernel
theorem wd_1180 : (Cond.code ⟨"WebCourt", "free", "()I"⟩ prog_1_method_34_code (1 : Nat) (Option.some FieldType.int)) ∈ gtb := gtb_c5 111 (by decide +kernel) rfl
theorem wd_1181 : (Cond.methodLink "WebCourt" (276 : Nat) ⟨"WebCourt$Counsel", "freeNow", "()I"⟩) ∈ gtb := gtb_c5 112 (by decide +kernel) rfl
theorem wd_1182 : (Cond.instanceMethod ⟨"WebCourt$Counsel", "freeNow", "()I"⟩) ∈ gtb := gtb_c5 113 (by decide +kernel) rfl
theorem wd_1183 : (Cond.selects "WebCourt$Counsel" ⟨"WebCourt$Counsel", "freeNow", "()I"⟩ ⟨"WebCourt$Counsel", "freeNow", "()I"⟩) ∈ gtb := gtb_c5 114 (by decide +kernel) rfl
theorem hd_yX1_freeNow : yX1_freeNow.cls = RX1 ∧ yX1_freeNow.cls ≠ "java/lang/invoke/MethodHandle" ∧ yX1_freeNow.cls ≠ "java/lang/invoke/VarHandle" ∧ (parseMethodDescriptor yX1_freeNow.desc).map (fun d => d.parameters.length) = some 0 := by decide +kernel
set_option maxHeartbeats 4000000 in
set_option maxRecDepth 100000 in
theorem T_X10_free (l : Launch) (D : va_G) (cy : Nat → ClassId) (a : Nat → Nat) (u : St) (hI_3_12 : fI u 3 12 = 0) (hR_0 : fR u 0 = a 3)   : Mi l D cy (cW cy a) yX10_free (.code yX10_free cX10_free 1 (some .int)) (rmo 1 22) [.ref (a 0)] u (fun (r : Int32) (u' : St) => (r = 0) ∧ (u' = u)) := by
  refine Mi.of (own := RX10) rfl (by decide) (Nat.le_of_ble_eq_true rfl) ?_
  intro p e s m below meth c A Q ls C hret hO hl
  obtain ⟨hx, hb, hml, hown, ht, hK, hA⟩ := id C
  have hl : lv_has ls 1 [(0, .ref (a 0))] := hl
  refine lv_aload_n hx hb dX10_free_0 rfl (lv_at hl 0 rfl) ?_
  refine gf_RX10_69 (v := .ref (a 36)) C hO 0 cW_0 rfl dX10_free_1 ?_
  refine cVi (w := cW cy a) (As := []) (rest := []) C hO (T_X1_freeNow l D cy a _ (by exact hI_3_12) (by exact hR_0)) (cwV 0 ht (gV wd_1181 wd_1182 wd_1183 wd_119 wd_1184) rfl rfl rfl hd_yX1_freeNow ⟨Nat.le_of_ble_eq_true rfl, Nat.le_of_ble_eq_true rfl⟩) 36 rfl cW_36 rfl rfl hl.1 (Nat.le_of_ble_eq_true rfl) dX10_free_4 rfl ⟨Nat.zero_le _, Nat.zero_le _⟩ (fun r1 u2 H locs hp3 hO => ?_)
  obtain ⟨hr1, hu2⟩ := hp3
  subst hr1
  rw [hu2] at hO
  refine hret _ _ _ _ _ _ dX10_free_7 rfl ?_ hO
  exact ⟨rfl, rfl⟩
theorem dX8_reached_0 : decode cX8_reached 0 = .ok (.aload_n 0, 1) := by decide +kernel
theorem dX8_reached_1 : decode cX8_reached 1 = .ok (.getfield 15, 3) := by decide +kernel
theorem dX8_reached_4 : decode cX8_reached 4 = .ok (.getfield 33, 3) := by decide +kernel
theorem dX8_reached_7 : decode cX8_reached 7 = .ok (.iconst 0, 1) := by decide +kernel
theorem dX8_reached_8 : decode cX8_reached 8 = .ok (.iaload, 1) := by decide +kernel
theorem dX8_reached_9 : decode cX8_reached 9 = .ok (.iconst (-1), 1) := by decide +kernel
theorem dX8_reached_10 : decode cX8_reached 10 = .ok (.if_icmp .ne 7, 3) := by decide +kernel
theorem dX8_reached_13 : decode cX8_reached 13 = .ok (.iconst 0, 1) := by decide +kernel
theorem dX8_reached_14 : decode cX8_reached 14 = .ok (.goto 14, 3) := by decide +kernel
theorem dX8_reached_17 : decode cX8_reached 17 = .ok (.iconst 1, 1) := by decide +kernel
theorem dX8_reached_18 : decode cX8_reached 18 = .ok (.aload_n 0, 1) := by decide +kernel
theorem dX8_reached_19 : decode cX8_reached 19 = .ok (.getfield 15, 3) := by decide +kernel
theorem dX8_reached_22 : decode cX8_reached 22 = .ok (.getfield 33, 3) := by decide +kernel
theorem dX8_reached_25 : decode cX8_reached 25 = .ok (.iconst 0, 1) := by decide +kernel
theorem dX8_reached_26 : decode cX8_reached 26 = .ok (.iaload, 1) := by decide +kernel
theorem dX8_reached_27 : decode cX8_reached 27 = .ok (.ishl, 1) := by decide +kernel
theorem dX8_reached_28 : decode cX8_reached 28 = .ok (.istore_n 2, 1) := by decide +kernel
theorem dX8_reached_29 : decode cX8_reached 29 = .ok (.iconst 0, 1) := by decide +kernel
theorem dX8_reached_30 : decode cX8_reached 30 = .ok (.istore_n 3, 1) := by decide +kernel
theorem dX8_reached_31 : decode cX8_reached 31 = .ok (.iload_n 3, 1) := by decide +kernel
theorem dX8_reached_32 : decode cX8_reached 32 = .ok (.bipush 8, 2) := by decide +kernel
theorem dX8_reached_34 : decode cX8_reached 34 = .ok (.if_icmp .ge 87, 3) := by decide +kernel
theorem dX8_reached_37 : decode cX8_reached 37 = .ok (.iconst 0, 1) := by decide +kernel
theorem dX8_reached_38 : decode cX8_reached 38 = .ok (.istore 4, 2) := by decide +kernel
theorem dX8_reached_40 : decode cX8_reached 40 = .ok (.iload 4, 2) := by decide +kernel
theorem dX8_reached_42 : decode cX8_reached 42 = .ok (.aload_n 0, 1) := by decide +kernel
theorem dX8_reached_43 : decode cX8_reached 43 = .ok (.getfield 15, 3) := by decide +kernel
theorem dX8_reached_46 : decode cX8_reached 46 = .ok (.getfield 44, 3) := by decide +kernel
theorem dX8_reached_49 : decode cX8_reached 49 = .ok (.getfield 54, 3) := by decide +kernel
theorem dX8_reached_52 : decode cX8_reached 52 = .ok (.if_icmp .ge 63, 3) := by decide +kernel
theorem dX8_reached_55 : decode cX8_reached 55 = .ok (.iconst 1, 1) := by decide +kernel
theorem dX8_reached_56 : decode cX8_reached 56 = .ok (.aload_n 0, 1) := by decide +kernel
theorem dX8_reached_57 : decode cX8_reached 57 = .ok (.getfield 15, 3) := by decide +kernel
theorem dX8_reached_60 : decode cX8_reached 60 = .ok (.getfield 44, 3) := by decide +kernel
theorem dX8_reached_63 : decode cX8_reached 63 = .ok (.getfield 57, 3) := by decide +kernel
theorem dX8_reached_66 : decode cX8_reached 66 = .ok (.iload 4, 2) := by decide +kernel
theorem dX8_reached_68 : decode cX8_reached 68 = .ok (.iaload, 1) := by decide +kernel
theorem dX8_reached_69 : decode cX8_reached 69 = .ok (.ishl, 1) := by decide +kernel
theorem dX8_reached_70 : decode cX8_reached 70 = .ok (.iconst 1, 1) := by decide +kernel
theorem dX8_reached_71 : decode cX8_reached 71 = .ok (.aload_n 0, 1) := by decide +kernel
theorem dX8_reached_72 : decode cX8_reached 72 = .ok (.getfield 15, 3) := by decide +kernel
theorem dX8_reached_75 : decode cX8_reached 75 = .ok (.getfield 44, 3) := by decide +kernel
theorem dX8_reached_78 : decode cX8_reached 78 = .ok (.getfield 60, 3) := by decide +kernel
theorem dX8_reached_81 : decode cX8_reached 81 = .ok (.iload 4, 2) := by decide +kernel
theorem dX8_reached_83 : decode cX8_reached 83 = .ok (.iaload, 1) := by decide +kernel
theorem dX8_reached_84 : decode cX8_reached 84 = .ok (.ishl, 1) := by decide +kernel
theorem dX8_reached_85 : decode cX8_reached 85 = .ok (.ior, 1) := by decide +kernel
theorem dX8_reached_86 : decode cX8_reached 86 = .ok (.istore 5, 2) := by decide +kernel
theorem dX8_reached_88 : decode cX8_reached 88 = .ok (.iload_n 1, 1) := by decide +kernel
theorem dX8_reached_89 : decode cX8_reached 89 = .ok (.iload 4, 2) := by decide +kernel
theorem dX8_reached_91 : decode cX8_reached 91 = .ok (.ishr, 1) := by decide +kernel
theorem dX8_reached_92 : decode cX8_reached 92 = .ok (.iconst 1, 1) := by decide +kernel
theorem dX8_reached_93 : decode cX8_reached 93 = .ok (.iand, 1) := by decide +kernel
theorem dX8_reached_94 : decode cX8_reached 94 = .ok (.ifCond .ne 15, 3) := by decide +kernel
theorem dX8_reached_97 : decode cX8_reached 97 = .ok (.iload_n 2, 1) := by decide +kernel
theorem dX8_reached_98 : decode cX8_reached 98 = .ok (.iload 5, 2) := by decide +kernel
theorem dX8_reached_100 : decode cX8_reached 100 = .ok (.iand, 1) := by decide +kernel
theorem dX8_reached_101 : decode cX8_reached 101 = .ok (.ifCond .eq 8, 3) := by decide +kernel
theorem dX8_reached_104 : decode cX8_reached 104 = .ok (.iload_n 2, 1) := by decide +kernel
theorem dX8_reached_105 : decode cX8_reached 105 = .ok (.iload 5, 2) := by decide +kernel
theorem dX8_reached_107 : decode cX8_reached 107 = .ok (.ior, 1) := by decide +kernel
theorem dX8_reached_108 : decode cX8_reached 108 = .ok (.istore_n 2, 1) := by decide +kernel
theorem dX8_reached_109 : decode cX8_reached 109 = .ok (.iinc 4 1, 3) := by decide +kernel
theorem dX8_reached_112 : decode cX8_reached 112 = .ok (.goto (-72), 3) := by decide +kernel
theorem dX8_reached_115 : decode cX8_reached 115 = .ok (.iinc 3 1, 3) := by decide +kernel
theorem dX8_reached_118 : decode cX8_reached 118 = .ok (.goto (-87), 3) := by decide +kernel
theorem dX8_reached_121 : decode cX8_reached 121 = .ok (.iload_n 2, 1) := by decide +kernel
theorem dX8_reached_122 : decode cX8_reached 122 = .ok (.ireturn, 1) := by decide +kernel
theorem wd_1139 : (Cond.code ⟨"WebCourt$Ways", "reached", "(I)I"⟩ prog_10_method_7_code (6 : Nat) (Option.some FieldType.int)) ∈ gtb := gtb_c5 70 (by decide +kernel) rfl
theorem wd_355 : (Cond.fieldLink "WebCourt$Ways" (33 : Nat) "WebCourt$Court" "row" "[I") ∈ gtb := gtb_c2 6 (by decide +kernel) rfl
theorem gf_RX8_33 {p : Program} {l : Launch} {e : Env} {R : Room} {s : State} {m : MethodId} {args : Array Value} {below : List Frame} {meth : Method} {c : Code} {H : Heap} {locs : List Loc} {cells slots : Nat} {Q : State → Prop} {cc : ByteArray} {pc nL : Nat} {ls : Array Slot} {rest : List Value} {D : va_G} {cy : Nat → ClassId} {A : Nat → Prop} {ws : va_W} {b : Nat} {fs : List Value} {v : Value} (C : Cx p s m args c cc nL RX8 D cy A) (hO : Wo D A ws s.heap H locs) (q0 : Nat) (he : ws[q0]? = some (b, .inr (2, fs))) (hv : fs[0]? = some v) (hdg : decode cc pc = .ok (.getfield 33, 3)) (kk : W p l e R s m args below meth c H locs cells slots Q (F0 m (pc + 3) ls (v :: rest))) : W p l e R s m args below meth c H locs cells slots Q (F0 m pc ls (.ref b :: rest)) := gF (k := 0) C hO q0 he rfl inFX2 (by decide) wd_355 rfl hv hdg kk
set_option maxHeartbeats 4000000 in
set_option maxRecDepth 100000 in
theorem T_X8_reached_0 (l : Launch) (D : va_G) (cy : Nat → ClassId) (a : Nat → Nat) (u : St) (hA_29_0 : fA u 29 0 = (-1)) (hI_3_10 : fI u 3 10 = 0) (hR_0 : fR u 0 = a 3)   : Mi l D cy (cW cy a) yX8_reached (.code yX8_reached cX8_reached 6 (some .int)) (rmo 0 0) [.ref (a 32), .int 0] u (fun (r : Int32) (u' : St) => (r = 0) ∧ (u' = u)) := by
  refine Mi.of (own := RX8) rfl (by decide) (Nat.le_of_ble_eq_true rfl) ?_
  intro p e s m below meth c A Q ls C hret hO hl
  obtain ⟨hx, hb, hml, hown, ht, hK, hA⟩ := id C
  have hl : lv_has ls 6 [(0, .ref (a 32)), (1, .int 0)] := hl
  refine lv_aload_n hx hb dX8_reached_0 rfl (lv_at hl 0 rfl) ?_
  refine gf_RX8_15 (v := .ref (a 28)) C hO 32 cW_32 rfl dX8_reached_1 ?_
  refine gf_RX8_33 (v := .ref (a 29)) C hO 28 cW_28 rfl dX8_reached_4 ?_
  refine lv_iconst (v := 0) hx hb dX8_reached_7 (by decide) ?_
  refine aI C hO 29 cW_29 (i_in (X := 0) rfl (by omega) (by omega)) dX8_reached_8 ?_
  refine tE (y := (-1)) hA_29_0 ?_
  refine lv_iconst (v := (-1)) hx hb dX8_reached_9 (by decide) ?_
  refine cn_ne (X := (-1)) (Y := (-1)) hx hb dX8_reached_10 rfl rfl (by omega) ?_ (tgt := 17) (by decide)
  refine lv_iconst (v := 0) hx hb dX8_reached_13 (by decide) ?_
  refine lv_goto (tgt := 28) hx hb dX8_reached_14 (by decide) ?_
  refine lv_istore_n (lv' := [(2, .int 0), (0, .ref (a 32)), (1, .int 0)]) hx hb dX8_reached_28 rfl hl (by decide) rfl (fun ls hl => ?_)
  refine lv_iconst (v := 0) hx hb dX8_reached_29 (by decide) ?_
  refine lv_istore_n (lv' := [(3, .int 0), (2, .int 0), (0, .ref (a 32)), (1, .int 0)]) hx hb dX8_reached_30 rfl hl (by decide) rfl (fun ls hl => ?_)
  refine lv_iload_n hx hb dX8_reached_31 rfl (lv_at hl 0 rfl) ?_
  refine lv_bipush (v := 8) hx hb dX8_reached_32 (by decide) ?_
  refine cn_ge (X := 0) (Y := 8) hx hb dX8_reached_34 rfl rfl (by omega) ?_ (tgt := 121) (by decide)
  refine lv_iconst (v := 0) hx hb dX8_reached_37 (by decide) ?_
  refine lv_istore (lv' := [(4, .int 0), (3, .int 0), (2, .int 0), (0, .ref (a 32)), (1, .int 0)]) hx hb dX8_reached_38 hl (by decide) rfl (fun ls hl => ?_)
  refine lv_iload hx hb dX8_reached_40 (lv_at hl 0 rfl) ?_
  refine lv_aload_n hx hb dX8_reached_42 rfl (lv_at hl 3 rfl) ?_
  refine gf_RX8_15 (v := .ref (a 28)) C hO 32 cW_32 rfl dX8_reached_43 ?_
  refine gf_RX8_44 (v := .ref (a 3)) C hO 28 cW_28 (congrArg (fun z : Nat => some (Value.ref z)) hR_0) dX8_reached_46 ?_
  refine gf_RX8_54 (v := .int 0) C hO 3 cW_3 (congrArg (fun z : Int32 => some (Value.int z)) hI_3_10) dX8_reached_49 ?_
  refine ct_ge (tgt := 115) (X := 0) (Y := 0) hx hb dX8_reached_52 (by decide) rfl rfl (by omega) ?_
  refine lv_iinc (v := 1) (lv' := [(3, .int 1), (4, .int 0), (2, .int 0), (0, .ref (a 32)), (1, .int 0)]) hx hb dX8_reached_115 hl (k := 1) rfl rfl (by decide) rfl (fun ls hl => ?_)
  refine lv_goto (tgt := 31) hx hb dX8_reached_118 (by decide) ?_
  refine lv_iload_n hx hb dX8_reached_31 rfl (lv_at hl 0 rfl) ?_
  refine lv_bipush (v := 8) hx hb dX8_reached_32 (by decide) ?_
  refine cn_ge (X := 1) (Y := 8) hx hb dX8_reached_34 rfl rfl (by omega) ?_ (tgt := 121) (by decide)
  refine lv_iconst (v := 0) hx hb dX8_reached_37 (by decide) ?_
  refine lv_istore (lv' := [(4, .int 0), (3, .int 1), (2, .int 0), (0, .ref (a 32)), (1, .int 0)]) hx hb dX8_reached_38 hl (by decide) rfl (fun ls hl => ?_)
  refine lv_iload hx hb dX8_reached_40 (lv_at hl 0 rfl) ?_
  refine lv_aload_n hx hb dX8_reached_42 rfl (lv_at hl 3 rfl) ?_
  refine gf_RX8_15 (v := .ref (a 28)) C hO 32 cW_32 rfl dX8_reached_43 ?_
  refine gf_RX8_44 (v := .ref (a 3)) C hO 28 cW_28 (congrArg (fun z : Nat => some (Value.ref z)) hR_0) dX8_reached_46 ?_
  refine gf_RX8_54 (v := .int 0) C hO 3 cW_3 (congrArg (fun z : Int32 => some (Value.int z)) hI_3_10) dX8_reached_49 ?_
  refine ct_ge (tgt := 115) (X := 0) (Y := 0) hx hb dX8_reached_52 (by decide) rfl rfl (by omega) ?_
  refine lv_iinc (v := 2) (lv' := [(3, .int 2), (4, .int 0), (2, .int 0), (0, .ref (a 32)), (1, .int 0)]) hx hb dX8_reached_115 hl (k := 1) rfl rfl (by decide) rfl (fun ls hl => ?_)
  refine lv_goto (tgt := 31) hx hb dX8_reached_118 (by decide) ?_
  refine lv_iload_n hx hb dX8_reached_31 rfl (lv_at hl 0 rfl) ?_
  refine lv_bipush (v := 8) hx hb dX8_reached_32 (by decide) ?_
  refine cn_ge (X := 2) (Y := 8) hx hb dX8_reached_34 rfl rfl (by omega) ?_ (tgt := 121) (by decide)
  refine lv_iconst (v := 0) hx hb dX8_reached_37 (by decide) ?_
  refine lv_istore (lv' := [(4, .int 0), (3, .int 2), (2, .int 0), (0, .ref (a 32)), (1, .int 0)]) hx hb dX8_reached_38 hl (by decide) rfl (fun ls hl => ?_)
  refine lv_iload hx hb dX8_reached_40 (lv_at hl 0 rfl) ?_
  refine lv_aload_n hx hb dX8_reached_42 rfl (lv_at hl 3 rfl) ?_
  refine gf_RX8_15 (v := .ref (a 28)) C hO 32 cW_32 rfl dX8_reached_43 ?_
  refine gf_RX8_44 (v := .ref (a 3)) C hO 28 cW_28 (congrArg (fun z : Nat => some (Value.ref z)) hR_0) dX8_reached_46 ?_
  refine gf_RX8_54 (v := .int 0) C hO 3 cW_3 (congrArg (fun z : Int32 => some (Value.int z)) hI_3_10) dX8_reached_49 ?_
  refine ct_ge (tgt := 115) (X := 0) (Y := 0) hx hb dX8_reached_52 (by decide) rfl rfl (by omega) ?_
  refine lv_iinc (v := 3) (lv' := [(3, .int 3), (4, .int 0), (2, .int 0), (0, .ref (a 32)), (1, .int 0)]) hx hb dX8_reached_115 hl (k := 1) rfl rfl (by decide) rfl (fun ls hl => ?_)
  refine lv_goto (tgt := 31) hx hb dX8_reached_118 (by decide) ?_
  refine lv_iload_n hx hb dX8_reached_31 rfl (lv_at hl 0 rfl) ?_
  refine lv_bipush (v := 8) hx hb dX8_reached_32 (by decide) ?_
  refine cn_ge (X := 3) (Y := 8) hx hb dX8_reached_34 rfl rfl (by omega) ?_ (tgt := 121) (by decide)
  refine lv_iconst (v := 0) hx hb dX8_reached_37 (by decide) ?_
  refine lv_istore (lv' := [(4, .int 0), (3, .int 3), (2, .int 0), (0, .ref (a 32)), (1, .int 0)]) hx hb dX8_reached_38 hl (by decide) rfl (fun ls hl => ?_)
  refine lv_iload hx hb dX8_reached_40 (lv_at hl 0 rfl) ?_
  refine lv_aload_n hx hb dX8_reached_42 rfl (lv_at hl 3 rfl) ?_
  refine gf_RX8_15 (v := .ref (a 28)) C hO 32 cW_32 rfl dX8_reached_43 ?_
  refine gf_RX8_44 (v := .ref (a 3)) C hO 28 cW_28 (congrArg (fun z : Nat => some (Value.ref z)) hR_0) dX8_reached_46 ?_
  refine gf_RX8_54 (v := .int 0) C hO 3 cW_3 (congrArg (fun z : Int32 => some (Value.int z)) hI_3_10) dX8_reached_49 ?_
  refine ct_ge (tgt := 115) (X := 0) (Y := 0) hx hb dX8_reached_52 (by decide) rfl rfl (by omega) ?_
  refine lv_iinc (v := 4) (lv' := [(3, .int 4), (4, .int 0), (2, .int 0), (0, .ref (a 32)), (1, .int 0)]) hx hb dX8_reached_115 hl (k := 1) rfl rfl (by decide) rfl (fun ls hl => ?_)
  refine lv_goto (tgt := 31) hx hb dX8_reached_118 (by decide) ?_
  refine lv_iload_n hx hb dX8_reached_31 rfl (lv_at hl 0 rfl) ?_
  refine lv_bipush (v := 8) hx hb dX8_reached_32 (by decide) ?_
  refine cn_ge (X := 4) (Y := 8) hx hb dX8_reached_34 rfl rfl (by omega) ?_ (tgt := 121) (by decide)
  refine lv_iconst (v := 0) hx hb dX8_reached_37 (by decide) ?_
  refine lv_istore (lv' := [(4, .int 0), (3, .int 4), (2, .int 0), (0, .ref (a 32)), (1, .int 0)]) hx hb dX8_reached_38 hl (by decide) rfl (fun ls hl => ?_)
  refine lv_iload hx hb dX8_reached_40 (lv_at hl 0 rfl) ?_
  refine lv_aload_n hx hb dX8_reached_42 rfl (lv_at hl 3 rfl) ?_
  refine gf_RX8_15 (v := .ref (a 28)) C hO 32 cW_32 rfl dX8_reached_43 ?_
  refine gf_RX8_44 (v := .ref (a 3)) C hO 28 cW_28 (congrArg (fun z : Nat => some (Value.ref z)) hR_0) dX8_reached_46 ?_
  refine gf_RX8_54 (v := .int 0) C hO 3 cW_3 (congrArg (fun z : Int32 => some (Value.int z)) hI_3_10) dX8_reached_49 ?_
  refine ct_ge (tgt := 115) (X := 0) (Y := 0) hx hb dX8_reached_52 (by decide) rfl rfl (by omega) ?_
  refine lv_iinc (v := 5) (lv' := [(3, .int 5), (4, .int 0), (2, .int 0), (0, .ref (a 32)), (1, .int 0)]) hx hb dX8_reached_115 hl (k := 1) rfl rfl (by decide) rfl (fun ls hl => ?_)
  refine lv_goto (tgt := 31) hx hb dX8_reached_118 (by decide) ?_
  refine lv_iload_n hx hb dX8_reached_31 rfl (lv_at hl 0 rfl) ?_
  refine lv_bipush (v := 8) hx hb dX8_reached_32 (by decide) ?_
  refine cn_ge (X := 5) (Y := 8) hx hb dX8_reached_34 rfl rfl (by omega) ?_ (tgt := 121) (by decide)
  refine lv_iconst (v := 0) hx hb dX8_reached_37 (by decide) ?_
  refine lv_istore (lv' := [(4, .int 0), (3, .int 5), (2, .int 0), (0, .ref (a 32)), (1, .int 0)]) hx hb dX8_reached_38 hl (by decide) rfl (fun ls hl => ?_)
  refine lv_iload hx hb dX8_reached_40 (lv_at hl 0 rfl) ?_
  refine lv_aload_n hx hb dX8_reached_42 rfl (lv_at hl 3 rfl) ?_
  refine gf_RX8_15 (v := .ref (a 28)) C hO 32 cW_32 rfl dX8_reached_43 ?_
  refine gf_RX8_44 (v := .ref (a 3)) C hO 28 cW_28 (congrArg (fun z : Nat => some (Value.ref z)) hR_0) dX8_reached_46 ?_
  refine gf_RX8_54 (v := .int 0) C hO 3 cW_3 (congrArg (fun z : Int32 => some (Value.int z)) hI_3_10) dX8_reached_49 ?_
  refine ct_ge (tgt := 115) (X := 0) (Y := 0) hx hb dX8_reached_52 (by decide) rfl rfl (by omega) ?_
  refine lv_iinc (v := 6) (lv' := [(3, .int 6), (4, .int 0), (2, .int 0), (0, .ref (a 32)), (1, .int 0)]) hx hb dX8_reached_115 hl (k := 1) rfl rfl (by decide) rfl (fun ls hl => ?_)
  refine lv_goto (tgt := 31) hx hb dX8_reached_118 (by decide) ?_
  refine lv_iload_n hx hb dX8_reached_31 rfl (lv_at hl 0 rfl) ?_
  refine lv_bipush (v := 8) hx hb dX8_reached_32 (by decide) ?_
  refine cn_ge (X := 6) (Y := 8) hx hb dX8_reached_34 rfl rfl (by omega) ?_ (tgt := 121) (by decide)
  refine lv_iconst (v := 0) hx hb dX8_reached_37 (by decide) ?_
  refine lv_istore (lv' := [(4, .int 0), (3, .int 6), (2, .int 0), (0, .ref (a 32)), (1, .int 0)]) hx hb dX8_reached_38 hl (by decide) rfl (fun ls hl => ?_)
  refine lv_iload hx hb dX8_reached_40 (lv_at hl 0 rfl) ?_
  refine lv_aload_n hx hb dX8_reached_42 rfl (lv_at hl 3 rfl) ?_
  refine gf_RX8_15 (v := .ref (a 28)) C hO 32 cW_32 rfl dX8_reached_43 ?_
  refine gf_RX8_44 (v := .ref (a 3)) C hO 28 cW_28 (congrArg (fun z : Nat => some (Value.ref z)) hR_0) dX8_reached_46 ?_
  refine gf_RX8_54 (v := .int 0) C hO 3 cW_3 (congrArg (fun z : Int32 => some (Value.int z)) hI_3_10) dX8_reached_49 ?_
  refine ct_ge (tgt := 115) (X := 0) (Y := 0) hx hb dX8_reached_52 (by decide) rfl rfl (by omega) ?_
  refine lv_iinc (v := 7) (lv' := [(3, .int 7), (4, .int 0), (2, .int 0), (0, .ref (a 32)), (1, .int 0)]) hx hb dX8_reached_115 hl (k := 1) rfl rfl (by decide) rfl (fun ls hl => ?_)
  refine lv_goto (tgt := 31) hx hb dX8_reached_118 (by decide) ?_
  refine lv_iload_n hx hb dX8_reached_31 rfl (lv_at hl 0 rfl) ?_
  refine lv_bipush (v := 8) hx hb dX8_reached_32 (by decide) ?_
  refine cn_ge (X := 7) (Y := 8) hx hb dX8_reached_34 rfl rfl (by omega) ?_ (tgt := 121) (by decide)
  refine lv_iconst (v := 0) hx hb dX8_reached_37 (by decide) ?_
  refine lv_istore (lv' := [(4, .int 0), (3, .int 7), (2, .int 0), (0, .ref (a 32)), (1, .int 0)]) hx hb dX8_reached_38 hl (by decide) rfl (fun ls hl => ?_)
  refine lv_iload hx hb dX8_reached_40 (lv_at hl 0 rfl) ?_
  refine lv_aload_n hx hb dX8_reached_42 rfl (lv_at hl 3 rfl) ?_
  refine gf_RX8_15 (v := .ref (a 28)) C hO 32 cW_32 rfl dX8_reached_43 ?_
  refine gf_RX8_44 (v := .ref (a 3)) C hO 28 cW_28 (congrArg (fun z : Nat => some (Value.ref z)) hR_0) dX8_reached_46 ?_
  refine gf_RX8_54 (v := .int 0) C hO 3 cW_3 (congrArg (fun z : Int32 => some (Value.int z)) hI_3_10) dX8_reached_49 ?_
  refine ct_ge (tgt := 115) (X := 0) (Y := 0) hx hb dX8_reached_52 (by decide) rfl rfl (by omega) ?_
  refine lv_iinc (v := 8) (lv' := [(3, .int 8), (4, .int 0), (2, .int 0), (0, .ref (a 32)), (1, .int 0)]) hx hb dX8_reached_115 hl (k := 1) rfl rfl (by decide) rfl (fun ls hl => ?_)
  refine lv_goto (tgt := 31) hx hb dX8_reached_118 (by decide) ?_
  refine lv_iload_n hx hb dX8_reached_31 rfl (lv_at hl 0 rfl) ?_
  refine lv_bipush (v := 8) hx hb dX8_reached_32 (by decide) ?_
  refine ct_ge (tgt := 121) (X := 8) (Y := 8) hx hb dX8_reached_34 (by decide) rfl rfl (by omega) ?_
  refine lv_iload_n hx hb dX8_reached_121 rfl (lv_at hl 2 rfl) ?_
  refine hret _ _ _ _ _ _ dX8_reached_122 rfl ?_ hO
  exact ⟨rfl, rfl⟩
theorem dX10_reach_0 : decode cX10_reach 0 = .ok (.aload_n 0, 1) := by decide +kernel
theorem dX10_reach_1 : decode cX10_reach 1 = .ok (.getfield 53, 3) := by decide +kernel
theorem dX10_reach_4 : decode cX10_reach 4 = .ok (.aload_n 0, 1) := by decide +kernel
theorem dX10_reach_5 : decode cX10_reach 5 = .ok (.getfield 37, 3) := by decide +kernel
theorem dX10_reach_8 : decode cX10_reach 8 = .ok (.getfield 150, 3) := by decide +kernel
theorem dX10_reach_11 : decode cX10_reach 11 = .ok (.iconst 4, 1) := by decide +kernel
theorem dX10_reach_12 : decode cX10_reach 12 = .ok (.iaload, 1) := by decide +kernel
theorem dX10_reach_13 : decode cX10_reach 13 = .ok (.invokevirtual 279, 3) := by decide +kernel
theorem dX10_reach_16 : decode cX10_reach 16 = .ok (.ireturn, 1) := by decide +kernel
theorem wd_1188 : (Cond.code ⟨"WebCourt", "reach", "()I"⟩ prog_1_method_35_code (1 : Nat) (Option.some FieldType.int)) ∈ gtb := gtb_c5 119 (by decide +kernel) rfl
theorem wd_1189 : (Cond.methodLink "WebCourt" (279 : Nat) ⟨"WebCourt$Ways", "reached", "(I)I"⟩) ∈ gtb := gtb_c5 120 (by decide +kernel) rfl
theorem wd_1137 : (Cond.instanceMethod ⟨"WebCourt$Ways", "reached", "(I)I"⟩) ∈ gtb := gtb_c5 68 (by decide +kernel) rfl
theorem wd_1138 : (Cond.selects "WebCourt$Ways" ⟨"WebCourt$Ways", "reached", "(I)I"⟩ ⟨"WebCourt$Ways", "reached", "(I)I"⟩) ∈ gtb := gtb_c5 69 (by decide +kernel) rfl
theorem hd_yX8_reached : yX8_reached.cls = RX8 ∧ yX8_reached.cls ≠ "java/lang/invoke/MethodHandle" ∧ yX8_reached.cls ≠ "java/lang/invoke/VarHandle" ∧ (parseMethodDescriptor yX8_reached.desc).map (fun d => d.parameters.length) = some 1 := by decide +kernel
set_option maxHeartbeats 4000000 in
set_option maxRecDepth 100000 in
theorem T_X10_reach (l : Launch) (D : va_G) (cy : Nat → ClassId) (a : Nat → Nat) (u : St) (hA_29_0 : fA u 29 0 = (-1)) (hA_29_4 : fA u 29 4 = 0) (hI_3_10 : fI u 3 10 = 0) (hR_0 : fR u 0 = a 3)   : Mi l D cy (cW cy a) yX10_reach (.code yX10_reach cX10_reach 1 (some .int)) (rmo 1 25) [.ref (a 0)] u (fun (r : Int32) (u' : St) => (r = 0) ∧ (u' = u)) := by
  refine Mi.of (own := RX10) rfl (by decide) (Nat.le_of_ble_eq_true rfl) ?_
  intro p e s m below meth c A Q ls C hret hO hl
  obtain ⟨hx, hb, hml, hown, ht, hK, hA⟩ := id C
  have hl : lv_has ls 1 [(0, .ref (a 0))] := hl
  refine lv_aload_n hx hb dX10_reach_0 rfl (lv_at hl 0 rfl) ?_
  refine gf_RX10_53 (v := .ref (a 32)) C hO 0 cW_0 rfl dX10_reach_1 ?_
  refine lv_aload_n hx hb dX10_reach_4 rfl (lv_at hl 0 rfl) ?_
  refine gf_RX10_37 (v := .ref (a 28)) C hO 0 cW_0 rfl dX10_reach_5 ?_
  refine gf_RX10_150 (v := .ref (a 29)) C hO 28 cW_28 rfl dX10_reach_8 ?_
  refine lv_iconst (v := 4) hx hb dX10_reach_11 (by decide) ?_
  refine aI C hO 29 cW_29 (i_in (X := 4) rfl (by omega) (by omega)) dX10_reach_12 ?_
  refine tE (y := 0) hA_29_4 ?_
  refine cVi (w := cW cy a) (As := [.int 0]) (rest := []) C hO (T_X8_reached_0 l D cy a _ (by exact hA_29_0) (by exact hI_3_10) (by exact hR_0)) (cwV 1 ht (gV wd_1189 wd_1137 wd_1138 wd_117 wd_1139) rfl rfl rfl hd_yX8_reached ⟨Nat.le_of_ble_eq_true rfl, Nat.le_of_ble_eq_true rfl⟩) 32 rfl cW_32 rfl rfl hl.1 (Nat.le_of_ble_eq_true rfl) dX10_reach_13 rfl ⟨Nat.zero_le _, Nat.zero_le _⟩ (fun r1 u2 H locs hp3 hO => ?_)
  obtain ⟨hr1, hu2⟩ := hp3
  subst hr1
  rw [hu2] at hO
  refine hret _ _ _ _ _ _ dX10_reach_16 rfl ?_ hO
  exact ⟨rfl, rfl⟩
theorem dX1_commonestPlea_0 : decode cX1_commonestPlea 0 = .ok (.iconst (-1), 1) := by decide +kernel
theorem dX1_commonestPlea_1 : decode cX1_commonestPlea 1 = .ok (.istore_n 1, 1) := by decide +kernel
theorem dX1_commonestPlea_2 : decode cX1_commonestPlea 2 = .ok (.iconst (-1), 1) := by decide +kernel
theorem dX1_commonestPlea_3 : decode cX1_commonestPlea 3 = .ok (.istore_n 2, 1) := by decide +kernel
theorem dX1_commonestPlea_4 : decode cX1_commonestPlea 4 = .ok (.iconst 0, 1) := by decide +kernel
theorem dX1_commonestPlea_5 : decode cX1_commonestPlea 5 = .ok (.istore_n 3, 1) := by decide +kernel
theorem dX1_commonestPlea_6 : decode cX1_commonestPlea 6 = .ok (.iload_n 3, 1) := by decide +kernel
theorem dX1_commonestPlea_7 : decode cX1_commonestPlea 7 = .ok (.aload_n 0, 1) := by decide +kernel
theorem dX1_commonestPlea_8 : decode cX1_commonestPlea 8 = .ok (.getfield 18, 3) := by decide +kernel
theorem dX1_commonestPlea_11 : decode cX1_commonestPlea 11 = .ok (.getfield 34, 3) := by decide +kernel
theorem dX1_commonestPlea_14 : decode cX1_commonestPlea 14 = .ok (.getfield 38, 3) := by decide +kernel
theorem dX1_commonestPlea_17 : decode cX1_commonestPlea 17 = .ok (.if_icmp .ge 75, 3) := by decide +kernel
theorem dX1_commonestPlea_20 : decode cX1_commonestPlea 20 = .ok (.iconst 0, 1) := by decide +kernel
theorem dX1_commonestPlea_21 : decode cX1_commonestPlea 21 = .ok (.istore 4, 2) := by decide +kernel
theorem dX1_commonestPlea_23 : decode cX1_commonestPlea 23 = .ok (.iconst 0, 1) := by decide +kernel
theorem dX1_commonestPlea_24 : decode cX1_commonestPlea 24 = .ok (.istore 5, 2) := by decide +kernel
theorem dX1_commonestPlea_26 : decode cX1_commonestPlea 26 = .ok (.iload 5, 2) := by decide +kernel
theorem dX1_commonestPlea_28 : decode cX1_commonestPlea 28 = .ok (.aload_n 0, 1) := by decide +kernel
theorem dX1_commonestPlea_29 : decode cX1_commonestPlea 29 = .ok (.getfield 18, 3) := by decide +kernel
theorem dX1_commonestPlea_32 : decode cX1_commonestPlea 32 = .ok (.getfield 34, 3) := by decide +kernel
theorem dX1_commonestPlea_35 : decode cX1_commonestPlea 35 = .ok (.getfield 44, 3) := by decide +kernel
theorem dX1_commonestPlea_38 : decode cX1_commonestPlea 38 = .ok (.if_icmp .ge 37, 3) := by decide +kernel
theorem dX1_commonestPlea_41 : decode cX1_commonestPlea 41 = .ok (.aload_n 0, 1) := by decide +kernel
theorem dX1_commonestPlea_42 : decode cX1_commonestPlea 42 = .ok (.getfield 18, 3) := by decide +kernel
theorem dX1_commonestPlea_45 : decode cX1_commonestPlea 45 = .ok (.iload 5, 2) := by decide +kernel
theorem dX1_commonestPlea_47 : decode cX1_commonestPlea 47 = .ok (.invokevirtual 47, 3) := by decide +kernel
theorem dX1_commonestPlea_50 : decode cX1_commonestPlea 50 = .ok (.ifCond .eq 19, 3) := by decide +kernel
theorem dX1_commonestPlea_53 : decode cX1_commonestPlea 53 = .ok (.aload_n 0, 1) := by decide +kernel
theorem dX1_commonestPlea_54 : decode cX1_commonestPlea 54 = .ok (.getfield 18, 3) := by decide +kernel
theorem dX1_commonestPlea_57 : decode cX1_commonestPlea 57 = .ok (.iload 5, 2) := by decide +kernel
theorem dX1_commonestPlea_59 : decode cX1_commonestPlea 59 = .ok (.iload_n 3, 1) := by decide +kernel
theorem dX1_commonestPlea_60 : decode cX1_commonestPlea 60 = .ok (.invokevirtual 85, 3) := by decide +kernel
theorem dX1_commonestPlea_63 : decode cX1_commonestPlea 63 = .ok (.ifCond .eq 6, 3) := by decide +kernel
theorem dX1_commonestPlea_66 : decode cX1_commonestPlea 66 = .ok (.iinc 4 1, 3) := by decide +kernel
theorem dX1_commonestPlea_69 : decode cX1_commonestPlea 69 = .ok (.iinc 5 1, 3) := by decide +kernel
theorem dX1_commonestPlea_72 : decode cX1_commonestPlea 72 = .ok (.goto (-46), 3) := by decide +kernel
theorem dX1_commonestPlea_75 : decode cX1_commonestPlea 75 = .ok (.iload 4, 2) := by decide +kernel
theorem dX1_commonestPlea_77 : decode cX1_commonestPlea 77 = .ok (.iload_n 2, 1) := by decide +kernel
theorem dX1_commonestPlea_78 : decode cX1_commonestPlea 78 = .ok (.if_icmp .le 8, 3) := by decide +kernel
theorem dX1_commonestPlea_81 : decode cX1_commonestPlea 81 = .ok (.iload 4, 2) := by decide +kernel
theorem dX1_commonestPlea_83 : decode cX1_commonestPlea 83 = .ok (.istore_n 2, 1) := by decide +kernel
theorem dX1_commonestPlea_84 : decode cX1_commonestPlea 84 = .ok (.iload_n 3, 1) := by decide +kernel
theorem dX1_commonestPlea_85 : decode cX1_commonestPlea 85 = .ok (.istore_n 1, 1) := by decide +kernel
theorem dX1_commonestPlea_86 : decode cX1_commonestPlea 86 = .ok (.iinc 3 1, 3) := by decide +kernel
theorem dX1_commonestPlea_89 : decode cX1_commonestPlea 89 = .ok (.goto (-83), 3) := by decide +kernel
theorem dX1_commonestPlea_92 : decode cX1_commonestPlea 92 = .ok (.iload_n 1, 1) := by decide +kernel
theorem dX1_commonestPlea_93 : decode cX1_commonestPlea 93 = .ok (.ireturn, 1) := by decide +kernel
theorem wd_1197 : (Cond.code ⟨"WebCourt$Counsel", "commonestPlea", "()I"⟩ prog_3_method_15_code (6 : Nat) (Option.some FieldType.int)) ∈ gtb := gtb_c5 128 (by decide +kernel) rfl
set_option maxHeartbeats 4000000 in
set_option maxRecDepth 100000 in
theorem T_X1_commonestPlea (l : Launch) (D : va_G) (cy : Nat → ClassId) (a : Nat → Nat) (u : St) (hI_3_11 : fI u 3 11 = 0) (hR_0 : fR u 0 = a 3)   : Mi l D cy (cW cy a) yX1_commonestPlea (.code yX1_commonestPlea cX1_commonestPlea 6 (some .int)) (rmo 0 0) [.ref (a 36)] u (fun (r : Int32) (u' : St) => (r = (-1)) ∧ (u' = u)) := by
  refine Mi.of (own := RX1) rfl (by decide) (Nat.le_of_ble_eq_true rfl) ?_
  intro p e s m below meth c A Q ls C hret hO hl
  obtain ⟨hx, hb, hml, hown, ht, hK, hA⟩ := id C
  have hl : lv_has ls 6 [(0, .ref (a 36))] := hl
  refine lv_iconst (v := (-1)) hx hb dX1_commonestPlea_0 (by decide) ?_
  refine lv_istore_n (lv' := [(1, .int (-1)), (0, .ref (a 36))]) hx hb dX1_commonestPlea_1 rfl hl (by decide) rfl (fun ls hl => ?_)
  refine lv_iconst (v := (-1)) hx hb dX1_commonestPlea_2 (by decide) ?_
  refine lv_istore_n (lv' := [(2, .int (-1)), (1, .int (-1)), (0, .ref (a 36))]) hx hb dX1_commonestPlea_3 rfl hl (by decide) rfl (fun ls hl => ?_)
  refine lv_iconst (v := 0) hx hb dX1_commonestPlea_4 (by decide) ?_
  refine lv_istore_n (lv' := [(3, .int 0), (2, .int (-1)), (1, .int (-1)), (0, .ref (a 36))]) hx hb dX1_commonestPlea_5 rfl hl (by decide) rfl (fun ls hl => ?_)
  refine lv_iload_n hx hb dX1_commonestPlea_6 rfl (lv_at hl 0 rfl) ?_
  refine lv_aload_n hx hb dX1_commonestPlea_7 rfl (lv_at hl 3 rfl) ?_
  refine gf_RX1_18 (v := .ref (a 28)) C hO 36 cW_36 rfl dX1_commonestPlea_8 ?_
  refine gf_RX1_34 (v := .ref (a 3)) C hO 28 cW_28 (congrArg (fun z : Nat => some (Value.ref z)) hR_0) dX1_commonestPlea_11 ?_
  refine gf_RX1_38 (v := .int 0) C hO 3 cW_3 (congrArg (fun z : Int32 => some (Value.int z)) hI_3_11) dX1_commonestPlea_14 ?_
  refine ct_ge (tgt := 92) (X := 0) (Y := 0) hx hb dX1_commonestPlea_17 (by decide) rfl rfl (by omega) ?_
  refine lv_iload_n hx hb dX1_commonestPlea_92 rfl (lv_at hl 2 rfl) ?_
  refine hret _ _ _ _ _ _ dX1_commonestPlea_93 rfl ?_ hO
  exact ⟨rfl, rfl⟩
theorem dX10_fashion_0 : decode cX10_fashion 0 = .ok (.aload_n 0, 1) := by decide +kernel
theorem dX10_fashion_1 : decode cX10_fashion 1 = .ok (.getfield 69, 3) := by decide +kernel
theorem dX10_fashion_4 : decode cX10_fashion 4 = .ok (.invokevirtual 282, 3) := by decide +kernel
theorem dX10_fashion_7 : decode cX10_fashion 7 = .ok (.ireturn, 1) := by decide +kernel
theorem wd_1193 : (Cond.code ⟨"WebCourt", "fashion", "()I"⟩ prog_1_method_36_code (1 : Nat) (Option.some FieldType.int)) ∈ gtb := gtb_c5 124 (by decide +kernel) rfl
theorem wd_1194 : (Cond.methodLink "WebCourt" (282 : Nat) ⟨"WebCourt$Counsel", "commonestPlea", "()I"⟩) ∈ gtb := gtb_c5 125 (by decide +kernel) rfl
theorem wd_1195 : (Cond.instanceMethod ⟨"WebCourt$Counsel", "commonestPlea", "()I"⟩) ∈ gtb := gtb_c5 126 (by decide +kernel) rfl
theorem wd_1196 : (Cond.selects "WebCourt$Counsel" ⟨"WebCourt$Counsel", "commonestPlea", "()I"⟩ ⟨"WebCourt$Counsel", "commonestPlea", "()I"⟩) ∈ gtb := gtb_c5 127 (by decide +kernel) rfl
theorem hd_yX1_commonestPlea : yX1_commonestPlea.cls = RX1 ∧ yX1_commonestPlea.cls ≠ "java/lang/invoke/MethodHandle" ∧ yX1_commonestPlea.cls ≠ "java/lang/invoke/VarHandle" ∧ (parseMethodDescriptor yX1_commonestPlea.desc).map (fun d => d.parameters.length) = some 0 := by decide +kernel
set_option maxHeartbeats 4000000 in
set_option maxRecDepth 100000 in
theorem T_X10_fashion (l : Launch) (D : va_G) (cy : Nat → ClassId) (a : Nat → Nat) (u : St) (hI_3_11 : fI u 3 11 = 0) (hR_0 : fR u 0 = a 3)   : Mi l D cy (cW cy a) yX10_fashion (.code yX10_fashion cX10_fashion 1 (some .int)) (rmo 1 25) [.ref (a 0)] u (fun (r : Int32) (u' : St) => (r = (-1)) ∧ (u' = u)) := by
  refine Mi.of (own := RX10) rfl (by decide) (Nat.le_of_ble_eq_true rfl) ?_
  intro p e s m below meth c A Q ls C hret hO hl
  obtain ⟨hx, hb, hml, hown, ht, hK, hA⟩ := id C
  have hl : lv_has ls 1 [(0, .ref (a 0))] := hl
  refine lv_aload_n hx hb dX10_fashion_0 rfl (lv_at hl 0 rfl) ?_
  refine gf_RX10_69 (v := .ref (a 36)) C hO 0 cW_0 rfl dX10_fashion_1 ?_
  refine cVi (w := cW cy a) (As := []) (rest := []) C hO (T_X1_commonestPlea l D cy a _ (by exact hI_3_11) (by exact hR_0)) (cwV 0 ht (gV wd_1194 wd_1195 wd_1196 wd_119 wd_1197) rfl rfl rfl hd_yX1_commonestPlea ⟨Nat.le_of_ble_eq_true rfl, Nat.le_of_ble_eq_true rfl⟩) 36 rfl cW_36 rfl rfl hl.1 (Nat.le_of_ble_eq_true rfl) dX10_fashion_4 rfl ⟨Nat.zero_le _, Nat.zero_le _⟩ (fun r1 u2 H locs hp3 hO => ?_)
  obtain ⟨hr1, hu2⟩ := hp3
  subst hr1
  rw [hu2] at hO
  refine hret _ _ _ _ _ _ dX10_fashion_7 rfl ?_ hO
  exact ⟨rfl, rfl⟩
theorem dX1_greatestVerdict_0 : decode cX1_greatestVerdict 0 = .ok (.iconst (-1), 1) := by decide +kernel
theorem dX1_greatestVerdict_1 : decode cX1_greatestVerdict 1 = .ok (.istore_n 1, 1) := by decide +kernel
theorem dX1_greatestVerdict_2 : decode cX1_greatestVerdict 2 = .ok (.iconst 0, 1) := by decide +kernel
theorem dX1_greatestVerdict_3 : decode cX1_greatestVerdict 3 = .ok (.istore_n 2, 1) := by decide +kernel
theorem dX1_greatestVerdict_4 : decode cX1_greatestVerdict 4 = .ok (.iconst 0, 1) := by decide +kernel
theorem dX1_greatestVerdict_5 : decode cX1_greatestVerdict 5 = .ok (.istore_n 3, 1) := by decide +kernel
theorem dX1_greatestVerdict_6 : decode cX1_greatestVerdict 6 = .ok (.iload_n 3, 1) := by decide +kernel
theorem dX1_greatestVerdict_7 : decode cX1_greatestVerdict 7 = .ok (.aload_n 0, 1) := by decide +kernel
theorem dX1_greatestVerdict_8 : decode cX1_greatestVerdict 8 = .ok (.getfield 18, 3) := by decide +kernel
theorem dX1_greatestVerdict_11 : decode cX1_greatestVerdict 11 = .ok (.getfield 34, 3) := by decide +kernel
theorem dX1_greatestVerdict_14 : decode cX1_greatestVerdict 14 = .ok (.getfield 44, 3) := by decide +kernel
theorem dX1_greatestVerdict_17 : decode cX1_greatestVerdict 17 = .ok (.if_icmp .ge 49, 3) := by decide +kernel
theorem dX1_greatestVerdict_20 : decode cX1_greatestVerdict 20 = .ok (.aload_n 0, 1) := by decide +kernel
theorem dX1_greatestVerdict_21 : decode cX1_greatestVerdict 21 = .ok (.getfield 18, 3) := by decide +kernel
theorem dX1_greatestVerdict_24 : decode cX1_greatestVerdict 24 = .ok (.iload_n 3, 1) := by decide +kernel
theorem dX1_greatestVerdict_25 : decode cX1_greatestVerdict 25 = .ok (.invokevirtual 47, 3) := by decide +kernel
theorem dX1_greatestVerdict_28 : decode cX1_greatestVerdict 28 = .ok (.ifCond .ne 6, 3) := by decide +kernel
theorem dX1_greatestVerdict_31 : decode cX1_greatestVerdict 31 = .ok (.goto 29, 3) := by decide +kernel
theorem dX1_greatestVerdict_34 : decode cX1_greatestVerdict 34 = .ok (.aload_n 0, 1) := by decide +kernel
theorem dX1_greatestVerdict_35 : decode cX1_greatestVerdict 35 = .ok (.getfield 18, 3) := by decide +kernel
theorem dX1_greatestVerdict_38 : decode cX1_greatestVerdict 38 = .ok (.iload_n 3, 1) := by decide +kernel
theorem dX1_greatestVerdict_39 : decode cX1_greatestVerdict 39 = .ok (.invokevirtual 69, 3) := by decide +kernel
theorem dX1_greatestVerdict_42 : decode cX1_greatestVerdict 42 = .ok (.istore 4, 2) := by decide +kernel
theorem dX1_greatestVerdict_44 : decode cX1_greatestVerdict 44 = .ok (.iload_n 1, 1) := by decide +kernel
theorem dX1_greatestVerdict_45 : decode cX1_greatestVerdict 45 = .ok (.iconst (-1), 1) := by decide +kernel
theorem dX1_greatestVerdict_46 : decode cX1_greatestVerdict 46 = .ok (.if_icmp .eq 9, 3) := by decide +kernel
theorem dX1_greatestVerdict_49 : decode cX1_greatestVerdict 49 = .ok (.iload 4, 2) := by decide +kernel
theorem dX1_greatestVerdict_51 : decode cX1_greatestVerdict 51 = .ok (.iload_n 2, 1) := by decide +kernel
theorem dX1_greatestVerdict_52 : decode cX1_greatestVerdict 52 = .ok (.if_icmp .le 8, 3) := by decide +kernel
theorem dX1_greatestVerdict_55 : decode cX1_greatestVerdict 55 = .ok (.iload 4, 2) := by decide +kernel
theorem dX1_greatestVerdict_57 : decode cX1_greatestVerdict 57 = .ok (.istore_n 2, 1) := by decide +kernel
theorem dX1_greatestVerdict_58 : decode cX1_greatestVerdict 58 = .ok (.iload_n 3, 1) := by decide +kernel
theorem dX1_greatestVerdict_59 : decode cX1_greatestVerdict 59 = .ok (.istore_n 1, 1) := by decide +kernel
theorem dX1_greatestVerdict_60 : decode cX1_greatestVerdict 60 = .ok (.iinc 3 1, 3) := by decide +kernel
theorem dX1_greatestVerdict_63 : decode cX1_greatestVerdict 63 = .ok (.goto (-57), 3) := by decide +kernel
theorem dX1_greatestVerdict_66 : decode cX1_greatestVerdict 66 = .ok (.iload_n 1, 1) := by decide +kernel
theorem dX1_greatestVerdict_67 : decode cX1_greatestVerdict 67 = .ok (.ireturn, 1) := by decide +kernel
theorem wd_1206 : (Cond.code ⟨"WebCourt$Counsel", "greatestVerdict", "()I"⟩ prog_3_method_16_code (5 : Nat) (Option.some FieldType.int)) ∈ gtb := gtb_c5 137 (by decide +kernel) rfl
set_option maxHeartbeats 4000000 in
set_option maxRecDepth 100000 in
theorem T_X1_greatestVerdict (l : Launch) (D : va_G) (cy : Nat → ClassId) (a : Nat → Nat) (u : St) (hI_3_12 : fI u 3 12 = 0) (hR_0 : fR u 0 = a 3)   : Mi l D cy (cW cy a) yX1_greatestVerdict (.code yX1_greatestVerdict cX1_greatestVerdict 5 (some .int)) (rmo 0 0) [.ref (a 36)] u (fun (r : Int32) (u' : St) => (r = (-1)) ∧ (u' = u)) := by
  refine Mi.of (own := RX1) rfl (by decide) (Nat.le_of_ble_eq_true rfl) ?_
  intro p e s m below meth c A Q ls C hret hO hl
  obtain ⟨hx, hb, hml, hown, ht, hK, hA⟩ := id C
  have hl : lv_has ls 5 [(0, .ref (a 36))] := hl
  refine lv_iconst (v := (-1)) hx hb dX1_greatestVerdict_0 (by decide) ?_
  refine lv_istore_n (lv' := [(1, .int (-1)), (0, .ref (a 36))]) hx hb dX1_greatestVerdict_1 rfl hl (by decide) rfl (fun ls hl => ?_)
  refine lv_iconst (v := 0) hx hb dX1_greatestVerdict_2 (by decide) ?_
  refine lv_istore_n (lv' := [(2, .int 0), (1, .int (-1)), (0, .ref (a 36))]) hx hb dX1_greatestVerdict_3 rfl hl (by decide) rfl (fun ls hl => ?_)
  refine lv_iconst (v := 0) hx hb dX1_greatestVerdict_4 (by decide) ?_
  refine lv_istore_n (lv' := [(3, .int 0), (2, .int 0), (1, .int (-1)), (0, .ref (a 36))]) hx hb dX1_greatestVerdict_5 rfl hl (by decide) rfl (fun ls hl => ?_)
  refine lv_iload_n hx hb dX1_greatestVerdict_6 rfl (lv_at hl 0 rfl) ?_
  refine lv_aload_n hx hb dX1_greatestVerdict_7 rfl (lv_at hl 3 rfl) ?_
  refine gf_RX1_18 (v := .ref (a 28)) C hO 36 cW_36 rfl dX1_greatestVerdict_8 ?_
  refine gf_RX1_34 (v := .ref (a 3)) C hO 28 cW_28 (congrArg (fun z : Nat => some (Value.ref z)) hR_0) dX1_greatestVerdict_11 ?_
  refine gf_RX1_44 (v := .int 0) C hO 3 cW_3 (congrArg (fun z : Int32 => some (Value.int z)) hI_3_12) dX1_greatestVerdict_14 ?_
  refine ct_ge (tgt := 66) (X := 0) (Y := 0) hx hb dX1_greatestVerdict_17 (by decide) rfl rfl (by omega) ?_
  refine lv_iload_n hx hb dX1_greatestVerdict_66 rfl (lv_at hl 2 rfl) ?_
  refine hret _ _ _ _ _ _ dX1_greatestVerdict_67 rfl ?_ hO
  exact ⟨rfl, rfl⟩
theorem dX10_likeliest_0 : decode cX10_likeliest 0 = .ok (.aload_n 0, 1) := by decide +kernel
theorem dX10_likeliest_1 : decode cX10_likeliest 1 = .ok (.getfield 69, 3) := by decide +kernel
theorem dX10_likeliest_4 : decode cX10_likeliest 4 = .ok (.invokevirtual 285, 3) := by decide +kernel
theorem dX10_likeliest_7 : decode cX10_likeliest 7 = .ok (.ireturn, 1) := by decide +kernel
theorem wd_1202 : (Cond.code ⟨"WebCourt", "likeliest", "()I"⟩ prog_1_method_37_code (1 : Nat) (Option.some FieldType.int)) ∈ gtb := gtb_c5 133 (by decide +kernel) rfl
theorem wd_1203 : (Cond.methodLink "WebCourt" (285 : Nat) ⟨"WebCourt$Counsel", "greatestVerdict", "()I"⟩) ∈ gtb := gtb_c5 134 (by decide +kernel) rfl
theorem wd_1204 : (Cond.instanceMethod ⟨"WebCourt$Counsel", "greatestVerdict", "()I"⟩) ∈ gtb := gtb_c5 135 (by decide +kernel) rfl
theorem wd_1205 : (Cond.selects "WebCourt$Counsel" ⟨"WebCourt$Counsel", "greatestVerdict", "()I"⟩ ⟨"WebCourt$Counsel", "greatestVerdict", "()I"⟩) ∈ gtb := gtb_c5 136 (by decide +kernel) rfl
theorem hd_yX1_greatestVerdict : yX1_greatestVerdict.cls = RX1 ∧ yX1_greatestVerdict.cls ≠ "java/lang/invoke/MethodHandle" ∧ yX1_greatestVerdict.cls ≠ "java/lang/invoke/VarHandle" ∧ (parseMethodDescriptor yX1_greatestVerdict.desc).map (fun d => d.parameters.length) = some 0 := by decide +kernel
set_option maxHeartbeats 4000000 in
set_option maxRecDepth 100000 in
theorem T_X10_likeliest (l : Launch) (D : va_G) (cy : Nat → ClassId) (a : Nat → Nat) (u : St) (hI_3_12 : fI u 3 12 = 0) (hR_0 : fR u 0 = a 3)   : Mi l D cy (cW cy a) yX10_likeliest (.code yX10_likeliest cX10_likeliest 1 (some .int)) (rmo 1 24) [.ref (a 0)] u (fun (r : Int32) (u' : St) => (r = (-1)) ∧ (u' = u)) := by
  refine Mi.of (own := RX10) rfl (by decide) (Nat.le_of_ble_eq_true rfl) ?_
  intro p e s m below meth c A Q ls C hret hO hl
  obtain ⟨hx, hb, hml, hown, ht, hK, hA⟩ := id C
  have hl : lv_has ls 1 [(0, .ref (a 0))] := hl
  refine lv_aload_n hx hb dX10_likeliest_0 rfl (lv_at hl 0 rfl) ?_
  refine gf_RX10_69 (v := .ref (a 36)) C hO 0 cW_0 rfl dX10_likeliest_1 ?_
  refine cVi (w := cW cy a) (As := []) (rest := []) C hO (T_X1_greatestVerdict l D cy a _ (by exact hI_3_12) (by exact hR_0)) (cwV 0 ht (gV wd_1203 wd_1204 wd_1205 wd_119 wd_1206) rfl rfl rfl hd_yX1_greatestVerdict ⟨Nat.le_of_ble_eq_true rfl, Nat.le_of_ble_eq_true rfl⟩) 36 rfl cW_36 rfl rfl hl.1 (Nat.le_of_ble_eq_true rfl) dX10_likeliest_4 rfl ⟨Nat.zero_le _, Nat.zero_le _⟩ (fun r1 u2 H locs hp3 hO => ?_)
  obtain ⟨hr1, hu2⟩ := hp3
  subst hr1
  rw [hu2] at hO
  refine hret _ _ _ _ _ _ dX10_likeliest_7 rfl ?_ hO
  exact ⟨rfl, rfl⟩
theorem dX10_loophole_0 : decode cX10_loophole 0 = .ok (.aload_n 0, 1) := by decide +kernel
theorem dX10_loophole_1 : decode cX10_loophole 1 = .ok (.getfield 37, 3) := by decide +kernel
theorem dX10_loophole_4 : decode cX10_loophole 4 = .ok (.iload_n 1, 1) := by decide +kernel
theorem dX10_loophole_5 : decode cX10_loophole 5 = .ok (.invokevirtual 189, 3) := by decide +kernel
theorem dX10_loophole_8 : decode cX10_loophole 8 = .ok (.ifCond .eq 14, 3) := by decide +kernel
theorem dX10_loophole_11 : decode cX10_loophole 11 = .ok (.aload_n 0, 1) := by decide +kernel
theorem dX10_loophole_12 : decode cX10_loophole 12 = .ok (.getfield 69, 3) := by decide +kernel
theorem dX10_loophole_15 : decode cX10_loophole 15 = .ok (.iload_n 1, 1) := by decide +kernel
theorem dX10_loophole_16 : decode cX10_loophole 16 = .ok (.invokevirtual 288, 3) := by decide +kernel
theorem dX10_loophole_19 : decode cX10_loophole 19 = .ok (.goto 4, 3) := by decide +kernel
theorem dX10_loophole_22 : decode cX10_loophole 22 = .ok (.iconst (-1), 1) := by decide +kernel
theorem dX10_loophole_23 : decode cX10_loophole 23 = .ok (.ireturn, 1) := by decide +kernel
theorem wd_1210 : (Cond.code ⟨"WebCourt", "loophole", "(I)I"⟩ prog_1_method_38_code (2 : Nat) (Option.some FieldType.int)) ∈ gtb := gtb_c5 141 (by decide +kernel) rfl
set_option maxHeartbeats 4000000 in
set_option maxRecDepth 100000 in
theorem T_X10_loophole (l : Launch) (D : va_G) (cy : Nat → ClassId) (a : Nat → Nat) (u : St) (hI_3_12 : fI u 3 12 = 0) (hR_0 : fR u 0 = a 3) (x1 : Int32)  : Mi l D cy (cW cy a) yX10_loophole (.code yX10_loophole cX10_loophole 2 (some .int)) (rmo 2 42) [.ref (a 0), .int x1] u (fun (r : Int32) (u' : St) => (r = (-1)) ∧ (u' = u)) := by
  refine Mi.of (own := RX10) rfl (by decide) (Nat.le_of_ble_eq_true rfl) ?_
  intro p e s m below meth c A Q ls C hret hO hl
  obtain ⟨hx, hb, hml, hown, ht, hK, hA⟩ := id C
  have hl : lv_has ls 2 [(0, .ref (a 0)), (1, .int x1)] := hl
  refine lv_aload_n hx hb dX10_loophole_0 rfl (lv_at hl 0 rfl) ?_
  refine gf_RX10_37 (v := .ref (a 28)) C hO 0 cW_0 rfl dX10_loophole_1 ?_
  refine lv_iload_n hx hb dX10_loophole_4 rfl (lv_at hl 1 rfl) ?_
  refine cVi (w := cW cy a) (As := [.int x1]) (rest := []) C hO (T_X2_isHeld l D cy a _ (by exact hI_3_12) (by exact hR_0) (x1)) (cwV 1 ht (gV wd_961 wd_930 wd_931 wd_115 wd_932) rfl rfl rfl hd_yX2_isHeld ⟨Nat.le_of_ble_eq_true rfl, Nat.le_of_ble_eq_true rfl⟩) 28 rfl cW_28 rfl rfl hl.1 (Nat.le_of_ble_eq_true rfl) dX10_loophole_5 rfl ⟨Nat.zero_le _, Nat.zero_le _⟩ (fun r1 u2 H locs hp3 hO => ?_)
  obtain ⟨hr1, hu2⟩ := hp3
  subst hr1
  rw [hu2] at hO
  refine bt_eq (tgt := 22) (X := 0) hx hb dX10_loophole_8 (by decide) rfl (by omega) ?_
  refine lv_iconst (v := (-1)) hx hb dX10_loophole_22 (by decide) ?_
  refine hret _ _ _ _ _ _ dX10_loophole_23 rfl ?_ hO
  exact ⟨rfl, rfl⟩
theorem dX1_freeAfter_0 : decode cX1_freeAfter 0 = .ok (.aload_n 0, 1) := by decide +kernel
theorem dX1_freeAfter_1 : decode cX1_freeAfter 1 = .ok (.getfield 18, 3) := by decide +kernel
theorem dX1_freeAfter_4 : decode cX1_freeAfter 4 = .ok (.getfield 54, 3) := by decide +kernel
theorem dX1_freeAfter_7 : decode cX1_freeAfter 7 = .ok (.astore_n 2, 1) := by decide +kernel
theorem dX1_freeAfter_8 : decode cX1_freeAfter 8 = .ok (.iconst 0, 1) := by decide +kernel
theorem dX1_freeAfter_9 : decode cX1_freeAfter 9 = .ok (.istore_n 3, 1) := by decide +kernel
theorem dX1_freeAfter_10 : decode cX1_freeAfter 10 = .ok (.iconst 0, 1) := by decide +kernel
theorem dX1_freeAfter_11 : decode cX1_freeAfter 11 = .ok (.istore 4, 2) := by decide +kernel
theorem dX1_freeAfter_13 : decode cX1_freeAfter 13 = .ok (.iload 4, 2) := by decide +kernel
theorem dX1_freeAfter_15 : decode cX1_freeAfter 15 = .ok (.aload_n 0, 1) := by decide +kernel
theorem dX1_freeAfter_16 : decode cX1_freeAfter 16 = .ok (.getfield 18, 3) := by decide +kernel
theorem dX1_freeAfter_19 : decode cX1_freeAfter 19 = .ok (.getfield 34, 3) := by decide +kernel
theorem dX1_freeAfter_22 : decode cX1_freeAfter 22 = .ok (.getfield 44, 3) := by decide +kernel
theorem dX1_freeAfter_25 : decode cX1_freeAfter 25 = .ok (.if_icmp .ge 54, 3) := by decide +kernel
theorem dX1_freeAfter_28 : decode cX1_freeAfter 28 = .ok (.aload_n 0, 1) := by decide +kernel
theorem dX1_freeAfter_29 : decode cX1_freeAfter 29 = .ok (.getfield 18, 3) := by decide +kernel
theorem dX1_freeAfter_32 : decode cX1_freeAfter 32 = .ok (.iload 4, 2) := by decide +kernel
theorem dX1_freeAfter_34 : decode cX1_freeAfter 34 = .ok (.invokevirtual 47, 3) := by decide +kernel
theorem dX1_freeAfter_37 : decode cX1_freeAfter 37 = .ok (.ifCond .eq 36, 3) := by decide +kernel
theorem dX1_freeAfter_40 : decode cX1_freeAfter 40 = .ok (.aload_n 0, 1) := by decide +kernel
theorem dX1_freeAfter_41 : decode cX1_freeAfter 41 = .ok (.getfield 18, 3) := by decide +kernel
theorem dX1_freeAfter_44 : decode cX1_freeAfter 44 = .ok (.iload 4, 2) := by decide +kernel
theorem dX1_freeAfter_46 : decode cX1_freeAfter 46 = .ok (.aload_n 2, 1) := by decide +kernel
theorem dX1_freeAfter_47 : decode cX1_freeAfter 47 = .ok (.bipush 11, 2) := by decide +kernel
theorem dX1_freeAfter_49 : decode cX1_freeAfter 49 = .ok (.iload 4, 2) := by decide +kernel
theorem dX1_freeAfter_51 : decode cX1_freeAfter 51 = .ok (.iadd, 1) := by decide +kernel
theorem dX1_freeAfter_52 : decode cX1_freeAfter 52 = .ok (.iaload, 1) := by decide +kernel
theorem dX1_freeAfter_53 : decode cX1_freeAfter 53 = .ok (.iload_n 1, 1) := by decide +kernel
theorem dX1_freeAfter_54 : decode cX1_freeAfter 54 = .ok (.aload_n 2, 1) := by decide +kernel
theorem dX1_freeAfter_55 : decode cX1_freeAfter 55 = .ok (.bipush 23, 2) := by decide +kernel
theorem dX1_freeAfter_57 : decode cX1_freeAfter 57 = .ok (.iload 4, 2) := by decide +kernel
theorem dX1_freeAfter_59 : decode cX1_freeAfter 59 = .ok (.iadd, 1) := by decide +kernel
theorem dX1_freeAfter_60 : decode cX1_freeAfter 60 = .ok (.iaload, 1) := by decide +kernel
theorem dX1_freeAfter_61 : decode cX1_freeAfter 61 = .ok (.aload_n 2, 1) := by decide +kernel
theorem dX1_freeAfter_62 : decode cX1_freeAfter 62 = .ok (.iconst 1, 1) := by decide +kernel
theorem dX1_freeAfter_63 : decode cX1_freeAfter 63 = .ok (.iaload, 1) := by decide +kernel
theorem dX1_freeAfter_64 : decode cX1_freeAfter 64 = .ok (.invokevirtual 62, 3) := by decide +kernel
theorem dX1_freeAfter_67 : decode cX1_freeAfter 67 = .ok (.ifCond .le 6, 3) := by decide +kernel
theorem dX1_freeAfter_70 : decode cX1_freeAfter 70 = .ok (.iinc 3 1, 3) := by decide +kernel
theorem dX1_freeAfter_73 : decode cX1_freeAfter 73 = .ok (.iinc 4 1, 3) := by decide +kernel
theorem dX1_freeAfter_76 : decode cX1_freeAfter 76 = .ok (.goto (-63), 3) := by decide +kernel
theorem dX1_freeAfter_79 : decode cX1_freeAfter 79 = .ok (.iload_n 3, 1) := by decide +kernel
theorem dX1_freeAfter_80 : decode cX1_freeAfter 80 = .ok (.ireturn, 1) := by decide +kernel
theorem wd_1222 : (Cond.code ⟨"WebCourt$Counsel", "freeAfter", "(I)I"⟩ prog_3_method_18_code (5 : Nat) (Option.some FieldType.int)) ∈ gtb := gtb_c5 153 (by decide +kernel) rfl
theorem wd_354 : (Cond.fieldLink "WebCourt$Counsel" (54 : Nat) "WebCourt$Court" "row" "[I") ∈ gtb := gtb_c2 5 (by decide +kernel) rfl
theorem gf_RX1_54 {p : Program} {l : Launch} {e : Env} {R : Room} {s : State} {m : MethodId} {args : Array Value} {below : List Frame} {meth : Method} {c : Code} {H : Heap} {locs : List Loc} {cells slots : Nat} {Q : State → Prop} {cc : ByteArray} {pc nL : Nat} {ls : Array Slot} {rest : List Value} {D : va_G} {cy : Nat → ClassId} {A : Nat → Prop} {ws : va_W} {b : Nat} {fs : List Value} {v : Value} (C : Cx p s m args c cc nL RX1 D cy A) (hO : Wo D A ws s.heap H locs) (q0 : Nat) (he : ws[q0]? = some (b, .inr (2, fs))) (hv : fs[0]? = some v) (hdg : decode cc pc = .ok (.getfield 54, 3)) (kk : W p l e R s m args below meth c H locs cells slots Q (F0 m (pc + 3) ls (v :: rest))) : W p l e R s m args below meth c H locs cells slots Q (F0 m pc ls (.ref b :: rest)) := gF (k := 0) C hO q0 he rfl inFX2 (by decide) wd_354 rfl hv hdg kk
set_option maxHeartbeats 4000000 in
set_option maxRecDepth 100000 in
theorem T_X1_freeAfter (l : Launch) (D : va_G) (cy : Nat → ClassId) (a : Nat → Nat) (u : St) (hI_3_12 : fI u 3 12 = 0) (hR_0 : fR u 0 = a 3) (x1 : Int32)  : Mi l D cy (cW cy a) yX1_freeAfter (.code yX1_freeAfter cX1_freeAfter 5 (some .int)) (rmo 0 0) [.ref (a 36), .int x1] u (fun (r : Int32) (u' : St) => (r = 0) ∧ (u' = u)) := by
  refine Mi.of (own := RX1) rfl (by decide) (Nat.le_of_ble_eq_true rfl) ?_
  intro p e s m below meth c A Q ls C hret hO hl
  obtain ⟨hx, hb, hml, hown, ht, hK, hA⟩ := id C
  have hl : lv_has ls 5 [(0, .ref (a 36)), (1, .int x1)] := hl
  refine lv_aload_n hx hb dX1_freeAfter_0 rfl (lv_at hl 0 rfl) ?_
  refine gf_RX1_18 (v := .ref (a 28)) C hO 36 cW_36 rfl dX1_freeAfter_1 ?_
  refine gf_RX1_54 (v := .ref (a 29)) C hO 28 cW_28 rfl dX1_freeAfter_4 ?_
  refine lv_astore_n (lv' := [(2, .ref (a 29)), (0, .ref (a 36)), (1, .int x1)]) hx hb dX1_freeAfter_7 rfl hl (by decide) rfl (fun ls hl => ?_)
  refine lv_iconst (v := 0) hx hb dX1_freeAfter_8 (by decide) ?_
  refine lv_istore_n (lv' := [(3, .int 0), (2, .ref (a 29)), (0, .ref (a 36)), (1, .int x1)]) hx hb dX1_freeAfter_9 rfl hl (by decide) rfl (fun ls hl => ?_)
  refine lv_iconst (v := 0) hx hb dX1_freeAfter_10 (by decide) ?_
  refine lv_istore (lv' := [(4, .int 0), (3, .int 0), (2, .ref (a 29)), (0, .ref (a 36)), (1, .int x1)]) hx hb dX1_freeAfter_11 hl (by decide) rfl (fun ls hl => ?_)
  refine lv_iload hx hb dX1_freeAfter_13 (lv_at hl 0 rfl) ?_
  refine lv_aload_n hx hb dX1_freeAfter_15 rfl (lv_at hl 3 rfl) ?_
  refine gf_RX1_18 (v := .ref (a 28)) C hO 36 cW_36 rfl dX1_freeAfter_16 ?_
  refine gf_RX1_34 (v := .ref (a 3)) C hO 28 cW_28 (congrArg (fun z : Nat => some (Value.ref z)) hR_0) dX1_freeAfter_19 ?_
  refine gf_RX1_44 (v := .int 0) C hO 3 cW_3 (congrArg (fun z : Int32 => some (Value.int z)) hI_3_12) dX1_freeAfter_22 ?_
  refine ct_ge (tgt := 79) (X := 0) (Y := 0) hx hb dX1_freeAfter_25 (by decide) rfl rfl (by omega) ?_
  refine lv_iload_n hx hb dX1_freeAfter_79 rfl (lv_at hl 1 rfl) ?_
  refine hret _ _ _ _ _ _ dX1_freeAfter_80 rfl ?_ hO
  exact ⟨rfl, rfl⟩
theorem dX10_precedent_0 : decode cX10_precedent 0 = .ok (.iload_n 1, 1) := by decide +kernel
theorem dX10_precedent_1 : decode cX10_precedent 1 = .ok (.ifCond .lt 9, 3) := by decide +kernel
theorem dX10_precedent_4 : decode cX10_precedent 4 = .ok (.iload_n 1, 1) := by decide +kernel
theorem dX10_precedent_5 : decode cX10_precedent 5 = .ok (.bipush 99, 2) := by decide +kernel
theorem dX10_precedent_7 : decode cX10_precedent 7 = .ok (.if_icmp .le 7, 3) := by decide +kernel
theorem dX10_precedent_10 : decode cX10_precedent 10 = .ok (.iconst (-1), 1) := by decide +kernel
theorem dX10_precedent_11 : decode cX10_precedent 11 = .ok (.goto 11, 3) := by decide +kernel
theorem dX10_precedent_14 : decode cX10_precedent 14 = .ok (.aload_n 0, 1) := by decide +kernel
theorem dX10_precedent_15 : decode cX10_precedent 15 = .ok (.getfield 69, 3) := by decide +kernel
theorem dX10_precedent_18 : decode cX10_precedent 18 = .ok (.iload_n 1, 1) := by decide +kernel
theorem dX10_precedent_19 : decode cX10_precedent 19 = .ok (.invokevirtual 291, 3) := by decide +kernel
theorem dX10_precedent_22 : decode cX10_precedent 22 = .ok (.ireturn, 1) := by decide +kernel
theorem wd_1218 : (Cond.code ⟨"WebCourt", "precedent", "(I)I"⟩ prog_1_method_39_code (2 : Nat) (Option.some FieldType.int)) ∈ gtb := gtb_c5 149 (by decide +kernel) rfl
theorem wd_1219 : (Cond.methodLink "WebCourt" (291 : Nat) ⟨"WebCourt$Counsel", "freeAfter", "(I)I"⟩) ∈ gtb := gtb_c5 150 (by decide +kernel) rfl
theorem wd_1220 : (Cond.instanceMethod ⟨"WebCourt$Counsel", "freeAfter", "(I)I"⟩) ∈ gtb := gtb_c5 151 (by decide +kernel) rfl
theorem wd_1221 : (Cond.selects "WebCourt$Counsel" ⟨"WebCourt$Counsel", "freeAfter", "(I)I"⟩ ⟨"WebCourt$Counsel", "freeAfter", "(I)I"⟩) ∈ gtb := gtb_c5 152 (by decide +kernel) rfl
theorem hd_yX1_freeAfter : yX1_freeAfter.cls = RX1 ∧ yX1_freeAfter.cls ≠ "java/lang/invoke/MethodHandle" ∧ yX1_freeAfter.cls ≠ "java/lang/invoke/VarHandle" ∧ (parseMethodDescriptor yX1_freeAfter.desc).map (fun d => d.parameters.length) = some 1 := by decide +kernel
set_option maxHeartbeats 4000000 in
set_option maxRecDepth 100000 in
theorem T_X10_precedent (l : Launch) (D : va_G) (cy : Nat → ClassId) (a : Nat → Nat) (u : St) (hI_3_12 : fI u 3 12 = 0) (hR_0 : fR u 0 = a 3) (x1 : Int32)  : Mi l D cy (cW cy a) yX10_precedent (.code yX10_precedent cX10_precedent 2 (some .int)) (rmo 1 24) [.ref (a 0), .int x1] u (fun (r : Int32) (u' : St) => (r = q_prec x1) ∧ (u' = u)) := by
  refine Mi.of (own := RX10) rfl (by decide) (Nat.le_of_ble_eq_true rfl) ?_
  intro p e s m below meth c A Q ls C hret hO hl
  obtain ⟨hx, hb, hml, hown, ht, hK, hA⟩ := id C
  have hl : lv_has ls 2 [(0, .ref (a 0)), (1, .int x1)] := hl
  refine lv_iload_n hx hb dX10_precedent_0 rfl (lv_at hl 1 rfl) ?_
  refine bs_lt (tgt := 10) (X := (x1).toInt) hx hb dX10_precedent_1 (by decide) rfl (fun c1 => ?_) (fun c1 => ?_)
  · refine lv_iconst (v := (-1)) hx hb dX10_precedent_10 (by decide) ?_
    refine lv_goto (tgt := 22) hx hb dX10_precedent_11 (by decide) ?_
    refine hret _ _ _ _ _ _ dX10_precedent_22 rfl ?_ hO
    exact ⟨(by unfold q_prec; have z0 : (0 : Int32).toInt = 0 := rfl; have z1 : (-1 : Int32).toInt = -1 := rfl; split <;> first | rfl | (exact i32_eq.mpr (by omega)) | (exfalso; omega)), rfl⟩
  · refine lv_iload_n hx hb dX10_precedent_4 rfl (lv_at hl 1 rfl) ?_
    refine lv_bipush (v := 99) hx hb dX10_precedent_5 (by decide) ?_
    refine cs_le (tgt := 14) (X := (x1).toInt) (Y := 99) hx hb dX10_precedent_7 (by decide) rfl rfl (fun c2 => ?_) (fun c2 => ?_)
    · refine lv_aload_n hx hb dX10_precedent_14 rfl (lv_at hl 0 rfl) ?_
      refine gf_RX10_69 (v := .ref (a 36)) C hO 0 cW_0 rfl dX10_precedent_15 ?_
      refine lv_iload_n hx hb dX10_precedent_18 rfl (lv_at hl 1 rfl) ?_
      refine cVi (w := cW cy a) (As := [.int x1]) (rest := []) C hO (T_X1_freeAfter l D cy a _ (by exact hI_3_12) (by exact hR_0) (x1)) (cwV 1 ht (gV wd_1219 wd_1220 wd_1221 wd_119 wd_1222) rfl rfl rfl hd_yX1_freeAfter ⟨Nat.le_of_ble_eq_true rfl, Nat.le_of_ble_eq_true rfl⟩) 36 rfl cW_36 rfl rfl hl.1 (Nat.le_of_ble_eq_true rfl) dX10_precedent_19 rfl ⟨Nat.zero_le _, Nat.zero_le _⟩ (fun r3 u4 H locs hp5 hO => ?_)
      obtain ⟨hr3, hu4⟩ := hp5
      subst hr3
      rw [hu4] at hO
      refine hret _ _ _ _ _ _ dX10_precedent_22 rfl ?_ hO
      exact ⟨(by unfold q_prec; have z0 : (0 : Int32).toInt = 0 := rfl; have z1 : (-1 : Int32).toInt = -1 := rfl; split <;> first | rfl | (exact i32_eq.mpr (by omega)) | (exfalso; omega)), rfl⟩
    · refine lv_iconst (v := (-1)) hx hb dX10_precedent_10 (by decide) ?_
      refine lv_goto (tgt := 22) hx hb dX10_precedent_11 (by decide) ?_
      refine hret _ _ _ _ _ _ dX10_precedent_22 rfl ?_ hO
      exact ⟨(by unfold q_prec; have z0 : (0 : Int32).toInt = 0 := rfl; have z1 : (-1 : Int32).toInt = -1 := rfl; split <;> first | rfl | (exact i32_eq.mpr (by omega)) | (exfalso; omega)), rfl⟩
