theorem dX2_hasKnot_0 : decode cX2_hasKnot 0 = .ok (.iload_n 1, 1) := by decide +kernel
theorem dX2_hasKnot_1 : decode cX2_hasKnot 1 = .ok (.ifCond .lt 18, 3) := by decide +kernel
theorem dX2_hasKnot_4 : decode cX2_hasKnot 4 = .ok (.iload_n 1, 1) := by decide +kernel
theorem dX2_hasKnot_5 : decode cX2_hasKnot 5 = .ok (.aload_n 0, 1) := by decide +kernel
theorem dX2_hasKnot_6 : decode cX2_hasKnot 6 = .ok (.getfield 15, 3) := by decide +kernel
theorem dX2_hasKnot_9 : decode cX2_hasKnot 9 = .ok (.getfield 19, 3) := by decide +kernel
theorem dX2_hasKnot_12 : decode cX2_hasKnot 12 = .ok (.if_icmp .ge 7, 3) := by decide +kernel
theorem dX2_hasKnot_15 : decode cX2_hasKnot 15 = .ok (.iconst 1, 1) := by decide +kernel
theorem dX2_hasKnot_16 : decode cX2_hasKnot 16 = .ok (.goto 4, 3) := by decide +kernel
theorem dX2_hasKnot_19 : decode cX2_hasKnot 19 = .ok (.iconst 0, 1) := by decide +kernel
theorem dX2_hasKnot_20 : decode cX2_hasKnot 20 = .ok (.ireturn, 1) := by decide +kernel
theorem wd_820 : (Cond.code ⟨"WebCourt$Court", "hasKnot", "(I)Z"⟩ prog_4_method_3_code (2 : Nat) (Option.some FieldType.boolean)) ∈ gtb := gtb_c3 231 (by decide +kernel) rfl
theorem wd_358 : (Cond.fieldLink "WebCourt$Court" (15 : Nat) "WebCourt$Court" "web" "LWebCourt$Web;") ∈ gtb := gtb_c2 9 (by decide +kernel) rfl
theorem wd_363 : (Cond.laysFinal "WebCourt$Court" "WebCourt$Court" "row" "[I") ∈ gtb := gtb_c2 14 (by decide +kernel) rfl
theorem wd_365 : (Cond.lays "WebCourt$Court" "WebCourt$Court" "web" "LWebCourt$Web;") ∈ gtb := gtb_c2 16 (by decide +kernel) rfl
theorem inFX2 : ∀ w ∈ u_ws RX2 TX2 2, w ∈ gtb := by
  show ∀ w ∈ [u_lay RX2 TX2 0, u_lay RX2 TX2 1], w ∈ gtb
  exact List.forall_mem_cons.mpr ⟨wd_363, List.forall_mem_cons.mpr ⟨wd_365, fun _ h => absurd h List.not_mem_nil⟩⟩
theorem gf_RX2_15 {p : Program} {l : Launch} {e : Env} {R : Room} {s : State} {m : MethodId} {args : Array Value} {below : List Frame} {meth : Method} {c : Code} {H : Heap} {locs : List Loc} {cells slots : Nat} {Q : State → Prop} {cc : ByteArray} {pc nL : Nat} {ls : Array Slot} {rest : List Value} {D : va_G} {cy : Nat → ClassId} {A : Nat → Prop} {ws : va_W} {b : Nat} {fs : List Value} {v : Value} (C : Cx p s m args c cc nL RX2 D cy A) (hO : Wo D A ws s.heap H locs) (q0 : Nat) (he : ws[q0]? = some (b, .inr (2, fs))) (hv : fs[1]? = some v) (hdg : decode cc pc = .ok (.getfield 15, 3)) (kk : W p l e R s m args below meth c H locs cells slots Q (F0 m (pc + 3) ls (v :: rest))) : W p l e R s m args below meth c H locs cells slots Q (F0 m pc ls (.ref b :: rest)) := gF (k := 1) C hO q0 he rfl inFX2 (by decide) wd_358 rfl hv hdg kk
theorem wd_252 : (Cond.fieldLink "WebCourt$Court" (19 : Nat) "WebCourt$Web" "knots" "I") ∈ gtb := gtb_c1 143 (by decide +kernel) rfl
theorem wd_289 : (Cond.laysFinal "WebCourt$Web" "WebCourt$Web" "knotNames" "[J") ∈ gtb := gtb_c1 180 (by decide +kernel) rfl
theorem wd_291 : (Cond.laysFinal "WebCourt$Web" "WebCourt$Web" "pleaNames" "[J") ∈ gtb := gtb_c1 182 (by decide +kernel) rfl
theorem wd_293 : (Cond.laysFinal "WebCourt$Web" "WebCourt$Web" "caseNames" "[J") ∈ gtb := gtb_c1 184 (by decide +kernel) rfl
theorem wd_295 : (Cond.laysFinal "WebCourt$Web" "WebCourt$Web" "lineFrom" "[I") ∈ gtb := gtb_c1 186 (by decide +kernel) rfl
theorem wd_297 : (Cond.laysFinal "WebCourt$Web" "WebCourt$Web" "lineTo" "[I") ∈ gtb := gtb_c1 188 (by decide +kernel) rfl
theorem wd_299 : (Cond.laysFinal "WebCourt$Web" "WebCourt$Web" "strong" "[I") ∈ gtb := gtb_c1 190 (by decide +kernel) rfl
theorem wd_301 : (Cond.laysFinal "WebCourt$Web" "WebCourt$Web" "caseKnots" "[I") ∈ gtb := gtb_c1 192 (by decide +kernel) rfl
theorem wd_303 : (Cond.laysFinal "WebCourt$Web" "WebCourt$Web" "casePleas" "[I") ∈ gtb := gtb_c1 194 (by decide +kernel) rfl
theorem wd_305 : (Cond.laysFinal "WebCourt$Web" "WebCourt$Web" "law" "LWebCourt$Law;") ∈ gtb := gtb_c1 196 (by decide +kernel) rfl
theorem wd_307 : (Cond.lays "WebCourt$Web" "WebCourt$Web" "knots" "I") ∈ gtb := gtb_c1 198 (by decide +kernel) rfl
theorem wd_309 : (Cond.lays "WebCourt$Web" "WebCourt$Web" "lines" "I") ∈ gtb := gtb_c1 200 (by decide +kernel) rfl
theorem wd_311 : (Cond.lays "WebCourt$Web" "WebCourt$Web" "pleas" "I") ∈ gtb := gtb_c1 202 (by decide +kernel) rfl
theorem wd_313 : (Cond.lays "WebCourt$Web" "WebCourt$Web" "cases" "I") ∈ gtb := gtb_c1 204 (by decide +kernel) rfl
theorem wd_315 : (Cond.lays "WebCourt$Web" "WebCourt$Web" "sticky" "I") ∈ gtb := gtb_c1 206 (by decide +kernel) rfl
theorem wd_317 : (Cond.lays "WebCourt$Web" "WebCourt$Web" "bench" "I") ∈ gtb := gtb_c1 208 (by decide +kernel) rfl
theorem wd_319 : (Cond.lays "WebCourt$Web" "WebCourt$Web" "back" "I") ∈ gtb := gtb_c1 210 (by decide +kernel) rfl
theorem wd_321 : (Cond.lays "WebCourt$Web" "WebCourt$Web" "draw" "I") ∈ gtb := gtb_c1 212 (by decide +kernel) rfl
theorem wd_323 : (Cond.lays "WebCourt$Web" "WebCourt$Web" "toldOnce" "I") ∈ gtb := gtb_c1 214 (by decide +kernel) rfl
theorem inFX9 : ∀ w ∈ u_ws RX9 TX9 18, w ∈ gtb := by
  show ∀ w ∈ [u_lay RX9 TX9 0, u_lay RX9 TX9 1, u_lay RX9 TX9 2, u_lay RX9 TX9 3, u_lay RX9 TX9 4, u_lay RX9 TX9 5, u_lay RX9 TX9 6, u_lay RX9 TX9 7, u_lay RX9 TX9 8, u_lay RX9 TX9 9, u_lay RX9 TX9 10, u_lay RX9 TX9 11, u_lay RX9 TX9 12, u_lay RX9 TX9 13, u_lay RX9 TX9 14, u_lay RX9 TX9 15, u_lay RX9 TX9 16, u_lay RX9 TX9 17], w ∈ gtb
  exact List.forall_mem_cons.mpr ⟨wd_289, List.forall_mem_cons.mpr ⟨wd_291, List.forall_mem_cons.mpr ⟨wd_293, List.forall_mem_cons.mpr ⟨wd_295, List.forall_mem_cons.mpr ⟨wd_297, List.forall_mem_cons.mpr ⟨wd_299, List.forall_mem_cons.mpr ⟨wd_301, List.forall_mem_cons.mpr ⟨wd_303, List.forall_mem_cons.mpr ⟨wd_305, List.forall_mem_cons.mpr ⟨wd_307, List.forall_mem_cons.mpr ⟨wd_309, List.forall_mem_cons.mpr ⟨wd_311, List.forall_mem_cons.mpr ⟨wd_313, List.forall_mem_cons.mpr ⟨wd_315, List.forall_mem_cons.mpr ⟨wd_317, List.forall_mem_cons.mpr ⟨wd_319, List.forall_mem_cons.mpr ⟨wd_321, List.forall_mem_cons.mpr ⟨wd_323, fun _ h => absurd h List.not_mem_nil⟩⟩⟩⟩⟩⟩⟩⟩⟩⟩⟩⟩⟩⟩⟩⟩⟩⟩
theorem gf_RX2_19 {p : Program} {l : Launch} {e : Env} {R : Room} {s : State} {m : MethodId} {args : Array Value} {below : List Frame} {meth : Method} {c : Code} {H : Heap} {locs : List Loc} {cells slots : Nat} {Q : State → Prop} {cc : ByteArray} {pc nL : Nat} {ls : Array Slot} {rest : List Value} {D : va_G} {cy : Nat → ClassId} {A : Nat → Prop} {ws : va_W} {b : Nat} {fs : List Value} {v : Value} (C : Cx p s m args c cc nL RX2 D cy A) (hO : Wo D A ws s.heap H locs) (q0 : Nat) (he : ws[q0]? = some (b, .inr (9, fs))) (hv : fs[9]? = some v) (hdg : decode cc pc = .ok (.getfield 19, 3)) (kk : W p l e R s m args below meth c H locs cells slots Q (F0 m (pc + 3) ls (v :: rest))) : W p l e R s m args below meth c H locs cells slots Q (F0 m pc ls (.ref b :: rest)) := gF (k := 9) C hO q0 he rfl inFX9 (by decide) wd_252 rfl hv hdg kk
set_option maxHeartbeats 4000000 in
set_option maxRecDepth 100000 in
theorem T_X2_hasKnot (l : Launch) (D : va_G) (cy : Nat → ClassId) (a : Nat → Nat) (u : St) (hJ : CI a u) (x1 : Int32)  : Mi l D cy (cW cy a) yX2_hasKnot (.code yX2_hasKnot cX2_hasKnot 2 (some .boolean)) (rmo 0 0) [.ref (a 28), .int x1] u (fun (r : Int32) (u' : St) => (((0 ≤ x1.toInt ∧ x1.toInt ≤ 7) ∧ r = 1) ∨ (True ∧ r = 0)) ∧ (u' = u)) := by
  refine Mi.of (own := RX2) rfl (by decide) (Nat.le_of_ble_eq_true rfl) ?_
  have hT : KT u u := KT.rf
  intro p e s m below meth c A Q ls C hret hO hl
  obtain ⟨hx, hb, hml, hown, ht, hK, hA⟩ := id C
  have hl : lv_has ls 2 [(0, .ref (a 28)), (1, .int x1)] := hl
  refine lv_iload_n hx hb dX2_hasKnot_0 rfl (lv_at hl 1 rfl) ?_
  refine bs_lt (tgt := 19) (X := (x1).toInt) hx hb dX2_hasKnot_1 (by decide) rfl (fun c1 => ?_) (fun c1 => ?_)
  · refine lv_iconst (v := 0) hx hb dX2_hasKnot_19 (by decide) ?_
    refine hret _ _ _ _ _ _ dX2_hasKnot_20 rfl ?_ hO
    exact ⟨Or.inr ⟨trivial, rfl⟩, rfl⟩
  · refine lv_iload_n hx hb dX2_hasKnot_4 rfl (lv_at hl 1 rfl) ?_
    refine lv_aload_n hx hb dX2_hasKnot_5 rfl (lv_at hl 0 rfl) ?_
    refine gf_RX2_15 (v := .ref (a 3)) C hO 28 cW_28 (congrArg (fun z : Nat => some (Value.ref z)) (CI_R0 hJ)) dX2_hasKnot_6 ?_
    have g2 : 0 ≤ (fI u 3 9).toInt ∧ (fI u 3 9).toInt ≤ 8 := by have h := CI_3_9 hJ; exact h
    refine gf_RX2_19 (v := .int (fI u 3 9)) C hO 3 cW_3 rfl dX2_hasKnot_9 ?_
    refine cs_ge (tgt := 19) (X := (x1).toInt) (Y := ((fI u 3 9)).toInt) hx hb dX2_hasKnot_12 (by decide) rfl rfl (fun c3 => ?_) (fun c3 => ?_)
    · refine lv_iconst (v := 0) hx hb dX2_hasKnot_19 (by decide) ?_
      refine hret _ _ _ _ _ _ dX2_hasKnot_20 rfl ?_ hO
      exact ⟨Or.inr ⟨trivial, rfl⟩, rfl⟩
    · refine lv_iconst (v := 1) hx hb dX2_hasKnot_15 (by decide) ?_
      refine lv_goto (tgt := 20) hx hb dX2_hasKnot_16 (by decide) ?_
      refine hret _ _ _ _ _ _ dX2_hasKnot_20 rfl ?_ hO
      exact ⟨Or.inl ⟨by omega, rfl⟩, rfl⟩
theorem dX2_hasPlea_0 : decode cX2_hasPlea 0 = .ok (.iload_n 1, 1) := by decide +kernel
theorem dX2_hasPlea_1 : decode cX2_hasPlea 1 = .ok (.ifCond .lt 18, 3) := by decide +kernel
theorem dX2_hasPlea_4 : decode cX2_hasPlea 4 = .ok (.iload_n 1, 1) := by decide +kernel
theorem dX2_hasPlea_5 : decode cX2_hasPlea 5 = .ok (.aload_n 0, 1) := by decide +kernel
theorem dX2_hasPlea_6 : decode cX2_hasPlea 6 = .ok (.getfield 15, 3) := by decide +kernel
theorem dX2_hasPlea_9 : decode cX2_hasPlea 9 = .ok (.getfield 40, 3) := by decide +kernel
theorem dX2_hasPlea_12 : decode cX2_hasPlea 12 = .ok (.if_icmp .ge 7, 3) := by decide +kernel
theorem dX2_hasPlea_15 : decode cX2_hasPlea 15 = .ok (.iconst 1, 1) := by decide +kernel
theorem dX2_hasPlea_16 : decode cX2_hasPlea 16 = .ok (.goto 4, 3) := by decide +kernel
theorem dX2_hasPlea_19 : decode cX2_hasPlea 19 = .ok (.iconst 0, 1) := by decide +kernel
theorem dX2_hasPlea_20 : decode cX2_hasPlea 20 = .ok (.ireturn, 1) := by decide +kernel
theorem wd_836 : (Cond.code ⟨"WebCourt$Court", "hasPlea", "(I)Z"⟩ prog_4_method_4_code (2 : Nat) (Option.some FieldType.boolean)) ∈ gtb := gtb_c4 7 (by decide +kernel) rfl
theorem wd_263 : (Cond.fieldLink "WebCourt$Court" (40 : Nat) "WebCourt$Web" "pleas" "I") ∈ gtb := gtb_c1 154 (by decide +kernel) rfl
theorem gf_RX2_40 {p : Program} {l : Launch} {e : Env} {R : Room} {s : State} {m : MethodId} {args : Array Value} {below : List Frame} {meth : Method} {c : Code} {H : Heap} {locs : List Loc} {cells slots : Nat} {Q : State → Prop} {cc : ByteArray} {pc nL : Nat} {ls : Array Slot} {rest : List Value} {D : va_G} {cy : Nat → ClassId} {A : Nat → Prop} {ws : va_W} {b : Nat} {fs : List Value} {v : Value} (C : Cx p s m args c cc nL RX2 D cy A) (hO : Wo D A ws s.heap H locs) (q0 : Nat) (he : ws[q0]? = some (b, .inr (9, fs))) (hv : fs[11]? = some v) (hdg : decode cc pc = .ok (.getfield 40, 3)) (kk : W p l e R s m args below meth c H locs cells slots Q (F0 m (pc + 3) ls (v :: rest))) : W p l e R s m args below meth c H locs cells slots Q (F0 m pc ls (.ref b :: rest)) := gF (k := 11) C hO q0 he rfl inFX9 (by decide) wd_263 rfl hv hdg kk
set_option maxHeartbeats 4000000 in
set_option maxRecDepth 100000 in
theorem T_X2_hasPlea (l : Launch) (D : va_G) (cy : Nat → ClassId) (a : Nat → Nat) (u : St) (hJ : CI a u) (x1 : Int32)  : Mi l D cy (cW cy a) yX2_hasPlea (.code yX2_hasPlea cX2_hasPlea 2 (some .boolean)) (rmo 0 0) [.ref (a 28), .int x1] u (fun (r : Int32) (u' : St) => (((0 ≤ x1.toInt ∧ x1.toInt ≤ 7) ∧ r = 1) ∨ (True ∧ r = 0)) ∧ (u' = u)) := by
  refine Mi.of (own := RX2) rfl (by decide) (Nat.le_of_ble_eq_true rfl) ?_
  have hT : KT u u := KT.rf
  intro p e s m below meth c A Q ls C hret hO hl
  obtain ⟨hx, hb, hml, hown, ht, hK, hA⟩ := id C
  have hl : lv_has ls 2 [(0, .ref (a 28)), (1, .int x1)] := hl
  refine lv_iload_n hx hb dX2_hasPlea_0 rfl (lv_at hl 1 rfl) ?_
  refine bs_lt (tgt := 19) (X := (x1).toInt) hx hb dX2_hasPlea_1 (by decide) rfl (fun c1 => ?_) (fun c1 => ?_)
  · refine lv_iconst (v := 0) hx hb dX2_hasPlea_19 (by decide) ?_
    refine hret _ _ _ _ _ _ dX2_hasPlea_20 rfl ?_ hO
    exact ⟨Or.inr ⟨trivial, rfl⟩, rfl⟩
  · refine lv_iload_n hx hb dX2_hasPlea_4 rfl (lv_at hl 1 rfl) ?_
    refine lv_aload_n hx hb dX2_hasPlea_5 rfl (lv_at hl 0 rfl) ?_
    refine gf_RX2_15 (v := .ref (a 3)) C hO 28 cW_28 (congrArg (fun z : Nat => some (Value.ref z)) (CI_R0 hJ)) dX2_hasPlea_6 ?_
    have g2 : 0 ≤ (fI u 3 11).toInt ∧ (fI u 3 11).toInt ≤ 8 := by have h := CI_3_11 hJ; exact h
    refine gf_RX2_40 (v := .int (fI u 3 11)) C hO 3 cW_3 rfl dX2_hasPlea_9 ?_
    refine cs_ge (tgt := 19) (X := (x1).toInt) (Y := ((fI u 3 11)).toInt) hx hb dX2_hasPlea_12 (by decide) rfl rfl (fun c3 => ?_) (fun c3 => ?_)
    · refine lv_iconst (v := 0) hx hb dX2_hasPlea_19 (by decide) ?_
      refine hret _ _ _ _ _ _ dX2_hasPlea_20 rfl ?_ hO
      exact ⟨Or.inr ⟨trivial, rfl⟩, rfl⟩
    · refine lv_iconst (v := 1) hx hb dX2_hasPlea_15 (by decide) ?_
      refine lv_goto (tgt := 20) hx hb dX2_hasPlea_16 (by decide) ?_
      refine hret _ _ _ _ _ _ dX2_hasPlea_20 rfl ?_ hO
      exact ⟨Or.inl ⟨by omega, rfl⟩, rfl⟩
theorem dX2_hasCase_0 : decode cX2_hasCase 0 = .ok (.iload_n 1, 1) := by decide +kernel
theorem dX2_hasCase_1 : decode cX2_hasCase 1 = .ok (.ifCond .lt 18, 3) := by decide +kernel
theorem dX2_hasCase_4 : decode cX2_hasCase 4 = .ok (.iload_n 1, 1) := by decide +kernel
theorem dX2_hasCase_5 : decode cX2_hasCase 5 = .ok (.aload_n 0, 1) := by decide +kernel
theorem dX2_hasCase_6 : decode cX2_hasCase 6 = .ok (.getfield 15, 3) := by decide +kernel
theorem dX2_hasCase_9 : decode cX2_hasCase 9 = .ok (.getfield 34, 3) := by decide +kernel
theorem dX2_hasCase_12 : decode cX2_hasCase 12 = .ok (.if_icmp .ge 7, 3) := by decide +kernel
theorem dX2_hasCase_15 : decode cX2_hasCase 15 = .ok (.iconst 1, 1) := by decide +kernel
theorem dX2_hasCase_16 : decode cX2_hasCase 16 = .ok (.goto 4, 3) := by decide +kernel
theorem dX2_hasCase_19 : decode cX2_hasCase 19 = .ok (.iconst 0, 1) := by decide +kernel
theorem dX2_hasCase_20 : decode cX2_hasCase 20 = .ok (.ireturn, 1) := by decide +kernel
theorem wd_844 : (Cond.code ⟨"WebCourt$Court", "hasCase", "(I)Z"⟩ prog_4_method_5_code (2 : Nat) (Option.some FieldType.boolean)) ∈ gtb := gtb_c4 15 (by decide +kernel) rfl
theorem wd_269 : (Cond.fieldLink "WebCourt$Court" (34 : Nat) "WebCourt$Web" "cases" "I") ∈ gtb := gtb_c1 160 (by decide +kernel) rfl
theorem gf_RX2_34 {p : Program} {l : Launch} {e : Env} {R : Room} {s : State} {m : MethodId} {args : Array Value} {below : List Frame} {meth : Method} {c : Code} {H : Heap} {locs : List Loc} {cells slots : Nat} {Q : State → Prop} {cc : ByteArray} {pc nL : Nat} {ls : Array Slot} {rest : List Value} {D : va_G} {cy : Nat → ClassId} {A : Nat → Prop} {ws : va_W} {b : Nat} {fs : List Value} {v : Value} (C : Cx p s m args c cc nL RX2 D cy A) (hO : Wo D A ws s.heap H locs) (q0 : Nat) (he : ws[q0]? = some (b, .inr (9, fs))) (hv : fs[12]? = some v) (hdg : decode cc pc = .ok (.getfield 34, 3)) (kk : W p l e R s m args below meth c H locs cells slots Q (F0 m (pc + 3) ls (v :: rest))) : W p l e R s m args below meth c H locs cells slots Q (F0 m pc ls (.ref b :: rest)) := gF (k := 12) C hO q0 he rfl inFX9 (by decide) wd_269 rfl hv hdg kk
set_option maxHeartbeats 4000000 in
set_option maxRecDepth 100000 in
theorem T_X2_hasCase (l : Launch) (D : va_G) (cy : Nat → ClassId) (a : Nat → Nat) (u : St) (hJ : CI a u) (x1 : Int32)  : Mi l D cy (cW cy a) yX2_hasCase (.code yX2_hasCase cX2_hasCase 2 (some .boolean)) (rmo 0 0) [.ref (a 28), .int x1] u (fun (r : Int32) (u' : St) => (((0 ≤ x1.toInt ∧ x1.toInt ≤ 5) ∧ r = 1) ∨ (True ∧ r = 0)) ∧ (u' = u)) := by
  refine Mi.of (own := RX2) rfl (by decide) (Nat.le_of_ble_eq_true rfl) ?_
  have hT : KT u u := KT.rf
  intro p e s m below meth c A Q ls C hret hO hl
  obtain ⟨hx, hb, hml, hown, ht, hK, hA⟩ := id C
  have hl : lv_has ls 2 [(0, .ref (a 28)), (1, .int x1)] := hl
  refine lv_iload_n hx hb dX2_hasCase_0 rfl (lv_at hl 1 rfl) ?_
  refine bs_lt (tgt := 19) (X := (x1).toInt) hx hb dX2_hasCase_1 (by decide) rfl (fun c1 => ?_) (fun c1 => ?_)
  · refine lv_iconst (v := 0) hx hb dX2_hasCase_19 (by decide) ?_
    refine hret _ _ _ _ _ _ dX2_hasCase_20 rfl ?_ hO
    exact ⟨Or.inr ⟨trivial, rfl⟩, rfl⟩
  · refine lv_iload_n hx hb dX2_hasCase_4 rfl (lv_at hl 1 rfl) ?_
    refine lv_aload_n hx hb dX2_hasCase_5 rfl (lv_at hl 0 rfl) ?_
    refine gf_RX2_15 (v := .ref (a 3)) C hO 28 cW_28 (congrArg (fun z : Nat => some (Value.ref z)) (CI_R0 hJ)) dX2_hasCase_6 ?_
    have g2 : 0 ≤ (fI u 3 12).toInt ∧ (fI u 3 12).toInt ≤ 6 := by have h := CI_3_12 hJ; exact h
    refine gf_RX2_34 (v := .int (fI u 3 12)) C hO 3 cW_3 rfl dX2_hasCase_9 ?_
    refine cs_ge (tgt := 19) (X := (x1).toInt) (Y := ((fI u 3 12)).toInt) hx hb dX2_hasCase_12 (by decide) rfl rfl (fun c3 => ?_) (fun c3 => ?_)
    · refine lv_iconst (v := 0) hx hb dX2_hasCase_19 (by decide) ?_
      refine hret _ _ _ _ _ _ dX2_hasCase_20 rfl ?_ hO
      exact ⟨Or.inr ⟨trivial, rfl⟩, rfl⟩
    · refine lv_iconst (v := 1) hx hb dX2_hasCase_15 (by decide) ?_
      refine lv_goto (tgt := 20) hx hb dX2_hasCase_16 (by decide) ?_
      refine hret _ _ _ _ _ _ dX2_hasCase_20 rfl ?_ hO
      exact ⟨Or.inl ⟨by omega, rfl⟩, rfl⟩
theorem dX2_isHeld_0 : decode cX2_isHeld 0 = .ok (.aload_n 0, 1) := by decide +kernel
theorem dX2_isHeld_1 : decode cX2_isHeld 1 = .ok (.iload_n 1, 1) := by decide +kernel
theorem dX2_isHeld_2 : decode cX2_isHeld 2 = .ok (.invokevirtual 43, 3) := by decide +kernel
theorem dX2_isHeld_5 : decode cX2_isHeld 5 = .ok (.ifCond .eq 18, 3) := by decide +kernel
theorem dX2_isHeld_8 : decode cX2_isHeld 8 = .ok (.aload_n 0, 1) := by decide +kernel
theorem dX2_isHeld_9 : decode cX2_isHeld 9 = .ok (.getfield 9, 3) := by decide +kernel
theorem dX2_isHeld_12 : decode cX2_isHeld 12 = .ok (.iconst 5, 1) := by decide +kernel
theorem dX2_isHeld_13 : decode cX2_isHeld 13 = .ok (.iload_n 1, 1) := by decide +kernel
theorem dX2_isHeld_14 : decode cX2_isHeld 14 = .ok (.iadd, 1) := by decide +kernel
theorem dX2_isHeld_15 : decode cX2_isHeld 15 = .ok (.iaload, 1) := by decide +kernel
theorem dX2_isHeld_16 : decode cX2_isHeld 16 = .ok (.ifCond .ne 7, 3) := by decide +kernel
theorem dX2_isHeld_19 : decode cX2_isHeld 19 = .ok (.iconst 1, 1) := by decide +kernel
theorem dX2_isHeld_20 : decode cX2_isHeld 20 = .ok (.goto 4, 3) := by decide +kernel
theorem dX2_isHeld_23 : decode cX2_isHeld 23 = .ok (.iconst 0, 1) := by decide +kernel
theorem dX2_isHeld_24 : decode cX2_isHeld 24 = .ok (.ireturn, 1) := by decide +kernel
theorem wd_932 : (Cond.code ⟨"WebCourt$Court", "isHeld", "(I)Z"⟩ prog_4_method_6_code (2 : Nat) (Option.some FieldType.boolean)) ∈ gtb := gtb_c4 103 (by decide +kernel) rfl
theorem wd_933 : (Cond.methodLink "WebCourt$Court" (43 : Nat) ⟨"WebCourt$Court", "hasCase", "(I)Z"⟩) ∈ gtb := gtb_c4 104 (by decide +kernel) rfl
theorem wd_842 : (Cond.instanceMethod ⟨"WebCourt$Court", "hasCase", "(I)Z"⟩) ∈ gtb := gtb_c4 13 (by decide +kernel) rfl
theorem wd_843 : (Cond.selects "WebCourt$Court" ⟨"WebCourt$Court", "hasCase", "(I)Z"⟩ ⟨"WebCourt$Court", "hasCase", "(I)Z"⟩) ∈ gtb := gtb_c4 14 (by decide +kernel) rfl
theorem wd_115 : (Cond.initialized "WebCourt$Court") ∈ gtb := gtb_c1 6 (by decide +kernel) rfl
theorem hd_yX2_hasCase : yX2_hasCase.cls = RX2 ∧ yX2_hasCase.cls ≠ "java/lang/invoke/MethodHandle" ∧ yX2_hasCase.cls ≠ "java/lang/invoke/VarHandle" ∧ (parseMethodDescriptor yX2_hasCase.desc).map (fun d => d.parameters.length) = some 1 := by decide +kernel
theorem wd_353 : (Cond.fieldLink "WebCourt$Court" (9 : Nat) "WebCourt$Court" "row" "[I") ∈ gtb := gtb_c2 4 (by decide +kernel) rfl
theorem gf_RX2_9 {p : Program} {l : Launch} {e : Env} {R : Room} {s : State} {m : MethodId} {args : Array Value} {below : List Frame} {meth : Method} {c : Code} {H : Heap} {locs : List Loc} {cells slots : Nat} {Q : State → Prop} {cc : ByteArray} {pc nL : Nat} {ls : Array Slot} {rest : List Value} {D : va_G} {cy : Nat → ClassId} {A : Nat → Prop} {ws : va_W} {b : Nat} {fs : List Value} {v : Value} (C : Cx p s m args c cc nL RX2 D cy A) (hO : Wo D A ws s.heap H locs) (q0 : Nat) (he : ws[q0]? = some (b, .inr (2, fs))) (hv : fs[0]? = some v) (hdg : decode cc pc = .ok (.getfield 9, 3)) (kk : W p l e R s m args below meth c H locs cells slots Q (F0 m (pc + 3) ls (v :: rest))) : W p l e R s m args below meth c H locs cells slots Q (F0 m pc ls (.ref b :: rest)) := gF (k := 0) C hO q0 he rfl inFX2 (by decide) wd_353 rfl hv hdg kk
set_option maxHeartbeats 4000000 in
set_option maxRecDepth 100000 in
theorem T_X2_isHeld (l : Launch) (D : va_G) (cy : Nat → ClassId) (a : Nat → Nat) (u : St) (hJ : CI a u) (x1 : Int32)  : Mi l D cy (cW cy a) yX2_isHeld (.code yX2_isHeld cX2_isHeld 2 (some .boolean)) (rmo 1 21) [.ref (a 28), .int x1] u (fun (r : Int32) (u' : St) => (((0 ≤ x1.toInt ∧ x1.toInt ≤ 5) ∧ r = 1) ∨ (True ∧ r = 0)) ∧ (u' = u)) := by
  refine Mi.of (own := RX2) rfl (by decide) (Nat.le_of_ble_eq_true rfl) ?_
  have hT : KT u u := KT.rf
  intro p e s m below meth c A Q ls C hret hO hl
  obtain ⟨hx, hb, hml, hown, ht, hK, hA⟩ := id C
  have hl : lv_has ls 2 [(0, .ref (a 28)), (1, .int x1)] := hl
  refine lv_aload_n hx hb dX2_isHeld_0 rfl (lv_at hl 0 rfl) ?_
  refine lv_iload_n hx hb dX2_isHeld_1 rfl (lv_at hl 1 rfl) ?_
  refine cVi (w := cW cy a) (As := [.int x1]) (rest := []) C hO (T_X2_hasCase l D cy a _ (by exact hJ) (x1)) (cwV 1 ht (gV wd_933 wd_842 wd_843 wd_115 wd_844) rfl rfl rfl hd_yX2_hasCase ⟨Nat.le_of_ble_eq_true rfl, Nat.le_of_ble_eq_true rfl⟩) 28 rfl cW_28 rfl rfl hl.1 (Nat.le_of_ble_eq_true rfl) dX2_isHeld_2 rfl ⟨Nat.zero_le _, Nat.zero_le _⟩ (fun r1 u2 H locs hp3 hO => ?_)
  obtain ⟨hr1, hu2⟩ := hp3
  rw [hu2] at hO
  rcases hr1 with ⟨hcr1, hvr1⟩ | ⟨hcr1, hvr1⟩
  · subst hvr1
    refine bn_eq (X := 1) hx hb dX2_isHeld_5 rfl (by omega) ?_ (tgt := 23) (by decide)
    refine lv_aload_n hx hb dX2_isHeld_8 rfl (lv_at hl 0 rfl) ?_
    refine gf_RX2_9 (v := .ref (a 29)) C hO 28 cW_28 rfl dX2_isHeld_9 ?_
    refine lv_iconst (v := 5) hx hb dX2_isHeld_12 (by decide) ?_
    refine lv_iload_n hx hb dX2_isHeld_13 rfl (lv_at hl 1 rfl) ?_
    have e4 : ((5 + x1)).toInt = 5 + (x1).toInt := i_add rfl rfl (by omega)
    refine lv_iadd hx hb dX2_isHeld_14 ?_
    refine aI C hO 29 cW_29 (i_in (X := (5 + (x1).toInt)) e4 (by omega) (by omega)) dX2_isHeld_15 ?_
    refine lv_topi (fun w5 ew5 => ?_)
    refine bs_ne (tgt := 23) (X := (w5).toInt) hx hb dX2_isHeld_16 (by decide) rfl (fun c6 => ?_) (fun c6 => ?_)
    · refine lv_iconst (v := 0) hx hb dX2_isHeld_23 (by decide) ?_
      refine hret _ _ _ _ _ _ dX2_isHeld_24 rfl ?_ hO
      exact ⟨Or.inr ⟨trivial, rfl⟩, rfl⟩
    · refine lv_iconst (v := 1) hx hb dX2_isHeld_19 (by decide) ?_
      refine lv_goto (tgt := 24) hx hb dX2_isHeld_20 (by decide) ?_
      refine hret _ _ _ _ _ _ dX2_isHeld_24 rfl ?_ hO
      exact ⟨Or.inl ⟨by omega, rfl⟩, rfl⟩
  · subst hvr1
    refine bt_eq (tgt := 23) (X := 0) hx hb dX2_isHeld_5 (by decide) rfl (by omega) ?_
    refine lv_iconst (v := 0) hx hb dX2_isHeld_23 (by decide) ?_
    refine hret _ _ _ _ _ _ dX2_isHeld_24 rfl ?_ hO
    exact ⟨Or.inr ⟨trivial, rfl⟩, rfl⟩
theorem dX2_pleads_0 : decode cX2_pleads 0 = .ok (.aload_n 0, 1) := by decide +kernel
theorem dX2_pleads_1 : decode cX2_pleads 1 = .ok (.getfield 9, 3) := by decide +kernel
theorem dX2_pleads_4 : decode cX2_pleads 4 = .ok (.bipush 11, 2) := by decide +kernel
theorem dX2_pleads_6 : decode cX2_pleads 6 = .ok (.iload_n 1, 1) := by decide +kernel
theorem dX2_pleads_7 : decode cX2_pleads 7 = .ok (.iadd, 1) := by decide +kernel
theorem dX2_pleads_8 : decode cX2_pleads 8 = .ok (.iaload, 1) := by decide +kernel
theorem dX2_pleads_9 : decode cX2_pleads 9 = .ok (.iload_n 2, 1) := by decide +kernel
theorem dX2_pleads_10 : decode cX2_pleads 10 = .ok (.ishr, 1) := by decide +kernel
theorem dX2_pleads_11 : decode cX2_pleads 11 = .ok (.iconst 1, 1) := by decide +kernel
theorem dX2_pleads_12 : decode cX2_pleads 12 = .ok (.iand, 1) := by decide +kernel
theorem dX2_pleads_13 : decode cX2_pleads 13 = .ok (.ifCond .eq 7, 3) := by decide +kernel
theorem dX2_pleads_16 : decode cX2_pleads 16 = .ok (.iconst 1, 1) := by decide +kernel
theorem dX2_pleads_17 : decode cX2_pleads 17 = .ok (.goto 4, 3) := by decide +kernel
theorem dX2_pleads_20 : decode cX2_pleads 20 = .ok (.iconst 0, 1) := by decide +kernel
theorem dX2_pleads_21 : decode cX2_pleads 21 = .ok (.ireturn, 1) := by decide +kernel
theorem wd_947 : (Cond.code ⟨"WebCourt$Court", "pleads", "(II)Z"⟩ prog_4_method_7_code (3 : Nat) (Option.some FieldType.boolean)) ∈ gtb := gtb_c4 118 (by decide +kernel) rfl
set_option maxHeartbeats 4000000 in
set_option maxRecDepth 100000 in
theorem T_X2_pleads (l : Launch) (D : va_G) (cy : Nat → ClassId) (a : Nat → Nat) (u : St) (hJ : CI a u) (x1 : Int32) (x2 : Int32) (hx_x1 : 0 ≤ x1.toInt ∧ x1.toInt ≤ 5) : Mi l D cy (cW cy a) yX2_pleads (.code yX2_pleads cX2_pleads 3 (some .boolean)) (rmo 0 0) [.ref (a 28), .int x1, .int x2] u (fun (r : Int32) (u' : St) => (r = 0 ∨ r = 1) ∧ (u' = u)) := by
  refine Mi.of (own := RX2) rfl (by decide) (Nat.le_of_ble_eq_true rfl) ?_
  have hT : KT u u := KT.rf
  intro p e s m below meth c A Q ls C hret hO hl
  obtain ⟨hx, hb, hml, hown, ht, hK, hA⟩ := id C
  have hl : lv_has ls 3 [(0, .ref (a 28)), (1, .int x1), (2, .int x2)] := hl
  refine lv_aload_n hx hb dX2_pleads_0 rfl (lv_at hl 0 rfl) ?_
  refine gf_RX2_9 (v := .ref (a 29)) C hO 28 cW_28 rfl dX2_pleads_1 ?_
  refine lv_bipush (v := 11) hx hb dX2_pleads_4 (by decide) ?_
  refine lv_iload_n hx hb dX2_pleads_6 rfl (lv_at hl 1 rfl) ?_
  have e1 : ((11 + x1)).toInt = 11 + (x1).toInt := i_add rfl rfl (by omega)
  refine lv_iadd hx hb dX2_pleads_7 ?_
  refine aI C hO 29 cW_29 (i_in (X := (11 + (x1).toInt)) e1 (by omega) (by omega)) dX2_pleads_8 ?_
  refine lv_topi (fun w2 ew2 => ?_)
  refine lv_iload_n hx hb dX2_pleads_9 rfl (lv_at hl 2 rfl) ?_
  refine lv_ishr hx hb dX2_pleads_10 ?_
  refine lv_topi (fun z3 ez3 => ?_)
  refine lv_iconst (v := 1) hx hb dX2_pleads_11 (by decide) ?_
  refine lv_iand hx hb dX2_pleads_12 ?_
  refine lv_topi (fun z4 ez4 => ?_)
  have g5 : 0 ≤ z4.toInt ∧ z4.toInt ≤ 1 := by rw [ez4]; exact i_andr rfl (by omega)
  refine bs_eq (tgt := 20) (X := (z4).toInt) hx hb dX2_pleads_13 (by decide) rfl (fun c6 => ?_) (fun c6 => ?_)
  · refine lv_iconst (v := 0) hx hb dX2_pleads_20 (by decide) ?_
    refine hret _ _ _ _ _ _ dX2_pleads_21 rfl ?_ hO
    exact ⟨Or.inl rfl, rfl⟩
  · refine lv_iconst (v := 1) hx hb dX2_pleads_16 (by decide) ?_
    refine lv_goto (tgt := 21) hx hb dX2_pleads_17 (by decide) ?_
    refine hret _ _ _ _ _ _ dX2_pleads_21 rfl ?_ hO
    exact ⟨Or.inr rfl, rfl⟩
theorem dX2_held_0 : decode cX2_held 0 = .ok (.iconst 0, 1) := by decide +kernel
theorem dX2_held_1 : decode cX2_held 1 = .ok (.istore_n 1, 1) := by decide +kernel
theorem dX2_held_2 : decode cX2_held 2 = .ok (.iconst 0, 1) := by decide +kernel
theorem dX2_held_3 : decode cX2_held 3 = .ok (.istore_n 2, 1) := by decide +kernel
theorem dX2_held_4 : decode cX2_held 4 = .ok (.iload_n 2, 1) := by decide +kernel
theorem dX2_held_5 : decode cX2_held 5 = .ok (.aload_n 0, 1) := by decide +kernel
theorem dX2_held_6 : decode cX2_held 6 = .ok (.getfield 15, 3) := by decide +kernel
theorem dX2_held_9 : decode cX2_held 9 = .ok (.getfield 34, 3) := by decide +kernel
theorem dX2_held_12 : decode cX2_held 12 = .ok (.if_icmp .ge 26, 3) := by decide +kernel
theorem dX2_held_15 : decode cX2_held 15 = .ok (.aload_n 0, 1) := by decide +kernel
theorem dX2_held_16 : decode cX2_held 16 = .ok (.getfield 9, 3) := by decide +kernel
theorem dX2_held_19 : decode cX2_held 19 = .ok (.iconst 5, 1) := by decide +kernel
theorem dX2_held_20 : decode cX2_held 20 = .ok (.iload_n 2, 1) := by decide +kernel
theorem dX2_held_21 : decode cX2_held 21 = .ok (.iadd, 1) := by decide +kernel
theorem dX2_held_22 : decode cX2_held 22 = .ok (.iaload, 1) := by decide +kernel
theorem dX2_held_23 : decode cX2_held 23 = .ok (.ifCond .ne 9, 3) := by decide +kernel
theorem dX2_held_26 : decode cX2_held 26 = .ok (.iload_n 1, 1) := by decide +kernel
theorem dX2_held_27 : decode cX2_held 27 = .ok (.iconst 1, 1) := by decide +kernel
theorem dX2_held_28 : decode cX2_held 28 = .ok (.iload_n 2, 1) := by decide +kernel
theorem dX2_held_29 : decode cX2_held 29 = .ok (.ishl, 1) := by decide +kernel
theorem dX2_held_30 : decode cX2_held 30 = .ok (.ior, 1) := by decide +kernel
theorem dX2_held_31 : decode cX2_held 31 = .ok (.istore_n 1, 1) := by decide +kernel
theorem dX2_held_32 : decode cX2_held 32 = .ok (.iinc 2 1, 3) := by decide +kernel
theorem dX2_held_35 : decode cX2_held 35 = .ok (.goto (-31), 3) := by decide +kernel
theorem dX2_held_38 : decode cX2_held 38 = .ok (.iload_n 1, 1) := by decide +kernel
theorem dX2_held_39 : decode cX2_held 39 = .ok (.ireturn, 1) := by decide +kernel
theorem wd_860 : (Cond.code ⟨"WebCourt$Court", "held", "()I"⟩ prog_4_method_8_code (3 : Nat) (Option.some FieldType.int)) ∈ gtb := gtb_c4 31 (by decide +kernel) rfl
set_option maxHeartbeats 4000000 in
set_option maxRecDepth 100000 in
theorem T_X2_held (l : Launch) (D : va_G) (cy : Nat → ClassId) (a : Nat → Nat) (u : St) (hJ : CI a u)   : Mi l D cy (cW cy a) yX2_held (.code yX2_held cX2_held 3 (some .int)) (rmo 0 0) [.ref (a 28)] u (fun (r : Int32) (u' : St) => (0 ≤ r.toInt ∧ r.toInt ≤ 63) ∧ (u' = u)) := by
  refine Mi.of (own := RX2) rfl (by decide) (Nat.le_of_ble_eq_true rfl) ?_
  have hT : KT u u := KT.rf
  intro p e s m below meth c A Q ls C hret hO hl
  obtain ⟨hx, hb, hml, hown, ht, hK, hA⟩ := id C
  have hl : lv_has ls 3 [(0, .ref (a 28))] := hl
  refine lv_iconst (v := 0) hx hb dX2_held_0 (by decide) ?_
  refine lv_istore_n (lv' := [(1, .int 0), (0, .ref (a 28))]) hx hb dX2_held_1 rfl hl (by decide) rfl (fun ls hl => ?_)
  refine lv_iconst (v := 0) hx hb dX2_held_2 (by decide) ?_
  refine lv_istore_n (lv' := [(2, .int 0), (1, .int 0), (0, .ref (a 28))]) hx hb dX2_held_3 rfl hl (by decide) rfl (fun ls hl => ?_)
  have LP_4_k1 : ∀ (n : Nat) (H : Heap) (locs : List Loc) (ls : Array Slot) (i_k1 : Int32) (s_k1 : Int32), Wo D A (cW cy a u) s.heap H locs → lv_has ls 3 [(2, .int i_k1), (1, .int s_k1), (0, .ref (a 28))] → 0 ≤ i_k1.toInt ∧ i_k1.toInt ≤ 6 → 0 ≤ s_k1.toInt ∧ s_k1.toInt ≤ 63 → 6 - i_k1.toInt < (n : Int) → W p l e (rmo 0 0) s m [.ref (a 28)].toArray below meth c H locs 0 0 Q (F0 m 4 ls []) := by
    intro n
    induction n with
    | zero =>
      intro H locs ls i_k1 s_k1 hO hl iv0_k1 iv1_k1 hm_k1
      exact absurd hm_k1 (by omega)
    | succ n ih_k1 =>
      intro H locs ls i_k1 s_k1 hO hl iv0_k1 iv1_k1 hm_k1
      refine lv_iload_n hx hb dX2_held_4 rfl (lv_at hl 0 rfl) ?_
      refine lv_aload_n hx hb dX2_held_5 rfl (lv_at hl 2 rfl) ?_
      refine gf_RX2_15 (v := .ref (a 3)) C hO 28 cW_28 (congrArg (fun z : Nat => some (Value.ref z)) (CI_R0 hJ)) dX2_held_6 ?_
      have g2 : 0 ≤ (fI u 3 12).toInt ∧ (fI u 3 12).toInt ≤ 6 := by have h := CI_3_12 hJ; exact h
      refine gf_RX2_34 (v := .int (fI u 3 12)) C hO 3 cW_3 rfl dX2_held_9 ?_
      refine cs_ge (tgt := 38) (X := (i_k1).toInt) (Y := ((fI u 3 12)).toInt) hx hb dX2_held_12 (by decide) rfl rfl (fun c3 => ?_) (fun c3 => ?_)
      · refine lv_iload_n hx hb dX2_held_38 rfl (lv_at hl 1 rfl) ?_
        refine hret _ _ _ _ _ _ dX2_held_39 rfl ?_ hO
        exact ⟨(by first | decide | omega), rfl⟩
      · refine lv_aload_n hx hb dX2_held_15 rfl (lv_at hl 2 rfl) ?_
        refine gf_RX2_9 (v := .ref (a 29)) C hO 28 cW_28 rfl dX2_held_16 ?_
        refine lv_iconst (v := 5) hx hb dX2_held_19 (by decide) ?_
        refine lv_iload_n hx hb dX2_held_20 rfl (lv_at hl 0 rfl) ?_
        have e4 : ((5 + i_k1)).toInt = 5 + (i_k1).toInt := i_add rfl rfl (by omega)
        refine lv_iadd hx hb dX2_held_21 ?_
        refine aI C hO 29 cW_29 (i_in (X := (5 + (i_k1).toInt)) e4 (by omega) (by omega)) dX2_held_22 ?_
        refine lv_topi (fun w5 ew5 => ?_)
        refine bs_ne (tgt := 32) (X := (w5).toInt) hx hb dX2_held_23 (by decide) rfl (fun c6 => ?_) (fun c6 => ?_)
        · have e7 : ((i_k1 + 1)).toInt = (i_k1).toInt + 1 := i_add rfl rfl (by omega)
          refine lv_iinc (v := (i_k1 + 1)) (lv' := [(2, .int (i_k1 + 1)), (1, .int s_k1), (0, .ref (a 28))]) hx hb dX2_held_32 hl (k := 0) rfl rfl (by decide) rfl (fun ls hl => ?_)
          refine lv_goto (tgt := 4) hx hb dX2_held_35 (by decide) ?_
          exact ih_k1 _ _ _ ((i_k1 + 1)) (s_k1) hO (lv_sub hl [0, 1, 2] rfl) (by first | decide | omega) (by first | decide | omega) (by first | decide | omega)
        · refine lv_iload_n hx hb dX2_held_26 rfl (lv_at hl 1 rfl) ?_
          refine lv_iconst (v := 1) hx hb dX2_held_27 (by decide) ?_
          refine lv_iload_n hx hb dX2_held_28 rfl (lv_at hl 0 rfl) ?_
          refine lv_ishl hx hb dX2_held_29 ?_
          refine lv_topi (fun z8 ez8 => ?_)
          have g9 : 0 ≤ z8.toInt ∧ z8.toInt ≤ 2 ^ 5 := by rw [ez8]; exact i_shl1 rfl (by omega) (by omega) (by decide)
          refine lv_ior hx hb dX2_held_30 ?_
          refine lv_topi (fun z10 ez10 => ?_)
          have g11 : 0 ≤ z10.toInt ∧ z10.toInt < 2 ^ 6 := by rw [ez10]; exact i_or rfl rfl (by omega) (by omega) (by decide)
          refine lv_istore_n (lv' := [(1, .int z10), (2, .int i_k1), (0, .ref (a 28))]) hx hb dX2_held_31 rfl hl (by decide) rfl (fun ls hl => ?_)
          have e12 : ((i_k1 + 1)).toInt = (i_k1).toInt + 1 := i_add rfl rfl (by omega)
          refine lv_iinc (v := (i_k1 + 1)) (lv' := [(2, .int (i_k1 + 1)), (1, .int z10), (0, .ref (a 28))]) hx hb dX2_held_32 hl (k := 1) rfl rfl (by decide) rfl (fun ls hl => ?_)
          refine lv_goto (tgt := 4) hx hb dX2_held_35 (by decide) ?_
          exact ih_k1 _ _ _ ((i_k1 + 1)) (z10) hO (lv_sub hl [0, 1, 2] rfl) (by first | decide | omega) (by first | decide | omega) (by first | decide | omega)
  exact LP_4_k1 4000 _ _ _ (0) (0) hO (lv_sub hl [0, 1, 2] rfl) (by first | decide | omega) (by first | decide | omega) (by first | decide | omega)
theorem dX2_heldAt_0 : decode cX2_heldAt 0 = .ok (.iconst 0, 1) := by decide +kernel
theorem dX2_heldAt_1 : decode cX2_heldAt 1 = .ok (.istore_n 2, 1) := by decide +kernel
theorem dX2_heldAt_2 : decode cX2_heldAt 2 = .ok (.iconst 0, 1) := by decide +kernel
theorem dX2_heldAt_3 : decode cX2_heldAt 3 = .ok (.istore_n 3, 1) := by decide +kernel
theorem dX2_heldAt_4 : decode cX2_heldAt 4 = .ok (.iload_n 3, 1) := by decide +kernel
theorem dX2_heldAt_5 : decode cX2_heldAt 5 = .ok (.aload_n 0, 1) := by decide +kernel
theorem dX2_heldAt_6 : decode cX2_heldAt 6 = .ok (.getfield 15, 3) := by decide +kernel
theorem dX2_heldAt_9 : decode cX2_heldAt 9 = .ok (.getfield 34, 3) := by decide +kernel
theorem dX2_heldAt_12 : decode cX2_heldAt 12 = .ok (.if_icmp .ge 39, 3) := by decide +kernel
theorem dX2_heldAt_15 : decode cX2_heldAt 15 = .ok (.aload_n 0, 1) := by decide +kernel
theorem dX2_heldAt_16 : decode cX2_heldAt 16 = .ok (.getfield 9, 3) := by decide +kernel
theorem dX2_heldAt_19 : decode cX2_heldAt 19 = .ok (.iconst 5, 1) := by decide +kernel
theorem dX2_heldAt_20 : decode cX2_heldAt 20 = .ok (.iload_n 3, 1) := by decide +kernel
theorem dX2_heldAt_21 : decode cX2_heldAt 21 = .ok (.iadd, 1) := by decide +kernel
theorem dX2_heldAt_22 : decode cX2_heldAt 22 = .ok (.iaload, 1) := by decide +kernel
theorem dX2_heldAt_23 : decode cX2_heldAt 23 = .ok (.ifCond .ne 22, 3) := by decide +kernel
theorem dX2_heldAt_26 : decode cX2_heldAt 26 = .ok (.aload_n 0, 1) := by decide +kernel
theorem dX2_heldAt_27 : decode cX2_heldAt 27 = .ok (.getfield 15, 3) := by decide +kernel
theorem dX2_heldAt_30 : decode cX2_heldAt 30 = .ok (.getfield 47, 3) := by decide +kernel
theorem dX2_heldAt_33 : decode cX2_heldAt 33 = .ok (.iload_n 3, 1) := by decide +kernel
theorem dX2_heldAt_34 : decode cX2_heldAt 34 = .ok (.iaload, 1) := by decide +kernel
theorem dX2_heldAt_35 : decode cX2_heldAt 35 = .ok (.iload_n 1, 1) := by decide +kernel
theorem dX2_heldAt_36 : decode cX2_heldAt 36 = .ok (.if_icmp .ne 9, 3) := by decide +kernel
theorem dX2_heldAt_39 : decode cX2_heldAt 39 = .ok (.iload_n 2, 1) := by decide +kernel
theorem dX2_heldAt_40 : decode cX2_heldAt 40 = .ok (.iconst 1, 1) := by decide +kernel
theorem dX2_heldAt_41 : decode cX2_heldAt 41 = .ok (.iload_n 3, 1) := by decide +kernel
theorem dX2_heldAt_42 : decode cX2_heldAt 42 = .ok (.ishl, 1) := by decide +kernel
theorem dX2_heldAt_43 : decode cX2_heldAt 43 = .ok (.ior, 1) := by decide +kernel
theorem dX2_heldAt_44 : decode cX2_heldAt 44 = .ok (.istore_n 2, 1) := by decide +kernel
theorem dX2_heldAt_45 : decode cX2_heldAt 45 = .ok (.iinc 3 1, 3) := by decide +kernel
theorem dX2_heldAt_48 : decode cX2_heldAt 48 = .ok (.goto (-44), 3) := by decide +kernel
theorem dX2_heldAt_51 : decode cX2_heldAt 51 = .ok (.iload_n 2, 1) := by decide +kernel
theorem dX2_heldAt_52 : decode cX2_heldAt 52 = .ok (.ireturn, 1) := by decide +kernel
theorem wd_828 : (Cond.code ⟨"WebCourt$Court", "heldAt", "(I)I"⟩ prog_4_method_9_code (4 : Nat) (Option.some FieldType.int)) ∈ gtb := gtb_c3 239 (by decide +kernel) rfl
theorem wd_241 : (Cond.fieldLink "WebCourt$Court" (47 : Nat) "WebCourt$Web" "caseKnots" "[I") ∈ gtb := gtb_c1 132 (by decide +kernel) rfl
theorem gf_RX2_47 {p : Program} {l : Launch} {e : Env} {R : Room} {s : State} {m : MethodId} {args : Array Value} {below : List Frame} {meth : Method} {c : Code} {H : Heap} {locs : List Loc} {cells slots : Nat} {Q : State → Prop} {cc : ByteArray} {pc nL : Nat} {ls : Array Slot} {rest : List Value} {D : va_G} {cy : Nat → ClassId} {A : Nat → Prop} {ws : va_W} {b : Nat} {fs : List Value} {v : Value} (C : Cx p s m args c cc nL RX2 D cy A) (hO : Wo D A ws s.heap H locs) (q0 : Nat) (he : ws[q0]? = some (b, .inr (9, fs))) (hv : fs[6]? = some v) (hdg : decode cc pc = .ok (.getfield 47, 3)) (kk : W p l e R s m args below meth c H locs cells slots Q (F0 m (pc + 3) ls (v :: rest))) : W p l e R s m args below meth c H locs cells slots Q (F0 m pc ls (.ref b :: rest)) := gF (k := 6) C hO q0 he rfl inFX9 (by decide) wd_241 rfl hv hdg kk
set_option maxHeartbeats 4000000 in
set_option maxRecDepth 100000 in
theorem T_X2_heldAt (l : Launch) (D : va_G) (cy : Nat → ClassId) (a : Nat → Nat) (u : St) (hJ : CI a u) (x1 : Int32)  : Mi l D cy (cW cy a) yX2_heldAt (.code yX2_heldAt cX2_heldAt 4 (some .int)) (rmo 0 0) [.ref (a 28), .int x1] u (fun (r : Int32) (u' : St) => u' = u) := by
  refine Mi.of (own := RX2) rfl (by decide) (Nat.le_of_ble_eq_true rfl) ?_
  have hT : KT u u := KT.rf
  intro p e s m below meth c A Q ls C hret hO hl
  obtain ⟨hx, hb, hml, hown, ht, hK, hA⟩ := id C
  have hl : lv_has ls 4 [(0, .ref (a 28)), (1, .int x1)] := hl
  refine lv_iconst (v := 0) hx hb dX2_heldAt_0 (by decide) ?_
  refine lv_istore_n (lv' := [(2, .int 0), (0, .ref (a 28)), (1, .int x1)]) hx hb dX2_heldAt_1 rfl hl (by decide) rfl (fun ls hl => ?_)
  refine lv_iconst (v := 0) hx hb dX2_heldAt_2 (by decide) ?_
  refine lv_istore_n (lv' := [(3, .int 0), (2, .int 0), (0, .ref (a 28)), (1, .int x1)]) hx hb dX2_heldAt_3 rfl hl (by decide) rfl (fun ls hl => ?_)
  have LP_4_k1 : ∀ (n : Nat) (H : Heap) (locs : List Loc) (ls : Array Slot) (i_k1 : Int32) (w2_k1 : Int32), Wo D A (cW cy a u) s.heap H locs → lv_has ls 4 [(3, .int i_k1), (2, .int w2_k1), (0, .ref (a 28)), (1, .int x1)] → 0 ≤ i_k1.toInt ∧ i_k1.toInt ≤ 6 → 6 - i_k1.toInt < (n : Int) → W p l e (rmo 0 0) s m [.ref (a 28), .int x1].toArray below meth c H locs 0 0 Q (F0 m 4 ls []) := by
    intro n
    induction n with
    | zero =>
      intro H locs ls i_k1 w2_k1 hO hl iv0_k1 hm_k1
      exact absurd hm_k1 (by omega)
    | succ n ih_k1 =>
      intro H locs ls i_k1 w2_k1 hO hl iv0_k1 hm_k1
      refine lv_iload_n hx hb dX2_heldAt_4 rfl (lv_at hl 0 rfl) ?_
      refine lv_aload_n hx hb dX2_heldAt_5 rfl (lv_at hl 2 rfl) ?_
      refine gf_RX2_15 (v := .ref (a 3)) C hO 28 cW_28 (congrArg (fun z : Nat => some (Value.ref z)) (CI_R0 hJ)) dX2_heldAt_6 ?_
      have g2 : 0 ≤ (fI u 3 12).toInt ∧ (fI u 3 12).toInt ≤ 6 := by have h := CI_3_12 hJ; exact h
      refine gf_RX2_34 (v := .int (fI u 3 12)) C hO 3 cW_3 rfl dX2_heldAt_9 ?_
      refine cs_ge (tgt := 51) (X := (i_k1).toInt) (Y := ((fI u 3 12)).toInt) hx hb dX2_heldAt_12 (by decide) rfl rfl (fun c3 => ?_) (fun c3 => ?_)
      · refine lv_iload_n hx hb dX2_heldAt_51 rfl (lv_at hl 1 rfl) ?_
        refine hret _ _ _ _ _ _ dX2_heldAt_52 rfl ?_ hO
        exact rfl
      · refine lv_aload_n hx hb dX2_heldAt_15 rfl (lv_at hl 2 rfl) ?_
        refine gf_RX2_9 (v := .ref (a 29)) C hO 28 cW_28 rfl dX2_heldAt_16 ?_
        refine lv_iconst (v := 5) hx hb dX2_heldAt_19 (by decide) ?_
        refine lv_iload_n hx hb dX2_heldAt_20 rfl (lv_at hl 0 rfl) ?_
        have e4 : ((5 + i_k1)).toInt = 5 + (i_k1).toInt := i_add rfl rfl (by omega)
        refine lv_iadd hx hb dX2_heldAt_21 ?_
        refine aI C hO 29 cW_29 (i_in (X := (5 + (i_k1).toInt)) e4 (by omega) (by omega)) dX2_heldAt_22 ?_
        refine lv_topi (fun w5 ew5 => ?_)
        refine bs_ne (tgt := 45) (X := (w5).toInt) hx hb dX2_heldAt_23 (by decide) rfl (fun c6 => ?_) (fun c6 => ?_)
        · have e7 : ((i_k1 + 1)).toInt = (i_k1).toInt + 1 := i_add rfl rfl (by omega)
          refine lv_iinc (v := (i_k1 + 1)) (lv' := [(3, .int (i_k1 + 1)), (2, .int w2_k1), (0, .ref (a 28)), (1, .int x1)]) hx hb dX2_heldAt_45 hl (k := 0) rfl rfl (by decide) rfl (fun ls hl => ?_)
          refine lv_goto (tgt := 4) hx hb dX2_heldAt_48 (by decide) ?_
          exact ih_k1 _ _ _ ((i_k1 + 1)) (w2_k1) hO (lv_sub hl [0, 1, 2, 3] rfl) (by first | decide | omega) (by first | decide | omega)
        · refine lv_aload_n hx hb dX2_heldAt_26 rfl (lv_at hl 2 rfl) ?_
          refine gf_RX2_15 (v := .ref (a 3)) C hO 28 cW_28 (congrArg (fun z : Nat => some (Value.ref z)) (CI_R0 hJ)) dX2_heldAt_27 ?_
          refine gf_RX2_47 (v := .ref (a 10)) C hO 3 cW_3 rfl dX2_heldAt_30 ?_
          refine lv_iload_n hx hb dX2_heldAt_33 rfl (lv_at hl 0 rfl) ?_
          refine aI C hO 10 cW_10 (i_in (X := (i_k1).toInt) rfl (by omega) (by omega)) dX2_heldAt_34 ?_
          refine lv_topi (fun w8 ew8 => ?_)
          refine lv_iload_n hx hb dX2_heldAt_35 rfl (lv_at hl 3 rfl) ?_
          refine cs_ne (tgt := 45) (X := (w8).toInt) (Y := (x1).toInt) hx hb dX2_heldAt_36 (by decide) rfl rfl (fun c9 => ?_) (fun c9 => ?_)
          · have e10 : ((i_k1 + 1)).toInt = (i_k1).toInt + 1 := i_add rfl rfl (by omega)
            refine lv_iinc (v := (i_k1 + 1)) (lv' := [(3, .int (i_k1 + 1)), (2, .int w2_k1), (0, .ref (a 28)), (1, .int x1)]) hx hb dX2_heldAt_45 hl (k := 0) rfl rfl (by decide) rfl (fun ls hl => ?_)
            refine lv_goto (tgt := 4) hx hb dX2_heldAt_48 (by decide) ?_
            exact ih_k1 _ _ _ ((i_k1 + 1)) (w2_k1) hO (lv_sub hl [0, 1, 2, 3] rfl) (by first | decide | omega) (by first | decide | omega)
          · refine lv_iload_n hx hb dX2_heldAt_39 rfl (lv_at hl 1 rfl) ?_
            refine lv_iconst (v := 1) hx hb dX2_heldAt_40 (by decide) ?_
            refine lv_iload_n hx hb dX2_heldAt_41 rfl (lv_at hl 0 rfl) ?_
            refine lv_ishl hx hb dX2_heldAt_42 ?_
            refine lv_topi (fun z11 ez11 => ?_)
            have g12 : 0 ≤ z11.toInt ∧ z11.toInt ≤ 2 ^ 5 := by rw [ez11]; exact i_shl1 rfl (by omega) (by omega) (by decide)
            refine lv_ior hx hb dX2_heldAt_43 ?_
            refine lv_topi (fun z13 ez13 => ?_)
            refine lv_istore_n (lv' := [(2, .int z13), (3, .int i_k1), (0, .ref (a 28)), (1, .int x1)]) hx hb dX2_heldAt_44 rfl hl (by decide) rfl (fun ls hl => ?_)
            have e14 : ((i_k1 + 1)).toInt = (i_k1).toInt + 1 := i_add rfl rfl (by omega)
            refine lv_iinc (v := (i_k1 + 1)) (lv' := [(3, .int (i_k1 + 1)), (2, .int z13), (0, .ref (a 28)), (1, .int x1)]) hx hb dX2_heldAt_45 hl (k := 1) rfl rfl (by decide) rfl (fun ls hl => ?_)
            refine lv_goto (tgt := 4) hx hb dX2_heldAt_48 (by decide) ?_
            exact ih_k1 _ _ _ ((i_k1 + 1)) (z13) hO (lv_sub hl [0, 1, 2, 3] rfl) (by first | decide | omega) (by first | decide | omega)
  exact LP_4_k1 4000 _ _ _ (0) (0) hO (lv_sub hl [0, 1, 2, 3] rfl) (by first | decide | omega) (by first | decide | omega)
theorem dX2_nextTo_0 : decode cX2_nextTo 0 = .ok (.iconst 0, 1) := by decide +kernel
theorem dX2_nextTo_1 : decode cX2_nextTo 1 = .ok (.istore_n 3, 1) := by decide +kernel
theorem dX2_nextTo_2 : decode cX2_nextTo 2 = .ok (.iconst 0, 1) := by decide +kernel
theorem dX2_nextTo_3 : decode cX2_nextTo 3 = .ok (.istore 4, 2) := by decide +kernel
theorem dX2_nextTo_5 : decode cX2_nextTo 5 = .ok (.iload 4, 2) := by decide +kernel
theorem dX2_nextTo_7 : decode cX2_nextTo 7 = .ok (.aload_n 0, 1) := by decide +kernel
theorem dX2_nextTo_8 : decode cX2_nextTo 8 = .ok (.getfield 15, 3) := by decide +kernel
theorem dX2_nextTo_11 : decode cX2_nextTo 11 = .ok (.getfield 50, 3) := by decide +kernel
theorem dX2_nextTo_14 : decode cX2_nextTo 14 = .ok (.if_icmp .ge 100, 3) := by decide +kernel
theorem dX2_nextTo_17 : decode cX2_nextTo 17 = .ok (.aload_n 0, 1) := by decide +kernel
theorem dX2_nextTo_18 : decode cX2_nextTo 18 = .ok (.getfield 9, 3) := by decide +kernel
theorem dX2_nextTo_21 : decode cX2_nextTo 21 = .ok (.iconst 4, 1) := by decide +kernel
theorem dX2_nextTo_22 : decode cX2_nextTo 22 = .ok (.iaload, 1) := by decide +kernel
theorem dX2_nextTo_23 : decode cX2_nextTo 23 = .ok (.iload 4, 2) := by decide +kernel
theorem dX2_nextTo_25 : decode cX2_nextTo 25 = .ok (.ishr, 1) := by decide +kernel
theorem dX2_nextTo_26 : decode cX2_nextTo 26 = .ok (.iconst 1, 1) := by decide +kernel
theorem dX2_nextTo_27 : decode cX2_nextTo 27 = .ok (.iand, 1) := by decide +kernel
theorem dX2_nextTo_28 : decode cX2_nextTo 28 = .ok (.ifCond .eq 7, 3) := by decide +kernel
theorem dX2_nextTo_31 : decode cX2_nextTo 31 = .ok (.iconst 1, 1) := by decide +kernel
theorem dX2_nextTo_32 : decode cX2_nextTo 32 = .ok (.goto 4, 3) := by decide +kernel
theorem dX2_nextTo_35 : decode cX2_nextTo 35 = .ok (.iconst 0, 1) := by decide +kernel
theorem dX2_nextTo_36 : decode cX2_nextTo 36 = .ok (.istore 5, 2) := by decide +kernel
theorem dX2_nextTo_38 : decode cX2_nextTo 38 = .ok (.iload 5, 2) := by decide +kernel
theorem dX2_nextTo_40 : decode cX2_nextTo 40 = .ok (.iload_n 2, 1) := by decide +kernel
theorem dX2_nextTo_41 : decode cX2_nextTo 41 = .ok (.if_icmp .eq 6, 3) := by decide +kernel
theorem dX2_nextTo_44 : decode cX2_nextTo 44 = .ok (.goto 64, 3) := by decide +kernel
theorem dX2_nextTo_47 : decode cX2_nextTo 47 = .ok (.aload_n 0, 1) := by decide +kernel
theorem dX2_nextTo_48 : decode cX2_nextTo 48 = .ok (.getfield 15, 3) := by decide +kernel
theorem dX2_nextTo_51 : decode cX2_nextTo 51 = .ok (.getfield 53, 3) := by decide +kernel
theorem dX2_nextTo_54 : decode cX2_nextTo 54 = .ok (.iload 4, 2) := by decide +kernel
theorem dX2_nextTo_56 : decode cX2_nextTo 56 = .ok (.iaload, 1) := by decide +kernel
theorem dX2_nextTo_57 : decode cX2_nextTo 57 = .ok (.iload_n 1, 1) := by decide +kernel
theorem dX2_nextTo_58 : decode cX2_nextTo 58 = .ok (.if_icmp .ne 21, 3) := by decide +kernel
theorem dX2_nextTo_61 : decode cX2_nextTo 61 = .ok (.iload_n 3, 1) := by decide +kernel
theorem dX2_nextTo_62 : decode cX2_nextTo 62 = .ok (.iconst 1, 1) := by decide +kernel
theorem dX2_nextTo_63 : decode cX2_nextTo 63 = .ok (.aload_n 0, 1) := by decide +kernel
theorem dX2_nextTo_64 : decode cX2_nextTo 64 = .ok (.getfield 15, 3) := by decide +kernel
theorem dX2_nextTo_67 : decode cX2_nextTo 67 = .ok (.getfield 56, 3) := by decide +kernel
theorem dX2_nextTo_70 : decode cX2_nextTo 70 = .ok (.iload 4, 2) := by decide +kernel
theorem dX2_nextTo_72 : decode cX2_nextTo 72 = .ok (.iaload, 1) := by decide +kernel
theorem dX2_nextTo_73 : decode cX2_nextTo 73 = .ok (.ishl, 1) := by decide +kernel
theorem dX2_nextTo_74 : decode cX2_nextTo 74 = .ok (.ior, 1) := by decide +kernel
theorem dX2_nextTo_75 : decode cX2_nextTo 75 = .ok (.istore_n 3, 1) := by decide +kernel
theorem dX2_nextTo_76 : decode cX2_nextTo 76 = .ok (.goto 32, 3) := by decide +kernel
theorem dX2_nextTo_79 : decode cX2_nextTo 79 = .ok (.aload_n 0, 1) := by decide +kernel
theorem dX2_nextTo_80 : decode cX2_nextTo 80 = .ok (.getfield 15, 3) := by decide +kernel
theorem dX2_nextTo_83 : decode cX2_nextTo 83 = .ok (.getfield 56, 3) := by decide +kernel
theorem dX2_nextTo_86 : decode cX2_nextTo 86 = .ok (.iload 4, 2) := by decide +kernel
theorem dX2_nextTo_88 : decode cX2_nextTo 88 = .ok (.iaload, 1) := by decide +kernel
theorem dX2_nextTo_89 : decode cX2_nextTo 89 = .ok (.iload_n 1, 1) := by decide +kernel
theorem dX2_nextTo_90 : decode cX2_nextTo 90 = .ok (.if_icmp .ne 18, 3) := by decide +kernel
theorem dX2_nextTo_93 : decode cX2_nextTo 93 = .ok (.iload_n 3, 1) := by decide +kernel
theorem dX2_nextTo_94 : decode cX2_nextTo 94 = .ok (.iconst 1, 1) := by decide +kernel
theorem dX2_nextTo_95 : decode cX2_nextTo 95 = .ok (.aload_n 0, 1) := by decide +kernel
theorem dX2_nextTo_96 : decode cX2_nextTo 96 = .ok (.getfield 15, 3) := by decide +kernel
theorem dX2_nextTo_99 : decode cX2_nextTo 99 = .ok (.getfield 53, 3) := by decide +kernel
theorem dX2_nextTo_102 : decode cX2_nextTo 102 = .ok (.iload 4, 2) := by decide +kernel
theorem dX2_nextTo_104 : decode cX2_nextTo 104 = .ok (.iaload, 1) := by decide +kernel
theorem dX2_nextTo_105 : decode cX2_nextTo 105 = .ok (.ishl, 1) := by decide +kernel
theorem dX2_nextTo_106 : decode cX2_nextTo 106 = .ok (.ior, 1) := by decide +kernel
theorem dX2_nextTo_107 : decode cX2_nextTo 107 = .ok (.istore_n 3, 1) := by decide +kernel
theorem dX2_nextTo_108 : decode cX2_nextTo 108 = .ok (.iinc 4 1, 3) := by decide +kernel
theorem dX2_nextTo_111 : decode cX2_nextTo 111 = .ok (.goto (-106), 3) := by decide +kernel
theorem dX2_nextTo_114 : decode cX2_nextTo 114 = .ok (.iload_n 3, 1) := by decide +kernel
theorem dX2_nextTo_115 : decode cX2_nextTo 115 = .ok (.ireturn, 1) := by decide +kernel
theorem wd_824 : (Cond.code ⟨"WebCourt$Court", "nextTo", "(IZ)I"⟩ prog_4_method_10_code (6 : Nat) (Option.some FieldType.int)) ∈ gtb := gtb_c3 235 (by decide +kernel) rfl
theorem wd_258 : (Cond.fieldLink "WebCourt$Court" (50 : Nat) "WebCourt$Web" "lines" "I") ∈ gtb := gtb_c1 149 (by decide +kernel) rfl
theorem gf_RX2_50 {p : Program} {l : Launch} {e : Env} {R : Room} {s : State} {m : MethodId} {args : Array Value} {below : List Frame} {meth : Method} {c : Code} {H : Heap} {locs : List Loc} {cells slots : Nat} {Q : State → Prop} {cc : ByteArray} {pc nL : Nat} {ls : Array Slot} {rest : List Value} {D : va_G} {cy : Nat → ClassId} {A : Nat → Prop} {ws : va_W} {b : Nat} {fs : List Value} {v : Value} (C : Cx p s m args c cc nL RX2 D cy A) (hO : Wo D A ws s.heap H locs) (q0 : Nat) (he : ws[q0]? = some (b, .inr (9, fs))) (hv : fs[10]? = some v) (hdg : decode cc pc = .ok (.getfield 50, 3)) (kk : W p l e R s m args below meth c H locs cells slots Q (F0 m (pc + 3) ls (v :: rest))) : W p l e R s m args below meth c H locs cells slots Q (F0 m pc ls (.ref b :: rest)) := gF (k := 10) C hO q0 he rfl inFX9 (by decide) wd_258 rfl hv hdg kk
theorem wd_229 : (Cond.fieldLink "WebCourt$Court" (53 : Nat) "WebCourt$Web" "lineFrom" "[I") ∈ gtb := gtb_c1 120 (by decide +kernel) rfl
theorem gf_RX2_53 {p : Program} {l : Launch} {e : Env} {R : Room} {s : State} {m : MethodId} {args : Array Value} {below : List Frame} {meth : Method} {c : Code} {H : Heap} {locs : List Loc} {cells slots : Nat} {Q : State → Prop} {cc : ByteArray} {pc nL : Nat} {ls : Array Slot} {rest : List Value} {D : va_G} {cy : Nat → ClassId} {A : Nat → Prop} {ws : va_W} {b : Nat} {fs : List Value} {v : Value} (C : Cx p s m args c cc nL RX2 D cy A) (hO : Wo D A ws s.heap H locs) (q0 : Nat) (he : ws[q0]? = some (b, .inr (9, fs))) (hv : fs[3]? = some v) (hdg : decode cc pc = .ok (.getfield 53, 3)) (kk : W p l e R s m args below meth c H locs cells slots Q (F0 m (pc + 3) ls (v :: rest))) : W p l e R s m args below meth c H locs cells slots Q (F0 m pc ls (.ref b :: rest)) := gF (k := 3) C hO q0 he rfl inFX9 (by decide) wd_229 rfl hv hdg kk
theorem wd_233 : (Cond.fieldLink "WebCourt$Court" (56 : Nat) "WebCourt$Web" "lineTo" "[I") ∈ gtb := gtb_c1 124 (by decide +kernel) rfl
theorem gf_RX2_56 {p : Program} {l : Launch} {e : Env} {R : Room} {s : State} {m : MethodId} {args : Array Value} {below : List Frame} {meth : Method} {c : Code} {H : Heap} {locs : List Loc} {cells slots : Nat} {Q : State → Prop} {cc : ByteArray} {pc nL : Nat} {ls : Array Slot} {rest : List Value} {D : va_G} {cy : Nat → ClassId} {A : Nat → Prop} {ws : va_W} {b : Nat} {fs : List Value} {v : Value} (C : Cx p s m args c cc nL RX2 D cy A) (hO : Wo D A ws s.heap H locs) (q0 : Nat) (he : ws[q0]? = some (b, .inr (9, fs))) (hv : fs[4]? = some v) (hdg : decode cc pc = .ok (.getfield 56, 3)) (kk : W p l e R s m args below meth c H locs cells slots Q (F0 m (pc + 3) ls (v :: rest))) : W p l e R s m args below meth c H locs cells slots Q (F0 m pc ls (.ref b :: rest)) := gF (k := 4) C hO q0 he rfl inFX9 (by decide) wd_233 rfl hv hdg kk
set_option maxHeartbeats 4000000 in
set_option maxRecDepth 100000 in
theorem T_X2_nextTo (l : Launch) (D : va_G) (cy : Nat → ClassId) (a : Nat → Nat) (u : St) (hJ : CI a u) (x1 : Int32) (x2 : Int32)  : Mi l D cy (cW cy a) yX2_nextTo (.code yX2_nextTo cX2_nextTo 6 (some .int)) (rmo 0 0) [.ref (a 28), .int x1, .int x2] u (fun (r : Int32) (u' : St) => u' = u) := by
  refine Mi.of (own := RX2) rfl (by decide) (Nat.le_of_ble_eq_true rfl) ?_
  have hT : KT u u := KT.rf
  intro p e s m below meth c A Q ls C hret hO hl
  obtain ⟨hx, hb, hml, hown, ht, hK, hA⟩ := id C
  have hl : lv_has ls 6 [(0, .ref (a 28)), (1, .int x1), (2, .int x2)] := hl
  refine lv_iconst (v := 0) hx hb dX2_nextTo_0 (by decide) ?_
  refine lv_istore_n (lv' := [(3, .int 0), (0, .ref (a 28)), (1, .int x1), (2, .int x2)]) hx hb dX2_nextTo_1 rfl hl (by decide) rfl (fun ls hl => ?_)
  refine lv_iconst (v := 0) hx hb dX2_nextTo_2 (by decide) ?_
  refine lv_istore (lv' := [(4, .int 0), (3, .int 0), (0, .ref (a 28)), (1, .int x1), (2, .int x2)]) hx hb dX2_nextTo_3 hl (by decide) rfl (fun ls hl => ?_)
  have LP_5_k1 : ∀ (n : Nat) (H : Heap) (locs : List Loc) (ls : Array Slot) (i_k1 : Int32) (w3_k1 : Int32), Wo D A (cW cy a u) s.heap H locs → lv_has ls 6 [(4, .int i_k1), (3, .int w3_k1), (0, .ref (a 28)), (1, .int x1), (2, .int x2)] → 0 ≤ i_k1.toInt ∧ i_k1.toInt ≤ 14 → 14 - i_k1.toInt < (n : Int) → W p l e (rmo 0 0) s m [.ref (a 28), .int x1, .int x2].toArray below meth c H locs 0 0 Q (F0 m 5 ls []) := by
    intro n
    induction n with
    | zero =>
      intro H locs ls i_k1 w3_k1 hO hl iv0_k1 hm_k1
      exact absurd hm_k1 (by omega)
    | succ n ih_k1 =>
      intro H locs ls i_k1 w3_k1 hO hl iv0_k1 hm_k1
      refine lv_iload hx hb dX2_nextTo_5 (lv_at hl 0 rfl) ?_
      refine lv_aload_n hx hb dX2_nextTo_7 rfl (lv_at hl 2 rfl) ?_
      refine gf_RX2_15 (v := .ref (a 3)) C hO 28 cW_28 (congrArg (fun z : Nat => some (Value.ref z)) (CI_R0 hJ)) dX2_nextTo_8 ?_
      have g2 : 0 ≤ (fI u 3 10).toInt ∧ (fI u 3 10).toInt ≤ 14 := by have h := CI_3_10 hJ; exact h
      refine gf_RX2_50 (v := .int (fI u 3 10)) C hO 3 cW_3 rfl dX2_nextTo_11 ?_
      refine cs_ge (tgt := 114) (X := (i_k1).toInt) (Y := ((fI u 3 10)).toInt) hx hb dX2_nextTo_14 (by decide) rfl rfl (fun c3 => ?_) (fun c3 => ?_)
      · refine lv_iload_n hx hb dX2_nextTo_114 rfl (lv_at hl 1 rfl) ?_
        refine hret _ _ _ _ _ _ dX2_nextTo_115 rfl ?_ hO
        exact rfl
      · refine lv_aload_n hx hb dX2_nextTo_17 rfl (lv_at hl 2 rfl) ?_
        refine gf_RX2_9 (v := .ref (a 29)) C hO 28 cW_28 rfl dX2_nextTo_18 ?_
        refine lv_iconst (v := 4) hx hb dX2_nextTo_21 (by decide) ?_
        refine aI C hO 29 cW_29 (i_in (X := 4) rfl (by omega) (by omega)) dX2_nextTo_22 ?_
        refine lv_topi (fun w4 ew4 => ?_)
        refine lv_iload hx hb dX2_nextTo_23 (lv_at hl 0 rfl) ?_
        refine lv_ishr hx hb dX2_nextTo_25 ?_
        refine lv_topi (fun z5 ez5 => ?_)
        refine lv_iconst (v := 1) hx hb dX2_nextTo_26 (by decide) ?_
        refine lv_iand hx hb dX2_nextTo_27 ?_
        refine lv_topi (fun z6 ez6 => ?_)
        have g7 : 0 ≤ z6.toInt ∧ z6.toInt ≤ 1 := by rw [ez6]; exact i_andr rfl (by omega)
        refine bs_eq (tgt := 35) (X := (z6).toInt) hx hb dX2_nextTo_28 (by decide) rfl (fun c8 => ?_) (fun c8 => ?_)
        · refine lv_iconst (v := 0) hx hb dX2_nextTo_35 (by decide) ?_
          refine lv_istore (lv' := [(5, .int 0), (4, .int i_k1), (3, .int w3_k1), (0, .ref (a 28)), (1, .int x1), (2, .int x2)]) hx hb dX2_nextTo_36 hl (by decide) rfl (fun ls hl => ?_)
          refine lv_iload hx hb dX2_nextTo_38 (lv_at hl 0 rfl) ?_
          refine lv_iload_n hx hb dX2_nextTo_40 rfl (lv_at hl 5 rfl) ?_
          refine cs_eq (tgt := 47) (X := 0) (Y := (x2).toInt) hx hb dX2_nextTo_41 (by decide) rfl rfl (fun c9 => ?_) (fun c9 => ?_)
          · refine lv_aload_n hx hb dX2_nextTo_47 rfl (lv_at hl 3 rfl) ?_
            refine gf_RX2_15 (v := .ref (a 3)) C hO 28 cW_28 (congrArg (fun z : Nat => some (Value.ref z)) (CI_R0 hJ)) dX2_nextTo_48 ?_
            refine gf_RX2_53 (v := .ref (a 7)) C hO 3 cW_3 rfl dX2_nextTo_51 ?_
            refine lv_iload hx hb dX2_nextTo_54 (lv_at hl 1 rfl) ?_
            refine aI C hO 7 cW_7 (i_in (X := (i_k1).toInt) rfl (by omega) (by omega)) dX2_nextTo_56 ?_
            refine lv_topi (fun w10 ew10 => ?_)
            refine lv_iload_n hx hb dX2_nextTo_57 rfl (lv_at hl 4 rfl) ?_
            refine cs_ne (tgt := 79) (X := (w10).toInt) (Y := (x1).toInt) hx hb dX2_nextTo_58 (by decide) rfl rfl (fun c11 => ?_) (fun c11 => ?_)
            · refine lv_aload_n hx hb dX2_nextTo_79 rfl (lv_at hl 3 rfl) ?_
              refine gf_RX2_15 (v := .ref (a 3)) C hO 28 cW_28 (congrArg (fun z : Nat => some (Value.ref z)) (CI_R0 hJ)) dX2_nextTo_80 ?_
              refine gf_RX2_56 (v := .ref (a 8)) C hO 3 cW_3 rfl dX2_nextTo_83 ?_
              refine lv_iload hx hb dX2_nextTo_86 (lv_at hl 1 rfl) ?_
              refine aI C hO 8 cW_8 (i_in (X := (i_k1).toInt) rfl (by omega) (by omega)) dX2_nextTo_88 ?_
              refine lv_topi (fun w12 ew12 => ?_)
              refine lv_iload_n hx hb dX2_nextTo_89 rfl (lv_at hl 4 rfl) ?_
              refine cs_ne (tgt := 108) (X := (w12).toInt) (Y := (x1).toInt) hx hb dX2_nextTo_90 (by decide) rfl rfl (fun c13 => ?_) (fun c13 => ?_)
              · have e14 : ((i_k1 + 1)).toInt = (i_k1).toInt + 1 := i_add rfl rfl (by omega)
                refine lv_iinc (v := (i_k1 + 1)) (lv' := [(4, .int (i_k1 + 1)), (5, .int 0), (3, .int w3_k1), (0, .ref (a 28)), (1, .int x1), (2, .int x2)]) hx hb dX2_nextTo_108 hl (k := 1) rfl rfl (by decide) rfl (fun ls hl => ?_)
                refine lv_goto (tgt := 5) hx hb dX2_nextTo_111 (by decide) ?_
                exact ih_k1 _ _ _ ((i_k1 + 1)) (w3_k1) hO (lv_sub hl [0, 2, 3, 4, 5] rfl) (by first | decide | omega) (by first | decide | omega)
              · refine lv_iload_n hx hb dX2_nextTo_93 rfl (lv_at hl 2 rfl) ?_
                refine lv_iconst (v := 1) hx hb dX2_nextTo_94 (by decide) ?_
                refine lv_aload_n hx hb dX2_nextTo_95 rfl (lv_at hl 3 rfl) ?_
                refine gf_RX2_15 (v := .ref (a 3)) C hO 28 cW_28 (congrArg (fun z : Nat => some (Value.ref z)) (CI_R0 hJ)) dX2_nextTo_96 ?_
                refine gf_RX2_53 (v := .ref (a 7)) C hO 3 cW_3 rfl dX2_nextTo_99 ?_
                refine lv_iload hx hb dX2_nextTo_102 (lv_at hl 1 rfl) ?_
                refine aI C hO 7 cW_7 (i_in (X := (i_k1).toInt) rfl (by omega) (by omega)) dX2_nextTo_104 ?_
                refine lv_topi (fun w15 ew15 => ?_)
                refine lv_ishl hx hb dX2_nextTo_105 ?_
                refine lv_topi (fun z16 ez16 => ?_)
                refine lv_ior hx hb dX2_nextTo_106 ?_
                refine lv_topi (fun z17 ez17 => ?_)
                refine lv_istore_n (lv' := [(3, .int z17), (5, .int 0), (4, .int i_k1), (0, .ref (a 28)), (1, .int x1), (2, .int x2)]) hx hb dX2_nextTo_107 rfl hl (by decide) rfl (fun ls hl => ?_)
                have e18 : ((i_k1 + 1)).toInt = (i_k1).toInt + 1 := i_add rfl rfl (by omega)
                refine lv_iinc (v := (i_k1 + 1)) (lv' := [(4, .int (i_k1 + 1)), (3, .int z17), (5, .int 0), (0, .ref (a 28)), (1, .int x1), (2, .int x2)]) hx hb dX2_nextTo_108 hl (k := 2) rfl rfl (by decide) rfl (fun ls hl => ?_)
                refine lv_goto (tgt := 5) hx hb dX2_nextTo_111 (by decide) ?_
                exact ih_k1 _ _ _ ((i_k1 + 1)) (z17) hO (lv_sub hl [0, 1, 3, 4, 5] rfl) (by first | decide | omega) (by first | decide | omega)
            · refine lv_iload_n hx hb dX2_nextTo_61 rfl (lv_at hl 2 rfl) ?_
              refine lv_iconst (v := 1) hx hb dX2_nextTo_62 (by decide) ?_
              refine lv_aload_n hx hb dX2_nextTo_63 rfl (lv_at hl 3 rfl) ?_
              refine gf_RX2_15 (v := .ref (a 3)) C hO 28 cW_28 (congrArg (fun z : Nat => some (Value.ref z)) (CI_R0 hJ)) dX2_nextTo_64 ?_
              refine gf_RX2_56 (v := .ref (a 8)) C hO 3 cW_3 rfl dX2_nextTo_67 ?_
              refine lv_iload hx hb dX2_nextTo_70 (lv_at hl 1 rfl) ?_
              refine aI C hO 8 cW_8 (i_in (X := (i_k1).toInt) rfl (by omega) (by omega)) dX2_nextTo_72 ?_
              refine lv_topi (fun w19 ew19 => ?_)
              refine lv_ishl hx hb dX2_nextTo_73 ?_
              refine lv_topi (fun z20 ez20 => ?_)
              refine lv_ior hx hb dX2_nextTo_74 ?_
              refine lv_topi (fun z21 ez21 => ?_)
              refine lv_istore_n (lv' := [(3, .int z21), (5, .int 0), (4, .int i_k1), (0, .ref (a 28)), (1, .int x1), (2, .int x2)]) hx hb dX2_nextTo_75 rfl hl (by decide) rfl (fun ls hl => ?_)
              refine lv_goto (tgt := 108) hx hb dX2_nextTo_76 (by decide) ?_
              have e22 : ((i_k1 + 1)).toInt = (i_k1).toInt + 1 := i_add rfl rfl (by omega)
              refine lv_iinc (v := (i_k1 + 1)) (lv' := [(4, .int (i_k1 + 1)), (3, .int z21), (5, .int 0), (0, .ref (a 28)), (1, .int x1), (2, .int x2)]) hx hb dX2_nextTo_108 hl (k := 2) rfl rfl (by decide) rfl (fun ls hl => ?_)
              refine lv_goto (tgt := 5) hx hb dX2_nextTo_111 (by decide) ?_
              exact ih_k1 _ _ _ ((i_k1 + 1)) (z21) hO (lv_sub hl [0, 1, 3, 4, 5] rfl) (by first | decide | omega) (by first | decide | omega)
          · refine lv_goto (tgt := 108) hx hb dX2_nextTo_44 (by decide) ?_
            have e23 : ((i_k1 + 1)).toInt = (i_k1).toInt + 1 := i_add rfl rfl (by omega)
            refine lv_iinc (v := (i_k1 + 1)) (lv' := [(4, .int (i_k1 + 1)), (5, .int 0), (3, .int w3_k1), (0, .ref (a 28)), (1, .int x1), (2, .int x2)]) hx hb dX2_nextTo_108 hl (k := 1) rfl rfl (by decide) rfl (fun ls hl => ?_)
            refine lv_goto (tgt := 5) hx hb dX2_nextTo_111 (by decide) ?_
            exact ih_k1 _ _ _ ((i_k1 + 1)) (w3_k1) hO (lv_sub hl [0, 2, 3, 4, 5] rfl) (by first | decide | omega) (by first | decide | omega)
        · refine lv_iconst (v := 1) hx hb dX2_nextTo_31 (by decide) ?_
          refine lv_goto (tgt := 36) hx hb dX2_nextTo_32 (by decide) ?_
          refine lv_istore (lv' := [(5, .int 1), (4, .int i_k1), (3, .int w3_k1), (0, .ref (a 28)), (1, .int x1), (2, .int x2)]) hx hb dX2_nextTo_36 hl (by decide) rfl (fun ls hl => ?_)
          refine lv_iload hx hb dX2_nextTo_38 (lv_at hl 0 rfl) ?_
          refine lv_iload_n hx hb dX2_nextTo_40 rfl (lv_at hl 5 rfl) ?_
          refine cs_eq (tgt := 47) (X := 1) (Y := (x2).toInt) hx hb dX2_nextTo_41 (by decide) rfl rfl (fun c24 => ?_) (fun c24 => ?_)
          · refine lv_aload_n hx hb dX2_nextTo_47 rfl (lv_at hl 3 rfl) ?_
            refine gf_RX2_15 (v := .ref (a 3)) C hO 28 cW_28 (congrArg (fun z : Nat => some (Value.ref z)) (CI_R0 hJ)) dX2_nextTo_48 ?_
            refine gf_RX2_53 (v := .ref (a 7)) C hO 3 cW_3 rfl dX2_nextTo_51 ?_
            refine lv_iload hx hb dX2_nextTo_54 (lv_at hl 1 rfl) ?_
            refine aI C hO 7 cW_7 (i_in (X := (i_k1).toInt) rfl (by omega) (by omega)) dX2_nextTo_56 ?_
            refine lv_topi (fun w25 ew25 => ?_)
            refine lv_iload_n hx hb dX2_nextTo_57 rfl (lv_at hl 4 rfl) ?_
            refine cs_ne (tgt := 79) (X := (w25).toInt) (Y := (x1).toInt) hx hb dX2_nextTo_58 (by decide) rfl rfl (fun c26 => ?_) (fun c26 => ?_)
            · refine lv_aload_n hx hb dX2_nextTo_79 rfl (lv_at hl 3 rfl) ?_
              refine gf_RX2_15 (v := .ref (a 3)) C hO 28 cW_28 (congrArg (fun z : Nat => some (Value.ref z)) (CI_R0 hJ)) dX2_nextTo_80 ?_
              refine gf_RX2_56 (v := .ref (a 8)) C hO 3 cW_3 rfl dX2_nextTo_83 ?_
              refine lv_iload hx hb dX2_nextTo_86 (lv_at hl 1 rfl) ?_
              refine aI C hO 8 cW_8 (i_in (X := (i_k1).toInt) rfl (by omega) (by omega)) dX2_nextTo_88 ?_
              refine lv_topi (fun w27 ew27 => ?_)
              refine lv_iload_n hx hb dX2_nextTo_89 rfl (lv_at hl 4 rfl) ?_
              refine cs_ne (tgt := 108) (X := (w27).toInt) (Y := (x1).toInt) hx hb dX2_nextTo_90 (by decide) rfl rfl (fun c28 => ?_) (fun c28 => ?_)
              · have e29 : ((i_k1 + 1)).toInt = (i_k1).toInt + 1 := i_add rfl rfl (by omega)
                refine lv_iinc (v := (i_k1 + 1)) (lv' := [(4, .int (i_k1 + 1)), (5, .int 1), (3, .int w3_k1), (0, .ref (a 28)), (1, .int x1), (2, .int x2)]) hx hb dX2_nextTo_108 hl (k := 1) rfl rfl (by decide) rfl (fun ls hl => ?_)
                refine lv_goto (tgt := 5) hx hb dX2_nextTo_111 (by decide) ?_
                exact ih_k1 _ _ _ ((i_k1 + 1)) (w3_k1) hO (lv_sub hl [0, 2, 3, 4, 5] rfl) (by first | decide | omega) (by first | decide | omega)
              · refine lv_iload_n hx hb dX2_nextTo_93 rfl (lv_at hl 2 rfl) ?_
                refine lv_iconst (v := 1) hx hb dX2_nextTo_94 (by decide) ?_
                refine lv_aload_n hx hb dX2_nextTo_95 rfl (lv_at hl 3 rfl) ?_
                refine gf_RX2_15 (v := .ref (a 3)) C hO 28 cW_28 (congrArg (fun z : Nat => some (Value.ref z)) (CI_R0 hJ)) dX2_nextTo_96 ?_
                refine gf_RX2_53 (v := .ref (a 7)) C hO 3 cW_3 rfl dX2_nextTo_99 ?_
                refine lv_iload hx hb dX2_nextTo_102 (lv_at hl 1 rfl) ?_
                refine aI C hO 7 cW_7 (i_in (X := (i_k1).toInt) rfl (by omega) (by omega)) dX2_nextTo_104 ?_
                refine lv_topi (fun w30 ew30 => ?_)
                refine lv_ishl hx hb dX2_nextTo_105 ?_
                refine lv_topi (fun z31 ez31 => ?_)
                refine lv_ior hx hb dX2_nextTo_106 ?_
                refine lv_topi (fun z32 ez32 => ?_)
                refine lv_istore_n (lv' := [(3, .int z32), (5, .int 1), (4, .int i_k1), (0, .ref (a 28)), (1, .int x1), (2, .int x2)]) hx hb dX2_nextTo_107 rfl hl (by decide) rfl (fun ls hl => ?_)
                have e33 : ((i_k1 + 1)).toInt = (i_k1).toInt + 1 := i_add rfl rfl (by omega)
                refine lv_iinc (v := (i_k1 + 1)) (lv' := [(4, .int (i_k1 + 1)), (3, .int z32), (5, .int 1), (0, .ref (a 28)), (1, .int x1), (2, .int x2)]) hx hb dX2_nextTo_108 hl (k := 2) rfl rfl (by decide) rfl (fun ls hl => ?_)
                refine lv_goto (tgt := 5) hx hb dX2_nextTo_111 (by decide) ?_
                exact ih_k1 _ _ _ ((i_k1 + 1)) (z32) hO (lv_sub hl [0, 1, 3, 4, 5] rfl) (by first | decide | omega) (by first | decide | omega)
            · refine lv_iload_n hx hb dX2_nextTo_61 rfl (lv_at hl 2 rfl) ?_
              refine lv_iconst (v := 1) hx hb dX2_nextTo_62 (by decide) ?_
              refine lv_aload_n hx hb dX2_nextTo_63 rfl (lv_at hl 3 rfl) ?_
              refine gf_RX2_15 (v := .ref (a 3)) C hO 28 cW_28 (congrArg (fun z : Nat => some (Value.ref z)) (CI_R0 hJ)) dX2_nextTo_64 ?_
              refine gf_RX2_56 (v := .ref (a 8)) C hO 3 cW_3 rfl dX2_nextTo_67 ?_
              refine lv_iload hx hb dX2_nextTo_70 (lv_at hl 1 rfl) ?_
              refine aI C hO 8 cW_8 (i_in (X := (i_k1).toInt) rfl (by omega) (by omega)) dX2_nextTo_72 ?_
              refine lv_topi (fun w34 ew34 => ?_)
              refine lv_ishl hx hb dX2_nextTo_73 ?_
              refine lv_topi (fun z35 ez35 => ?_)
              refine lv_ior hx hb dX2_nextTo_74 ?_
              refine lv_topi (fun z36 ez36 => ?_)
              refine lv_istore_n (lv' := [(3, .int z36), (5, .int 1), (4, .int i_k1), (0, .ref (a 28)), (1, .int x1), (2, .int x2)]) hx hb dX2_nextTo_75 rfl hl (by decide) rfl (fun ls hl => ?_)
              refine lv_goto (tgt := 108) hx hb dX2_nextTo_76 (by decide) ?_
              have e37 : ((i_k1 + 1)).toInt = (i_k1).toInt + 1 := i_add rfl rfl (by omega)
              refine lv_iinc (v := (i_k1 + 1)) (lv' := [(4, .int (i_k1 + 1)), (3, .int z36), (5, .int 1), (0, .ref (a 28)), (1, .int x1), (2, .int x2)]) hx hb dX2_nextTo_108 hl (k := 2) rfl rfl (by decide) rfl (fun ls hl => ?_)
              refine lv_goto (tgt := 5) hx hb dX2_nextTo_111 (by decide) ?_
              exact ih_k1 _ _ _ ((i_k1 + 1)) (z36) hO (lv_sub hl [0, 1, 3, 4, 5] rfl) (by first | decide | omega) (by first | decide | omega)
          · refine lv_goto (tgt := 108) hx hb dX2_nextTo_44 (by decide) ?_
            have e38 : ((i_k1 + 1)).toInt = (i_k1).toInt + 1 := i_add rfl rfl (by omega)
            refine lv_iinc (v := (i_k1 + 1)) (lv' := [(4, .int (i_k1 + 1)), (5, .int 1), (3, .int w3_k1), (0, .ref (a 28)), (1, .int x1), (2, .int x2)]) hx hb dX2_nextTo_108 hl (k := 1) rfl rfl (by decide) rfl (fun ls hl => ?_)
            refine lv_goto (tgt := 5) hx hb dX2_nextTo_111 (by decide) ?_
            exact ih_k1 _ _ _ ((i_k1 + 1)) (w3_k1) hO (lv_sub hl [0, 2, 3, 4, 5] rfl) (by first | decide | omega) (by first | decide | omega)
  exact LP_5_k1 4000 _ _ _ (0) (0) hO (lv_sub hl [0, 1, 2, 3, 4] rfl) (by first | decide | omega) (by first | decide | omega)
theorem dX9_strengthOf_0 : decode cX9_strengthOf 0 = .ok (.iconst 0, 1) := by decide +kernel
theorem dX9_strengthOf_1 : decode cX9_strengthOf 1 = .ok (.istore_n 2, 1) := by decide +kernel
theorem dX9_strengthOf_2 : decode cX9_strengthOf 2 = .ok (.iconst 0, 1) := by decide +kernel
theorem dX9_strengthOf_3 : decode cX9_strengthOf 3 = .ok (.istore_n 3, 1) := by decide +kernel
theorem dX9_strengthOf_4 : decode cX9_strengthOf 4 = .ok (.iload_n 3, 1) := by decide +kernel
theorem dX9_strengthOf_5 : decode cX9_strengthOf 5 = .ok (.aload_n 0, 1) := by decide +kernel
theorem dX9_strengthOf_6 : decode cX9_strengthOf 6 = .ok (.getfield 54, 3) := by decide +kernel
theorem dX9_strengthOf_9 : decode cX9_strengthOf 9 = .ok (.if_icmp .ge 26, 3) := by decide +kernel
theorem dX9_strengthOf_12 : decode cX9_strengthOf 12 = .ok (.iload_n 1, 1) := by decide +kernel
theorem dX9_strengthOf_13 : decode cX9_strengthOf 13 = .ok (.iload_n 3, 1) := by decide +kernel
theorem dX9_strengthOf_14 : decode cX9_strengthOf 14 = .ok (.ishr, 1) := by decide +kernel
theorem dX9_strengthOf_15 : decode cX9_strengthOf 15 = .ok (.iconst 1, 1) := by decide +kernel
theorem dX9_strengthOf_16 : decode cX9_strengthOf 16 = .ok (.iand, 1) := by decide +kernel
theorem dX9_strengthOf_17 : decode cX9_strengthOf 17 = .ok (.ifCond .eq 12, 3) := by decide +kernel
theorem dX9_strengthOf_20 : decode cX9_strengthOf 20 = .ok (.iload_n 2, 1) := by decide +kernel
theorem dX9_strengthOf_21 : decode cX9_strengthOf 21 = .ok (.aload_n 0, 1) := by decide +kernel
theorem dX9_strengthOf_22 : decode cX9_strengthOf 22 = .ok (.getfield 28, 3) := by decide +kernel
theorem dX9_strengthOf_25 : decode cX9_strengthOf 25 = .ok (.iload_n 3, 1) := by decide +kernel
theorem dX9_strengthOf_26 : decode cX9_strengthOf 26 = .ok (.iaload, 1) := by decide +kernel
theorem dX9_strengthOf_27 : decode cX9_strengthOf 27 = .ok (.iadd, 1) := by decide +kernel
theorem dX9_strengthOf_28 : decode cX9_strengthOf 28 = .ok (.istore_n 2, 1) := by decide +kernel
theorem dX9_strengthOf_29 : decode cX9_strengthOf 29 = .ok (.iinc 3 1, 3) := by decide +kernel
theorem dX9_strengthOf_32 : decode cX9_strengthOf 32 = .ok (.goto (-28), 3) := by decide +kernel
theorem dX9_strengthOf_35 : decode cX9_strengthOf 35 = .ok (.iload_n 2, 1) := by decide +kernel
theorem dX9_strengthOf_36 : decode cX9_strengthOf 36 = .ok (.ireturn, 1) := by decide +kernel
theorem wd_868 : (Cond.code ⟨"WebCourt$Web", "strengthOf", "(I)I"⟩ prog_11_method_4_code (4 : Nat) (Option.some FieldType.int)) ∈ gtb := gtb_c4 39 (by decide +kernel) rfl
theorem wd_261 : (Cond.fieldLink "WebCourt$Web" (54 : Nat) "WebCourt$Web" "pleas" "I") ∈ gtb := gtb_c1 152 (by decide +kernel) rfl
theorem gf_RX9_54 {p : Program} {l : Launch} {e : Env} {R : Room} {s : State} {m : MethodId} {args : Array Value} {below : List Frame} {meth : Method} {c : Code} {H : Heap} {locs : List Loc} {cells slots : Nat} {Q : State → Prop} {cc : ByteArray} {pc nL : Nat} {ls : Array Slot} {rest : List Value} {D : va_G} {cy : Nat → ClassId} {A : Nat → Prop} {ws : va_W} {b : Nat} {fs : List Value} {v : Value} (C : Cx p s m args c cc nL RX9 D cy A) (hO : Wo D A ws s.heap H locs) (q0 : Nat) (he : ws[q0]? = some (b, .inr (9, fs))) (hv : fs[11]? = some v) (hdg : decode cc pc = .ok (.getfield 54, 3)) (kk : W p l e R s m args below meth c H locs cells slots Q (F0 m (pc + 3) ls (v :: rest))) : W p l e R s m args below meth c H locs cells slots Q (F0 m pc ls (.ref b :: rest)) := gF (k := 11) C hO q0 he rfl inFX9 (by decide) wd_261 rfl hv hdg kk
theorem wd_235 : (Cond.fieldLink "WebCourt$Web" (28 : Nat) "WebCourt$Web" "strong" "[I") ∈ gtb := gtb_c1 126 (by decide +kernel) rfl
theorem gf_RX9_28 {p : Program} {l : Launch} {e : Env} {R : Room} {s : State} {m : MethodId} {args : Array Value} {below : List Frame} {meth : Method} {c : Code} {H : Heap} {locs : List Loc} {cells slots : Nat} {Q : State → Prop} {cc : ByteArray} {pc nL : Nat} {ls : Array Slot} {rest : List Value} {D : va_G} {cy : Nat → ClassId} {A : Nat → Prop} {ws : va_W} {b : Nat} {fs : List Value} {v : Value} (C : Cx p s m args c cc nL RX9 D cy A) (hO : Wo D A ws s.heap H locs) (q0 : Nat) (he : ws[q0]? = some (b, .inr (9, fs))) (hv : fs[5]? = some v) (hdg : decode cc pc = .ok (.getfield 28, 3)) (kk : W p l e R s m args below meth c H locs cells slots Q (F0 m (pc + 3) ls (v :: rest))) : W p l e R s m args below meth c H locs cells slots Q (F0 m pc ls (.ref b :: rest)) := gF (k := 5) C hO q0 he rfl inFX9 (by decide) wd_235 rfl hv hdg kk
set_option maxHeartbeats 4000000 in
set_option maxRecDepth 100000 in
theorem T_X9_strengthOf (l : Launch) (D : va_G) (cy : Nat → ClassId) (a : Nat → Nat) (u : St) (hJ : CI a u) (x1 : Int32)  : Mi l D cy (cW cy a) yX9_strengthOf (.code yX9_strengthOf cX9_strengthOf 4 (some .int)) (rmo 0 0) [.ref (a 3), .int x1] u (fun (r : Int32) (u' : St) => u' = u) := by
  refine Mi.of (own := RX9) rfl (by decide) (Nat.le_of_ble_eq_true rfl) ?_
  have hT : KT u u := KT.rf
  intro p e s m below meth c A Q ls C hret hO hl
  obtain ⟨hx, hb, hml, hown, ht, hK, hA⟩ := id C
  have hl : lv_has ls 4 [(0, .ref (a 3)), (1, .int x1)] := hl
  refine lv_iconst (v := 0) hx hb dX9_strengthOf_0 (by decide) ?_
  refine lv_istore_n (lv' := [(2, .int 0), (0, .ref (a 3)), (1, .int x1)]) hx hb dX9_strengthOf_1 rfl hl (by decide) rfl (fun ls hl => ?_)
  refine lv_iconst (v := 0) hx hb dX9_strengthOf_2 (by decide) ?_
  refine lv_istore_n (lv' := [(3, .int 0), (2, .int 0), (0, .ref (a 3)), (1, .int x1)]) hx hb dX9_strengthOf_3 rfl hl (by decide) rfl (fun ls hl => ?_)
  have LP_4_k1 : ∀ (n : Nat) (H : Heap) (locs : List Loc) (ls : Array Slot) (i_k1 : Int32) (w2_k1 : Int32), Wo D A (cW cy a u) s.heap H locs → lv_has ls 4 [(3, .int i_k1), (2, .int w2_k1), (0, .ref (a 3)), (1, .int x1)] → 0 ≤ i_k1.toInt ∧ i_k1.toInt ≤ 8 → 8 - i_k1.toInt < (n : Int) → W p l e (rmo 0 0) s m [.ref (a 3), .int x1].toArray below meth c H locs 0 0 Q (F0 m 4 ls []) := by
    intro n
    induction n with
    | zero =>
      intro H locs ls i_k1 w2_k1 hO hl iv0_k1 hm_k1
      exact absurd hm_k1 (by omega)
    | succ n ih_k1 =>
      intro H locs ls i_k1 w2_k1 hO hl iv0_k1 hm_k1
      refine lv_iload_n hx hb dX9_strengthOf_4 rfl (lv_at hl 0 rfl) ?_
      refine lv_aload_n hx hb dX9_strengthOf_5 rfl (lv_at hl 2 rfl) ?_
      have g2 : 0 ≤ (fI u 3 11).toInt ∧ (fI u 3 11).toInt ≤ 8 := by have h := CI_3_11 hJ; exact h
      refine gf_RX9_54 (v := .int (fI u 3 11)) C hO 3 cW_3 rfl dX9_strengthOf_6 ?_
      refine cs_ge (tgt := 35) (X := (i_k1).toInt) (Y := ((fI u 3 11)).toInt) hx hb dX9_strengthOf_9 (by decide) rfl rfl (fun c3 => ?_) (fun c3 => ?_)
      · refine lv_iload_n hx hb dX9_strengthOf_35 rfl (lv_at hl 1 rfl) ?_
        refine hret _ _ _ _ _ _ dX9_strengthOf_36 rfl ?_ hO
        exact rfl
      · refine lv_iload_n hx hb dX9_strengthOf_12 rfl (lv_at hl 3 rfl) ?_
        refine lv_iload_n hx hb dX9_strengthOf_13 rfl (lv_at hl 0 rfl) ?_
        refine lv_ishr hx hb dX9_strengthOf_14 ?_
        refine lv_topi (fun z4 ez4 => ?_)
        refine lv_iconst (v := 1) hx hb dX9_strengthOf_15 (by decide) ?_
        refine lv_iand hx hb dX9_strengthOf_16 ?_
        refine lv_topi (fun z5 ez5 => ?_)
        have g6 : 0 ≤ z5.toInt ∧ z5.toInt ≤ 1 := by rw [ez5]; exact i_andr rfl (by omega)
        refine bs_eq (tgt := 29) (X := (z5).toInt) hx hb dX9_strengthOf_17 (by decide) rfl (fun c7 => ?_) (fun c7 => ?_)
        · have e8 : ((i_k1 + 1)).toInt = (i_k1).toInt + 1 := i_add rfl rfl (by omega)
          refine lv_iinc (v := (i_k1 + 1)) (lv' := [(3, .int (i_k1 + 1)), (2, .int w2_k1), (0, .ref (a 3)), (1, .int x1)]) hx hb dX9_strengthOf_29 hl (k := 0) rfl rfl (by decide) rfl (fun ls hl => ?_)
          refine lv_goto (tgt := 4) hx hb dX9_strengthOf_32 (by decide) ?_
          exact ih_k1 _ _ _ ((i_k1 + 1)) (w2_k1) hO (lv_sub hl [0, 1, 2, 3] rfl) (by first | decide | omega) (by first | decide | omega)
        · refine lv_iload_n hx hb dX9_strengthOf_20 rfl (lv_at hl 1 rfl) ?_
          refine lv_aload_n hx hb dX9_strengthOf_21 rfl (lv_at hl 2 rfl) ?_
          refine gf_RX9_28 (v := .ref (a 9)) C hO 3 cW_3 rfl dX9_strengthOf_22 ?_
          refine lv_iload_n hx hb dX9_strengthOf_25 rfl (lv_at hl 0 rfl) ?_
          refine aI C hO 9 cW_9 (i_in (X := (i_k1).toInt) rfl (by omega) (by omega)) dX9_strengthOf_26 ?_
          refine lv_topi (fun w9 ew9 => ?_)
          refine lv_iadd hx hb dX9_strengthOf_27 ?_
          refine lv_istore_n (lv' := [(2, .int (w2_k1 + w9)), (3, .int i_k1), (0, .ref (a 3)), (1, .int x1)]) hx hb dX9_strengthOf_28 rfl hl (by decide) rfl (fun ls hl => ?_)
          have e10 : ((i_k1 + 1)).toInt = (i_k1).toInt + 1 := i_add rfl rfl (by omega)
          refine lv_iinc (v := (i_k1 + 1)) (lv' := [(3, .int (i_k1 + 1)), (2, .int (w2_k1 + w9)), (0, .ref (a 3)), (1, .int x1)]) hx hb dX9_strengthOf_29 hl (k := 1) rfl rfl (by decide) rfl (fun ls hl => ?_)
          refine lv_goto (tgt := 4) hx hb dX9_strengthOf_32 (by decide) ?_
          exact ih_k1 _ _ _ ((i_k1 + 1)) ((w2_k1 + w9)) hO (lv_sub hl [0, 1, 2, 3] rfl) (by first | decide | omega) (by first | decide | omega)
  exact LP_4_k1 4000 _ _ _ (0) (0) hO (lv_sub hl [0, 1, 2, 3] rfl) (by first | decide | omega) (by first | decide | omega)
theorem dX9_kinOf_0 : decode cX9_kinOf 0 = .ok (.iconst 0, 1) := by decide +kernel
theorem dX9_kinOf_1 : decode cX9_kinOf 1 = .ok (.istore_n 3, 1) := by decide +kernel
theorem dX9_kinOf_2 : decode cX9_kinOf 2 = .ok (.iconst 0, 1) := by decide +kernel
theorem dX9_kinOf_3 : decode cX9_kinOf 3 = .ok (.istore 4, 2) := by decide +kernel
theorem dX9_kinOf_5 : decode cX9_kinOf 5 = .ok (.iload 4, 2) := by decide +kernel
theorem dX9_kinOf_7 : decode cX9_kinOf 7 = .ok (.aload_n 0, 1) := by decide +kernel
theorem dX9_kinOf_8 : decode cX9_kinOf 8 = .ok (.getfield 57, 3) := by decide +kernel
theorem dX9_kinOf_11 : decode cX9_kinOf 11 = .ok (.if_icmp .ge 43, 3) := by decide +kernel
theorem dX9_kinOf_14 : decode cX9_kinOf 14 = .ok (.iload 4, 2) := by decide +kernel
theorem dX9_kinOf_16 : decode cX9_kinOf 16 = .ok (.iload_n 1, 1) := by decide +kernel
theorem dX9_kinOf_17 : decode cX9_kinOf 17 = .ok (.if_icmp .eq 31, 3) := by decide +kernel
theorem dX9_kinOf_20 : decode cX9_kinOf 20 = .ok (.iload_n 2, 1) := by decide +kernel
theorem dX9_kinOf_21 : decode cX9_kinOf 21 = .ok (.iload 4, 2) := by decide +kernel
theorem dX9_kinOf_23 : decode cX9_kinOf 23 = .ok (.ishr, 1) := by decide +kernel
theorem dX9_kinOf_24 : decode cX9_kinOf 24 = .ok (.iconst 1, 1) := by decide +kernel
theorem dX9_kinOf_25 : decode cX9_kinOf 25 = .ok (.iand, 1) := by decide +kernel
theorem dX9_kinOf_26 : decode cX9_kinOf 26 = .ok (.ifCond .eq 22, 3) := by decide +kernel
theorem dX9_kinOf_29 : decode cX9_kinOf 29 = .ok (.aload_n 0, 1) := by decide +kernel
theorem dX9_kinOf_30 : decode cX9_kinOf 30 = .ok (.getfield 31, 3) := by decide +kernel
theorem dX9_kinOf_33 : decode cX9_kinOf 33 = .ok (.iload 4, 2) := by decide +kernel
theorem dX9_kinOf_35 : decode cX9_kinOf 35 = .ok (.iaload, 1) := by decide +kernel
theorem dX9_kinOf_36 : decode cX9_kinOf 36 = .ok (.aload_n 0, 1) := by decide +kernel
theorem dX9_kinOf_37 : decode cX9_kinOf 37 = .ok (.getfield 31, 3) := by decide +kernel
theorem dX9_kinOf_40 : decode cX9_kinOf 40 = .ok (.iload_n 1, 1) := by decide +kernel
theorem dX9_kinOf_41 : decode cX9_kinOf 41 = .ok (.iaload, 1) := by decide +kernel
theorem dX9_kinOf_42 : decode cX9_kinOf 42 = .ok (.if_icmp .ne 6, 3) := by decide +kernel
theorem dX9_kinOf_45 : decode cX9_kinOf 45 = .ok (.iinc 3 1, 3) := by decide +kernel
theorem dX9_kinOf_48 : decode cX9_kinOf 48 = .ok (.iinc 4 1, 3) := by decide +kernel
theorem dX9_kinOf_51 : decode cX9_kinOf 51 = .ok (.goto (-46), 3) := by decide +kernel
theorem dX9_kinOf_54 : decode cX9_kinOf 54 = .ok (.iload_n 3, 1) := by decide +kernel
theorem dX9_kinOf_55 : decode cX9_kinOf 55 = .ok (.ireturn, 1) := by decide +kernel
theorem wd_864 : (Cond.code ⟨"WebCourt$Web", "kinOf", "(II)I"⟩ prog_11_method_5_code (5 : Nat) (Option.some FieldType.int)) ∈ gtb := gtb_c4 35 (by decide +kernel) rfl
theorem wd_268 : (Cond.fieldLink "WebCourt$Web" (57 : Nat) "WebCourt$Web" "cases" "I") ∈ gtb := gtb_c1 159 (by decide +kernel) rfl
theorem gf_RX9_57 {p : Program} {l : Launch} {e : Env} {R : Room} {s : State} {m : MethodId} {args : Array Value} {below : List Frame} {meth : Method} {c : Code} {H : Heap} {locs : List Loc} {cells slots : Nat} {Q : State → Prop} {cc : ByteArray} {pc nL : Nat} {ls : Array Slot} {rest : List Value} {D : va_G} {cy : Nat → ClassId} {A : Nat → Prop} {ws : va_W} {b : Nat} {fs : List Value} {v : Value} (C : Cx p s m args c cc nL RX9 D cy A) (hO : Wo D A ws s.heap H locs) (q0 : Nat) (he : ws[q0]? = some (b, .inr (9, fs))) (hv : fs[12]? = some v) (hdg : decode cc pc = .ok (.getfield 57, 3)) (kk : W p l e R s m args below meth c H locs cells slots Q (F0 m (pc + 3) ls (v :: rest))) : W p l e R s m args below meth c H locs cells slots Q (F0 m pc ls (.ref b :: rest)) := gF (k := 12) C hO q0 he rfl inFX9 (by decide) wd_268 rfl hv hdg kk
theorem wd_238 : (Cond.fieldLink "WebCourt$Web" (31 : Nat) "WebCourt$Web" "caseKnots" "[I") ∈ gtb := gtb_c1 129 (by decide +kernel) rfl
theorem gf_RX9_31 {p : Program} {l : Launch} {e : Env} {R : Room} {s : State} {m : MethodId} {args : Array Value} {below : List Frame} {meth : Method} {c : Code} {H : Heap} {locs : List Loc} {cells slots : Nat} {Q : State → Prop} {cc : ByteArray} {pc nL : Nat} {ls : Array Slot} {rest : List Value} {D : va_G} {cy : Nat → ClassId} {A : Nat → Prop} {ws : va_W} {b : Nat} {fs : List Value} {v : Value} (C : Cx p s m args c cc nL RX9 D cy A) (hO : Wo D A ws s.heap H locs) (q0 : Nat) (he : ws[q0]? = some (b, .inr (9, fs))) (hv : fs[6]? = some v) (hdg : decode cc pc = .ok (.getfield 31, 3)) (kk : W p l e R s m args below meth c H locs cells slots Q (F0 m (pc + 3) ls (v :: rest))) : W p l e R s m args below meth c H locs cells slots Q (F0 m pc ls (.ref b :: rest)) := gF (k := 6) C hO q0 he rfl inFX9 (by decide) wd_238 rfl hv hdg kk
set_option maxHeartbeats 4000000 in
set_option maxRecDepth 100000 in
theorem T_X9_kinOf (l : Launch) (D : va_G) (cy : Nat → ClassId) (a : Nat → Nat) (u : St) (hJ : CI a u) (x1 : Int32) (x2 : Int32) (hx_x1 : 0 ≤ x1.toInt ∧ x1.toInt ≤ 5) : Mi l D cy (cW cy a) yX9_kinOf (.code yX9_kinOf cX9_kinOf 5 (some .int)) (rmo 0 0) [.ref (a 3), .int x1, .int x2] u (fun (r : Int32) (u' : St) => u' = u) := by
  refine Mi.of (own := RX9) rfl (by decide) (Nat.le_of_ble_eq_true rfl) ?_
  have hT : KT u u := KT.rf
  intro p e s m below meth c A Q ls C hret hO hl
  obtain ⟨hx, hb, hml, hown, ht, hK, hA⟩ := id C
  have hl : lv_has ls 5 [(0, .ref (a 3)), (1, .int x1), (2, .int x2)] := hl
  refine lv_iconst (v := 0) hx hb dX9_kinOf_0 (by decide) ?_
  refine lv_istore_n (lv' := [(3, .int 0), (0, .ref (a 3)), (1, .int x1), (2, .int x2)]) hx hb dX9_kinOf_1 rfl hl (by decide) rfl (fun ls hl => ?_)
  refine lv_iconst (v := 0) hx hb dX9_kinOf_2 (by decide) ?_
  refine lv_istore (lv' := [(4, .int 0), (3, .int 0), (0, .ref (a 3)), (1, .int x1), (2, .int x2)]) hx hb dX9_kinOf_3 hl (by decide) rfl (fun ls hl => ?_)
  have LP_5_k1 : ∀ (n : Nat) (H : Heap) (locs : List Loc) (ls : Array Slot) (i_k1 : Int32) (w3_k1 : Int32), Wo D A (cW cy a u) s.heap H locs → lv_has ls 5 [(4, .int i_k1), (3, .int w3_k1), (0, .ref (a 3)), (1, .int x1), (2, .int x2)] → 0 ≤ i_k1.toInt ∧ i_k1.toInt ≤ 6 → 6 - i_k1.toInt < (n : Int) → W p l e (rmo 0 0) s m [.ref (a 3), .int x1, .int x2].toArray below meth c H locs 0 0 Q (F0 m 5 ls []) := by
    intro n
    induction n with
    | zero =>
      intro H locs ls i_k1 w3_k1 hO hl iv0_k1 hm_k1
      exact absurd hm_k1 (by omega)
    | succ n ih_k1 =>
      intro H locs ls i_k1 w3_k1 hO hl iv0_k1 hm_k1
      refine lv_iload hx hb dX9_kinOf_5 (lv_at hl 0 rfl) ?_
      refine lv_aload_n hx hb dX9_kinOf_7 rfl (lv_at hl 2 rfl) ?_
      have g2 : 0 ≤ (fI u 3 12).toInt ∧ (fI u 3 12).toInt ≤ 6 := by have h := CI_3_12 hJ; exact h
      refine gf_RX9_57 (v := .int (fI u 3 12)) C hO 3 cW_3 rfl dX9_kinOf_8 ?_
      refine cs_ge (tgt := 54) (X := (i_k1).toInt) (Y := ((fI u 3 12)).toInt) hx hb dX9_kinOf_11 (by decide) rfl rfl (fun c3 => ?_) (fun c3 => ?_)
      · refine lv_iload_n hx hb dX9_kinOf_54 rfl (lv_at hl 1 rfl) ?_
        refine hret _ _ _ _ _ _ dX9_kinOf_55 rfl ?_ hO
        exact rfl
      · refine lv_iload hx hb dX9_kinOf_14 (lv_at hl 0 rfl) ?_
        refine lv_iload_n hx hb dX9_kinOf_16 rfl (lv_at hl 3 rfl) ?_
        refine cs_eq (tgt := 48) (X := (i_k1).toInt) (Y := (x1).toInt) hx hb dX9_kinOf_17 (by decide) rfl rfl (fun c4 => ?_) (fun c4 => ?_)
        · have e5 : ((i_k1 + 1)).toInt = (i_k1).toInt + 1 := i_add rfl rfl (by omega)
          refine lv_iinc (v := (i_k1 + 1)) (lv' := [(4, .int (i_k1 + 1)), (3, .int w3_k1), (0, .ref (a 3)), (1, .int x1), (2, .int x2)]) hx hb dX9_kinOf_48 hl (k := 0) rfl rfl (by decide) rfl (fun ls hl => ?_)
          refine lv_goto (tgt := 5) hx hb dX9_kinOf_51 (by decide) ?_
          exact ih_k1 _ _ _ ((i_k1 + 1)) (w3_k1) hO (lv_sub hl [0, 1, 2, 3, 4] rfl) (by first | decide | omega) (by first | decide | omega)
        · refine lv_iload_n hx hb dX9_kinOf_20 rfl (lv_at hl 4 rfl) ?_
          refine lv_iload hx hb dX9_kinOf_21 (lv_at hl 0 rfl) ?_
          refine lv_ishr hx hb dX9_kinOf_23 ?_
          refine lv_topi (fun z6 ez6 => ?_)
          refine lv_iconst (v := 1) hx hb dX9_kinOf_24 (by decide) ?_
          refine lv_iand hx hb dX9_kinOf_25 ?_
          refine lv_topi (fun z7 ez7 => ?_)
          have g8 : 0 ≤ z7.toInt ∧ z7.toInt ≤ 1 := by rw [ez7]; exact i_andr rfl (by omega)
          refine bs_eq (tgt := 48) (X := (z7).toInt) hx hb dX9_kinOf_26 (by decide) rfl (fun c9 => ?_) (fun c9 => ?_)
          · have e10 : ((i_k1 + 1)).toInt = (i_k1).toInt + 1 := i_add rfl rfl (by omega)
            refine lv_iinc (v := (i_k1 + 1)) (lv' := [(4, .int (i_k1 + 1)), (3, .int w3_k1), (0, .ref (a 3)), (1, .int x1), (2, .int x2)]) hx hb dX9_kinOf_48 hl (k := 0) rfl rfl (by decide) rfl (fun ls hl => ?_)
            refine lv_goto (tgt := 5) hx hb dX9_kinOf_51 (by decide) ?_
            exact ih_k1 _ _ _ ((i_k1 + 1)) (w3_k1) hO (lv_sub hl [0, 1, 2, 3, 4] rfl) (by first | decide | omega) (by first | decide | omega)
          · refine lv_aload_n hx hb dX9_kinOf_29 rfl (lv_at hl 2 rfl) ?_
            refine gf_RX9_31 (v := .ref (a 10)) C hO 3 cW_3 rfl dX9_kinOf_30 ?_
            refine lv_iload hx hb dX9_kinOf_33 (lv_at hl 0 rfl) ?_
            refine aI C hO 10 cW_10 (i_in (X := (i_k1).toInt) rfl (by omega) (by omega)) dX9_kinOf_35 ?_
            refine lv_topi (fun w11 ew11 => ?_)
            refine lv_aload_n hx hb dX9_kinOf_36 rfl (lv_at hl 2 rfl) ?_
            refine gf_RX9_31 (v := .ref (a 10)) C hO 3 cW_3 rfl dX9_kinOf_37 ?_
            refine lv_iload_n hx hb dX9_kinOf_40 rfl (lv_at hl 3 rfl) ?_
            refine aI C hO 10 cW_10 (i_in (X := (x1).toInt) rfl (by omega) (by omega)) dX9_kinOf_41 ?_
            refine lv_topi (fun w12 ew12 => ?_)
            refine cs_ne (tgt := 48) (X := (w11).toInt) (Y := (w12).toInt) hx hb dX9_kinOf_42 (by decide) rfl rfl (fun c13 => ?_) (fun c13 => ?_)
            · have e14 : ((i_k1 + 1)).toInt = (i_k1).toInt + 1 := i_add rfl rfl (by omega)
              refine lv_iinc (v := (i_k1 + 1)) (lv' := [(4, .int (i_k1 + 1)), (3, .int w3_k1), (0, .ref (a 3)), (1, .int x1), (2, .int x2)]) hx hb dX9_kinOf_48 hl (k := 0) rfl rfl (by decide) rfl (fun ls hl => ?_)
              refine lv_goto (tgt := 5) hx hb dX9_kinOf_51 (by decide) ?_
              exact ih_k1 _ _ _ ((i_k1 + 1)) (w3_k1) hO (lv_sub hl [0, 1, 2, 3, 4] rfl) (by first | decide | omega) (by first | decide | omega)
            · refine lv_iinc (v := (w3_k1 + 1)) (lv' := [(3, .int (w3_k1 + 1)), (4, .int i_k1), (0, .ref (a 3)), (1, .int x1), (2, .int x2)]) hx hb dX9_kinOf_45 hl (k := 1) rfl rfl (by decide) rfl (fun ls hl => ?_)
              have e15 : ((i_k1 + 1)).toInt = (i_k1).toInt + 1 := i_add rfl rfl (by omega)
              refine lv_iinc (v := (i_k1 + 1)) (lv' := [(4, .int (i_k1 + 1)), (3, .int (w3_k1 + 1)), (0, .ref (a 3)), (1, .int x1), (2, .int x2)]) hx hb dX9_kinOf_48 hl (k := 1) rfl rfl (by decide) rfl (fun ls hl => ?_)
              refine lv_goto (tgt := 5) hx hb dX9_kinOf_51 (by decide) ?_
              exact ih_k1 _ _ _ ((i_k1 + 1)) ((w3_k1 + 1)) hO (lv_sub hl [0, 1, 2, 3, 4] rfl) (by first | decide | omega) (by first | decide | omega)
  exact LP_5_k1 4000 _ _ _ (0) (0) hO (lv_sub hl [0, 1, 2, 3, 4] rfl) (by first | decide | omega) (by first | decide | omega)
theorem dX9_hasLine_0 : decode cX9_hasLine 0 = .ok (.iconst 0, 1) := by decide +kernel
theorem dX9_hasLine_1 : decode cX9_hasLine 1 = .ok (.istore_n 3, 1) := by decide +kernel
theorem dX9_hasLine_2 : decode cX9_hasLine 2 = .ok (.iload_n 3, 1) := by decide +kernel
theorem dX9_hasLine_3 : decode cX9_hasLine 3 = .ok (.aload_n 0, 1) := by decide +kernel
theorem dX9_hasLine_4 : decode cX9_hasLine 4 = .ok (.getfield 51, 3) := by decide +kernel
theorem dX9_hasLine_7 : decode cX9_hasLine 7 = .ok (.if_icmp .ge 51, 3) := by decide +kernel
theorem dX9_hasLine_10 : decode cX9_hasLine 10 = .ok (.aload_n 0, 1) := by decide +kernel
theorem dX9_hasLine_11 : decode cX9_hasLine 11 = .ok (.getfield 21, 3) := by decide +kernel
theorem dX9_hasLine_14 : decode cX9_hasLine 14 = .ok (.iload_n 3, 1) := by decide +kernel
theorem dX9_hasLine_15 : decode cX9_hasLine 15 = .ok (.iaload, 1) := by decide +kernel
theorem dX9_hasLine_16 : decode cX9_hasLine 16 = .ok (.iload_n 1, 1) := by decide +kernel
theorem dX9_hasLine_17 : decode cX9_hasLine 17 = .ok (.if_icmp .ne 13, 3) := by decide +kernel
theorem dX9_hasLine_20 : decode cX9_hasLine 20 = .ok (.aload_n 0, 1) := by decide +kernel
theorem dX9_hasLine_21 : decode cX9_hasLine 21 = .ok (.getfield 25, 3) := by decide +kernel
theorem dX9_hasLine_24 : decode cX9_hasLine 24 = .ok (.iload_n 3, 1) := by decide +kernel
theorem dX9_hasLine_25 : decode cX9_hasLine 25 = .ok (.iaload, 1) := by decide +kernel
theorem dX9_hasLine_26 : decode cX9_hasLine 26 = .ok (.iload_n 2, 1) := by decide +kernel
theorem dX9_hasLine_27 : decode cX9_hasLine 27 = .ok (.if_icmp .eq 23, 3) := by decide +kernel
theorem dX9_hasLine_30 : decode cX9_hasLine 30 = .ok (.aload_n 0, 1) := by decide +kernel
theorem dX9_hasLine_31 : decode cX9_hasLine 31 = .ok (.getfield 21, 3) := by decide +kernel
theorem dX9_hasLine_34 : decode cX9_hasLine 34 = .ok (.iload_n 3, 1) := by decide +kernel
theorem dX9_hasLine_35 : decode cX9_hasLine 35 = .ok (.iaload, 1) := by decide +kernel
theorem dX9_hasLine_36 : decode cX9_hasLine 36 = .ok (.iload_n 2, 1) := by decide +kernel
theorem dX9_hasLine_37 : decode cX9_hasLine 37 = .ok (.if_icmp .ne 15, 3) := by decide +kernel
theorem dX9_hasLine_40 : decode cX9_hasLine 40 = .ok (.aload_n 0, 1) := by decide +kernel
theorem dX9_hasLine_41 : decode cX9_hasLine 41 = .ok (.getfield 25, 3) := by decide +kernel
theorem dX9_hasLine_44 : decode cX9_hasLine 44 = .ok (.iload_n 3, 1) := by decide +kernel
theorem dX9_hasLine_45 : decode cX9_hasLine 45 = .ok (.iaload, 1) := by decide +kernel
theorem dX9_hasLine_46 : decode cX9_hasLine 46 = .ok (.iload_n 1, 1) := by decide +kernel
theorem dX9_hasLine_47 : decode cX9_hasLine 47 = .ok (.if_icmp .ne 5, 3) := by decide +kernel
theorem dX9_hasLine_50 : decode cX9_hasLine 50 = .ok (.iconst 1, 1) := by decide +kernel
theorem dX9_hasLine_51 : decode cX9_hasLine 51 = .ok (.ireturn, 1) := by decide +kernel
theorem dX9_hasLine_52 : decode cX9_hasLine 52 = .ok (.iinc 3 1, 3) := by decide +kernel
theorem dX9_hasLine_55 : decode cX9_hasLine 55 = .ok (.goto (-53), 3) := by decide +kernel
theorem dX9_hasLine_58 : decode cX9_hasLine 58 = .ok (.iconst 0, 1) := by decide +kernel
theorem dX9_hasLine_59 : decode cX9_hasLine 59 = .ok (.ireturn, 1) := by decide +kernel
theorem wd_714 : (Cond.code ⟨"WebCourt$Web", "hasLine", "(II)Z"⟩ prog_11_method_3_code (4 : Nat) (Option.some FieldType.boolean)) ∈ gtb := gtb_c3 125 (by decide +kernel) rfl
theorem wd_256 : (Cond.fieldLink "WebCourt$Web" (51 : Nat) "WebCourt$Web" "lines" "I") ∈ gtb := gtb_c1 147 (by decide +kernel) rfl
theorem gf_RX9_51 {p : Program} {l : Launch} {e : Env} {R : Room} {s : State} {m : MethodId} {args : Array Value} {below : List Frame} {meth : Method} {c : Code} {H : Heap} {locs : List Loc} {cells slots : Nat} {Q : State → Prop} {cc : ByteArray} {pc nL : Nat} {ls : Array Slot} {rest : List Value} {D : va_G} {cy : Nat → ClassId} {A : Nat → Prop} {ws : va_W} {b : Nat} {fs : List Value} {v : Value} (C : Cx p s m args c cc nL RX9 D cy A) (hO : Wo D A ws s.heap H locs) (q0 : Nat) (he : ws[q0]? = some (b, .inr (9, fs))) (hv : fs[10]? = some v) (hdg : decode cc pc = .ok (.getfield 51, 3)) (kk : W p l e R s m args below meth c H locs cells slots Q (F0 m (pc + 3) ls (v :: rest))) : W p l e R s m args below meth c H locs cells slots Q (F0 m pc ls (.ref b :: rest)) := gF (k := 10) C hO q0 he rfl inFX9 (by decide) wd_256 rfl hv hdg kk
theorem wd_227 : (Cond.fieldLink "WebCourt$Web" (21 : Nat) "WebCourt$Web" "lineFrom" "[I") ∈ gtb := gtb_c1 118 (by decide +kernel) rfl
theorem gf_RX9_21 {p : Program} {l : Launch} {e : Env} {R : Room} {s : State} {m : MethodId} {args : Array Value} {below : List Frame} {meth : Method} {c : Code} {H : Heap} {locs : List Loc} {cells slots : Nat} {Q : State → Prop} {cc : ByteArray} {pc nL : Nat} {ls : Array Slot} {rest : List Value} {D : va_G} {cy : Nat → ClassId} {A : Nat → Prop} {ws : va_W} {b : Nat} {fs : List Value} {v : Value} (C : Cx p s m args c cc nL RX9 D cy A) (hO : Wo D A ws s.heap H locs) (q0 : Nat) (he : ws[q0]? = some (b, .inr (9, fs))) (hv : fs[3]? = some v) (hdg : decode cc pc = .ok (.getfield 21, 3)) (kk : W p l e R s m args below meth c H locs cells slots Q (F0 m (pc + 3) ls (v :: rest))) : W p l e R s m args below meth c H locs cells slots Q (F0 m pc ls (.ref b :: rest)) := gF (k := 3) C hO q0 he rfl inFX9 (by decide) wd_227 rfl hv hdg kk
theorem wd_231 : (Cond.fieldLink "WebCourt$Web" (25 : Nat) "WebCourt$Web" "lineTo" "[I") ∈ gtb := gtb_c1 122 (by decide +kernel) rfl
theorem gf_RX9_25 {p : Program} {l : Launch} {e : Env} {R : Room} {s : State} {m : MethodId} {args : Array Value} {below : List Frame} {meth : Method} {c : Code} {H : Heap} {locs : List Loc} {cells slots : Nat} {Q : State → Prop} {cc : ByteArray} {pc nL : Nat} {ls : Array Slot} {rest : List Value} {D : va_G} {cy : Nat → ClassId} {A : Nat → Prop} {ws : va_W} {b : Nat} {fs : List Value} {v : Value} (C : Cx p s m args c cc nL RX9 D cy A) (hO : Wo D A ws s.heap H locs) (q0 : Nat) (he : ws[q0]? = some (b, .inr (9, fs))) (hv : fs[4]? = some v) (hdg : decode cc pc = .ok (.getfield 25, 3)) (kk : W p l e R s m args below meth c H locs cells slots Q (F0 m (pc + 3) ls (v :: rest))) : W p l e R s m args below meth c H locs cells slots Q (F0 m pc ls (.ref b :: rest)) := gF (k := 4) C hO q0 he rfl inFX9 (by decide) wd_231 rfl hv hdg kk
set_option maxHeartbeats 4000000 in
set_option maxRecDepth 100000 in
theorem T_X9_hasLine (l : Launch) (D : va_G) (cy : Nat → ClassId) (a : Nat → Nat) (u : St) (hJ : CI a u) (x1 : Int32) (x2 : Int32)  : Mi l D cy (cW cy a) yX9_hasLine (.code yX9_hasLine cX9_hasLine 4 (some .boolean)) (rmo 0 0) [.ref (a 15), .int x1, .int x2] u (fun (r : Int32) (u' : St) => (r = 0 ∨ r = 1) ∧ (u' = u)) := by
  refine Mi.of (own := RX9) rfl (by decide) (Nat.le_of_ble_eq_true rfl) ?_
  have hT : KT u u := KT.rf
  intro p e s m below meth c A Q ls C hret hO hl
  obtain ⟨hx, hb, hml, hown, ht, hK, hA⟩ := id C
  have hl : lv_has ls 4 [(0, .ref (a 15)), (1, .int x1), (2, .int x2)] := hl
  refine lv_iconst (v := 0) hx hb dX9_hasLine_0 (by decide) ?_
  refine lv_istore_n (lv' := [(3, .int 0), (0, .ref (a 15)), (1, .int x1), (2, .int x2)]) hx hb dX9_hasLine_1 rfl hl (by decide) rfl (fun ls hl => ?_)
  have LP_2_k1 : ∀ (n : Nat) (H : Heap) (locs : List Loc) (ls : Array Slot) (i_k1 : Int32), Wo D A (cW cy a u) s.heap H locs → lv_has ls 4 [(3, .int i_k1), (0, .ref (a 15)), (1, .int x1), (2, .int x2)] → 0 ≤ i_k1.toInt ∧ i_k1.toInt ≤ 14 → 14 - i_k1.toInt < (n : Int) → W p l e (rmo 0 0) s m [.ref (a 15), .int x1, .int x2].toArray below meth c H locs 0 0 Q (F0 m 2 ls []) := by
    intro n
    induction n with
    | zero =>
      intro H locs ls i_k1 hO hl iv0_k1 hm_k1
      exact absurd hm_k1 (by omega)
    | succ n ih_k1 =>
      intro H locs ls i_k1 hO hl iv0_k1 hm_k1
      refine lv_iload_n hx hb dX9_hasLine_2 rfl (lv_at hl 0 rfl) ?_
      refine lv_aload_n hx hb dX9_hasLine_3 rfl (lv_at hl 1 rfl) ?_
      have g2 : 0 ≤ (fI u 15 10).toInt ∧ (fI u 15 10).toInt ≤ 14 := by have h := CI_15_10 hJ; exact h
      refine gf_RX9_51 (v := .int (fI u 15 10)) C hO 15 cW_15 rfl dX9_hasLine_4 ?_
      refine cs_ge (tgt := 58) (X := (i_k1).toInt) (Y := ((fI u 15 10)).toInt) hx hb dX9_hasLine_7 (by decide) rfl rfl (fun c3 => ?_) (fun c3 => ?_)
      · refine lv_iconst (v := 0) hx hb dX9_hasLine_58 (by decide) ?_
        refine hret _ _ _ _ _ _ dX9_hasLine_59 rfl ?_ hO
        exact ⟨Or.inl rfl, rfl⟩
      · refine lv_aload_n hx hb dX9_hasLine_10 rfl (lv_at hl 1 rfl) ?_
        refine gf_RX9_21 (v := .ref (a 19)) C hO 15 cW_15 rfl dX9_hasLine_11 ?_
        refine lv_iload_n hx hb dX9_hasLine_14 rfl (lv_at hl 0 rfl) ?_
        refine aI C hO 19 cW_19 (i_in (X := (i_k1).toInt) rfl (by omega) (by omega)) dX9_hasLine_15 ?_
        refine lv_topi (fun w4 ew4 => ?_)
        refine lv_iload_n hx hb dX9_hasLine_16 rfl (lv_at hl 2 rfl) ?_
        refine cs_ne (tgt := 30) (X := (w4).toInt) (Y := (x1).toInt) hx hb dX9_hasLine_17 (by decide) rfl rfl (fun c5 => ?_) (fun c5 => ?_)
        · refine lv_aload_n hx hb dX9_hasLine_30 rfl (lv_at hl 1 rfl) ?_
          refine gf_RX9_21 (v := .ref (a 19)) C hO 15 cW_15 rfl dX9_hasLine_31 ?_
          refine lv_iload_n hx hb dX9_hasLine_34 rfl (lv_at hl 0 rfl) ?_
          refine aI C hO 19 cW_19 (i_in (X := (i_k1).toInt) rfl (by omega) (by omega)) dX9_hasLine_35 ?_
          refine lv_topi (fun w6 ew6 => ?_)
          refine lv_iload_n hx hb dX9_hasLine_36 rfl (lv_at hl 3 rfl) ?_
          refine cs_ne (tgt := 52) (X := (w6).toInt) (Y := (x2).toInt) hx hb dX9_hasLine_37 (by decide) rfl rfl (fun c7 => ?_) (fun c7 => ?_)
          · have e8 : ((i_k1 + 1)).toInt = (i_k1).toInt + 1 := i_add rfl rfl (by omega)
            refine lv_iinc (v := (i_k1 + 1)) (lv' := [(3, .int (i_k1 + 1)), (0, .ref (a 15)), (1, .int x1), (2, .int x2)]) hx hb dX9_hasLine_52 hl (k := 0) rfl rfl (by decide) rfl (fun ls hl => ?_)
            refine lv_goto (tgt := 2) hx hb dX9_hasLine_55 (by decide) ?_
            exact ih_k1 _ _ _ ((i_k1 + 1)) hO (lv_sub hl [0, 1, 2, 3] rfl) (by first | decide | omega) (by first | decide | omega)
          · refine lv_aload_n hx hb dX9_hasLine_40 rfl (lv_at hl 1 rfl) ?_
            refine gf_RX9_25 (v := .ref (a 20)) C hO 15 cW_15 rfl dX9_hasLine_41 ?_
            refine lv_iload_n hx hb dX9_hasLine_44 rfl (lv_at hl 0 rfl) ?_
            refine aI C hO 20 cW_20 (i_in (X := (i_k1).toInt) rfl (by omega) (by omega)) dX9_hasLine_45 ?_
            refine lv_topi (fun w9 ew9 => ?_)
            refine lv_iload_n hx hb dX9_hasLine_46 rfl (lv_at hl 2 rfl) ?_
            refine cs_ne (tgt := 52) (X := (w9).toInt) (Y := (x1).toInt) hx hb dX9_hasLine_47 (by decide) rfl rfl (fun c10 => ?_) (fun c10 => ?_)
            · have e11 : ((i_k1 + 1)).toInt = (i_k1).toInt + 1 := i_add rfl rfl (by omega)
              refine lv_iinc (v := (i_k1 + 1)) (lv' := [(3, .int (i_k1 + 1)), (0, .ref (a 15)), (1, .int x1), (2, .int x2)]) hx hb dX9_hasLine_52 hl (k := 0) rfl rfl (by decide) rfl (fun ls hl => ?_)
              refine lv_goto (tgt := 2) hx hb dX9_hasLine_55 (by decide) ?_
              exact ih_k1 _ _ _ ((i_k1 + 1)) hO (lv_sub hl [0, 1, 2, 3] rfl) (by first | decide | omega) (by first | decide | omega)
            · refine lv_iconst (v := 1) hx hb dX9_hasLine_50 (by decide) ?_
              refine hret _ _ _ _ _ _ dX9_hasLine_51 rfl ?_ hO
              exact ⟨Or.inr rfl, rfl⟩
        · refine lv_aload_n hx hb dX9_hasLine_20 rfl (lv_at hl 1 rfl) ?_
          refine gf_RX9_25 (v := .ref (a 20)) C hO 15 cW_15 rfl dX9_hasLine_21 ?_
          refine lv_iload_n hx hb dX9_hasLine_24 rfl (lv_at hl 0 rfl) ?_
          refine aI C hO 20 cW_20 (i_in (X := (i_k1).toInt) rfl (by omega) (by omega)) dX9_hasLine_25 ?_
          refine lv_topi (fun w12 ew12 => ?_)
          refine lv_iload_n hx hb dX9_hasLine_26 rfl (lv_at hl 3 rfl) ?_
          refine cs_eq (tgt := 50) (X := (w12).toInt) (Y := (x2).toInt) hx hb dX9_hasLine_27 (by decide) rfl rfl (fun c13 => ?_) (fun c13 => ?_)
          · refine lv_iconst (v := 1) hx hb dX9_hasLine_50 (by decide) ?_
            refine hret _ _ _ _ _ _ dX9_hasLine_51 rfl ?_ hO
            exact ⟨Or.inr rfl, rfl⟩
          · refine lv_aload_n hx hb dX9_hasLine_30 rfl (lv_at hl 1 rfl) ?_
            refine gf_RX9_21 (v := .ref (a 19)) C hO 15 cW_15 rfl dX9_hasLine_31 ?_
            refine lv_iload_n hx hb dX9_hasLine_34 rfl (lv_at hl 0 rfl) ?_
            refine aI C hO 19 cW_19 (i_in (X := (i_k1).toInt) rfl (by omega) (by omega)) dX9_hasLine_35 ?_
            refine lv_topi (fun w14 ew14 => ?_)
            refine lv_iload_n hx hb dX9_hasLine_36 rfl (lv_at hl 3 rfl) ?_
            refine cs_ne (tgt := 52) (X := (w14).toInt) (Y := (x2).toInt) hx hb dX9_hasLine_37 (by decide) rfl rfl (fun c15 => ?_) (fun c15 => ?_)
            · have e16 : ((i_k1 + 1)).toInt = (i_k1).toInt + 1 := i_add rfl rfl (by omega)
              refine lv_iinc (v := (i_k1 + 1)) (lv' := [(3, .int (i_k1 + 1)), (0, .ref (a 15)), (1, .int x1), (2, .int x2)]) hx hb dX9_hasLine_52 hl (k := 0) rfl rfl (by decide) rfl (fun ls hl => ?_)
              refine lv_goto (tgt := 2) hx hb dX9_hasLine_55 (by decide) ?_
              exact ih_k1 _ _ _ ((i_k1 + 1)) hO (lv_sub hl [0, 1, 2, 3] rfl) (by first | decide | omega) (by first | decide | omega)
            · refine lv_aload_n hx hb dX9_hasLine_40 rfl (lv_at hl 1 rfl) ?_
              refine gf_RX9_25 (v := .ref (a 20)) C hO 15 cW_15 rfl dX9_hasLine_41 ?_
              refine lv_iload_n hx hb dX9_hasLine_44 rfl (lv_at hl 0 rfl) ?_
              refine aI C hO 20 cW_20 (i_in (X := (i_k1).toInt) rfl (by omega) (by omega)) dX9_hasLine_45 ?_
              refine lv_topi (fun w17 ew17 => ?_)
              refine lv_iload_n hx hb dX9_hasLine_46 rfl (lv_at hl 2 rfl) ?_
              refine cs_ne (tgt := 52) (X := (w17).toInt) (Y := (x1).toInt) hx hb dX9_hasLine_47 (by decide) rfl rfl (fun c18 => ?_) (fun c18 => ?_)
              · have e19 : ((i_k1 + 1)).toInt = (i_k1).toInt + 1 := i_add rfl rfl (by omega)
                refine lv_iinc (v := (i_k1 + 1)) (lv' := [(3, .int (i_k1 + 1)), (0, .ref (a 15)), (1, .int x1), (2, .int x2)]) hx hb dX9_hasLine_52 hl (k := 0) rfl rfl (by decide) rfl (fun ls hl => ?_)
                refine lv_goto (tgt := 2) hx hb dX9_hasLine_55 (by decide) ?_
                exact ih_k1 _ _ _ ((i_k1 + 1)) hO (lv_sub hl [0, 1, 2, 3] rfl) (by first | decide | omega) (by first | decide | omega)
              · refine lv_iconst (v := 1) hx hb dX9_hasLine_50 (by decide) ?_
                refine hret _ _ _ _ _ _ dX9_hasLine_51 rfl ?_ hO
                exact ⟨Or.inr rfl, rfl⟩
  exact LP_2_k1 4000 _ _ _ (0) hO (lv_sub hl [0, 1, 2, 3] rfl) (by first | decide | omega) (by first | decide | omega)
theorem dX4_push_0 : decode cX4_push 0 = .ok (.aload_n 0, 1) := by decide +kernel
theorem dX4_push_1 : decode cX4_push 1 = .ok (.getfield 43, 3) := by decide +kernel
theorem dX4_push_4 : decode cX4_push 4 = .ok (.aload_n 0, 1) := by decide +kernel
theorem dX4_push_5 : decode cX4_push 5 = .ok (.getfield 15, 3) := by decide +kernel
theorem dX4_push_8 : decode cX4_push 8 = .ok (.arraylength, 1) := by decide +kernel
theorem dX4_push_9 : decode cX4_push 9 = .ok (.if_icmp .ge 23, 3) := by decide +kernel
theorem dX4_push_12 : decode cX4_push 12 = .ok (.aload_n 0, 1) := by decide +kernel
theorem dX4_push_13 : decode cX4_push 13 = .ok (.getfield 15, 3) := by decide +kernel
theorem dX4_push_16 : decode cX4_push 16 = .ok (.aload_n 0, 1) := by decide +kernel
theorem dX4_push_17 : decode cX4_push 17 = .ok (.getfield 43, 3) := by decide +kernel
theorem dX4_push_20 : decode cX4_push 20 = .ok (.iload_n 1, 1) := by decide +kernel
theorem dX4_push_21 : decode cX4_push 21 = .ok (.iastore, 1) := by decide +kernel
theorem dX4_push_22 : decode cX4_push 22 = .ok (.aload_n 0, 1) := by decide +kernel
theorem dX4_push_23 : decode cX4_push 23 = .ok (.dup, 1) := by decide +kernel
theorem dX4_push_24 : decode cX4_push 24 = .ok (.getfield 43, 3) := by decide +kernel
theorem dX4_push_27 : decode cX4_push 27 = .ok (.iconst 1, 1) := by decide +kernel
theorem dX4_push_28 : decode cX4_push 28 = .ok (.iadd, 1) := by decide +kernel
theorem dX4_push_29 : decode cX4_push 29 = .ok (.putfield 43, 3) := by decide +kernel
theorem dX4_push_32 : decode cX4_push 32 = .ok (.return_, 1) := by decide +kernel
theorem wd_882 : (Cond.code ⟨"WebCourt$Law", "push", "(I)V"⟩ prog_6_method_6_code (2 : Nat) (Option.none : Option FieldType)) ∈ gtb := gtb_c4 53 (by decide +kernel) rfl
theorem wd_186 : (Cond.fieldLink "WebCourt$Law" (43 : Nat) "WebCourt$Law" "top" "I") ∈ gtb := gtb_c1 77 (by decide +kernel) rfl
theorem wd_196 : (Cond.laysFinal "WebCourt$Law" "WebCourt$Law" "codes" "[I") ∈ gtb := gtb_c1 87 (by decide +kernel) rfl
theorem wd_198 : (Cond.laysFinal "WebCourt$Law" "WebCourt$Law" "stack" "[I") ∈ gtb := gtb_c1 89 (by decide +kernel) rfl
theorem wd_200 : (Cond.lays "WebCourt$Law" "WebCourt$Law" "length" "I") ∈ gtb := gtb_c1 91 (by decide +kernel) rfl
theorem wd_202 : (Cond.lays "WebCourt$Law" "WebCourt$Law" "top" "I") ∈ gtb := gtb_c1 93 (by decide +kernel) rfl
theorem wd_204 : (Cond.lays "WebCourt$Law" "WebCourt$Law" "units" "I") ∈ gtb := gtb_c1 95 (by decide +kernel) rfl
theorem wd_206 : (Cond.lays "WebCourt$Law" "WebCourt$Law" "pleads" "I") ∈ gtb := gtb_c1 97 (by decide +kernel) rfl
theorem wd_208 : (Cond.lays "WebCourt$Law" "WebCourt$Law" "many" "I") ∈ gtb := gtb_c1 99 (by decide +kernel) rfl
theorem wd_210 : (Cond.lays "WebCourt$Law" "WebCourt$Law" "before" "I") ∈ gtb := gtb_c1 101 (by decide +kernel) rfl
theorem wd_212 : (Cond.lays "WebCourt$Law" "WebCourt$Law" "stays" "I") ∈ gtb := gtb_c1 103 (by decide +kernel) rfl
theorem wd_214 : (Cond.lays "WebCourt$Law" "WebCourt$Law" "kin" "I") ∈ gtb := gtb_c1 105 (by decide +kernel) rfl
theorem wd_216 : (Cond.lays "WebCourt$Law" "WebCourt$Law" "hour" "I") ∈ gtb := gtb_c1 107 (by decide +kernel) rfl
theorem inFX4 : ∀ w ∈ u_ws RX4 TX4 11, w ∈ gtb := by
  show ∀ w ∈ [u_lay RX4 TX4 0, u_lay RX4 TX4 1, u_lay RX4 TX4 2, u_lay RX4 TX4 3, u_lay RX4 TX4 4, u_lay RX4 TX4 5, u_lay RX4 TX4 6, u_lay RX4 TX4 7, u_lay RX4 TX4 8, u_lay RX4 TX4 9, u_lay RX4 TX4 10], w ∈ gtb
  exact List.forall_mem_cons.mpr ⟨wd_196, List.forall_mem_cons.mpr ⟨wd_198, List.forall_mem_cons.mpr ⟨wd_200, List.forall_mem_cons.mpr ⟨wd_202, List.forall_mem_cons.mpr ⟨wd_204, List.forall_mem_cons.mpr ⟨wd_206, List.forall_mem_cons.mpr ⟨wd_208, List.forall_mem_cons.mpr ⟨wd_210, List.forall_mem_cons.mpr ⟨wd_212, List.forall_mem_cons.mpr ⟨wd_214, List.forall_mem_cons.mpr ⟨wd_216, fun _ h => absurd h List.not_mem_nil⟩⟩⟩⟩⟩⟩⟩⟩⟩⟩⟩
theorem gf_RX4_43 {p : Program} {l : Launch} {e : Env} {R : Room} {s : State} {m : MethodId} {args : Array Value} {below : List Frame} {meth : Method} {c : Code} {H : Heap} {locs : List Loc} {cells slots : Nat} {Q : State → Prop} {cc : ByteArray} {pc nL : Nat} {ls : Array Slot} {rest : List Value} {D : va_G} {cy : Nat → ClassId} {A : Nat → Prop} {ws : va_W} {b : Nat} {fs : List Value} {v : Value} (C : Cx p s m args c cc nL RX4 D cy A) (hO : Wo D A ws s.heap H locs) (q0 : Nat) (he : ws[q0]? = some (b, .inr (4, fs))) (hv : fs[3]? = some v) (hdg : decode cc pc = .ok (.getfield 43, 3)) (kk : W p l e R s m args below meth c H locs cells slots Q (F0 m (pc + 3) ls (v :: rest))) : W p l e R s m args below meth c H locs cells slots Q (F0 m pc ls (.ref b :: rest)) := gF (k := 3) C hO q0 he rfl inFX4 (by decide) wd_186 rfl hv hdg kk
theorem wd_184 : (Cond.fieldLink "WebCourt$Law" (15 : Nat) "WebCourt$Law" "stack" "[I") ∈ gtb := gtb_c1 75 (by decide +kernel) rfl
theorem gf_RX4_15 {p : Program} {l : Launch} {e : Env} {R : Room} {s : State} {m : MethodId} {args : Array Value} {below : List Frame} {meth : Method} {c : Code} {H : Heap} {locs : List Loc} {cells slots : Nat} {Q : State → Prop} {cc : ByteArray} {pc nL : Nat} {ls : Array Slot} {rest : List Value} {D : va_G} {cy : Nat → ClassId} {A : Nat → Prop} {ws : va_W} {b : Nat} {fs : List Value} {v : Value} (C : Cx p s m args c cc nL RX4 D cy A) (hO : Wo D A ws s.heap H locs) (q0 : Nat) (he : ws[q0]? = some (b, .inr (4, fs))) (hv : fs[1]? = some v) (hdg : decode cc pc = .ok (.getfield 15, 3)) (kk : W p l e R s m args below meth c H locs cells slots Q (F0 m (pc + 3) ls (v :: rest))) : W p l e R s m args below meth c H locs cells slots Q (F0 m pc ls (.ref b :: rest)) := gF (k := 1) C hO q0 he rfl inFX4 (by decide) wd_184 rfl hv hdg kk
theorem pf_RX4_43 {p : Program} {l : Launch} {e : Env} {R : Room} {s : State} {m : MethodId} {args : Array Value} {below : List Frame} {meth : Method} {c : Code} {H : Heap} {locs : List Loc} {cells slots : Nat} {Q : State → Prop} {cc : ByteArray} {pc nL : Nat} {ls : Array Slot} {rest : List Value} {D : va_G} {cy : Nat → ClassId} {A : Nat → Prop} {ws : va_W} {b : Nat} {fs : List Value} {v : Int32} {ws' : va_W} (C : Cx p s m args c cc nL RX4 D cy A) (hO : Wo D A ws s.heap H locs) (q0 : Nat) (he : ws[q0]? = some (b, .inr (4, fs))) (hlen : 3 < fs.length) (hw : ws.set q0 (b, .inr (4, fs.set 3 (.int v))) = ws') (hdg : decode cc pc = .ok (.putfield 43, 3)) (kk : ∀ (H : Heap) (locs : List Loc), Wo D A ws' s.heap H locs → W p l e R s m args below meth c H locs cells slots Q (F0 m (pc + 3) ls rest)) : W p l e R s m args below meth c H locs cells slots Q (F0 m pc ls (.int v :: .ref b :: rest)) := pF (k := 3) (ty := .int) C hO q0 he rfl inFX4 (by decide) wd_186 rfl tyX4 tyX4_ok nmX4 rfl (by decide +kernel) rfl rfl hlen hw hdg kk
set_option maxHeartbeats 4000000 in
set_option maxRecDepth 100000 in
theorem T_X4_push (l : Launch) (D : va_G) (cy : Nat → ClassId) (a : Nat → Nat) (u : St) (hJ : CI a u) (x1 : Int32)  : Mv l D cy (cW cy a) yX4_push (.code yX4_push cX4_push 2 none) (rmo 0 0) [.ref (a 12), .int x1] u (fun (u' : St) => (CI a u') ∧ (KT u u')) := by
  refine Mv.of (own := RX4) rfl (by decide) (Nat.le_of_ble_eq_true rfl) ?_
  have hT : KT u u := KT.rf
  intro p e s m below meth c A Q ls C hret hO hl
  obtain ⟨hx, hb, hml, hown, ht, hK, hA⟩ := id C
  have hl : lv_has ls 2 [(0, .ref (a 12)), (1, .int x1)] := hl
  refine lv_aload_n hx hb dX4_push_0 rfl (lv_at hl 0 rfl) ?_
  have g1 : 0 ≤ (fI u 12 3).toInt ∧ (fI u 12 3).toInt ≤ 31 := by have h := CI_12_3 hJ; exact h
  refine gf_RX4_43 (v := .int (fI u 12 3)) C hO 12 cW_12 rfl dX4_push_1 ?_
  refine lv_aload_n hx hb dX4_push_4 rfl (lv_at hl 0 rfl) ?_
  refine gf_RX4_15 (v := .ref (a 14)) C hO 12 cW_12 rfl dX4_push_5 ?_
  refine aLen (v := 31) C hO 14 1 cW_14 rfl rfl dX4_push_8 ?_
  refine cs_ge (tgt := 32) (X := ((fI u 12 3)).toInt) (Y := 31) hx hb dX4_push_9 (by decide) rfl rfl (fun c2 => ?_) (fun c2 => ?_)
  · refine hret _ _ _ _ _ dX4_push_32 ?_ hO
    exact ⟨hJ, hT⟩
  · refine lv_aload_n hx hb dX4_push_12 rfl (lv_at hl 0 rfl) ?_
    refine gf_RX4_15 (v := .ref (a 14)) C hO 12 cW_12 rfl dX4_push_13 ?_
    refine lv_aload_n hx hb dX4_push_16 rfl (lv_at hl 0 rfl) ?_
    refine gf_RX4_43 (v := .int (fI u 12 3)) C hO 12 cW_12 rfl dX4_push_17 ?_
    refine lv_iload_n hx hb dX4_push_20 rfl (lv_at hl 1 rfl) ?_
    refine aIs C hO 14 cW_14 (i_in (X := ((fI u 12 3)).toInt) rfl (by omega) (by omega)) cW_s14 dX4_push_21 (fun H locs hO => ?_)
    have hJ := CIsA hO hJ
    refine lv_aload_n hx hb dX4_push_22 rfl (lv_at hl 0 rfl) ?_
    refine lv_dup hx hb dX4_push_23 rfl ?_
    refine gf_RX4_43 (v := .int (fI u 12 3)) C hO 12 cW_12 rfl dX4_push_24 ?_
    refine lv_iconst (v := 1) hx hb dX4_push_27 (by decide) ?_
    have e3 : (((fI u 12 3) + 1)).toInt = ((fI u 12 3)).toInt + 1 := i_add rfl rfl (by omega)
    refine lv_iadd hx hb dX4_push_28 ?_
    refine pf_RX4_43 C hO 12 cW_12 (Nat.le_of_ble_eq_true rfl) cW_s12_3 dX4_push_29 (fun H locs hO => ?_)
    have hJ := CIs_12_3 (v := ((fI u 12 3) + 1)) hJ (by first | decide | omega)
    refine hret _ _ _ _ _ dX4_push_32 ?_ hO
    exact ⟨hJ, hT⟩
theorem dX4_pop_0 : decode cX4_pop 0 = .ok (.aload_n 0, 1) := by decide +kernel
theorem dX4_pop_1 : decode cX4_pop 1 = .ok (.getfield 43, 3) := by decide +kernel
theorem dX4_pop_4 : decode cX4_pop 4 = .ok (.ifCond .gt 5, 3) := by decide +kernel
theorem dX4_pop_7 : decode cX4_pop 7 = .ok (.iconst 0, 1) := by decide +kernel
theorem dX4_pop_8 : decode cX4_pop 8 = .ok (.ireturn, 1) := by decide +kernel
theorem dX4_pop_9 : decode cX4_pop 9 = .ok (.aload_n 0, 1) := by decide +kernel
theorem dX4_pop_10 : decode cX4_pop 10 = .ok (.dup, 1) := by decide +kernel
theorem dX4_pop_11 : decode cX4_pop 11 = .ok (.getfield 43, 3) := by decide +kernel
theorem dX4_pop_14 : decode cX4_pop 14 = .ok (.iconst 1, 1) := by decide +kernel
theorem dX4_pop_15 : decode cX4_pop 15 = .ok (.isub, 1) := by decide +kernel
theorem dX4_pop_16 : decode cX4_pop 16 = .ok (.putfield 43, 3) := by decide +kernel
theorem dX4_pop_19 : decode cX4_pop 19 = .ok (.aload_n 0, 1) := by decide +kernel
theorem dX4_pop_20 : decode cX4_pop 20 = .ok (.getfield 15, 3) := by decide +kernel
theorem dX4_pop_23 : decode cX4_pop 23 = .ok (.aload_n 0, 1) := by decide +kernel
theorem dX4_pop_24 : decode cX4_pop 24 = .ok (.getfield 43, 3) := by decide +kernel
theorem dX4_pop_27 : decode cX4_pop 27 = .ok (.iaload, 1) := by decide +kernel
theorem dX4_pop_28 : decode cX4_pop 28 = .ok (.ireturn, 1) := by decide +kernel
theorem wd_891 : (Cond.code ⟨"WebCourt$Law", "pop", "()I"⟩ prog_6_method_7_code (1 : Nat) (Option.some FieldType.int)) ∈ gtb := gtb_c4 62 (by decide +kernel) rfl
set_option maxHeartbeats 4000000 in
set_option maxRecDepth 100000 in
theorem T_X4_pop (l : Launch) (D : va_G) (cy : Nat → ClassId) (a : Nat → Nat) (u : St) (hJ : CI a u)   : Mi l D cy (cW cy a) yX4_pop (.code yX4_pop cX4_pop 1 (some .int)) (rmo 0 0) [.ref (a 12)] u (fun (r : Int32) (u' : St) => (CI a u') ∧ (KT u u')) := by
  refine Mi.of (own := RX4) rfl (by decide) (Nat.le_of_ble_eq_true rfl) ?_
  have hT : KT u u := KT.rf
  intro p e s m below meth c A Q ls C hret hO hl
  obtain ⟨hx, hb, hml, hown, ht, hK, hA⟩ := id C
  have hl : lv_has ls 1 [(0, .ref (a 12))] := hl
  refine lv_aload_n hx hb dX4_pop_0 rfl (lv_at hl 0 rfl) ?_
  have g1 : 0 ≤ (fI u 12 3).toInt ∧ (fI u 12 3).toInt ≤ 31 := by have h := CI_12_3 hJ; exact h
  refine gf_RX4_43 (v := .int (fI u 12 3)) C hO 12 cW_12 rfl dX4_pop_1 ?_
  refine bs_gt (tgt := 9) (X := ((fI u 12 3)).toInt) hx hb dX4_pop_4 (by decide) rfl (fun c2 => ?_) (fun c2 => ?_)
  · refine lv_aload_n hx hb dX4_pop_9 rfl (lv_at hl 0 rfl) ?_
    refine lv_dup hx hb dX4_pop_10 rfl ?_
    refine gf_RX4_43 (v := .int (fI u 12 3)) C hO 12 cW_12 rfl dX4_pop_11 ?_
    refine lv_iconst (v := 1) hx hb dX4_pop_14 (by decide) ?_
    have e3 : (((fI u 12 3) - 1)).toInt = ((fI u 12 3)).toInt - 1 := i_sub rfl rfl (by omega)
    refine lv_isub hx hb dX4_pop_15 ?_
    refine pf_RX4_43 C hO 12 cW_12 (Nat.le_of_ble_eq_true rfl) cW_s12_3 dX4_pop_16 (fun H locs hO => ?_)
    have hJ := CIs_12_3 (v := ((fI u 12 3) - 1)) hJ (by first | decide | omega)
    refine lv_aload_n hx hb dX4_pop_19 rfl (lv_at hl 0 rfl) ?_
    refine gf_RX4_15 (v := .ref (a 14)) C hO 12 cW_12 rfl dX4_pop_20 ?_
    refine lv_aload_n hx hb dX4_pop_23 rfl (lv_at hl 0 rfl) ?_
    refine gf_RX4_43 (v := .int ((fI u 12 3) - 1)) C hO 12 cW_12 rfl dX4_pop_24 ?_
    refine aI C hO 14 cW_14 (i_in (X := (((fI u 12 3)).toInt - 1)) e3 (by omega) (by omega)) dX4_pop_27 ?_
    refine lv_topi (fun w4 ew4 => ?_)
    refine hret _ _ _ _ _ _ dX4_pop_28 rfl ?_ hO
    exact ⟨hJ, hT⟩
  · refine lv_iconst (v := 0) hx hb dX4_pop_7 (by decide) ?_
    refine hret _ _ _ _ _ _ dX4_pop_8 rfl ?_ hO
    exact ⟨hJ, hT⟩
theorem dX4_isGiven_0 : decode cX4_isGiven 0 = .ok (.iload_n 0, 1) := by decide +kernel
theorem dX4_isGiven_1 : decode cX4_isGiven 1 = .ok (.bipush 8, 2) := by decide +kernel
theorem dX4_isGiven_3 : decode cX4_isGiven 3 = .ok (.if_icmp .eq 15, 3) := by decide +kernel
theorem dX4_isGiven_6 : decode cX4_isGiven 6 = .ok (.iload_n 0, 1) := by decide +kernel
theorem dX4_isGiven_7 : decode cX4_isGiven 7 = .ok (.bipush 16, 2) := by decide +kernel
theorem dX4_isGiven_9 : decode cX4_isGiven 9 = .ok (.if_icmp .lt 13, 3) := by decide +kernel
theorem dX4_isGiven_12 : decode cX4_isGiven 12 = .ok (.iload_n 0, 1) := by decide +kernel
theorem dX4_isGiven_13 : decode cX4_isGiven 13 = .ok (.bipush 20, 2) := by decide +kernel
theorem dX4_isGiven_15 : decode cX4_isGiven 15 = .ok (.if_icmp .gt 7, 3) := by decide +kernel
theorem dX4_isGiven_18 : decode cX4_isGiven 18 = .ok (.iconst 1, 1) := by decide +kernel
theorem dX4_isGiven_19 : decode cX4_isGiven 19 = .ok (.goto 4, 3) := by decide +kernel
theorem dX4_isGiven_22 : decode cX4_isGiven 22 = .ok (.iconst 0, 1) := by decide +kernel
theorem dX4_isGiven_23 : decode cX4_isGiven 23 = .ok (.ireturn, 1) := by decide +kernel
theorem wd_781 : (Cond.code ⟨"WebCourt$Law", "isGiven", "(I)Z"⟩ prog_6_method_8_code (1 : Nat) (Option.some FieldType.boolean)) ∈ gtb := gtb_c3 192 (by decide +kernel) rfl
set_option maxHeartbeats 4000000 in
set_option maxRecDepth 100000 in
theorem T_X4_isGiven (l : Launch) (D : va_G) (cy : Nat → ClassId) (a : Nat → Nat) (u : St) (hJ : CI a u) (x1 : Int32)  : Mi l D cy (cW cy a) yX4_isGiven (.code yX4_isGiven cX4_isGiven 1 (some .boolean)) (rmo 0 0) [.int x1] u (fun (r : Int32) (u' : St) => (r = 0 ∨ r = 1) ∧ (u' = u)) := by
  refine Mi.of (own := RX4) rfl (by decide) (Nat.le_of_ble_eq_true rfl) ?_
  have hT : KT u u := KT.rf
  intro p e s m below meth c A Q ls C hret hO hl
  obtain ⟨hx, hb, hml, hown, ht, hK, hA⟩ := id C
  have hl : lv_has ls 1 [(0, .int x1)] := hl
  refine lv_iload_n hx hb dX4_isGiven_0 rfl (lv_at hl 0 rfl) ?_
  refine lv_bipush (v := 8) hx hb dX4_isGiven_1 (by decide) ?_
  refine cs_eq (tgt := 18) (X := (x1).toInt) (Y := 8) hx hb dX4_isGiven_3 (by decide) rfl rfl (fun c1 => ?_) (fun c1 => ?_)
  · refine lv_iconst (v := 1) hx hb dX4_isGiven_18 (by decide) ?_
    refine lv_goto (tgt := 23) hx hb dX4_isGiven_19 (by decide) ?_
    refine hret _ _ _ _ _ _ dX4_isGiven_23 rfl ?_ hO
    exact ⟨Or.inr rfl, rfl⟩
  · refine lv_iload_n hx hb dX4_isGiven_6 rfl (lv_at hl 0 rfl) ?_
    refine lv_bipush (v := 16) hx hb dX4_isGiven_7 (by decide) ?_
    refine cs_lt (tgt := 22) (X := (x1).toInt) (Y := 16) hx hb dX4_isGiven_9 (by decide) rfl rfl (fun c2 => ?_) (fun c2 => ?_)
    · refine lv_iconst (v := 0) hx hb dX4_isGiven_22 (by decide) ?_
      refine hret _ _ _ _ _ _ dX4_isGiven_23 rfl ?_ hO
      exact ⟨Or.inl rfl, rfl⟩
    · refine lv_iload_n hx hb dX4_isGiven_12 rfl (lv_at hl 0 rfl) ?_
      refine lv_bipush (v := 20) hx hb dX4_isGiven_13 (by decide) ?_
      refine cs_gt (tgt := 22) (X := (x1).toInt) (Y := 20) hx hb dX4_isGiven_15 (by decide) rfl rfl (fun c3 => ?_) (fun c3 => ?_)
      · refine lv_iconst (v := 0) hx hb dX4_isGiven_22 (by decide) ?_
        refine hret _ _ _ _ _ _ dX4_isGiven_23 rfl ?_ hO
        exact ⟨Or.inl rfl, rfl⟩
      · refine lv_iconst (v := 1) hx hb dX4_isGiven_18 (by decide) ?_
        refine lv_goto (tgt := 23) hx hb dX4_isGiven_19 (by decide) ?_
        refine hret _ _ _ _ _ _ dX4_isGiven_23 rfl ?_ hO
        exact ⟨Or.inr rfl, rfl⟩
theorem dX4_given_0 : decode cX4_given 0 = .ok (.iload_n 1, 1) := by decide +kernel
theorem dX4_given_1 : decode cX4_given 1 = .ok (.tableswitch 88 8 19 #[63, 88, 88, 88, 88, 88, 88, 88, 68, 73, 78, 83], 63) := by decide +kernel
theorem dX4_given_64 : decode cX4_given 64 = .ok (.aload_n 0, 1) := by decide +kernel
theorem dX4_given_65 : decode cX4_given 65 = .ok (.getfield 25, 3) := by decide +kernel
theorem dX4_given_68 : decode cX4_given 68 = .ok (.ireturn, 1) := by decide +kernel
theorem dX4_given_69 : decode cX4_given 69 = .ok (.aload_n 0, 1) := by decide +kernel
theorem dX4_given_70 : decode cX4_given 70 = .ok (.getfield 28, 3) := by decide +kernel
theorem dX4_given_73 : decode cX4_given 73 = .ok (.ireturn, 1) := by decide +kernel
theorem dX4_given_74 : decode cX4_given 74 = .ok (.aload_n 0, 1) := by decide +kernel
theorem dX4_given_75 : decode cX4_given 75 = .ok (.getfield 31, 3) := by decide +kernel
theorem dX4_given_78 : decode cX4_given 78 = .ok (.ireturn, 1) := by decide +kernel
theorem dX4_given_79 : decode cX4_given 79 = .ok (.aload_n 0, 1) := by decide +kernel
theorem dX4_given_80 : decode cX4_given 80 = .ok (.getfield 34, 3) := by decide +kernel
theorem dX4_given_83 : decode cX4_given 83 = .ok (.ireturn, 1) := by decide +kernel
theorem dX4_given_84 : decode cX4_given 84 = .ok (.aload_n 0, 1) := by decide +kernel
theorem dX4_given_85 : decode cX4_given 85 = .ok (.getfield 37, 3) := by decide +kernel
theorem dX4_given_88 : decode cX4_given 88 = .ok (.ireturn, 1) := by decide +kernel
theorem dX4_given_89 : decode cX4_given 89 = .ok (.aload_n 0, 1) := by decide +kernel
theorem dX4_given_90 : decode cX4_given 90 = .ok (.getfield 40, 3) := by decide +kernel
theorem dX4_given_93 : decode cX4_given 93 = .ok (.ireturn, 1) := by decide +kernel
theorem wd_887 : (Cond.code ⟨"WebCourt$Law", "given", "(I)I"⟩ prog_6_method_9_code (2 : Nat) (Option.some FieldType.int)) ∈ gtb := gtb_c4 58 (by decide +kernel) rfl
theorem wd_195 : (Cond.fieldLink "WebCourt$Law" (40 : Nat) "WebCourt$Law" "hour" "I") ∈ gtb := gtb_c1 86 (by decide +kernel) rfl
theorem gf_RX4_40 {p : Program} {l : Launch} {e : Env} {R : Room} {s : State} {m : MethodId} {args : Array Value} {below : List Frame} {meth : Method} {c : Code} {H : Heap} {locs : List Loc} {cells slots : Nat} {Q : State → Prop} {cc : ByteArray} {pc nL : Nat} {ls : Array Slot} {rest : List Value} {D : va_G} {cy : Nat → ClassId} {A : Nat → Prop} {ws : va_W} {b : Nat} {fs : List Value} {v : Value} (C : Cx p s m args c cc nL RX4 D cy A) (hO : Wo D A ws s.heap H locs) (q0 : Nat) (he : ws[q0]? = some (b, .inr (4, fs))) (hv : fs[10]? = some v) (hdg : decode cc pc = .ok (.getfield 40, 3)) (kk : W p l e R s m args below meth c H locs cells slots Q (F0 m (pc + 3) ls (v :: rest))) : W p l e R s m args below meth c H locs cells slots Q (F0 m pc ls (.ref b :: rest)) := gF (k := 10) C hO q0 he rfl inFX4 (by decide) wd_195 rfl hv hdg kk
theorem wd_190 : (Cond.fieldLink "WebCourt$Law" (25 : Nat) "WebCourt$Law" "pleads" "I") ∈ gtb := gtb_c1 81 (by decide +kernel) rfl
theorem gf_RX4_25 {p : Program} {l : Launch} {e : Env} {R : Room} {s : State} {m : MethodId} {args : Array Value} {below : List Frame} {meth : Method} {c : Code} {H : Heap} {locs : List Loc} {cells slots : Nat} {Q : State → Prop} {cc : ByteArray} {pc nL : Nat} {ls : Array Slot} {rest : List Value} {D : va_G} {cy : Nat → ClassId} {A : Nat → Prop} {ws : va_W} {b : Nat} {fs : List Value} {v : Value} (C : Cx p s m args c cc nL RX4 D cy A) (hO : Wo D A ws s.heap H locs) (q0 : Nat) (he : ws[q0]? = some (b, .inr (4, fs))) (hv : fs[5]? = some v) (hdg : decode cc pc = .ok (.getfield 25, 3)) (kk : W p l e R s m args below meth c H locs cells slots Q (F0 m (pc + 3) ls (v :: rest))) : W p l e R s m args below meth c H locs cells slots Q (F0 m pc ls (.ref b :: rest)) := gF (k := 5) C hO q0 he rfl inFX4 (by decide) wd_190 rfl hv hdg kk
theorem wd_191 : (Cond.fieldLink "WebCourt$Law" (28 : Nat) "WebCourt$Law" "many" "I") ∈ gtb := gtb_c1 82 (by decide +kernel) rfl
theorem gf_RX4_28 {p : Program} {l : Launch} {e : Env} {R : Room} {s : State} {m : MethodId} {args : Array Value} {below : List Frame} {meth : Method} {c : Code} {H : Heap} {locs : List Loc} {cells slots : Nat} {Q : State → Prop} {cc : ByteArray} {pc nL : Nat} {ls : Array Slot} {rest : List Value} {D : va_G} {cy : Nat → ClassId} {A : Nat → Prop} {ws : va_W} {b : Nat} {fs : List Value} {v : Value} (C : Cx p s m args c cc nL RX4 D cy A) (hO : Wo D A ws s.heap H locs) (q0 : Nat) (he : ws[q0]? = some (b, .inr (4, fs))) (hv : fs[6]? = some v) (hdg : decode cc pc = .ok (.getfield 28, 3)) (kk : W p l e R s m args below meth c H locs cells slots Q (F0 m (pc + 3) ls (v :: rest))) : W p l e R s m args below meth c H locs cells slots Q (F0 m pc ls (.ref b :: rest)) := gF (k := 6) C hO q0 he rfl inFX4 (by decide) wd_191 rfl hv hdg kk
theorem wd_192 : (Cond.fieldLink "WebCourt$Law" (31 : Nat) "WebCourt$Law" "before" "I") ∈ gtb := gtb_c1 83 (by decide +kernel) rfl
theorem gf_RX4_31 {p : Program} {l : Launch} {e : Env} {R : Room} {s : State} {m : MethodId} {args : Array Value} {below : List Frame} {meth : Method} {c : Code} {H : Heap} {locs : List Loc} {cells slots : Nat} {Q : State → Prop} {cc : ByteArray} {pc nL : Nat} {ls : Array Slot} {rest : List Value} {D : va_G} {cy : Nat → ClassId} {A : Nat → Prop} {ws : va_W} {b : Nat} {fs : List Value} {v : Value} (C : Cx p s m args c cc nL RX4 D cy A) (hO : Wo D A ws s.heap H locs) (q0 : Nat) (he : ws[q0]? = some (b, .inr (4, fs))) (hv : fs[7]? = some v) (hdg : decode cc pc = .ok (.getfield 31, 3)) (kk : W p l e R s m args below meth c H locs cells slots Q (F0 m (pc + 3) ls (v :: rest))) : W p l e R s m args below meth c H locs cells slots Q (F0 m pc ls (.ref b :: rest)) := gF (k := 7) C hO q0 he rfl inFX4 (by decide) wd_192 rfl hv hdg kk
theorem wd_193 : (Cond.fieldLink "WebCourt$Law" (34 : Nat) "WebCourt$Law" "stays" "I") ∈ gtb := gtb_c1 84 (by decide +kernel) rfl
theorem gf_RX4_34 {p : Program} {l : Launch} {e : Env} {R : Room} {s : State} {m : MethodId} {args : Array Value} {below : List Frame} {meth : Method} {c : Code} {H : Heap} {locs : List Loc} {cells slots : Nat} {Q : State → Prop} {cc : ByteArray} {pc nL : Nat} {ls : Array Slot} {rest : List Value} {D : va_G} {cy : Nat → ClassId} {A : Nat → Prop} {ws : va_W} {b : Nat} {fs : List Value} {v : Value} (C : Cx p s m args c cc nL RX4 D cy A) (hO : Wo D A ws s.heap H locs) (q0 : Nat) (he : ws[q0]? = some (b, .inr (4, fs))) (hv : fs[8]? = some v) (hdg : decode cc pc = .ok (.getfield 34, 3)) (kk : W p l e R s m args below meth c H locs cells slots Q (F0 m (pc + 3) ls (v :: rest))) : W p l e R s m args below meth c H locs cells slots Q (F0 m pc ls (.ref b :: rest)) := gF (k := 8) C hO q0 he rfl inFX4 (by decide) wd_193 rfl hv hdg kk
theorem wd_194 : (Cond.fieldLink "WebCourt$Law" (37 : Nat) "WebCourt$Law" "kin" "I") ∈ gtb := gtb_c1 85 (by decide +kernel) rfl
theorem gf_RX4_37 {p : Program} {l : Launch} {e : Env} {R : Room} {s : State} {m : MethodId} {args : Array Value} {below : List Frame} {meth : Method} {c : Code} {H : Heap} {locs : List Loc} {cells slots : Nat} {Q : State → Prop} {cc : ByteArray} {pc nL : Nat} {ls : Array Slot} {rest : List Value} {D : va_G} {cy : Nat → ClassId} {A : Nat → Prop} {ws : va_W} {b : Nat} {fs : List Value} {v : Value} (C : Cx p s m args c cc nL RX4 D cy A) (hO : Wo D A ws s.heap H locs) (q0 : Nat) (he : ws[q0]? = some (b, .inr (4, fs))) (hv : fs[9]? = some v) (hdg : decode cc pc = .ok (.getfield 37, 3)) (kk : W p l e R s m args below meth c H locs cells slots Q (F0 m (pc + 3) ls (v :: rest))) : W p l e R s m args below meth c H locs cells slots Q (F0 m pc ls (.ref b :: rest)) := gF (k := 9) C hO q0 he rfl inFX4 (by decide) wd_194 rfl hv hdg kk
set_option maxHeartbeats 4000000 in
set_option maxRecDepth 100000 in
theorem T_X4_given (l : Launch) (D : va_G) (cy : Nat → ClassId) (a : Nat → Nat) (u : St) (hJ : CI a u) (x1 : Int32)  : Mi l D cy (cW cy a) yX4_given (.code yX4_given cX4_given 2 (some .int)) (rmo 0 0) [.ref (a 12), .int x1] u (fun (r : Int32) (u' : St) => u' = u) := by
  refine Mi.of (own := RX4) rfl (by decide) (Nat.le_of_ble_eq_true rfl) ?_
  have hT : KT u u := KT.rf
  intro p e s m below meth c A Q ls C hret hO hl
  obtain ⟨hx, hb, hml, hown, ht, hK, hA⟩ := id C
  have hl : lv_has ls 2 [(0, .ref (a 12)), (1, .int x1)] := hl
  refine lv_iload_n hx hb dX4_given_0 rfl (lv_at hl 1 rfl) ?_
  have c1 : ((x1).toInt < 8 ∨ 19 < (x1).toInt) ∨ (x1).toInt = 8 ∨ (x1).toInt = 9 ∨ (x1).toInt = 10 ∨ (x1).toInt = 11 ∨ (x1).toInt = 12 ∨ (x1).toInt = 13 ∨ (x1).toInt = 14 ∨ (x1).toInt = 15 ∨ (x1).toInt = 16 ∨ (x1).toInt = 17 ∨ (x1).toInt = 18 ∨ (x1).toInt = 19 := by omega
  rcases c1 with c1 | c1 | c1 | c1 | c1 | c1 | c1 | c1 | c1 | c1 | c1 | c1 | c1
  · refine lv_tableOut (tgt := 89) hx hb dX4_given_1 (by rw [show x1.toInt = (x1).toInt from rfl]; exact c1) (by decide) ?_
    refine lv_aload_n hx hb dX4_given_89 rfl (lv_at hl 0 rfl) ?_
    refine gf_RX4_40 (v := .int (fI u 12 10)) C hO 12 cW_12 rfl dX4_given_90 ?_
    refine hret _ _ _ _ _ _ dX4_given_93 rfl ?_ hO
    exact rfl
  · refine lv_tableIn (tgt := 64) hx hb dX4_given_1 (by rw [c1]; decide) (by rw [c1]; decide) (by rw [c1]; rfl) (by decide) ?_
    refine lv_aload_n hx hb dX4_given_64 rfl (lv_at hl 0 rfl) ?_
    refine gf_RX4_25 (v := .int (fI u 12 5)) C hO 12 cW_12 rfl dX4_given_65 ?_
    refine hret _ _ _ _ _ _ dX4_given_68 rfl ?_ hO
    exact rfl
  · refine lv_tableIn (tgt := 89) hx hb dX4_given_1 (by rw [c1]; decide) (by rw [c1]; decide) (by rw [c1]; rfl) (by decide) ?_
    refine lv_aload_n hx hb dX4_given_89 rfl (lv_at hl 0 rfl) ?_
    refine gf_RX4_40 (v := .int (fI u 12 10)) C hO 12 cW_12 rfl dX4_given_90 ?_
    refine hret _ _ _ _ _ _ dX4_given_93 rfl ?_ hO
    exact rfl
  · refine lv_tableIn (tgt := 89) hx hb dX4_given_1 (by rw [c1]; decide) (by rw [c1]; decide) (by rw [c1]; rfl) (by decide) ?_
    refine lv_aload_n hx hb dX4_given_89 rfl (lv_at hl 0 rfl) ?_
    refine gf_RX4_40 (v := .int (fI u 12 10)) C hO 12 cW_12 rfl dX4_given_90 ?_
    refine hret _ _ _ _ _ _ dX4_given_93 rfl ?_ hO
    exact rfl
  · refine lv_tableIn (tgt := 89) hx hb dX4_given_1 (by rw [c1]; decide) (by rw [c1]; decide) (by rw [c1]; rfl) (by decide) ?_
    refine lv_aload_n hx hb dX4_given_89 rfl (lv_at hl 0 rfl) ?_
    refine gf_RX4_40 (v := .int (fI u 12 10)) C hO 12 cW_12 rfl dX4_given_90 ?_
    refine hret _ _ _ _ _ _ dX4_given_93 rfl ?_ hO
    exact rfl
  · refine lv_tableIn (tgt := 89) hx hb dX4_given_1 (by rw [c1]; decide) (by rw [c1]; decide) (by rw [c1]; rfl) (by decide) ?_
    refine lv_aload_n hx hb dX4_given_89 rfl (lv_at hl 0 rfl) ?_
    refine gf_RX4_40 (v := .int (fI u 12 10)) C hO 12 cW_12 rfl dX4_given_90 ?_
    refine hret _ _ _ _ _ _ dX4_given_93 rfl ?_ hO
    exact rfl
  · refine lv_tableIn (tgt := 89) hx hb dX4_given_1 (by rw [c1]; decide) (by rw [c1]; decide) (by rw [c1]; rfl) (by decide) ?_
    refine lv_aload_n hx hb dX4_given_89 rfl (lv_at hl 0 rfl) ?_
    refine gf_RX4_40 (v := .int (fI u 12 10)) C hO 12 cW_12 rfl dX4_given_90 ?_
    refine hret _ _ _ _ _ _ dX4_given_93 rfl ?_ hO
    exact rfl
  · refine lv_tableIn (tgt := 89) hx hb dX4_given_1 (by rw [c1]; decide) (by rw [c1]; decide) (by rw [c1]; rfl) (by decide) ?_
    refine lv_aload_n hx hb dX4_given_89 rfl (lv_at hl 0 rfl) ?_
    refine gf_RX4_40 (v := .int (fI u 12 10)) C hO 12 cW_12 rfl dX4_given_90 ?_
    refine hret _ _ _ _ _ _ dX4_given_93 rfl ?_ hO
    exact rfl
  · refine lv_tableIn (tgt := 89) hx hb dX4_given_1 (by rw [c1]; decide) (by rw [c1]; decide) (by rw [c1]; rfl) (by decide) ?_
    refine lv_aload_n hx hb dX4_given_89 rfl (lv_at hl 0 rfl) ?_
    refine gf_RX4_40 (v := .int (fI u 12 10)) C hO 12 cW_12 rfl dX4_given_90 ?_
    refine hret _ _ _ _ _ _ dX4_given_93 rfl ?_ hO
    exact rfl
  · refine lv_tableIn (tgt := 69) hx hb dX4_given_1 (by rw [c1]; decide) (by rw [c1]; decide) (by rw [c1]; rfl) (by decide) ?_
    refine lv_aload_n hx hb dX4_given_69 rfl (lv_at hl 0 rfl) ?_
    refine gf_RX4_28 (v := .int (fI u 12 6)) C hO 12 cW_12 rfl dX4_given_70 ?_
    refine hret _ _ _ _ _ _ dX4_given_73 rfl ?_ hO
    exact rfl
  · refine lv_tableIn (tgt := 74) hx hb dX4_given_1 (by rw [c1]; decide) (by rw [c1]; decide) (by rw [c1]; rfl) (by decide) ?_
    refine lv_aload_n hx hb dX4_given_74 rfl (lv_at hl 0 rfl) ?_
    refine gf_RX4_31 (v := .int (fI u 12 7)) C hO 12 cW_12 rfl dX4_given_75 ?_
    refine hret _ _ _ _ _ _ dX4_given_78 rfl ?_ hO
    exact rfl
  · refine lv_tableIn (tgt := 79) hx hb dX4_given_1 (by rw [c1]; decide) (by rw [c1]; decide) (by rw [c1]; rfl) (by decide) ?_
    refine lv_aload_n hx hb dX4_given_79 rfl (lv_at hl 0 rfl) ?_
    refine gf_RX4_34 (v := .int (fI u 12 8)) C hO 12 cW_12 rfl dX4_given_80 ?_
    refine hret _ _ _ _ _ _ dX4_given_83 rfl ?_ hO
    exact rfl
  · refine lv_tableIn (tgt := 84) hx hb dX4_given_1 (by rw [c1]; decide) (by rw [c1]; decide) (by rw [c1]; rfl) (by decide) ?_
    refine lv_aload_n hx hb dX4_given_84 rfl (lv_at hl 0 rfl) ?_
    refine gf_RX4_37 (v := .int (fI u 12 9)) C hO 12 cW_12 rfl dX4_given_85 ?_
    refine hret _ _ _ _ _ _ dX4_given_88 rfl ?_ hO
    exact rfl
theorem dX4_joined_0 : decode cX4_joined 0 = .ok (.iload_n 1, 1) := by decide +kernel
theorem dX4_joined_1 : decode cX4_joined 1 = .ok (.lookupswitch 168 #[(13, 83), (14, 97), (42, 152), (43, 144), (45, 148), (47, 156), (60, 111), (61, 133), (62, 122)], 83) := by decide +kernel
theorem dX4_joined_84 : decode cX4_joined 84 = .ok (.iload_n 0, 1) := by decide +kernel
theorem dX4_joined_85 : decode cX4_joined 85 = .ok (.ifCond .ne 7, 3) := by decide +kernel
theorem dX4_joined_88 : decode cX4_joined 88 = .ok (.iload_n 2, 1) := by decide +kernel
theorem dX4_joined_89 : decode cX4_joined 89 = .ok (.ifCond .eq 7, 3) := by decide +kernel
theorem dX4_joined_92 : decode cX4_joined 92 = .ok (.iconst 1, 1) := by decide +kernel
theorem dX4_joined_93 : decode cX4_joined 93 = .ok (.goto 4, 3) := by decide +kernel
theorem dX4_joined_96 : decode cX4_joined 96 = .ok (.iconst 0, 1) := by decide +kernel
theorem dX4_joined_97 : decode cX4_joined 97 = .ok (.ireturn, 1) := by decide +kernel
theorem dX4_joined_98 : decode cX4_joined 98 = .ok (.iload_n 0, 1) := by decide +kernel
theorem dX4_joined_99 : decode cX4_joined 99 = .ok (.ifCond .eq 11, 3) := by decide +kernel
theorem dX4_joined_102 : decode cX4_joined 102 = .ok (.iload_n 2, 1) := by decide +kernel
theorem dX4_joined_103 : decode cX4_joined 103 = .ok (.ifCond .eq 7, 3) := by decide +kernel
theorem dX4_joined_106 : decode cX4_joined 106 = .ok (.iconst 1, 1) := by decide +kernel
theorem dX4_joined_107 : decode cX4_joined 107 = .ok (.goto 4, 3) := by decide +kernel
theorem dX4_joined_110 : decode cX4_joined 110 = .ok (.iconst 0, 1) := by decide +kernel
theorem dX4_joined_111 : decode cX4_joined 111 = .ok (.ireturn, 1) := by decide +kernel
theorem dX4_joined_112 : decode cX4_joined 112 = .ok (.iload_n 0, 1) := by decide +kernel
theorem dX4_joined_113 : decode cX4_joined 113 = .ok (.iload_n 2, 1) := by decide +kernel
theorem dX4_joined_114 : decode cX4_joined 114 = .ok (.if_icmp .ge 7, 3) := by decide +kernel
theorem dX4_joined_117 : decode cX4_joined 117 = .ok (.iconst 1, 1) := by decide +kernel
theorem dX4_joined_118 : decode cX4_joined 118 = .ok (.goto 4, 3) := by decide +kernel
theorem dX4_joined_121 : decode cX4_joined 121 = .ok (.iconst 0, 1) := by decide +kernel
theorem dX4_joined_122 : decode cX4_joined 122 = .ok (.ireturn, 1) := by decide +kernel
theorem dX4_joined_123 : decode cX4_joined 123 = .ok (.iload_n 0, 1) := by decide +kernel
theorem dX4_joined_124 : decode cX4_joined 124 = .ok (.iload_n 2, 1) := by decide +kernel
theorem dX4_joined_125 : decode cX4_joined 125 = .ok (.if_icmp .le 7, 3) := by decide +kernel
theorem dX4_joined_128 : decode cX4_joined 128 = .ok (.iconst 1, 1) := by decide +kernel
theorem dX4_joined_129 : decode cX4_joined 129 = .ok (.goto 4, 3) := by decide +kernel
theorem dX4_joined_132 : decode cX4_joined 132 = .ok (.iconst 0, 1) := by decide +kernel
theorem dX4_joined_133 : decode cX4_joined 133 = .ok (.ireturn, 1) := by decide +kernel
theorem dX4_joined_134 : decode cX4_joined 134 = .ok (.iload_n 0, 1) := by decide +kernel
theorem dX4_joined_135 : decode cX4_joined 135 = .ok (.iload_n 2, 1) := by decide +kernel
theorem dX4_joined_136 : decode cX4_joined 136 = .ok (.if_icmp .ne 7, 3) := by decide +kernel
theorem dX4_joined_139 : decode cX4_joined 139 = .ok (.iconst 1, 1) := by decide +kernel
theorem dX4_joined_140 : decode cX4_joined 140 = .ok (.goto 4, 3) := by decide +kernel
theorem dX4_joined_143 : decode cX4_joined 143 = .ok (.iconst 0, 1) := by decide +kernel
theorem dX4_joined_144 : decode cX4_joined 144 = .ok (.ireturn, 1) := by decide +kernel
theorem dX4_joined_145 : decode cX4_joined 145 = .ok (.iload_n 0, 1) := by decide +kernel
theorem dX4_joined_146 : decode cX4_joined 146 = .ok (.iload_n 2, 1) := by decide +kernel
theorem dX4_joined_147 : decode cX4_joined 147 = .ok (.iadd, 1) := by decide +kernel
theorem dX4_joined_148 : decode cX4_joined 148 = .ok (.ireturn, 1) := by decide +kernel
theorem dX4_joined_149 : decode cX4_joined 149 = .ok (.iload_n 0, 1) := by decide +kernel
theorem dX4_joined_150 : decode cX4_joined 150 = .ok (.iload_n 2, 1) := by decide +kernel
theorem dX4_joined_151 : decode cX4_joined 151 = .ok (.isub, 1) := by decide +kernel
theorem dX4_joined_152 : decode cX4_joined 152 = .ok (.ireturn, 1) := by decide +kernel
theorem dX4_joined_153 : decode cX4_joined 153 = .ok (.iload_n 0, 1) := by decide +kernel
theorem dX4_joined_154 : decode cX4_joined 154 = .ok (.iload_n 2, 1) := by decide +kernel
theorem dX4_joined_155 : decode cX4_joined 155 = .ok (.imul, 1) := by decide +kernel
theorem dX4_joined_156 : decode cX4_joined 156 = .ok (.ireturn, 1) := by decide +kernel
theorem dX4_joined_157 : decode cX4_joined 157 = .ok (.iload_n 2, 1) := by decide +kernel
theorem dX4_joined_158 : decode cX4_joined 158 = .ok (.ifCond .ne 7, 3) := by decide +kernel
theorem dX4_joined_161 : decode cX4_joined 161 = .ok (.iconst 0, 1) := by decide +kernel
theorem dX4_joined_162 : decode cX4_joined 162 = .ok (.goto 6, 3) := by decide +kernel
theorem dX4_joined_165 : decode cX4_joined 165 = .ok (.iload_n 0, 1) := by decide +kernel
theorem dX4_joined_166 : decode cX4_joined 166 = .ok (.iload_n 2, 1) := by decide +kernel
theorem dX4_joined_167 : decode cX4_joined 167 = .ok (.idiv, 1) := by decide +kernel
theorem dX4_joined_168 : decode cX4_joined 168 = .ok (.ireturn, 1) := by decide +kernel
theorem dX4_joined_169 : decode cX4_joined 169 = .ok (.iload_n 2, 1) := by decide +kernel
theorem dX4_joined_170 : decode cX4_joined 170 = .ok (.ifCond .ne 7, 3) := by decide +kernel
theorem dX4_joined_173 : decode cX4_joined 173 = .ok (.iconst 0, 1) := by decide +kernel
theorem dX4_joined_174 : decode cX4_joined 174 = .ok (.goto 6, 3) := by decide +kernel
theorem dX4_joined_177 : decode cX4_joined 177 = .ok (.iload_n 0, 1) := by decide +kernel
theorem dX4_joined_178 : decode cX4_joined 178 = .ok (.iload_n 2, 1) := by decide +kernel
theorem dX4_joined_179 : decode cX4_joined 179 = .ok (.irem, 1) := by decide +kernel
theorem dX4_joined_180 : decode cX4_joined 180 = .ok (.ireturn, 1) := by decide +kernel
theorem wd_894 : (Cond.code ⟨"WebCourt$Law", "joined", "(III)I"⟩ prog_6_method_10_code (3 : Nat) (Option.some FieldType.int)) ∈ gtb := gtb_c4 65 (by decide +kernel) rfl
set_option maxHeartbeats 4000000 in
set_option maxRecDepth 100000 in
theorem T_X4_joined (l : Launch) (D : va_G) (cy : Nat → ClassId) (a : Nat → Nat) (u : St) (hJ : CI a u) (x1 : Int32) (x2 : Int32) (x3 : Int32)  : Mi l D cy (cW cy a) yX4_joined (.code yX4_joined cX4_joined 3 (some .int)) (rmo 0 0) [.int x1, .int x2, .int x3] u (fun (r : Int32) (u' : St) => u' = u) := by
  refine Mi.of (own := RX4) rfl (by decide) (Nat.le_of_ble_eq_true rfl) ?_
  have hT : KT u u := KT.rf
  intro p e s m below meth c A Q ls C hret hO hl
  obtain ⟨hx, hb, hml, hown, ht, hK, hA⟩ := id C
  have hl : lv_has ls 3 [(0, .int x1), (1, .int x2), (2, .int x3)] := hl
  refine lv_iload_n hx hb dX4_joined_0 rfl (lv_at hl 1 rfl) ?_
  have c1 : (x2).toInt = 13 ∨ (x2).toInt = 14 ∨ (x2).toInt = 42 ∨ (x2).toInt = 43 ∨ (x2).toInt = 45 ∨ (x2).toInt = 47 ∨ (x2).toInt = 60 ∨ (x2).toInt = 61 ∨ (x2).toInt = 62 ∨ (¬ (x2).toInt = 13 ∧ ¬ (x2).toInt = 14 ∧ ¬ (x2).toInt = 42 ∧ ¬ (x2).toInt = 43 ∧ ¬ (x2).toInt = 45 ∧ ¬ (x2).toInt = 47 ∧ ¬ (x2).toInt = 60 ∧ ¬ (x2).toInt = 61 ∧ ¬ (x2).toInt = 62) := by omega
  rcases c1 with c1 | c1 | c1 | c1 | c1 | c1 | c1 | c1 | c1 | ⟨c1_0, c1_1, c1_2, c1_3, c1_4, c1_5, c1_6, c1_7, c1_8⟩
  · refine lv_lookup (tgt := 84) (off := 83) hx hb dX4_joined_1 (by decide) (by rw [c1]; rfl) (by decide) ?_
    refine lv_iload_n hx hb dX4_joined_84 rfl (lv_at hl 0 rfl) ?_
    refine bs_ne (tgt := 92) (X := (x1).toInt) hx hb dX4_joined_85 (by decide) rfl (fun c2 => ?_) (fun c2 => ?_)
    · refine lv_iconst (v := 1) hx hb dX4_joined_92 (by decide) ?_
      refine lv_goto (tgt := 97) hx hb dX4_joined_93 (by decide) ?_
      refine hret _ _ _ _ _ _ dX4_joined_97 rfl ?_ hO
      exact rfl
    · refine lv_iload_n hx hb dX4_joined_88 rfl (lv_at hl 2 rfl) ?_
      refine bs_eq (tgt := 96) (X := (x3).toInt) hx hb dX4_joined_89 (by decide) rfl (fun c3 => ?_) (fun c3 => ?_)
      · refine lv_iconst (v := 0) hx hb dX4_joined_96 (by decide) ?_
        refine hret _ _ _ _ _ _ dX4_joined_97 rfl ?_ hO
        exact rfl
      · refine lv_iconst (v := 1) hx hb dX4_joined_92 (by decide) ?_
        refine lv_goto (tgt := 97) hx hb dX4_joined_93 (by decide) ?_
        refine hret _ _ _ _ _ _ dX4_joined_97 rfl ?_ hO
        exact rfl
  · refine lv_lookup (tgt := 98) (off := 97) hx hb dX4_joined_1 (by decide) (by rw [c1]; rfl) (by decide) ?_
    refine lv_iload_n hx hb dX4_joined_98 rfl (lv_at hl 0 rfl) ?_
    refine bs_eq (tgt := 110) (X := (x1).toInt) hx hb dX4_joined_99 (by decide) rfl (fun c4 => ?_) (fun c4 => ?_)
    · refine lv_iconst (v := 0) hx hb dX4_joined_110 (by decide) ?_
      refine hret _ _ _ _ _ _ dX4_joined_111 rfl ?_ hO
      exact rfl
    · refine lv_iload_n hx hb dX4_joined_102 rfl (lv_at hl 2 rfl) ?_
      refine bs_eq (tgt := 110) (X := (x3).toInt) hx hb dX4_joined_103 (by decide) rfl (fun c5 => ?_) (fun c5 => ?_)
      · refine lv_iconst (v := 0) hx hb dX4_joined_110 (by decide) ?_
        refine hret _ _ _ _ _ _ dX4_joined_111 rfl ?_ hO
        exact rfl
      · refine lv_iconst (v := 1) hx hb dX4_joined_106 (by decide) ?_
        refine lv_goto (tgt := 111) hx hb dX4_joined_107 (by decide) ?_
        refine hret _ _ _ _ _ _ dX4_joined_111 rfl ?_ hO
        exact rfl
  · refine lv_lookup (tgt := 153) (off := 152) hx hb dX4_joined_1 (by decide) (by rw [c1]; rfl) (by decide) ?_
    refine lv_iload_n hx hb dX4_joined_153 rfl (lv_at hl 0 rfl) ?_
    refine lv_iload_n hx hb dX4_joined_154 rfl (lv_at hl 2 rfl) ?_
    refine lv_imul hx hb dX4_joined_155 ?_
    refine hret _ _ _ _ _ _ dX4_joined_156 rfl ?_ hO
    exact rfl
  · refine lv_lookup (tgt := 145) (off := 144) hx hb dX4_joined_1 (by decide) (by rw [c1]; rfl) (by decide) ?_
    refine lv_iload_n hx hb dX4_joined_145 rfl (lv_at hl 0 rfl) ?_
    refine lv_iload_n hx hb dX4_joined_146 rfl (lv_at hl 2 rfl) ?_
    refine lv_iadd hx hb dX4_joined_147 ?_
    refine hret _ _ _ _ _ _ dX4_joined_148 rfl ?_ hO
    exact rfl
  · refine lv_lookup (tgt := 149) (off := 148) hx hb dX4_joined_1 (by decide) (by rw [c1]; rfl) (by decide) ?_
    refine lv_iload_n hx hb dX4_joined_149 rfl (lv_at hl 0 rfl) ?_
    refine lv_iload_n hx hb dX4_joined_150 rfl (lv_at hl 2 rfl) ?_
    refine lv_isub hx hb dX4_joined_151 ?_
    refine hret _ _ _ _ _ _ dX4_joined_152 rfl ?_ hO
    exact rfl
  · refine lv_lookup (tgt := 157) (off := 156) hx hb dX4_joined_1 (by decide) (by rw [c1]; rfl) (by decide) ?_
    refine lv_iload_n hx hb dX4_joined_157 rfl (lv_at hl 2 rfl) ?_
    refine bs_ne (tgt := 165) (X := (x3).toInt) hx hb dX4_joined_158 (by decide) rfl (fun c6 => ?_) (fun c6 => ?_)
    · refine lv_iload_n hx hb dX4_joined_165 rfl (lv_at hl 0 rfl) ?_
      refine lv_iload_n hx hb dX4_joined_166 rfl (lv_at hl 2 rfl) ?_
      refine lv_idiv hx hb dX4_joined_167 (i_ne0 (X := (x3).toInt) rfl (by omega)) ?_
      refine lv_topi (fun z7 ez7 => ?_)
      refine hret _ _ _ _ _ _ dX4_joined_168 rfl ?_ hO
      exact rfl
    · refine lv_iconst (v := 0) hx hb dX4_joined_161 (by decide) ?_
      refine lv_goto (tgt := 168) hx hb dX4_joined_162 (by decide) ?_
      refine hret _ _ _ _ _ _ dX4_joined_168 rfl ?_ hO
      exact rfl
  · refine lv_lookup (tgt := 112) (off := 111) hx hb dX4_joined_1 (by decide) (by rw [c1]; rfl) (by decide) ?_
    refine lv_iload_n hx hb dX4_joined_112 rfl (lv_at hl 0 rfl) ?_
    refine lv_iload_n hx hb dX4_joined_113 rfl (lv_at hl 2 rfl) ?_
    refine cs_ge (tgt := 121) (X := (x1).toInt) (Y := (x3).toInt) hx hb dX4_joined_114 (by decide) rfl rfl (fun c8 => ?_) (fun c8 => ?_)
    · refine lv_iconst (v := 0) hx hb dX4_joined_121 (by decide) ?_
      refine hret _ _ _ _ _ _ dX4_joined_122 rfl ?_ hO
      exact rfl
    · refine lv_iconst (v := 1) hx hb dX4_joined_117 (by decide) ?_
      refine lv_goto (tgt := 122) hx hb dX4_joined_118 (by decide) ?_
      refine hret _ _ _ _ _ _ dX4_joined_122 rfl ?_ hO
      exact rfl
  · refine lv_lookup (tgt := 134) (off := 133) hx hb dX4_joined_1 (by decide) (by rw [c1]; rfl) (by decide) ?_
    refine lv_iload_n hx hb dX4_joined_134 rfl (lv_at hl 0 rfl) ?_
    refine lv_iload_n hx hb dX4_joined_135 rfl (lv_at hl 2 rfl) ?_
    refine cs_ne (tgt := 143) (X := (x1).toInt) (Y := (x3).toInt) hx hb dX4_joined_136 (by decide) rfl rfl (fun c9 => ?_) (fun c9 => ?_)
    · refine lv_iconst (v := 0) hx hb dX4_joined_143 (by decide) ?_
      refine hret _ _ _ _ _ _ dX4_joined_144 rfl ?_ hO
      exact rfl
    · refine lv_iconst (v := 1) hx hb dX4_joined_139 (by decide) ?_
      refine lv_goto (tgt := 144) hx hb dX4_joined_140 (by decide) ?_
      refine hret _ _ _ _ _ _ dX4_joined_144 rfl ?_ hO
      exact rfl
  · refine lv_lookup (tgt := 123) (off := 122) hx hb dX4_joined_1 (by decide) (by rw [c1]; rfl) (by decide) ?_
    refine lv_iload_n hx hb dX4_joined_123 rfl (lv_at hl 0 rfl) ?_
    refine lv_iload_n hx hb dX4_joined_124 rfl (lv_at hl 2 rfl) ?_
    refine cs_le (tgt := 132) (X := (x1).toInt) (Y := (x3).toInt) hx hb dX4_joined_125 (by decide) rfl rfl (fun c10 => ?_) (fun c10 => ?_)
    · refine lv_iconst (v := 0) hx hb dX4_joined_132 (by decide) ?_
      refine hret _ _ _ _ _ _ dX4_joined_133 rfl ?_ hO
      exact rfl
    · refine lv_iconst (v := 1) hx hb dX4_joined_128 (by decide) ?_
      refine lv_goto (tgt := 133) hx hb dX4_joined_129 (by decide) ?_
      refine hret _ _ _ _ _ _ dX4_joined_133 rfl ?_ hO
      exact rfl
  · refine lv_lookup (tgt := 169) (off := 168) hx hb dX4_joined_1 (by decide) (by simp [Op.lookupswitch.offset, c1_0, Ne.symm c1_0, c1_1, Ne.symm c1_1, c1_2, Ne.symm c1_2, c1_3, Ne.symm c1_3, c1_4, Ne.symm c1_4, c1_5, Ne.symm c1_5, c1_6, Ne.symm c1_6, c1_7, Ne.symm c1_7, c1_8, Ne.symm c1_8]) (by decide) ?_
    refine lv_iload_n hx hb dX4_joined_169 rfl (lv_at hl 2 rfl) ?_
    refine bs_ne (tgt := 177) (X := (x3).toInt) hx hb dX4_joined_170 (by decide) rfl (fun c11 => ?_) (fun c11 => ?_)
    · refine lv_iload_n hx hb dX4_joined_177 rfl (lv_at hl 0 rfl) ?_
      refine lv_iload_n hx hb dX4_joined_178 rfl (lv_at hl 2 rfl) ?_
      refine lv_irem hx hb dX4_joined_179 (i_ne0 (X := (x3).toInt) rfl (by omega)) ?_
      refine lv_topi (fun z12 ez12 => ?_)
      refine hret _ _ _ _ _ _ dX4_joined_180 rfl ?_ hO
      exact rfl
    · refine lv_iconst (v := 0) hx hb dX4_joined_173 (by decide) ?_
      refine lv_goto (tgt := 180) hx hb dX4_joined_174 (by decide) ?_
      refine hret _ _ _ _ _ _ dX4_joined_180 rfl ?_ hO
      exact rfl
theorem dX4_value_0 : decode cX4_value 0 = .ok (.aload_n 0, 1) := by decide +kernel
theorem dX4_value_1 : decode cX4_value 1 = .ok (.getfield 18, 3) := by decide +kernel
theorem dX4_value_4 : decode cX4_value 4 = .ok (.ifCond .ne 11, 3) := by decide +kernel
theorem dX4_value_7 : decode cX4_value 7 = .ok (.iload_n 1, 1) := by decide +kernel
theorem dX4_value_8 : decode cX4_value 8 = .ok (.iconst 5, 1) := by decide +kernel
theorem dX4_value_9 : decode cX4_value 9 = .ok (.isub, 1) := by decide +kernel
theorem dX4_value_10 : decode cX4_value 10 = .ok (.iload_n 3, 1) := by decide +kernel
theorem dX4_value_11 : decode cX4_value 11 = .ok (.iconst 2, 1) := by decide +kernel
theorem dX4_value_12 : decode cX4_value 12 = .ok (.imul, 1) := by decide +kernel
theorem dX4_value_13 : decode cX4_value 13 = .ok (.isub, 1) := by decide +kernel
theorem dX4_value_14 : decode cX4_value 14 = .ok (.ireturn, 1) := by decide +kernel
theorem dX4_value_15 : decode cX4_value 15 = .ok (.aload_n 0, 1) := by decide +kernel
theorem dX4_value_16 : decode cX4_value 16 = .ok (.iload_n 1, 1) := by decide +kernel
theorem dX4_value_17 : decode cX4_value 17 = .ok (.putfield 25, 3) := by decide +kernel
theorem dX4_value_20 : decode cX4_value 20 = .ok (.aload_n 0, 1) := by decide +kernel
theorem dX4_value_21 : decode cX4_value 21 = .ok (.iload_n 2, 1) := by decide +kernel
theorem dX4_value_22 : decode cX4_value 22 = .ok (.putfield 28, 3) := by decide +kernel
theorem dX4_value_25 : decode cX4_value 25 = .ok (.aload_n 0, 1) := by decide +kernel
theorem dX4_value_26 : decode cX4_value 26 = .ok (.iload_n 3, 1) := by decide +kernel
theorem dX4_value_27 : decode cX4_value 27 = .ok (.putfield 31, 3) := by decide +kernel
theorem dX4_value_30 : decode cX4_value 30 = .ok (.aload_n 0, 1) := by decide +kernel
theorem dX4_value_31 : decode cX4_value 31 = .ok (.iload 4, 2) := by decide +kernel
theorem dX4_value_33 : decode cX4_value 33 = .ok (.putfield 34, 3) := by decide +kernel
theorem dX4_value_36 : decode cX4_value 36 = .ok (.aload_n 0, 1) := by decide +kernel
theorem dX4_value_37 : decode cX4_value 37 = .ok (.iload 5, 2) := by decide +kernel
theorem dX4_value_39 : decode cX4_value 39 = .ok (.putfield 37, 3) := by decide +kernel
theorem dX4_value_42 : decode cX4_value 42 = .ok (.aload_n 0, 1) := by decide +kernel
theorem dX4_value_43 : decode cX4_value 43 = .ok (.iload 6, 2) := by decide +kernel
theorem dX4_value_45 : decode cX4_value 45 = .ok (.putfield 40, 3) := by decide +kernel
theorem dX4_value_48 : decode cX4_value 48 = .ok (.aload_n 0, 1) := by decide +kernel
theorem dX4_value_49 : decode cX4_value 49 = .ok (.iconst 0, 1) := by decide +kernel
theorem dX4_value_50 : decode cX4_value 50 = .ok (.putfield 43, 3) := by decide +kernel
theorem dX4_value_53 : decode cX4_value 53 = .ok (.iconst 0, 1) := by decide +kernel
theorem dX4_value_54 : decode cX4_value 54 = .ok (.istore 7, 2) := by decide +kernel
theorem dX4_value_56 : decode cX4_value 56 = .ok (.iload 7, 2) := by decide +kernel
theorem dX4_value_58 : decode cX4_value 58 = .ok (.aload_n 0, 1) := by decide +kernel
theorem dX4_value_59 : decode cX4_value 59 = .ok (.getfield 18, 3) := by decide +kernel
theorem dX4_value_62 : decode cX4_value 62 = .ok (.if_icmp .ge 107, 3) := by decide +kernel
theorem dX4_value_65 : decode cX4_value 65 = .ok (.aload_n 0, 1) := by decide +kernel
theorem dX4_value_66 : decode cX4_value 66 = .ok (.getfield 11, 3) := by decide +kernel
theorem dX4_value_69 : decode cX4_value 69 = .ok (.iload 7, 2) := by decide +kernel
theorem dX4_value_71 : decode cX4_value 71 = .ok (.iaload, 1) := by decide +kernel
theorem dX4_value_72 : decode cX4_value 72 = .ok (.istore 8, 2) := by decide +kernel
theorem dX4_value_74 : decode cX4_value 74 = .ok (.iload 8, 2) := by decide +kernel
theorem dX4_value_76 : decode cX4_value 76 = .ok (.ifCond .lt 12, 3) := by decide +kernel
theorem dX4_value_79 : decode cX4_value 79 = .ok (.aload_n 0, 1) := by decide +kernel
theorem dX4_value_80 : decode cX4_value 80 = .ok (.iload 8, 2) := by decide +kernel
theorem dX4_value_82 : decode cX4_value 82 = .ok (.invokevirtual 46, 3) := by decide +kernel
theorem dX4_value_85 : decode cX4_value 85 = .ok (.goto 78, 3) := by decide +kernel
theorem dX4_value_88 : decode cX4_value 88 = .ok (.iload 8, 2) := by decide +kernel
theorem dX4_value_90 : decode cX4_value 90 = .ok (.ineg, 1) := by decide +kernel
theorem dX4_value_91 : decode cX4_value 91 = .ok (.invokestatic 50, 3) := by decide +kernel
theorem dX4_value_94 : decode cX4_value 94 = .ok (.ifCond .eq 17, 3) := by decide +kernel
theorem dX4_value_97 : decode cX4_value 97 = .ok (.aload_n 0, 1) := by decide +kernel
theorem dX4_value_98 : decode cX4_value 98 = .ok (.aload_n 0, 1) := by decide +kernel
theorem dX4_value_99 : decode cX4_value 99 = .ok (.iload 8, 2) := by decide +kernel
theorem dX4_value_101 : decode cX4_value 101 = .ok (.ineg, 1) := by decide +kernel
theorem dX4_value_102 : decode cX4_value 102 = .ok (.invokevirtual 54, 3) := by decide +kernel
theorem dX4_value_105 : decode cX4_value 105 = .ok (.invokevirtual 46, 3) := by decide +kernel
theorem dX4_value_108 : decode cX4_value 108 = .ok (.goto 55, 3) := by decide +kernel
theorem dX4_value_111 : decode cX4_value 111 = .ok (.iload 8, 2) := by decide +kernel
theorem dX4_value_113 : decode cX4_value 113 = .ok (.bipush (-15), 2) := by decide +kernel
theorem dX4_value_115 : decode cX4_value 115 = .ok (.if_icmp .ne 22, 3) := by decide +kernel
theorem dX4_value_118 : decode cX4_value 118 = .ok (.aload_n 0, 1) := by decide +kernel
theorem dX4_value_119 : decode cX4_value 119 = .ok (.aload_n 0, 1) := by decide +kernel
theorem dX4_value_120 : decode cX4_value 120 = .ok (.invokevirtual 58, 3) := by decide +kernel
theorem dX4_value_123 : decode cX4_value 123 = .ok (.ifCond .ne 7, 3) := by decide +kernel
theorem dX4_value_126 : decode cX4_value 126 = .ok (.iconst 1, 1) := by decide +kernel
theorem dX4_value_127 : decode cX4_value 127 = .ok (.goto 4, 3) := by decide +kernel
theorem dX4_value_130 : decode cX4_value 130 = .ok (.iconst 0, 1) := by decide +kernel
theorem dX4_value_131 : decode cX4_value 131 = .ok (.invokevirtual 46, 3) := by decide +kernel
theorem dX4_value_134 : decode cX4_value 134 = .ok (.goto 29, 3) := by decide +kernel
theorem dX4_value_137 : decode cX4_value 137 = .ok (.aload_n 0, 1) := by decide +kernel
theorem dX4_value_138 : decode cX4_value 138 = .ok (.invokevirtual 58, 3) := by decide +kernel
theorem dX4_value_141 : decode cX4_value 141 = .ok (.istore 9, 2) := by decide +kernel
theorem dX4_value_143 : decode cX4_value 143 = .ok (.aload_n 0, 1) := by decide +kernel
theorem dX4_value_144 : decode cX4_value 144 = .ok (.invokevirtual 58, 3) := by decide +kernel
theorem dX4_value_147 : decode cX4_value 147 = .ok (.istore 10, 2) := by decide +kernel
theorem dX4_value_149 : decode cX4_value 149 = .ok (.aload_n 0, 1) := by decide +kernel
theorem dX4_value_150 : decode cX4_value 150 = .ok (.iload 10, 2) := by decide +kernel
theorem dX4_value_152 : decode cX4_value 152 = .ok (.iload 8, 2) := by decide +kernel
theorem dX4_value_154 : decode cX4_value 154 = .ok (.ineg, 1) := by decide +kernel
theorem dX4_value_155 : decode cX4_value 155 = .ok (.iload 9, 2) := by decide +kernel
theorem dX4_value_157 : decode cX4_value 157 = .ok (.invokestatic 62, 3) := by decide +kernel
theorem dX4_value_160 : decode cX4_value 160 = .ok (.invokevirtual 46, 3) := by decide +kernel
theorem dX4_value_163 : decode cX4_value 163 = .ok (.iinc 7 1, 3) := by decide +kernel
theorem dX4_value_166 : decode cX4_value 166 = .ok (.goto (-110), 3) := by decide +kernel
theorem dX4_value_169 : decode cX4_value 169 = .ok (.aload_n 0, 1) := by decide +kernel
theorem dX4_value_170 : decode cX4_value 170 = .ok (.invokevirtual 58, 3) := by decide +kernel
theorem dX4_value_173 : decode cX4_value 173 = .ok (.ireturn, 1) := by decide +kernel
theorem wd_878 : (Cond.code ⟨"WebCourt$Law", "value", "(IIIIII)I"⟩ prog_6_method_5_code (11 : Nat) (Option.some FieldType.int)) ∈ gtb := gtb_c4 49 (by decide +kernel) rfl
theorem wd_185 : (Cond.fieldLink "WebCourt$Law" (18 : Nat) "WebCourt$Law" "length" "I") ∈ gtb := gtb_c1 76 (by decide +kernel) rfl
theorem gf_RX4_18 {p : Program} {l : Launch} {e : Env} {R : Room} {s : State} {m : MethodId} {args : Array Value} {below : List Frame} {meth : Method} {c : Code} {H : Heap} {locs : List Loc} {cells slots : Nat} {Q : State → Prop} {cc : ByteArray} {pc nL : Nat} {ls : Array Slot} {rest : List Value} {D : va_G} {cy : Nat → ClassId} {A : Nat → Prop} {ws : va_W} {b : Nat} {fs : List Value} {v : Value} (C : Cx p s m args c cc nL RX4 D cy A) (hO : Wo D A ws s.heap H locs) (q0 : Nat) (he : ws[q0]? = some (b, .inr (4, fs))) (hv : fs[2]? = some v) (hdg : decode cc pc = .ok (.getfield 18, 3)) (kk : W p l e R s m args below meth c H locs cells slots Q (F0 m (pc + 3) ls (v :: rest))) : W p l e R s m args below meth c H locs cells slots Q (F0 m pc ls (.ref b :: rest)) := gF (k := 2) C hO q0 he rfl inFX4 (by decide) wd_185 rfl hv hdg kk
theorem pf_RX4_25 {p : Program} {l : Launch} {e : Env} {R : Room} {s : State} {m : MethodId} {args : Array Value} {below : List Frame} {meth : Method} {c : Code} {H : Heap} {locs : List Loc} {cells slots : Nat} {Q : State → Prop} {cc : ByteArray} {pc nL : Nat} {ls : Array Slot} {rest : List Value} {D : va_G} {cy : Nat → ClassId} {A : Nat → Prop} {ws : va_W} {b : Nat} {fs : List Value} {v : Int32} {ws' : va_W} (C : Cx p s m args c cc nL RX4 D cy A) (hO : Wo D A ws s.heap H locs) (q0 : Nat) (he : ws[q0]? = some (b, .inr (4, fs))) (hlen : 5 < fs.length) (hw : ws.set q0 (b, .inr (4, fs.set 5 (.int v))) = ws') (hdg : decode cc pc = .ok (.putfield 25, 3)) (kk : ∀ (H : Heap) (locs : List Loc), Wo D A ws' s.heap H locs → W p l e R s m args below meth c H locs cells slots Q (F0 m (pc + 3) ls rest)) : W p l e R s m args below meth c H locs cells slots Q (F0 m pc ls (.int v :: .ref b :: rest)) := pF (k := 5) (ty := .int) C hO q0 he rfl inFX4 (by decide) wd_190 rfl tyX4 tyX4_ok nmX4 rfl (by decide +kernel) rfl rfl hlen hw hdg kk
theorem pf_RX4_28 {p : Program} {l : Launch} {e : Env} {R : Room} {s : State} {m : MethodId} {args : Array Value} {below : List Frame} {meth : Method} {c : Code} {H : Heap} {locs : List Loc} {cells slots : Nat} {Q : State → Prop} {cc : ByteArray} {pc nL : Nat} {ls : Array Slot} {rest : List Value} {D : va_G} {cy : Nat → ClassId} {A : Nat → Prop} {ws : va_W} {b : Nat} {fs : List Value} {v : Int32} {ws' : va_W} (C : Cx p s m args c cc nL RX4 D cy A) (hO : Wo D A ws s.heap H locs) (q0 : Nat) (he : ws[q0]? = some (b, .inr (4, fs))) (hlen : 6 < fs.length) (hw : ws.set q0 (b, .inr (4, fs.set 6 (.int v))) = ws') (hdg : decode cc pc = .ok (.putfield 28, 3)) (kk : ∀ (H : Heap) (locs : List Loc), Wo D A ws' s.heap H locs → W p l e R s m args below meth c H locs cells slots Q (F0 m (pc + 3) ls rest)) : W p l e R s m args below meth c H locs cells slots Q (F0 m pc ls (.int v :: .ref b :: rest)) := pF (k := 6) (ty := .int) C hO q0 he rfl inFX4 (by decide) wd_191 rfl tyX4 tyX4_ok nmX4 rfl (by decide +kernel) rfl rfl hlen hw hdg kk
theorem pf_RX4_31 {p : Program} {l : Launch} {e : Env} {R : Room} {s : State} {m : MethodId} {args : Array Value} {below : List Frame} {meth : Method} {c : Code} {H : Heap} {locs : List Loc} {cells slots : Nat} {Q : State → Prop} {cc : ByteArray} {pc nL : Nat} {ls : Array Slot} {rest : List Value} {D : va_G} {cy : Nat → ClassId} {A : Nat → Prop} {ws : va_W} {b : Nat} {fs : List Value} {v : Int32} {ws' : va_W} (C : Cx p s m args c cc nL RX4 D cy A) (hO : Wo D A ws s.heap H locs) (q0 : Nat) (he : ws[q0]? = some (b, .inr (4, fs))) (hlen : 7 < fs.length) (hw : ws.set q0 (b, .inr (4, fs.set 7 (.int v))) = ws') (hdg : decode cc pc = .ok (.putfield 31, 3)) (kk : ∀ (H : Heap) (locs : List Loc), Wo D A ws' s.heap H locs → W p l e R s m args below meth c H locs cells slots Q (F0 m (pc + 3) ls rest)) : W p l e R s m args below meth c H locs cells slots Q (F0 m pc ls (.int v :: .ref b :: rest)) := pF (k := 7) (ty := .int) C hO q0 he rfl inFX4 (by decide) wd_192 rfl tyX4 tyX4_ok nmX4 rfl (by decide +kernel) rfl rfl hlen hw hdg kk
theorem pf_RX4_34 {p : Program} {l : Launch} {e : Env} {R : Room} {s : State} {m : MethodId} {args : Array Value} {below : List Frame} {meth : Method} {c : Code} {H : Heap} {locs : List Loc} {cells slots : Nat} {Q : State → Prop} {cc : ByteArray} {pc nL : Nat} {ls : Array Slot} {rest : List Value} {D : va_G} {cy : Nat → ClassId} {A : Nat → Prop} {ws : va_W} {b : Nat} {fs : List Value} {v : Int32} {ws' : va_W} (C : Cx p s m args c cc nL RX4 D cy A) (hO : Wo D A ws s.heap H locs) (q0 : Nat) (he : ws[q0]? = some (b, .inr (4, fs))) (hlen : 8 < fs.length) (hw : ws.set q0 (b, .inr (4, fs.set 8 (.int v))) = ws') (hdg : decode cc pc = .ok (.putfield 34, 3)) (kk : ∀ (H : Heap) (locs : List Loc), Wo D A ws' s.heap H locs → W p l e R s m args below meth c H locs cells slots Q (F0 m (pc + 3) ls rest)) : W p l e R s m args below meth c H locs cells slots Q (F0 m pc ls (.int v :: .ref b :: rest)) := pF (k := 8) (ty := .int) C hO q0 he rfl inFX4 (by decide) wd_193 rfl tyX4 tyX4_ok nmX4 rfl (by decide +kernel) rfl rfl hlen hw hdg kk
theorem pf_RX4_37 {p : Program} {l : Launch} {e : Env} {R : Room} {s : State} {m : MethodId} {args : Array Value} {below : List Frame} {meth : Method} {c : Code} {H : Heap} {locs : List Loc} {cells slots : Nat} {Q : State → Prop} {cc : ByteArray} {pc nL : Nat} {ls : Array Slot} {rest : List Value} {D : va_G} {cy : Nat → ClassId} {A : Nat → Prop} {ws : va_W} {b : Nat} {fs : List Value} {v : Int32} {ws' : va_W} (C : Cx p s m args c cc nL RX4 D cy A) (hO : Wo D A ws s.heap H locs) (q0 : Nat) (he : ws[q0]? = some (b, .inr (4, fs))) (hlen : 9 < fs.length) (hw : ws.set q0 (b, .inr (4, fs.set 9 (.int v))) = ws') (hdg : decode cc pc = .ok (.putfield 37, 3)) (kk : ∀ (H : Heap) (locs : List Loc), Wo D A ws' s.heap H locs → W p l e R s m args below meth c H locs cells slots Q (F0 m (pc + 3) ls rest)) : W p l e R s m args below meth c H locs cells slots Q (F0 m pc ls (.int v :: .ref b :: rest)) := pF (k := 9) (ty := .int) C hO q0 he rfl inFX4 (by decide) wd_194 rfl tyX4 tyX4_ok nmX4 rfl (by decide +kernel) rfl rfl hlen hw hdg kk
theorem pf_RX4_40 {p : Program} {l : Launch} {e : Env} {R : Room} {s : State} {m : MethodId} {args : Array Value} {below : List Frame} {meth : Method} {c : Code} {H : Heap} {locs : List Loc} {cells slots : Nat} {Q : State → Prop} {cc : ByteArray} {pc nL : Nat} {ls : Array Slot} {rest : List Value} {D : va_G} {cy : Nat → ClassId} {A : Nat → Prop} {ws : va_W} {b : Nat} {fs : List Value} {v : Int32} {ws' : va_W} (C : Cx p s m args c cc nL RX4 D cy A) (hO : Wo D A ws s.heap H locs) (q0 : Nat) (he : ws[q0]? = some (b, .inr (4, fs))) (hlen : 10 < fs.length) (hw : ws.set q0 (b, .inr (4, fs.set 10 (.int v))) = ws') (hdg : decode cc pc = .ok (.putfield 40, 3)) (kk : ∀ (H : Heap) (locs : List Loc), Wo D A ws' s.heap H locs → W p l e R s m args below meth c H locs cells slots Q (F0 m (pc + 3) ls rest)) : W p l e R s m args below meth c H locs cells slots Q (F0 m pc ls (.int v :: .ref b :: rest)) := pF (k := 10) (ty := .int) C hO q0 he rfl inFX4 (by decide) wd_195 rfl tyX4 tyX4_ok nmX4 rfl (by decide +kernel) rfl rfl hlen hw hdg kk
theorem wd_888 : (Cond.methodLink "WebCourt$Law" (58 : Nat) ⟨"WebCourt$Law", "pop", "()I"⟩) ∈ gtb := gtb_c4 59 (by decide +kernel) rfl
theorem wd_890 : (Cond.instanceMethod ⟨"WebCourt$Law", "pop", "()I"⟩) ∈ gtb := gtb_c4 61 (by decide +kernel) rfl
theorem wd_29 : (Cond.selects "WebCourt$Law" ⟨"WebCourt$Law", "pop", "()I"⟩ ⟨"WebCourt$Law", "pop", "()I"⟩) ∈ gtb := gtb_p 29 (by decide +kernel) rfl
theorem wd_113 : (Cond.initialized "WebCourt$Law") ∈ gtb := gtb_c1 4 (by decide +kernel) rfl
theorem hd_yX4_pop : yX4_pop.cls = RX4 ∧ yX4_pop.cls ≠ "java/lang/invoke/MethodHandle" ∧ yX4_pop.cls ≠ "java/lang/invoke/VarHandle" ∧ (parseMethodDescriptor yX4_pop.desc).map (fun d => d.parameters.length) = some 0 := by decide +kernel
theorem wd_183 : (Cond.fieldLink "WebCourt$Law" (11 : Nat) "WebCourt$Law" "codes" "[I") ∈ gtb := gtb_c1 74 (by decide +kernel) rfl
theorem gf_RX4_11 {p : Program} {l : Launch} {e : Env} {R : Room} {s : State} {m : MethodId} {args : Array Value} {below : List Frame} {meth : Method} {c : Code} {H : Heap} {locs : List Loc} {cells slots : Nat} {Q : State → Prop} {cc : ByteArray} {pc nL : Nat} {ls : Array Slot} {rest : List Value} {D : va_G} {cy : Nat → ClassId} {A : Nat → Prop} {ws : va_W} {b : Nat} {fs : List Value} {v : Value} (C : Cx p s m args c cc nL RX4 D cy A) (hO : Wo D A ws s.heap H locs) (q0 : Nat) (he : ws[q0]? = some (b, .inr (4, fs))) (hv : fs[0]? = some v) (hdg : decode cc pc = .ok (.getfield 11, 3)) (kk : W p l e R s m args below meth c H locs cells slots Q (F0 m (pc + 3) ls (v :: rest))) : W p l e R s m args below meth c H locs cells slots Q (F0 m pc ls (.ref b :: rest)) := gF (k := 0) C hO q0 he rfl inFX4 (by decide) wd_183 rfl hv hdg kk
theorem wd_883 : (Cond.methodLink "WebCourt$Law" (50 : Nat) ⟨"WebCourt$Law", "isGiven", "(I)Z"⟩) ∈ gtb := gtb_c4 54 (by decide +kernel) rfl
theorem wd_780 : (Cond.static ⟨"WebCourt$Law", "isGiven", "(I)Z"⟩) ∈ gtb := gtb_c3 191 (by decide +kernel) rfl
theorem gSS {own : String} {idx : Nat} {y : MethodName} {cw : Cond} (h1 : Cond.methodLink own idx y ∈ gtb) (h2 : Cond.static y ∈ gtb) (h3 : Cond.initialized y.cls ∈ gtb) (h5 : cw ∈ gtb) : GoodIn gtb (va_wsS own idx y (cw :: gtb)) := by
  intro w hw
  rcases List.mem_append.mp hw with hw | hw
  · rcases List.mem_cons.mp hw with e | hw
    · subst e; exact ⟨h1, gtb_good h1⟩
    · rcases List.mem_cons.mp hw with e | hw
      · subst e; exact ⟨h2, gtb_good h2⟩
      · rcases List.mem_cons.mp hw with e | hw
        · subst e; exact ⟨h3, gtb_good h3⟩
        · cases hw
  · exact gGood h5 w hw
theorem hd_yX4_isGiven : yX4_isGiven.cls ≠ "java/lang/invoke/MethodHandle" ∧ yX4_isGiven.cls ≠ "java/lang/invoke/VarHandle" ∧ (parseMethodDescriptor yX4_isGiven.desc).map (fun d => d.parameters.length) = some 1 := by decide +kernel
theorem wd_892 : (Cond.methodLink "WebCourt$Law" (62 : Nat) ⟨"WebCourt$Law", "joined", "(III)I"⟩) ∈ gtb := gtb_c4 63 (by decide +kernel) rfl
theorem wd_893 : (Cond.static ⟨"WebCourt$Law", "joined", "(III)I"⟩) ∈ gtb := gtb_c4 64 (by decide +kernel) rfl
theorem hd_yX4_joined : yX4_joined.cls ≠ "java/lang/invoke/MethodHandle" ∧ yX4_joined.cls ≠ "java/lang/invoke/VarHandle" ∧ (parseMethodDescriptor yX4_joined.desc).map (fun d => d.parameters.length) = some 3 := by decide +kernel
theorem wd_879 : (Cond.methodLink "WebCourt$Law" (46 : Nat) ⟨"WebCourt$Law", "push", "(I)V"⟩) ∈ gtb := gtb_c4 50 (by decide +kernel) rfl
theorem wd_881 : (Cond.instanceMethod ⟨"WebCourt$Law", "push", "(I)V"⟩) ∈ gtb := gtb_c4 52 (by decide +kernel) rfl
theorem wd_27 : (Cond.selects "WebCourt$Law" ⟨"WebCourt$Law", "push", "(I)V"⟩ ⟨"WebCourt$Law", "push", "(I)V"⟩) ∈ gtb := gtb_p 27 (by decide +kernel) rfl
theorem hd_yX4_push : yX4_push.cls = RX4 ∧ yX4_push.cls ≠ "java/lang/invoke/MethodHandle" ∧ yX4_push.cls ≠ "java/lang/invoke/VarHandle" ∧ (parseMethodDescriptor yX4_push.desc).map (fun d => d.parameters.length) = some 1 := by decide +kernel
theorem wd_884 : (Cond.methodLink "WebCourt$Law" (54 : Nat) ⟨"WebCourt$Law", "given", "(I)I"⟩) ∈ gtb := gtb_c4 55 (by decide +kernel) rfl
theorem wd_886 : (Cond.instanceMethod ⟨"WebCourt$Law", "given", "(I)I"⟩) ∈ gtb := gtb_c4 57 (by decide +kernel) rfl
theorem wd_28 : (Cond.selects "WebCourt$Law" ⟨"WebCourt$Law", "given", "(I)I"⟩ ⟨"WebCourt$Law", "given", "(I)I"⟩) ∈ gtb := gtb_p 28 (by decide +kernel) rfl
theorem hd_yX4_given : yX4_given.cls = RX4 ∧ yX4_given.cls ≠ "java/lang/invoke/MethodHandle" ∧ yX4_given.cls ≠ "java/lang/invoke/VarHandle" ∧ (parseMethodDescriptor yX4_given.desc).map (fun d => d.parameters.length) = some 1 := by decide +kernel
set_option maxHeartbeats 4000000 in
set_option maxRecDepth 100000 in
theorem T_X4_value (l : Launch) (D : va_G) (cy : Nat → ClassId) (a : Nat → Nat) (u : St) (hJ : CI a u) (x1 : Int32) (x2 : Int32) (x3 : Int32) (x4 : Int32) (x5 : Int32) (x6 : Int32)  : Mi l D cy (cW cy a) yX4_value (.code yX4_value cX4_value 11 (some .int)) (rmo 1 22) [.ref (a 12), .int x1, .int x2, .int x3, .int x4, .int x5, .int x6] u (fun (r : Int32) (u' : St) => (CI a u') ∧ (KT u u')) := by
  refine Mi.of (own := RX4) rfl (by decide) (Nat.le_of_ble_eq_true rfl) ?_
  have hT : KT u u := KT.rf
  intro p e s m below meth c A Q ls C hret hO hl
  obtain ⟨hx, hb, hml, hown, ht, hK, hA⟩ := id C
  have hl : lv_has ls 11 [(0, .ref (a 12)), (1, .int x1), (2, .int x2), (3, .int x3), (4, .int x4), (5, .int x5), (6, .int x6)] := hl
  refine lv_aload_n hx hb dX4_value_0 rfl (lv_at hl 0 rfl) ?_
  have g1 : 0 ≤ (fI u 12 2).toInt ∧ (fI u 12 2).toInt ≤ 300 := by have h := CI_12_2 hJ; exact h
  refine gf_RX4_18 (v := .int (fI u 12 2)) C hO 12 cW_12 rfl dX4_value_1 ?_
  refine bs_ne (tgt := 15) (X := ((fI u 12 2)).toInt) hx hb dX4_value_4 (by decide) rfl (fun c2 => ?_) (fun c2 => ?_)
  · refine lv_aload_n hx hb dX4_value_15 rfl (lv_at hl 0 rfl) ?_
    refine lv_iload_n hx hb dX4_value_16 rfl (lv_at hl 1 rfl) ?_
    refine pf_RX4_25 C hO 12 cW_12 (Nat.le_of_ble_eq_true rfl) cW_s12_5 dX4_value_17 (fun H locs hO => ?_)
    have hJ := CIs_12_5 (v := x1) hJ
    refine lv_aload_n hx hb dX4_value_20 rfl (lv_at hl 0 rfl) ?_
    refine lv_iload_n hx hb dX4_value_21 rfl (lv_at hl 2 rfl) ?_
    refine pf_RX4_28 C hO 12 cW_12 (Nat.le_of_ble_eq_true rfl) cW_s12_6 dX4_value_22 (fun H locs hO => ?_)
    have hJ := CIs_12_6 (v := x2) hJ
    refine lv_aload_n hx hb dX4_value_25 rfl (lv_at hl 0 rfl) ?_
    refine lv_iload_n hx hb dX4_value_26 rfl (lv_at hl 3 rfl) ?_
    refine pf_RX4_31 C hO 12 cW_12 (Nat.le_of_ble_eq_true rfl) cW_s12_7 dX4_value_27 (fun H locs hO => ?_)
    have hJ := CIs_12_7 (v := x3) hJ
    refine lv_aload_n hx hb dX4_value_30 rfl (lv_at hl 0 rfl) ?_
    refine lv_iload hx hb dX4_value_31 (lv_at hl 4 rfl) ?_
    refine pf_RX4_34 C hO 12 cW_12 (Nat.le_of_ble_eq_true rfl) cW_s12_8 dX4_value_33 (fun H locs hO => ?_)
    have hJ := CIs_12_8 (v := x4) hJ
    refine lv_aload_n hx hb dX4_value_36 rfl (lv_at hl 0 rfl) ?_
    refine lv_iload hx hb dX4_value_37 (lv_at hl 5 rfl) ?_
    refine pf_RX4_37 C hO 12 cW_12 (Nat.le_of_ble_eq_true rfl) cW_s12_9 dX4_value_39 (fun H locs hO => ?_)
    have hJ := CIs_12_9 (v := x5) hJ
    refine lv_aload_n hx hb dX4_value_42 rfl (lv_at hl 0 rfl) ?_
    refine lv_iload hx hb dX4_value_43 (lv_at hl 6 rfl) ?_
    refine pf_RX4_40 C hO 12 cW_12 (Nat.le_of_ble_eq_true rfl) cW_s12_10 dX4_value_45 (fun H locs hO => ?_)
    have hJ := CIs_12_10 (v := x6) hJ
    refine lv_aload_n hx hb dX4_value_48 rfl (lv_at hl 0 rfl) ?_
    refine lv_iconst (v := 0) hx hb dX4_value_49 (by decide) ?_
    refine pf_RX4_43 C hO 12 cW_12 (Nat.le_of_ble_eq_true rfl) cW_s12_3 dX4_value_50 (fun H locs hO => ?_)
    have hJ := CIs_12_3 (v := 0) hJ (by first | decide | omega)
    refine lv_iconst (v := 0) hx hb dX4_value_53 (by decide) ?_
    refine lv_istore (lv' := [(7, .int 0), (0, .ref (a 12)), (1, .int x1), (2, .int x2), (3, .int x3), (4, .int x4), (5, .int x5), (6, .int x6)]) hx hb dX4_value_54 hl (by decide) rfl (fun ls hl => ?_)
    have LP_56_k4 : ∀ (n : Nat) (u3 : St) (H : Heap) (locs : List Loc) (ls : Array Slot) (i_k4 : Int32), Wo D A (cW cy a u3) s.heap H locs → lv_has ls 11 [(7, .int i_k4), (0, .ref (a 12)), (1, .int x1), (2, .int x2), (3, .int x3), (4, .int x4), (5, .int x5), (6, .int x6)] → CI a u3 → KT u u3 → 0 ≤ i_k4.toInt ∧ i_k4.toInt ≤ 300 → 300 - i_k4.toInt < (n : Int) → W p l e (rmo 1 22) s m [.ref (a 12), .int x1, .int x2, .int x3, .int x4, .int x5, .int x6].toArray below meth c H locs 0 0 Q (F0 m 56 ls []) := by
      intro n
      induction n with
      | zero =>
        intro u3 H locs ls i_k4 hO hl hJ hT iv0_k4 hm_k4
        exact absurd hm_k4 (by omega)
      | succ n ih_k4 =>
        intro u3 H locs ls i_k4 hO hl hJ hT iv0_k4 hm_k4
        refine lv_iload hx hb dX4_value_56 (lv_at hl 0 rfl) ?_
        refine lv_aload_n hx hb dX4_value_58 rfl (lv_at hl 1 rfl) ?_
        have g5 : 0 ≤ (fI u3 12 2).toInt ∧ (fI u3 12 2).toInt ≤ 300 := by have h := CI_12_2 hJ; exact h
        refine gf_RX4_18 (v := .int (fI u3 12 2)) C hO 12 cW_12 rfl dX4_value_59 ?_
        refine cs_ge (tgt := 169) (X := (i_k4).toInt) (Y := ((fI u3 12 2)).toInt) hx hb dX4_value_62 (by decide) rfl rfl (fun c6 => ?_) (fun c6 => ?_)
        · refine lv_aload_n hx hb dX4_value_169 rfl (lv_at hl 1 rfl) ?_
          refine cVi (w := cW cy a) (As := []) (rest := []) C hO (T_X4_pop l D cy a _ (by exact hJ)) (cwV 0 ht (gV wd_888 wd_890 wd_29 wd_113 wd_891) rfl rfl rfl hd_yX4_pop ⟨Nat.le_of_ble_eq_true rfl, Nat.le_of_ble_eq_true rfl⟩) 12 rfl cW_12 rfl rfl hl.1 (Nat.le_of_ble_eq_true rfl) dX4_value_170 rfl ⟨Nat.zero_le _, Nat.zero_le _⟩ (fun r7 u8 H locs hp9 hO => ?_)
          obtain ⟨hJ, hTu8⟩ := hp9
          have hT : KT u u8 := KT.tr (by exact hT) hTu8
          refine hret _ _ _ _ _ _ dX4_value_173 rfl ?_ hO
          exact ⟨hJ, hT⟩
        · refine lv_aload_n hx hb dX4_value_65 rfl (lv_at hl 1 rfl) ?_
          refine gf_RX4_11 (v := .ref (a 13)) C hO 12 cW_12 rfl dX4_value_66 ?_
          refine lv_iload hx hb dX4_value_69 (lv_at hl 0 rfl) ?_
          refine aI C hO 13 cW_13 (i_in (X := (i_k4).toInt) rfl (by omega) (by omega)) dX4_value_71 ?_
          refine lv_topi (fun w10 ew10 => ?_)
          refine lv_istore (lv' := [(8, .int w10), (7, .int i_k4), (0, .ref (a 12)), (1, .int x1), (2, .int x2), (3, .int x3), (4, .int x4), (5, .int x5), (6, .int x6)]) hx hb dX4_value_72 hl (by decide) rfl (fun ls hl => ?_)
          refine lv_iload hx hb dX4_value_74 (lv_at hl 0 rfl) ?_
          refine bs_lt (tgt := 88) (X := (w10).toInt) hx hb dX4_value_76 (by decide) rfl (fun c11 => ?_) (fun c11 => ?_)
          · refine lv_iload hx hb dX4_value_88 (lv_at hl 0 rfl) ?_
            refine lv_ineg hx hb dX4_value_90 ?_
            refine lv_topi (fun z12 ez12 => ?_)
            refine cSi (w := cW cy a) (As := [.int z12]) (rest := []) C hO (T_X4_isGiven l D cy a _ (by exact hJ) (z12)) (va_cwS 1 ht (gSS wd_883 wd_780 wd_113 wd_781) rfl rfl rfl hd_yX4_isGiven ⟨Nat.le_of_ble_eq_true rfl, Nat.le_of_ble_eq_true rfl⟩)  rfl hl.1 (Nat.le_of_ble_eq_true rfl) dX4_value_91 rfl ⟨Nat.zero_le _, Nat.zero_le _⟩ (fun r13 u14 H locs hp15 hO => ?_)
            obtain ⟨hr13, hu14⟩ := hp15
            have gr13 : 0 ≤ r13.toInt ∧ r13.toInt ≤ 1 := by rcases hr13 with h | h <;> rw [h] <;> decide
            rw [hu14] at hO
            refine bs_eq (tgt := 111) (X := (r13).toInt) hx hb dX4_value_94 (by decide) rfl (fun c16 => ?_) (fun c16 => ?_)
            · refine lv_iload hx hb dX4_value_111 (lv_at hl 0 rfl) ?_
              refine lv_bipush (v := (-15)) hx hb dX4_value_113 (by decide) ?_
              refine cs_ne (tgt := 137) (X := (w10).toInt) (Y := (-15)) hx hb dX4_value_115 (by decide) rfl rfl (fun c17 => ?_) (fun c17 => ?_)
              · refine lv_aload_n hx hb dX4_value_137 rfl (lv_at hl 2 rfl) ?_
                refine cVi (w := cW cy a) (As := []) (rest := []) C hO (T_X4_pop l D cy a _ (by exact hJ)) (cwV 0 ht (gV wd_888 wd_890 wd_29 wd_113 wd_891) rfl rfl rfl hd_yX4_pop ⟨Nat.le_of_ble_eq_true rfl, Nat.le_of_ble_eq_true rfl⟩) 12 rfl cW_12 rfl rfl hl.1 (Nat.le_of_ble_eq_true rfl) dX4_value_138 rfl ⟨Nat.zero_le _, Nat.zero_le _⟩ (fun r18 u19 H locs hp20 hO => ?_)
                obtain ⟨hJ, hTu19⟩ := hp20
                have hT : KT u u19 := KT.tr (by exact hT) hTu19
                refine lv_istore (lv' := [(9, .int r18), (8, .int w10), (7, .int i_k4), (0, .ref (a 12)), (1, .int x1), (2, .int x2), (3, .int x3), (4, .int x4), (5, .int x5), (6, .int x6)]) hx hb dX4_value_141 hl (by decide) rfl (fun ls hl => ?_)
                refine lv_aload_n hx hb dX4_value_143 rfl (lv_at hl 3 rfl) ?_
                refine cVi (w := cW cy a) (As := []) (rest := []) C hO (T_X4_pop l D cy a _ (by exact hJ)) (cwV 0 ht (gV wd_888 wd_890 wd_29 wd_113 wd_891) rfl rfl rfl hd_yX4_pop ⟨Nat.le_of_ble_eq_true rfl, Nat.le_of_ble_eq_true rfl⟩) 12 rfl cW_12 rfl rfl hl.1 (Nat.le_of_ble_eq_true rfl) dX4_value_144 rfl ⟨Nat.zero_le _, Nat.zero_le _⟩ (fun r21 u22 H locs hp23 hO => ?_)
                obtain ⟨hJ, hTu22⟩ := hp23
                have hT : KT u u22 := KT.tr (by exact hT) hTu22
                refine lv_istore (lv' := [(10, .int r21), (9, .int r18), (8, .int w10), (7, .int i_k4), (0, .ref (a 12)), (1, .int x1), (2, .int x2), (3, .int x3), (4, .int x4), (5, .int x5), (6, .int x6)]) hx hb dX4_value_147 hl (by decide) rfl (fun ls hl => ?_)
                refine lv_aload_n hx hb dX4_value_149 rfl (lv_at hl 4 rfl) ?_
                refine lv_iload hx hb dX4_value_150 (lv_at hl 0 rfl) ?_
                refine lv_iload hx hb dX4_value_152 (lv_at hl 2 rfl) ?_
                refine lv_ineg hx hb dX4_value_154 ?_
                refine lv_topi (fun z24 ez24 => ?_)
                refine lv_iload hx hb dX4_value_155 (lv_at hl 1 rfl) ?_
                refine cSi (w := cW cy a) (As := [.int r21, .int z24, .int r18]) (rest := [.ref (a 12)]) C hO (T_X4_joined l D cy a _ (by exact hJ) (r21) (z24) (r18)) (va_cwS 3 ht (gSS wd_892 wd_893 wd_113 wd_894) rfl rfl rfl hd_yX4_joined ⟨Nat.le_of_ble_eq_true rfl, Nat.le_of_ble_eq_true rfl⟩)  rfl hl.1 (Nat.le_of_ble_eq_true rfl) dX4_value_157 rfl ⟨Nat.zero_le _, Nat.zero_le _⟩ (fun r25 u26 H locs hp27 hO => ?_)
                have hu26 := hp27
                rw [hu26] at hO
                refine cVv (w := cW cy a) (As := [.int r25]) (rest := []) C hO (T_X4_push l D cy a _ (by exact hJ) (r25)) (cwV 1 ht (gV wd_879 wd_881 wd_27 wd_113 wd_882) rfl rfl rfl hd_yX4_push ⟨Nat.le_of_ble_eq_true rfl, Nat.le_of_ble_eq_true rfl⟩) 12 rfl cW_12 rfl rfl hl.1 (Nat.le_of_ble_eq_true rfl) dX4_value_160 rfl ⟨Nat.zero_le _, Nat.zero_le _⟩ (fun u29 H locs hp30 hO => ?_)
                obtain ⟨hJ, hTu29⟩ := hp30
                have hT : KT u u29 := KT.tr (by exact hT) hTu29
                have e31 : ((i_k4 + 1)).toInt = (i_k4).toInt + 1 := i_add rfl rfl (by omega)
                refine lv_iinc (v := (i_k4 + 1)) (lv' := [(7, .int (i_k4 + 1)), (10, .int r21), (9, .int r18), (8, .int w10), (0, .ref (a 12)), (1, .int x1), (2, .int x2), (3, .int x3), (4, .int x4), (5, .int x5), (6, .int x6)]) hx hb dX4_value_163 hl (k := 3) rfl rfl (by decide) rfl (fun ls hl => ?_)
                refine lv_goto (tgt := 56) hx hb dX4_value_166 (by decide) ?_
                exact ih_k4 _ _ _ _ ((i_k4 + 1)) hO (lv_sub hl [0, 4, 5, 6, 7, 8, 9, 10] rfl) (by exact hJ) (by exact hT) (by first | decide | omega) (by first | decide | omega)
              · refine lv_aload_n hx hb dX4_value_118 rfl (lv_at hl 2 rfl) ?_
                refine lv_aload_n hx hb dX4_value_119 rfl (lv_at hl 2 rfl) ?_
                refine cVi (w := cW cy a) (As := []) (rest := [.ref (a 12)]) C hO (T_X4_pop l D cy a _ (by exact hJ)) (cwV 0 ht (gV wd_888 wd_890 wd_29 wd_113 wd_891) rfl rfl rfl hd_yX4_pop ⟨Nat.le_of_ble_eq_true rfl, Nat.le_of_ble_eq_true rfl⟩) 12 rfl cW_12 rfl rfl hl.1 (Nat.le_of_ble_eq_true rfl) dX4_value_120 rfl ⟨Nat.zero_le _, Nat.zero_le _⟩ (fun r32 u33 H locs hp34 hO => ?_)
                obtain ⟨hJ, hTu33⟩ := hp34
                have hT : KT u u33 := KT.tr (by exact hT) hTu33
                refine bs_ne (tgt := 130) (X := (r32).toInt) hx hb dX4_value_123 (by decide) rfl (fun c35 => ?_) (fun c35 => ?_)
                · refine lv_iconst (v := 0) hx hb dX4_value_130 (by decide) ?_
                  refine cVv (w := cW cy a) (As := [.int 0]) (rest := []) C hO (T_X4_push l D cy a _ (by exact hJ) (0)) (cwV 1 ht (gV wd_879 wd_881 wd_27 wd_113 wd_882) rfl rfl rfl hd_yX4_push ⟨Nat.le_of_ble_eq_true rfl, Nat.le_of_ble_eq_true rfl⟩) 12 rfl cW_12 rfl rfl hl.1 (Nat.le_of_ble_eq_true rfl) dX4_value_131 rfl ⟨Nat.zero_le _, Nat.zero_le _⟩ (fun u37 H locs hp38 hO => ?_)
                  obtain ⟨hJ, hTu37⟩ := hp38
                  have hT : KT u u37 := KT.tr (by exact hT) hTu37
                  refine lv_goto (tgt := 163) hx hb dX4_value_134 (by decide) ?_
                  have e39 : ((i_k4 + 1)).toInt = (i_k4).toInt + 1 := i_add rfl rfl (by omega)
                  refine lv_iinc (v := (i_k4 + 1)) (lv' := [(7, .int (i_k4 + 1)), (8, .int w10), (0, .ref (a 12)), (1, .int x1), (2, .int x2), (3, .int x3), (4, .int x4), (5, .int x5), (6, .int x6)]) hx hb dX4_value_163 hl (k := 1) rfl rfl (by decide) rfl (fun ls hl => ?_)
                  refine lv_goto (tgt := 56) hx hb dX4_value_166 (by decide) ?_
                  exact ih_k4 _ _ _ _ ((i_k4 + 1)) hO (lv_sub hl [0, 2, 3, 4, 5, 6, 7, 8] rfl) (by exact hJ) (by exact hT) (by first | decide | omega) (by first | decide | omega)
                · refine lv_iconst (v := 1) hx hb dX4_value_126 (by decide) ?_
                  refine lv_goto (tgt := 131) hx hb dX4_value_127 (by decide) ?_
                  refine cVv (w := cW cy a) (As := [.int 1]) (rest := []) C hO (T_X4_push l D cy a _ (by exact hJ) (1)) (cwV 1 ht (gV wd_879 wd_881 wd_27 wd_113 wd_882) rfl rfl rfl hd_yX4_push ⟨Nat.le_of_ble_eq_true rfl, Nat.le_of_ble_eq_true rfl⟩) 12 rfl cW_12 rfl rfl hl.1 (Nat.le_of_ble_eq_true rfl) dX4_value_131 rfl ⟨Nat.zero_le _, Nat.zero_le _⟩ (fun u41 H locs hp42 hO => ?_)
                  obtain ⟨hJ, hTu41⟩ := hp42
                  have hT : KT u u41 := KT.tr (by exact hT) hTu41
                  refine lv_goto (tgt := 163) hx hb dX4_value_134 (by decide) ?_
                  have e43 : ((i_k4 + 1)).toInt = (i_k4).toInt + 1 := i_add rfl rfl (by omega)
                  refine lv_iinc (v := (i_k4 + 1)) (lv' := [(7, .int (i_k4 + 1)), (8, .int w10), (0, .ref (a 12)), (1, .int x1), (2, .int x2), (3, .int x3), (4, .int x4), (5, .int x5), (6, .int x6)]) hx hb dX4_value_163 hl (k := 1) rfl rfl (by decide) rfl (fun ls hl => ?_)
                  refine lv_goto (tgt := 56) hx hb dX4_value_166 (by decide) ?_
                  exact ih_k4 _ _ _ _ ((i_k4 + 1)) hO (lv_sub hl [0, 2, 3, 4, 5, 6, 7, 8] rfl) (by exact hJ) (by exact hT) (by first | decide | omega) (by first | decide | omega)
            · refine lv_aload_n hx hb dX4_value_97 rfl (lv_at hl 2 rfl) ?_
              refine lv_aload_n hx hb dX4_value_98 rfl (lv_at hl 2 rfl) ?_
              refine lv_iload hx hb dX4_value_99 (lv_at hl 0 rfl) ?_
              refine lv_ineg hx hb dX4_value_101 ?_
              refine lv_topi (fun z44 ez44 => ?_)
              refine cVi (w := cW cy a) (As := [.int z44]) (rest := [.ref (a 12)]) C hO (T_X4_given l D cy a _ (by exact hJ) (z44)) (cwV 1 ht (gV wd_884 wd_886 wd_28 wd_113 wd_887) rfl rfl rfl hd_yX4_given ⟨Nat.le_of_ble_eq_true rfl, Nat.le_of_ble_eq_true rfl⟩) 12 rfl cW_12 rfl rfl hl.1 (Nat.le_of_ble_eq_true rfl) dX4_value_102 rfl ⟨Nat.zero_le _, Nat.zero_le _⟩ (fun r45 u46 H locs hp47 hO => ?_)
              have hu46 := hp47
              rw [hu46] at hO
              refine cVv (w := cW cy a) (As := [.int r45]) (rest := []) C hO (T_X4_push l D cy a _ (by exact hJ) (r45)) (cwV 1 ht (gV wd_879 wd_881 wd_27 wd_113 wd_882) rfl rfl rfl hd_yX4_push ⟨Nat.le_of_ble_eq_true rfl, Nat.le_of_ble_eq_true rfl⟩) 12 rfl cW_12 rfl rfl hl.1 (Nat.le_of_ble_eq_true rfl) dX4_value_105 rfl ⟨Nat.zero_le _, Nat.zero_le _⟩ (fun u49 H locs hp50 hO => ?_)
              obtain ⟨hJ, hTu49⟩ := hp50
              have hT : KT u u49 := KT.tr (by exact hT) hTu49
              refine lv_goto (tgt := 163) hx hb dX4_value_108 (by decide) ?_
              have e51 : ((i_k4 + 1)).toInt = (i_k4).toInt + 1 := i_add rfl rfl (by omega)
              refine lv_iinc (v := (i_k4 + 1)) (lv' := [(7, .int (i_k4 + 1)), (8, .int w10), (0, .ref (a 12)), (1, .int x1), (2, .int x2), (3, .int x3), (4, .int x4), (5, .int x5), (6, .int x6)]) hx hb dX4_value_163 hl (k := 1) rfl rfl (by decide) rfl (fun ls hl => ?_)
              refine lv_goto (tgt := 56) hx hb dX4_value_166 (by decide) ?_
              exact ih_k4 _ _ _ _ ((i_k4 + 1)) hO (lv_sub hl [0, 2, 3, 4, 5, 6, 7, 8] rfl) (by exact hJ) (by exact hT) (by first | decide | omega) (by first | decide | omega)
          · refine lv_aload_n hx hb dX4_value_79 rfl (lv_at hl 2 rfl) ?_
            refine lv_iload hx hb dX4_value_80 (lv_at hl 0 rfl) ?_
            refine cVv (w := cW cy a) (As := [.int w10]) (rest := []) C hO (T_X4_push l D cy a _ (by exact hJ) (w10)) (cwV 1 ht (gV wd_879 wd_881 wd_27 wd_113 wd_882) rfl rfl rfl hd_yX4_push ⟨Nat.le_of_ble_eq_true rfl, Nat.le_of_ble_eq_true rfl⟩) 12 rfl cW_12 rfl rfl hl.1 (Nat.le_of_ble_eq_true rfl) dX4_value_82 rfl ⟨Nat.zero_le _, Nat.zero_le _⟩ (fun u53 H locs hp54 hO => ?_)
            obtain ⟨hJ, hTu53⟩ := hp54
            have hT : KT u u53 := KT.tr (by exact hT) hTu53
            refine lv_goto (tgt := 163) hx hb dX4_value_85 (by decide) ?_
            have e55 : ((i_k4 + 1)).toInt = (i_k4).toInt + 1 := i_add rfl rfl (by omega)
            refine lv_iinc (v := (i_k4 + 1)) (lv' := [(7, .int (i_k4 + 1)), (8, .int w10), (0, .ref (a 12)), (1, .int x1), (2, .int x2), (3, .int x3), (4, .int x4), (5, .int x5), (6, .int x6)]) hx hb dX4_value_163 hl (k := 1) rfl rfl (by decide) rfl (fun ls hl => ?_)
            refine lv_goto (tgt := 56) hx hb dX4_value_166 (by decide) ?_
            exact ih_k4 _ _ _ _ ((i_k4 + 1)) hO (lv_sub hl [0, 2, 3, 4, 5, 6, 7, 8] rfl) (by exact hJ) (by exact hT) (by first | decide | omega) (by first | decide | omega)
    exact LP_56_k4 4000 _ _ _ _ (0) hO (lv_sub hl [0, 1, 2, 3, 4, 5, 6, 7] rfl) (by exact hJ) (by exact hT) (by first | decide | omega) (by first | decide | omega)
  · refine lv_iload_n hx hb dX4_value_7 rfl (lv_at hl 1 rfl) ?_
    refine lv_iconst (v := 5) hx hb dX4_value_8 (by decide) ?_
    refine lv_isub hx hb dX4_value_9 ?_
    refine lv_iload_n hx hb dX4_value_10 rfl (lv_at hl 3 rfl) ?_
    refine lv_iconst (v := 2) hx hb dX4_value_11 (by decide) ?_
    refine lv_imul hx hb dX4_value_12 ?_
    refine lv_isub hx hb dX4_value_13 ?_
    refine hret _ _ _ _ _ _ dX4_value_14 rfl ?_ hO
    exact ⟨hJ, hT⟩
theorem dJ6_bitCount_0f7a4_0 : decode cJ6_bitCount_0f7a4 0 = .ok (.iload_n 0, 1) := by decide +kernel
theorem dJ6_bitCount_0f7a4_1 : decode cJ6_bitCount_0f7a4 1 = .ok (.iload_n 0, 1) := by decide +kernel
theorem dJ6_bitCount_0f7a4_2 : decode cJ6_bitCount_0f7a4 2 = .ok (.iconst 1, 1) := by decide +kernel
theorem dJ6_bitCount_0f7a4_3 : decode cJ6_bitCount_0f7a4 3 = .ok (.iushr, 1) := by decide +kernel
theorem dJ6_bitCount_0f7a4_4 : decode cJ6_bitCount_0f7a4 4 = .ok (.ldc_w 265, 3) := by decide +kernel
theorem dJ6_bitCount_0f7a4_7 : decode cJ6_bitCount_0f7a4 7 = .ok (.iand, 1) := by decide +kernel
theorem dJ6_bitCount_0f7a4_8 : decode cJ6_bitCount_0f7a4 8 = .ok (.isub, 1) := by decide +kernel
theorem dJ6_bitCount_0f7a4_9 : decode cJ6_bitCount_0f7a4 9 = .ok (.istore_n 0, 1) := by decide +kernel
theorem dJ6_bitCount_0f7a4_10 : decode cJ6_bitCount_0f7a4 10 = .ok (.iload_n 0, 1) := by decide +kernel
theorem dJ6_bitCount_0f7a4_11 : decode cJ6_bitCount_0f7a4 11 = .ok (.ldc_w 266, 3) := by decide +kernel
theorem dJ6_bitCount_0f7a4_14 : decode cJ6_bitCount_0f7a4 14 = .ok (.iand, 1) := by decide +kernel
theorem dJ6_bitCount_0f7a4_15 : decode cJ6_bitCount_0f7a4 15 = .ok (.iload_n 0, 1) := by decide +kernel
theorem dJ6_bitCount_0f7a4_16 : decode cJ6_bitCount_0f7a4 16 = .ok (.iconst 2, 1) := by decide +kernel
theorem dJ6_bitCount_0f7a4_17 : decode cJ6_bitCount_0f7a4 17 = .ok (.iushr, 1) := by decide +kernel
theorem dJ6_bitCount_0f7a4_18 : decode cJ6_bitCount_0f7a4 18 = .ok (.ldc_w 266, 3) := by decide +kernel
theorem dJ6_bitCount_0f7a4_21 : decode cJ6_bitCount_0f7a4 21 = .ok (.iand, 1) := by decide +kernel
theorem dJ6_bitCount_0f7a4_22 : decode cJ6_bitCount_0f7a4 22 = .ok (.iadd, 1) := by decide +kernel
theorem dJ6_bitCount_0f7a4_23 : decode cJ6_bitCount_0f7a4 23 = .ok (.istore_n 0, 1) := by decide +kernel
theorem dJ6_bitCount_0f7a4_24 : decode cJ6_bitCount_0f7a4 24 = .ok (.iload_n 0, 1) := by decide +kernel
theorem dJ6_bitCount_0f7a4_25 : decode cJ6_bitCount_0f7a4 25 = .ok (.iload_n 0, 1) := by decide +kernel
theorem dJ6_bitCount_0f7a4_26 : decode cJ6_bitCount_0f7a4 26 = .ok (.iconst 4, 1) := by decide +kernel
theorem dJ6_bitCount_0f7a4_27 : decode cJ6_bitCount_0f7a4 27 = .ok (.iushr, 1) := by decide +kernel
theorem dJ6_bitCount_0f7a4_28 : decode cJ6_bitCount_0f7a4 28 = .ok (.iadd, 1) := by decide +kernel
theorem dJ6_bitCount_0f7a4_29 : decode cJ6_bitCount_0f7a4 29 = .ok (.ldc_w 267, 3) := by decide +kernel
theorem dJ6_bitCount_0f7a4_32 : decode cJ6_bitCount_0f7a4 32 = .ok (.iand, 1) := by decide +kernel
theorem dJ6_bitCount_0f7a4_33 : decode cJ6_bitCount_0f7a4 33 = .ok (.istore_n 0, 1) := by decide +kernel
theorem dJ6_bitCount_0f7a4_34 : decode cJ6_bitCount_0f7a4 34 = .ok (.iload_n 0, 1) := by decide +kernel
theorem dJ6_bitCount_0f7a4_35 : decode cJ6_bitCount_0f7a4 35 = .ok (.iload_n 0, 1) := by decide +kernel
theorem dJ6_bitCount_0f7a4_36 : decode cJ6_bitCount_0f7a4 36 = .ok (.bipush 8, 2) := by decide +kernel
theorem dJ6_bitCount_0f7a4_38 : decode cJ6_bitCount_0f7a4 38 = .ok (.iushr, 1) := by decide +kernel
theorem dJ6_bitCount_0f7a4_39 : decode cJ6_bitCount_0f7a4 39 = .ok (.iadd, 1) := by decide +kernel
theorem dJ6_bitCount_0f7a4_40 : decode cJ6_bitCount_0f7a4 40 = .ok (.istore_n 0, 1) := by decide +kernel
theorem dJ6_bitCount_0f7a4_41 : decode cJ6_bitCount_0f7a4 41 = .ok (.iload_n 0, 1) := by decide +kernel
theorem dJ6_bitCount_0f7a4_42 : decode cJ6_bitCount_0f7a4 42 = .ok (.iload_n 0, 1) := by decide +kernel
theorem dJ6_bitCount_0f7a4_43 : decode cJ6_bitCount_0f7a4 43 = .ok (.bipush 16, 2) := by decide +kernel
theorem dJ6_bitCount_0f7a4_45 : decode cJ6_bitCount_0f7a4 45 = .ok (.iushr, 1) := by decide +kernel
theorem dJ6_bitCount_0f7a4_46 : decode cJ6_bitCount_0f7a4 46 = .ok (.iadd, 1) := by decide +kernel
theorem dJ6_bitCount_0f7a4_47 : decode cJ6_bitCount_0f7a4 47 = .ok (.istore_n 0, 1) := by decide +kernel
theorem dJ6_bitCount_0f7a4_48 : decode cJ6_bitCount_0f7a4 48 = .ok (.iload_n 0, 1) := by decide +kernel
theorem dJ6_bitCount_0f7a4_49 : decode cJ6_bitCount_0f7a4 49 = .ok (.bipush 63, 2) := by decide +kernel
theorem dJ6_bitCount_0f7a4_51 : decode cJ6_bitCount_0f7a4 51 = .ok (.iand, 1) := by decide +kernel
theorem dJ6_bitCount_0f7a4_52 : decode cJ6_bitCount_0f7a4 52 = .ok (.ireturn, 1) := by decide +kernel
theorem wd_871 : (Cond.code ⟨"java/lang/Integer", "bitCount", "(I)I"⟩ prog_15_method_49_code (1 : Nat) (Option.some FieldType.int)) ∈ gtb := gtb_c4 42 (by decide +kernel) rfl
theorem wd_872 : (Cond.constant "java/lang/Integer" (265 : Nat) (1431655765 : Int32)) ∈ gtb := gtb_c4 43 (by decide +kernel) rfl
theorem wd_873 : (Cond.constant "java/lang/Integer" (266 : Nat) (858993459 : Int32)) ∈ gtb := gtb_c4 44 (by decide +kernel) rfl
theorem wd_874 : (Cond.constant "java/lang/Integer" (267 : Nat) (252645135 : Int32)) ∈ gtb := gtb_c4 45 (by decide +kernel) rfl
set_option maxHeartbeats 4000000 in
set_option maxRecDepth 100000 in
theorem T_J6_bitCount_0f7a4 (l : Launch) (D : va_G) (cy : Nat → ClassId) (a : Nat → Nat) (u : St) (hJ : CI a u) (x1 : Int32)  : Mi l D cy (cW cy a) yJ6_bitCount_0f7a4 (.code yJ6_bitCount_0f7a4 cJ6_bitCount_0f7a4 1 (some .int)) (rmo 0 0) [.int x1] u (fun (r : Int32) (u' : St) => u' = u) := by
  refine Mi.of (own := RJ6) rfl (by decide) (Nat.le_of_ble_eq_true rfl) ?_
  have hT : KT u u := KT.rf
  intro p e s m below meth c A Q ls C hret hO hl
  obtain ⟨hx, hb, hml, hown, ht, hK, hA⟩ := id C
  have hl : lv_has ls 1 [(0, .int x1)] := hl
  refine lv_iload_n hx hb dJ6_bitCount_0f7a4_0 rfl (lv_at hl 0 rfl) ?_
  refine lv_iload_n hx hb dJ6_bitCount_0f7a4_1 rfl (lv_at hl 0 rfl) ?_
  refine lv_iconst (v := 1) hx hb dJ6_bitCount_0f7a4_2 (by decide) ?_
  refine lv_iushr hx hb dJ6_bitCount_0f7a4_3 rfl ?_
  refine lv_topi (fun z1 ez1 => ?_)
  refine lv_ldcw (v := 1431655765) hx hb hown (ht _ wd_872) dJ6_bitCount_0f7a4_4 ?_
  refine lv_iand hx hb dJ6_bitCount_0f7a4_7 ?_
  refine lv_topi (fun z2 ez2 => ?_)
  have g3 : 0 ≤ z2.toInt ∧ z2.toInt ≤ 1431655765 := by rw [ez2]; exact i_andr rfl (by omega)
  refine lv_isub hx hb dJ6_bitCount_0f7a4_8 ?_
  refine lv_istore_n (lv' := [(0, .int (x1 - z2))]) hx hb dJ6_bitCount_0f7a4_9 rfl hl (by decide) rfl (fun ls hl => ?_)
  refine lv_iload_n hx hb dJ6_bitCount_0f7a4_10 rfl (lv_at hl 0 rfl) ?_
  refine lv_ldcw (v := 858993459) hx hb hown (ht _ wd_873) dJ6_bitCount_0f7a4_11 ?_
  refine lv_iand hx hb dJ6_bitCount_0f7a4_14 ?_
  refine lv_topi (fun z4 ez4 => ?_)
  have g5 : 0 ≤ z4.toInt ∧ z4.toInt ≤ 858993459 := by rw [ez4]; exact i_andr rfl (by omega)
  refine lv_iload_n hx hb dJ6_bitCount_0f7a4_15 rfl (lv_at hl 0 rfl) ?_
  refine lv_iconst (v := 2) hx hb dJ6_bitCount_0f7a4_16 (by decide) ?_
  refine lv_iushr hx hb dJ6_bitCount_0f7a4_17 rfl ?_
  refine lv_topi (fun z6 ez6 => ?_)
  refine lv_ldcw (v := 858993459) hx hb hown (ht _ wd_873) dJ6_bitCount_0f7a4_18 ?_
  refine lv_iand hx hb dJ6_bitCount_0f7a4_21 ?_
  refine lv_topi (fun z7 ez7 => ?_)
  have g8 : 0 ≤ z7.toInt ∧ z7.toInt ≤ 858993459 := by rw [ez7]; exact i_andr rfl (by omega)
  have e9 : ((z4 + z7)).toInt = (z4).toInt + (z7).toInt := i_add rfl rfl (by omega)
  refine lv_iadd hx hb dJ6_bitCount_0f7a4_22 ?_
  refine lv_istore_n (lv' := [(0, .int (z4 + z7))]) hx hb dJ6_bitCount_0f7a4_23 rfl hl (by decide) rfl (fun ls hl => ?_)
  refine lv_iload_n hx hb dJ6_bitCount_0f7a4_24 rfl (lv_at hl 0 rfl) ?_
  refine lv_iload_n hx hb dJ6_bitCount_0f7a4_25 rfl (lv_at hl 0 rfl) ?_
  refine lv_iconst (v := 4) hx hb dJ6_bitCount_0f7a4_26 (by decide) ?_
  refine lv_iushr hx hb dJ6_bitCount_0f7a4_27 rfl ?_
  refine lv_topi (fun z10 ez10 => ?_)
  refine lv_iadd hx hb dJ6_bitCount_0f7a4_28 ?_
  refine lv_ldcw (v := 252645135) hx hb hown (ht _ wd_874) dJ6_bitCount_0f7a4_29 ?_
  refine lv_iand hx hb dJ6_bitCount_0f7a4_32 ?_
  refine lv_topi (fun z11 ez11 => ?_)
  have g12 : 0 ≤ z11.toInt ∧ z11.toInt ≤ 252645135 := by rw [ez11]; exact i_andr rfl (by omega)
  refine lv_istore_n (lv' := [(0, .int z11)]) hx hb dJ6_bitCount_0f7a4_33 rfl hl (by decide) rfl (fun ls hl => ?_)
  refine lv_iload_n hx hb dJ6_bitCount_0f7a4_34 rfl (lv_at hl 0 rfl) ?_
  refine lv_iload_n hx hb dJ6_bitCount_0f7a4_35 rfl (lv_at hl 0 rfl) ?_
  refine lv_bipush (v := 8) hx hb dJ6_bitCount_0f7a4_36 (by decide) ?_
  refine lv_iushr hx hb dJ6_bitCount_0f7a4_38 rfl ?_
  refine lv_topi (fun z13 ez13 => ?_)
  refine lv_iadd hx hb dJ6_bitCount_0f7a4_39 ?_
  refine lv_istore_n (lv' := [(0, .int (z11 + z13))]) hx hb dJ6_bitCount_0f7a4_40 rfl hl (by decide) rfl (fun ls hl => ?_)
  refine lv_iload_n hx hb dJ6_bitCount_0f7a4_41 rfl (lv_at hl 0 rfl) ?_
  refine lv_iload_n hx hb dJ6_bitCount_0f7a4_42 rfl (lv_at hl 0 rfl) ?_
  refine lv_bipush (v := 16) hx hb dJ6_bitCount_0f7a4_43 (by decide) ?_
  refine lv_iushr hx hb dJ6_bitCount_0f7a4_45 rfl ?_
  refine lv_topi (fun z14 ez14 => ?_)
  refine lv_iadd hx hb dJ6_bitCount_0f7a4_46 ?_
  refine lv_istore_n (lv' := [(0, .int ((z11 + z13) + z14))]) hx hb dJ6_bitCount_0f7a4_47 rfl hl (by decide) rfl (fun ls hl => ?_)
  refine lv_iload_n hx hb dJ6_bitCount_0f7a4_48 rfl (lv_at hl 0 rfl) ?_
  refine lv_bipush (v := 63) hx hb dJ6_bitCount_0f7a4_49 (by decide) ?_
  refine lv_iand hx hb dJ6_bitCount_0f7a4_51 ?_
  refine lv_topi (fun z15 ez15 => ?_)
  have g16 : 0 ≤ z15.toInt ∧ z15.toInt ≤ 63 := by rw [ez15]; exact i_andr rfl (by omega)
  refine hret _ _ _ _ _ _ dJ6_bitCount_0f7a4_52 rfl ?_ hO
  exact rfl
theorem dJ6_compare_7cf53_0 : decode cJ6_compare_7cf53 0 = .ok (.iload_n 0, 1) := by decide +kernel
theorem dJ6_compare_7cf53_1 : decode cJ6_compare_7cf53 1 = .ok (.iload_n 1, 1) := by decide +kernel
theorem dJ6_compare_7cf53_2 : decode cJ6_compare_7cf53 2 = .ok (.if_icmp .ge 7, 3) := by decide +kernel
theorem dJ6_compare_7cf53_5 : decode cJ6_compare_7cf53 5 = .ok (.iconst (-1), 1) := by decide +kernel
theorem dJ6_compare_7cf53_6 : decode cJ6_compare_7cf53 6 = .ok (.goto 13, 3) := by decide +kernel
theorem dJ6_compare_7cf53_9 : decode cJ6_compare_7cf53 9 = .ok (.iload_n 0, 1) := by decide +kernel
theorem dJ6_compare_7cf53_10 : decode cJ6_compare_7cf53 10 = .ok (.iload_n 1, 1) := by decide +kernel
theorem dJ6_compare_7cf53_11 : decode cJ6_compare_7cf53 11 = .ok (.if_icmp .ne 7, 3) := by decide +kernel
theorem dJ6_compare_7cf53_14 : decode cJ6_compare_7cf53 14 = .ok (.iconst 0, 1) := by decide +kernel
theorem dJ6_compare_7cf53_15 : decode cJ6_compare_7cf53 15 = .ok (.goto 4, 3) := by decide +kernel
theorem dJ6_compare_7cf53_18 : decode cJ6_compare_7cf53 18 = .ok (.iconst 1, 1) := by decide +kernel
theorem dJ6_compare_7cf53_19 : decode cJ6_compare_7cf53 19 = .ok (.ireturn, 1) := by decide +kernel
theorem wd_1099 : (Cond.code ⟨"java/lang/Integer", "compare", "(II)I"⟩ prog_15_method_40_code (2 : Nat) (Option.some FieldType.int)) ∈ gtb := gtb_c5 30 (by decide +kernel) rfl
set_option maxHeartbeats 4000000 in
set_option maxRecDepth 100000 in
theorem T_J6_compare_7cf53 (l : Launch) (D : va_G) (cy : Nat → ClassId) (a : Nat → Nat) (u : St) (hJ : CI a u) (x1 : Int32) (x2 : Int32)  : Mi l D cy (cW cy a) yJ6_compare_7cf53 (.code yJ6_compare_7cf53 cJ6_compare_7cf53 2 (some .int)) (rmo 0 0) [.int x1, .int x2] u (fun (r : Int32) (u' : St) => u' = u) := by
  refine Mi.of (own := RJ6) rfl (by decide) (Nat.le_of_ble_eq_true rfl) ?_
  have hT : KT u u := KT.rf
  intro p e s m below meth c A Q ls C hret hO hl
  obtain ⟨hx, hb, hml, hown, ht, hK, hA⟩ := id C
  have hl : lv_has ls 2 [(0, .int x1), (1, .int x2)] := hl
  refine lv_iload_n hx hb dJ6_compare_7cf53_0 rfl (lv_at hl 0 rfl) ?_
  refine lv_iload_n hx hb dJ6_compare_7cf53_1 rfl (lv_at hl 1 rfl) ?_
  refine cs_ge (tgt := 9) (X := (x1).toInt) (Y := (x2).toInt) hx hb dJ6_compare_7cf53_2 (by decide) rfl rfl (fun c1 => ?_) (fun c1 => ?_)
  · refine lv_iload_n hx hb dJ6_compare_7cf53_9 rfl (lv_at hl 0 rfl) ?_
    refine lv_iload_n hx hb dJ6_compare_7cf53_10 rfl (lv_at hl 1 rfl) ?_
    refine cs_ne (tgt := 18) (X := (x1).toInt) (Y := (x2).toInt) hx hb dJ6_compare_7cf53_11 (by decide) rfl rfl (fun c2 => ?_) (fun c2 => ?_)
    · refine lv_iconst (v := 1) hx hb dJ6_compare_7cf53_18 (by decide) ?_
      refine hret _ _ _ _ _ _ dJ6_compare_7cf53_19 rfl ?_ hO
      exact rfl
    · refine lv_iconst (v := 0) hx hb dJ6_compare_7cf53_14 (by decide) ?_
      refine lv_goto (tgt := 19) hx hb dJ6_compare_7cf53_15 (by decide) ?_
      refine hret _ _ _ _ _ _ dJ6_compare_7cf53_19 rfl ?_ hO
      exact rfl
  · refine lv_iconst (v := (-1)) hx hb dJ6_compare_7cf53_5 (by decide) ?_
    refine lv_goto (tgt := 19) hx hb dJ6_compare_7cf53_6 (by decide) ?_
    refine hret _ _ _ _ _ _ dJ6_compare_7cf53_19 rfl ?_ hO
    exact rfl
theorem dX2_judgedAs_0 : decode cX2_judgedAs 0 = .ok (.aload_n 0, 1) := by decide +kernel
theorem dX2_judgedAs_1 : decode cX2_judgedAs 1 = .ok (.getfield 15, 3) := by decide +kernel
theorem dX2_judgedAs_4 : decode cX2_judgedAs 4 = .ok (.iload_n 1, 1) := by decide +kernel
theorem dX2_judgedAs_5 : decode cX2_judgedAs 5 = .ok (.aload_n 0, 1) := by decide +kernel
theorem dX2_judgedAs_6 : decode cX2_judgedAs 6 = .ok (.invokevirtual 59, 3) := by decide +kernel
theorem dX2_judgedAs_9 : decode cX2_judgedAs 9 = .ok (.invokevirtual 63, 3) := by decide +kernel
theorem dX2_judgedAs_12 : decode cX2_judgedAs 12 = .ok (.istore 6, 2) := by decide +kernel
theorem dX2_judgedAs_14 : decode cX2_judgedAs 14 = .ok (.aload_n 0, 1) := by decide +kernel
theorem dX2_judgedAs_15 : decode cX2_judgedAs 15 = .ok (.getfield 15, 3) := by decide +kernel
theorem dX2_judgedAs_18 : decode cX2_judgedAs 18 = .ok (.getfield 67, 3) := by decide +kernel
theorem dX2_judgedAs_21 : decode cX2_judgedAs 21 = .ok (.aload_n 0, 1) := by decide +kernel
theorem dX2_judgedAs_22 : decode cX2_judgedAs 22 = .ok (.getfield 15, 3) := by decide +kernel
theorem dX2_judgedAs_25 : decode cX2_judgedAs 25 = .ok (.iload_n 2, 1) := by decide +kernel
theorem dX2_judgedAs_26 : decode cX2_judgedAs 26 = .ok (.invokevirtual 71, 3) := by decide +kernel
theorem dX2_judgedAs_29 : decode cX2_judgedAs 29 = .ok (.iload_n 2, 1) := by decide +kernel
theorem dX2_judgedAs_30 : decode cX2_judgedAs 30 = .ok (.invokestatic 75, 3) := by decide +kernel
theorem dX2_judgedAs_33 : decode cX2_judgedAs 33 = .ok (.iload_n 3, 1) := by decide +kernel
theorem dX2_judgedAs_34 : decode cX2_judgedAs 34 = .ok (.iload 4, 2) := by decide +kernel
theorem dX2_judgedAs_36 : decode cX2_judgedAs 36 = .ok (.iload 6, 2) := by decide +kernel
theorem dX2_judgedAs_38 : decode cX2_judgedAs 38 = .ok (.iload 5, 2) := by decide +kernel
theorem dX2_judgedAs_40 : decode cX2_judgedAs 40 = .ok (.invokevirtual 80, 3) := by decide +kernel
theorem dX2_judgedAs_43 : decode cX2_judgedAs 43 = .ok (.ireturn, 1) := by decide +kernel
theorem wd_856 : (Cond.code ⟨"WebCourt$Court", "judgedAs", "(IIIII)I"⟩ prog_4_method_11_code (7 : Nat) (Option.some FieldType.int)) ∈ gtb := gtb_c4 27 (by decide +kernel) rfl
theorem wd_857 : (Cond.methodLink "WebCourt$Court" (59 : Nat) ⟨"WebCourt$Court", "held", "()I"⟩) ∈ gtb := gtb_c4 28 (by decide +kernel) rfl
theorem wd_858 : (Cond.instanceMethod ⟨"WebCourt$Court", "held", "()I"⟩) ∈ gtb := gtb_c4 29 (by decide +kernel) rfl
theorem wd_859 : (Cond.selects "WebCourt$Court" ⟨"WebCourt$Court", "held", "()I"⟩ ⟨"WebCourt$Court", "held", "()I"⟩) ∈ gtb := gtb_c4 30 (by decide +kernel) rfl
theorem hd_yX2_held : yX2_held.cls = RX2 ∧ yX2_held.cls ≠ "java/lang/invoke/MethodHandle" ∧ yX2_held.cls ≠ "java/lang/invoke/VarHandle" ∧ (parseMethodDescriptor yX2_held.desc).map (fun d => d.parameters.length) = some 0 := by decide +kernel
theorem wd_861 : (Cond.methodLink "WebCourt$Court" (63 : Nat) ⟨"WebCourt$Web", "kinOf", "(II)I"⟩) ∈ gtb := gtb_c4 32 (by decide +kernel) rfl
theorem wd_862 : (Cond.instanceMethod ⟨"WebCourt$Web", "kinOf", "(II)I"⟩) ∈ gtb := gtb_c4 33 (by decide +kernel) rfl
theorem wd_863 : (Cond.selects "WebCourt$Web" ⟨"WebCourt$Web", "kinOf", "(II)I"⟩ ⟨"WebCourt$Web", "kinOf", "(II)I"⟩) ∈ gtb := gtb_c4 34 (by decide +kernel) rfl
theorem wd_112 : (Cond.initialized "WebCourt$Web") ∈ gtb := gtb_c1 3 (by decide +kernel) rfl
theorem hd_yX9_kinOf : yX9_kinOf.cls = RX9 ∧ yX9_kinOf.cls ≠ "java/lang/invoke/MethodHandle" ∧ yX9_kinOf.cls ≠ "java/lang/invoke/VarHandle" ∧ (parseMethodDescriptor yX9_kinOf.desc).map (fun d => d.parameters.length) = some 2 := by decide +kernel
theorem wd_248 : (Cond.fieldLink "WebCourt$Court" (67 : Nat) "WebCourt$Web" "law" "LWebCourt$Law;") ∈ gtb := gtb_c1 139 (by decide +kernel) rfl
theorem gf_RX2_67 {p : Program} {l : Launch} {e : Env} {R : Room} {s : State} {m : MethodId} {args : Array Value} {below : List Frame} {meth : Method} {c : Code} {H : Heap} {locs : List Loc} {cells slots : Nat} {Q : State → Prop} {cc : ByteArray} {pc nL : Nat} {ls : Array Slot} {rest : List Value} {D : va_G} {cy : Nat → ClassId} {A : Nat → Prop} {ws : va_W} {b : Nat} {fs : List Value} {v : Value} (C : Cx p s m args c cc nL RX2 D cy A) (hO : Wo D A ws s.heap H locs) (q0 : Nat) (he : ws[q0]? = some (b, .inr (9, fs))) (hv : fs[8]? = some v) (hdg : decode cc pc = .ok (.getfield 67, 3)) (kk : W p l e R s m args below meth c H locs cells slots Q (F0 m (pc + 3) ls (v :: rest))) : W p l e R s m args below meth c H locs cells slots Q (F0 m pc ls (.ref b :: rest)) := gF (k := 8) C hO q0 he rfl inFX9 (by decide) wd_248 rfl hv hdg kk
theorem wd_865 : (Cond.methodLink "WebCourt$Court" (71 : Nat) ⟨"WebCourt$Web", "strengthOf", "(I)I"⟩) ∈ gtb := gtb_c4 36 (by decide +kernel) rfl
theorem wd_866 : (Cond.instanceMethod ⟨"WebCourt$Web", "strengthOf", "(I)I"⟩) ∈ gtb := gtb_c4 37 (by decide +kernel) rfl
theorem wd_867 : (Cond.selects "WebCourt$Web" ⟨"WebCourt$Web", "strengthOf", "(I)I"⟩ ⟨"WebCourt$Web", "strengthOf", "(I)I"⟩) ∈ gtb := gtb_c4 38 (by decide +kernel) rfl
theorem hd_yX9_strengthOf : yX9_strengthOf.cls = RX9 ∧ yX9_strengthOf.cls ≠ "java/lang/invoke/MethodHandle" ∧ yX9_strengthOf.cls ≠ "java/lang/invoke/VarHandle" ∧ (parseMethodDescriptor yX9_strengthOf.desc).map (fun d => d.parameters.length) = some 1 := by decide +kernel
theorem wd_869 : (Cond.methodLink "WebCourt$Court" (75 : Nat) ⟨"java/lang/Integer", "bitCount", "(I)I"⟩) ∈ gtb := gtb_c4 40 (by decide +kernel) rfl
theorem wd_870 : (Cond.static ⟨"java/lang/Integer", "bitCount", "(I)I"⟩) ∈ gtb := gtb_c4 41 (by decide +kernel) rfl
theorem wd_128 : (Cond.initialized "java/lang/Integer") ∈ gtb := gtb_c1 19 (by decide +kernel) rfl
theorem hd_yJ6_bitCount_0f7a4 : yJ6_bitCount_0f7a4.cls ≠ "java/lang/invoke/MethodHandle" ∧ yJ6_bitCount_0f7a4.cls ≠ "java/lang/invoke/VarHandle" ∧ (parseMethodDescriptor yJ6_bitCount_0f7a4.desc).map (fun d => d.parameters.length) = some 1 := by decide +kernel
theorem wd_875 : (Cond.methodLink "WebCourt$Court" (80 : Nat) ⟨"WebCourt$Law", "value", "(IIIIII)I"⟩) ∈ gtb := gtb_c4 46 (by decide +kernel) rfl
theorem wd_876 : (Cond.instanceMethod ⟨"WebCourt$Law", "value", "(IIIIII)I"⟩) ∈ gtb := gtb_c4 47 (by decide +kernel) rfl
theorem wd_877 : (Cond.selects "WebCourt$Law" ⟨"WebCourt$Law", "value", "(IIIIII)I"⟩ ⟨"WebCourt$Law", "value", "(IIIIII)I"⟩) ∈ gtb := gtb_c4 48 (by decide +kernel) rfl
theorem hd_yX4_value : yX4_value.cls = RX4 ∧ yX4_value.cls ≠ "java/lang/invoke/MethodHandle" ∧ yX4_value.cls ≠ "java/lang/invoke/VarHandle" ∧ (parseMethodDescriptor yX4_value.desc).map (fun d => d.parameters.length) = some 6 := by decide +kernel
set_option maxHeartbeats 4000000 in
set_option maxRecDepth 100000 in
theorem T_X2_judgedAs (l : Launch) (D : va_G) (cy : Nat → ClassId) (a : Nat → Nat) (u : St) (hJ : CI a u) (x1 : Int32) (x2 : Int32) (x3 : Int32) (x4 : Int32) (x5 : Int32) (hx_x1 : 0 ≤ x1.toInt ∧ x1.toInt ≤ 5) : Mi l D cy (cW cy a) yX2_judgedAs (.code yX2_judgedAs cX2_judgedAs 7 (some .int)) (rmo 2 52) [.ref (a 28), .int x1, .int x2, .int x3, .int x4, .int x5] u (fun (r : Int32) (u' : St) => (CI a u') ∧ (KT u u')) := by
  refine Mi.of (own := RX2) rfl (by decide) (Nat.le_of_ble_eq_true rfl) ?_
  have hT : KT u u := KT.rf
  intro p e s m below meth c A Q ls C hret hO hl
  obtain ⟨hx, hb, hml, hown, ht, hK, hA⟩ := id C
  have hl : lv_has ls 7 [(0, .ref (a 28)), (1, .int x1), (2, .int x2), (3, .int x3), (4, .int x4), (5, .int x5)] := hl
  refine lv_aload_n hx hb dX2_judgedAs_0 rfl (lv_at hl 0 rfl) ?_
  refine gf_RX2_15 (v := .ref (a 3)) C hO 28 cW_28 (congrArg (fun z : Nat => some (Value.ref z)) (CI_R0 hJ)) dX2_judgedAs_1 ?_
  refine lv_iload_n hx hb dX2_judgedAs_4 rfl (lv_at hl 1 rfl) ?_
  refine lv_aload_n hx hb dX2_judgedAs_5 rfl (lv_at hl 0 rfl) ?_
  refine cVi (w := cW cy a) (As := []) (rest := [.int x1, .ref (a 3)]) C hO (T_X2_held l D cy a _ (by exact hJ)) (cwV 0 ht (gV wd_857 wd_858 wd_859 wd_115 wd_860) rfl rfl rfl hd_yX2_held ⟨Nat.le_of_ble_eq_true rfl, Nat.le_of_ble_eq_true rfl⟩) 28 rfl cW_28 rfl rfl hl.1 (Nat.le_of_ble_eq_true rfl) dX2_judgedAs_6 rfl ⟨Nat.zero_le _, Nat.zero_le _⟩ (fun r1 u2 H locs hp3 hO => ?_)
  obtain ⟨hr1, hu2⟩ := hp3
  rw [hu2] at hO
  refine cVi (w := cW cy a) (As := [.int x1, .int r1]) (rest := []) C hO (T_X9_kinOf l D cy a _ (by exact hJ) (x1) (r1) (by first | omega | decide)) (cwV 2 ht (gV wd_861 wd_862 wd_863 wd_112 wd_864) rfl rfl rfl hd_yX9_kinOf ⟨Nat.le_of_ble_eq_true rfl, Nat.le_of_ble_eq_true rfl⟩) 3 rfl cW_3 rfl rfl hl.1 (Nat.le_of_ble_eq_true rfl) dX2_judgedAs_9 rfl ⟨Nat.zero_le _, Nat.zero_le _⟩ (fun r4 u5 H locs hp6 hO => ?_)
  have hu5 := hp6
  rw [hu5] at hO
  refine lv_istore (lv' := [(6, .int r4), (0, .ref (a 28)), (1, .int x1), (2, .int x2), (3, .int x3), (4, .int x4), (5, .int x5)]) hx hb dX2_judgedAs_12 hl (by decide) rfl (fun ls hl => ?_)
  refine lv_aload_n hx hb dX2_judgedAs_14 rfl (lv_at hl 1 rfl) ?_
  refine gf_RX2_15 (v := .ref (a 3)) C hO 28 cW_28 (congrArg (fun z : Nat => some (Value.ref z)) (CI_R0 hJ)) dX2_judgedAs_15 ?_
  refine gf_RX2_67 (v := .ref (a 12)) C hO 3 cW_3 rfl dX2_judgedAs_18 ?_
  refine lv_aload_n hx hb dX2_judgedAs_21 rfl (lv_at hl 1 rfl) ?_
  refine gf_RX2_15 (v := .ref (a 3)) C hO 28 cW_28 (congrArg (fun z : Nat => some (Value.ref z)) (CI_R0 hJ)) dX2_judgedAs_22 ?_
  refine lv_iload_n hx hb dX2_judgedAs_25 rfl (lv_at hl 3 rfl) ?_
  refine cVi (w := cW cy a) (As := [.int x2]) (rest := [.ref (a 12)]) C hO (T_X9_strengthOf l D cy a _ (by exact hJ) (x2)) (cwV 1 ht (gV wd_865 wd_866 wd_867 wd_112 wd_868) rfl rfl rfl hd_yX9_strengthOf ⟨Nat.le_of_ble_eq_true rfl, Nat.le_of_ble_eq_true rfl⟩) 3 rfl cW_3 rfl rfl hl.1 (Nat.le_of_ble_eq_true rfl) dX2_judgedAs_26 rfl ⟨Nat.zero_le _, Nat.zero_le _⟩ (fun r7 u8 H locs hp9 hO => ?_)
  have hu8 := hp9
  rw [hu8] at hO
  refine lv_iload_n hx hb dX2_judgedAs_29 rfl (lv_at hl 3 rfl) ?_
  refine cSi (w := cW cy a) (As := [.int x2]) (rest := [.int r7, .ref (a 12)]) C hO (T_J6_bitCount_0f7a4 l D cy a _ (by exact hJ) (x2)) (va_cwS 1 ht (gSS wd_869 wd_870 wd_128 wd_871) rfl rfl rfl hd_yJ6_bitCount_0f7a4 ⟨Nat.le_of_ble_eq_true rfl, Nat.le_of_ble_eq_true rfl⟩)  rfl hl.1 (Nat.le_of_ble_eq_true rfl) dX2_judgedAs_30 rfl ⟨Nat.zero_le _, Nat.zero_le _⟩ (fun r10 u11 H locs hp12 hO => ?_)
  have hu11 := hp12
  rw [hu11] at hO
  refine lv_iload_n hx hb dX2_judgedAs_33 rfl (lv_at hl 4 rfl) ?_
  refine lv_iload hx hb dX2_judgedAs_34 (lv_at hl 5 rfl) ?_
  refine lv_iload hx hb dX2_judgedAs_36 (lv_at hl 0 rfl) ?_
  refine lv_iload hx hb dX2_judgedAs_38 (lv_at hl 6 rfl) ?_
  refine cVi (w := cW cy a) (As := [.int r7, .int r10, .int x3, .int x4, .int r4, .int x5]) (rest := []) C hO (T_X4_value l D cy a _ (by exact hJ) (r7) (r10) (x3) (x4) (r4) (x5)) (cwV 6 ht (gV wd_875 wd_876 wd_877 wd_113 wd_878) rfl rfl rfl hd_yX4_value ⟨Nat.le_of_ble_eq_true rfl, Nat.le_of_ble_eq_true rfl⟩) 12 rfl cW_12 rfl rfl hl.1 (Nat.le_of_ble_eq_true rfl) dX2_judgedAs_40 rfl ⟨Nat.zero_le _, Nat.zero_le _⟩ (fun r13 u14 H locs hp15 hO => ?_)
  obtain ⟨hJ, hTu14⟩ := hp15
  have hT : KT u u14 := KT.tr (by exact hT) hTu14
  refine hret _ _ _ _ _ _ dX2_judgedAs_43 rfl ?_ hO
  exact ⟨hJ, hT⟩
theorem dX2_judged_0 : decode cX2_judged 0 = .ok (.aload_n 0, 1) := by decide +kernel
theorem dX2_judged_1 : decode cX2_judged 1 = .ok (.iload_n 1, 1) := by decide +kernel
theorem dX2_judged_2 : decode cX2_judged 2 = .ok (.iload_n 2, 1) := by decide +kernel
theorem dX2_judged_3 : decode cX2_judged 3 = .ok (.aload_n 0, 1) := by decide +kernel
theorem dX2_judged_4 : decode cX2_judged 4 = .ok (.getfield 9, 3) := by decide +kernel
theorem dX2_judged_7 : decode cX2_judged 7 = .ok (.bipush 17, 2) := by decide +kernel
theorem dX2_judged_9 : decode cX2_judged 9 = .ok (.iload_n 1, 1) := by decide +kernel
theorem dX2_judged_10 : decode cX2_judged 10 = .ok (.iadd, 1) := by decide +kernel
theorem dX2_judged_11 : decode cX2_judged 11 = .ok (.iaload, 1) := by decide +kernel
theorem dX2_judged_12 : decode cX2_judged 12 = .ok (.aload_n 0, 1) := by decide +kernel
theorem dX2_judged_13 : decode cX2_judged 13 = .ok (.getfield 9, 3) := by decide +kernel
theorem dX2_judged_16 : decode cX2_judged 16 = .ok (.bipush 23, 2) := by decide +kernel
theorem dX2_judged_18 : decode cX2_judged 18 = .ok (.iload_n 1, 1) := by decide +kernel
theorem dX2_judged_19 : decode cX2_judged 19 = .ok (.iadd, 1) := by decide +kernel
theorem dX2_judged_20 : decode cX2_judged 20 = .ok (.iaload, 1) := by decide +kernel
theorem dX2_judged_21 : decode cX2_judged 21 = .ok (.aload_n 0, 1) := by decide +kernel
theorem dX2_judged_22 : decode cX2_judged 22 = .ok (.getfield 9, 3) := by decide +kernel
theorem dX2_judged_25 : decode cX2_judged 25 = .ok (.iconst 1, 1) := by decide +kernel
theorem dX2_judged_26 : decode cX2_judged 26 = .ok (.iaload, 1) := by decide +kernel
theorem dX2_judged_27 : decode cX2_judged 27 = .ok (.invokevirtual 86, 3) := by decide +kernel
theorem dX2_judged_30 : decode cX2_judged 30 = .ok (.ireturn, 1) := by decide +kernel
theorem wd_999 : (Cond.code ⟨"WebCourt$Court", "judged", "(II)I"⟩ prog_4_method_12_code (3 : Nat) (Option.some FieldType.int)) ∈ gtb := gtb_c4 170 (by decide +kernel) rfl
theorem wd_853 : (Cond.methodLink "WebCourt$Court" (86 : Nat) ⟨"WebCourt$Court", "judgedAs", "(IIIII)I"⟩) ∈ gtb := gtb_c4 24 (by decide +kernel) rfl
theorem wd_854 : (Cond.instanceMethod ⟨"WebCourt$Court", "judgedAs", "(IIIII)I"⟩) ∈ gtb := gtb_c4 25 (by decide +kernel) rfl
theorem wd_855 : (Cond.selects "WebCourt$Court" ⟨"WebCourt$Court", "judgedAs", "(IIIII)I"⟩ ⟨"WebCourt$Court", "judgedAs", "(IIIII)I"⟩) ∈ gtb := gtb_c4 26 (by decide +kernel) rfl
theorem hd_yX2_judgedAs : yX2_judgedAs.cls = RX2 ∧ yX2_judgedAs.cls ≠ "java/lang/invoke/MethodHandle" ∧ yX2_judgedAs.cls ≠ "java/lang/invoke/VarHandle" ∧ (parseMethodDescriptor yX2_judgedAs.desc).map (fun d => d.parameters.length) = some 5 := by decide +kernel
set_option maxHeartbeats 4000000 in
set_option maxRecDepth 100000 in
theorem T_X2_judged (l : Launch) (D : va_G) (cy : Nat → ClassId) (a : Nat → Nat) (u : St) (hJ : CI a u) (x1 : Int32) (x2 : Int32) (hx_x1 : 0 ≤ x1.toInt ∧ x1.toInt ≤ 5) : Mi l D cy (cW cy a) yX2_judged (.code yX2_judged cX2_judged 3 (some .int)) (rmo 3 78) [.ref (a 28), .int x1, .int x2] u (fun (r : Int32) (u' : St) => (CI a u') ∧ (KT u u')) := by
  refine Mi.of (own := RX2) rfl (by decide) (Nat.le_of_ble_eq_true rfl) ?_
  have hT : KT u u := KT.rf
  intro p e s m below meth c A Q ls C hret hO hl
  obtain ⟨hx, hb, hml, hown, ht, hK, hA⟩ := id C
  have hl : lv_has ls 3 [(0, .ref (a 28)), (1, .int x1), (2, .int x2)] := hl
  refine lv_aload_n hx hb dX2_judged_0 rfl (lv_at hl 0 rfl) ?_
  refine lv_iload_n hx hb dX2_judged_1 rfl (lv_at hl 1 rfl) ?_
  refine lv_iload_n hx hb dX2_judged_2 rfl (lv_at hl 2 rfl) ?_
  refine lv_aload_n hx hb dX2_judged_3 rfl (lv_at hl 0 rfl) ?_
  refine gf_RX2_9 (v := .ref (a 29)) C hO 28 cW_28 rfl dX2_judged_4 ?_
  refine lv_bipush (v := 17) hx hb dX2_judged_7 (by decide) ?_
  refine lv_iload_n hx hb dX2_judged_9 rfl (lv_at hl 1 rfl) ?_
  have e1 : ((17 + x1)).toInt = 17 + (x1).toInt := i_add rfl rfl (by omega)
  refine lv_iadd hx hb dX2_judged_10 ?_
  refine aI C hO 29 cW_29 (i_in (X := (17 + (x1).toInt)) e1 (by omega) (by omega)) dX2_judged_11 ?_
  refine lv_topi (fun w2 ew2 => ?_)
  refine lv_aload_n hx hb dX2_judged_12 rfl (lv_at hl 0 rfl) ?_
  refine gf_RX2_9 (v := .ref (a 29)) C hO 28 cW_28 rfl dX2_judged_13 ?_
  refine lv_bipush (v := 23) hx hb dX2_judged_16 (by decide) ?_
  refine lv_iload_n hx hb dX2_judged_18 rfl (lv_at hl 1 rfl) ?_
  have e3 : ((23 + x1)).toInt = 23 + (x1).toInt := i_add rfl rfl (by omega)
  refine lv_iadd hx hb dX2_judged_19 ?_
  refine aI C hO 29 cW_29 (i_in (X := (23 + (x1).toInt)) e3 (by omega) (by omega)) dX2_judged_20 ?_
  refine lv_topi (fun w4 ew4 => ?_)
  refine lv_aload_n hx hb dX2_judged_21 rfl (lv_at hl 0 rfl) ?_
  refine gf_RX2_9 (v := .ref (a 29)) C hO 28 cW_28 rfl dX2_judged_22 ?_
  refine lv_iconst (v := 1) hx hb dX2_judged_25 (by decide) ?_
  refine aI C hO 29 cW_29 (i_in (X := 1) rfl (by omega) (by omega)) dX2_judged_26 ?_
  refine lv_topi (fun w5 ew5 => ?_)
  refine cVi (w := cW cy a) (As := [.int x1, .int x2, .int w2, .int w4, .int w5]) (rest := []) C hO (T_X2_judgedAs l D cy a _ (by exact hJ) (x1) (x2) (w2) (w4) (w5) (by first | omega | decide)) (cwV 5 ht (gV wd_853 wd_854 wd_855 wd_115 wd_856) rfl rfl rfl hd_yX2_judgedAs ⟨Nat.le_of_ble_eq_true rfl, Nat.le_of_ble_eq_true rfl⟩) 28 rfl cW_28 rfl rfl hl.1 (Nat.le_of_ble_eq_true rfl) dX2_judged_27 rfl ⟨Nat.zero_le _, Nat.zero_le _⟩ (fun r6 u7 H locs hp8 hO => ?_)
  obtain ⟨hJ, hTu7⟩ := hp8
  have hT : KT u u7 := KT.tr (by exact hT) hTu7
  refine hret _ _ _ _ _ _ dX2_judged_30 rfl ?_ hO
  exact ⟨hJ, hT⟩
theorem dX2_judgedNow_0 : decode cX2_judgedNow 0 = .ok (.aload_n 0, 1) := by decide +kernel
theorem dX2_judgedNow_1 : decode cX2_judgedNow 1 = .ok (.iload_n 1, 1) := by decide +kernel
theorem dX2_judgedNow_2 : decode cX2_judgedNow 2 = .ok (.aload_n 0, 1) := by decide +kernel
theorem dX2_judgedNow_3 : decode cX2_judgedNow 3 = .ok (.getfield 9, 3) := by decide +kernel
theorem dX2_judgedNow_6 : decode cX2_judgedNow 6 = .ok (.bipush 11, 2) := by decide +kernel
theorem dX2_judgedNow_8 : decode cX2_judgedNow 8 = .ok (.iload_n 1, 1) := by decide +kernel
theorem dX2_judgedNow_9 : decode cX2_judgedNow 9 = .ok (.iadd, 1) := by decide +kernel
theorem dX2_judgedNow_10 : decode cX2_judgedNow 10 = .ok (.iaload, 1) := by decide +kernel
theorem dX2_judgedNow_11 : decode cX2_judgedNow 11 = .ok (.aload_n 0, 1) := by decide +kernel
theorem dX2_judgedNow_12 : decode cX2_judgedNow 12 = .ok (.getfield 9, 3) := by decide +kernel
theorem dX2_judgedNow_15 : decode cX2_judgedNow 15 = .ok (.bipush 17, 2) := by decide +kernel
theorem dX2_judgedNow_17 : decode cX2_judgedNow 17 = .ok (.iload_n 1, 1) := by decide +kernel
theorem dX2_judgedNow_18 : decode cX2_judgedNow 18 = .ok (.iadd, 1) := by decide +kernel
theorem dX2_judgedNow_19 : decode cX2_judgedNow 19 = .ok (.iaload, 1) := by decide +kernel
theorem dX2_judgedNow_20 : decode cX2_judgedNow 20 = .ok (.aload_n 0, 1) := by decide +kernel
theorem dX2_judgedNow_21 : decode cX2_judgedNow 21 = .ok (.getfield 9, 3) := by decide +kernel
theorem dX2_judgedNow_24 : decode cX2_judgedNow 24 = .ok (.bipush 23, 2) := by decide +kernel
theorem dX2_judgedNow_26 : decode cX2_judgedNow 26 = .ok (.iload_n 1, 1) := by decide +kernel
theorem dX2_judgedNow_27 : decode cX2_judgedNow 27 = .ok (.iadd, 1) := by decide +kernel
theorem dX2_judgedNow_28 : decode cX2_judgedNow 28 = .ok (.iaload, 1) := by decide +kernel
theorem dX2_judgedNow_29 : decode cX2_judgedNow 29 = .ok (.aload_n 0, 1) := by decide +kernel
theorem dX2_judgedNow_30 : decode cX2_judgedNow 30 = .ok (.getfield 9, 3) := by decide +kernel
theorem dX2_judgedNow_33 : decode cX2_judgedNow 33 = .ok (.iconst 1, 1) := by decide +kernel
theorem dX2_judgedNow_34 : decode cX2_judgedNow 34 = .ok (.iaload, 1) := by decide +kernel
theorem dX2_judgedNow_35 : decode cX2_judgedNow 35 = .ok (.invokevirtual 86, 3) := by decide +kernel
theorem dX2_judgedNow_38 : decode cX2_judgedNow 38 = .ok (.ireturn, 1) := by decide +kernel
theorem wd_852 : (Cond.code ⟨"WebCourt$Court", "judgedNow", "(I)I"⟩ prog_4_method_13_code (2 : Nat) (Option.some FieldType.int)) ∈ gtb := gtb_c4 23 (by decide +kernel) rfl
set_option maxHeartbeats 4000000 in
set_option maxRecDepth 100000 in
theorem T_X2_judgedNow (l : Launch) (D : va_G) (cy : Nat → ClassId) (a : Nat → Nat) (u : St) (hJ : CI a u) (x1 : Int32) (hx_x1 : 0 ≤ x1.toInt ∧ x1.toInt ≤ 5) : Mi l D cy (cW cy a) yX2_judgedNow (.code yX2_judgedNow cX2_judgedNow 2 (some .int)) (rmo 3 78) [.ref (a 28), .int x1] u (fun (r : Int32) (u' : St) => (CI a u') ∧ (KT u u')) := by
  refine Mi.of (own := RX2) rfl (by decide) (Nat.le_of_ble_eq_true rfl) ?_
  have hT : KT u u := KT.rf
  intro p e s m below meth c A Q ls C hret hO hl
  obtain ⟨hx, hb, hml, hown, ht, hK, hA⟩ := id C
  have hl : lv_has ls 2 [(0, .ref (a 28)), (1, .int x1)] := hl
  refine lv_aload_n hx hb dX2_judgedNow_0 rfl (lv_at hl 0 rfl) ?_
  refine lv_iload_n hx hb dX2_judgedNow_1 rfl (lv_at hl 1 rfl) ?_
  refine lv_aload_n hx hb dX2_judgedNow_2 rfl (lv_at hl 0 rfl) ?_
  refine gf_RX2_9 (v := .ref (a 29)) C hO 28 cW_28 rfl dX2_judgedNow_3 ?_
  refine lv_bipush (v := 11) hx hb dX2_judgedNow_6 (by decide) ?_
  refine lv_iload_n hx hb dX2_judgedNow_8 rfl (lv_at hl 1 rfl) ?_
  have e1 : ((11 + x1)).toInt = 11 + (x1).toInt := i_add rfl rfl (by omega)
  refine lv_iadd hx hb dX2_judgedNow_9 ?_
  refine aI C hO 29 cW_29 (i_in (X := (11 + (x1).toInt)) e1 (by omega) (by omega)) dX2_judgedNow_10 ?_
  refine lv_topi (fun w2 ew2 => ?_)
  refine lv_aload_n hx hb dX2_judgedNow_11 rfl (lv_at hl 0 rfl) ?_
  refine gf_RX2_9 (v := .ref (a 29)) C hO 28 cW_28 rfl dX2_judgedNow_12 ?_
  refine lv_bipush (v := 17) hx hb dX2_judgedNow_15 (by decide) ?_
  refine lv_iload_n hx hb dX2_judgedNow_17 rfl (lv_at hl 1 rfl) ?_
  have e3 : ((17 + x1)).toInt = 17 + (x1).toInt := i_add rfl rfl (by omega)
  refine lv_iadd hx hb dX2_judgedNow_18 ?_
  refine aI C hO 29 cW_29 (i_in (X := (17 + (x1).toInt)) e3 (by omega) (by omega)) dX2_judgedNow_19 ?_
  refine lv_topi (fun w4 ew4 => ?_)
  refine lv_aload_n hx hb dX2_judgedNow_20 rfl (lv_at hl 0 rfl) ?_
  refine gf_RX2_9 (v := .ref (a 29)) C hO 28 cW_28 rfl dX2_judgedNow_21 ?_
  refine lv_bipush (v := 23) hx hb dX2_judgedNow_24 (by decide) ?_
  refine lv_iload_n hx hb dX2_judgedNow_26 rfl (lv_at hl 1 rfl) ?_
  have e5 : ((23 + x1)).toInt = 23 + (x1).toInt := i_add rfl rfl (by omega)
  refine lv_iadd hx hb dX2_judgedNow_27 ?_
  refine aI C hO 29 cW_29 (i_in (X := (23 + (x1).toInt)) e5 (by omega) (by omega)) dX2_judgedNow_28 ?_
  refine lv_topi (fun w6 ew6 => ?_)
  refine lv_aload_n hx hb dX2_judgedNow_29 rfl (lv_at hl 0 rfl) ?_
  refine gf_RX2_9 (v := .ref (a 29)) C hO 28 cW_28 rfl dX2_judgedNow_30 ?_
  refine lv_iconst (v := 1) hx hb dX2_judgedNow_33 (by decide) ?_
  refine aI C hO 29 cW_29 (i_in (X := 1) rfl (by omega) (by omega)) dX2_judgedNow_34 ?_
  refine lv_topi (fun w7 ew7 => ?_)
  refine cVi (w := cW cy a) (As := [.int x1, .int w2, .int w4, .int w6, .int w7]) (rest := []) C hO (T_X2_judgedAs l D cy a _ (by exact hJ) (x1) (w2) (w4) (w6) (w7) (by first | omega | decide)) (cwV 5 ht (gV wd_853 wd_854 wd_855 wd_115 wd_856) rfl rfl rfl hd_yX2_judgedAs ⟨Nat.le_of_ble_eq_true rfl, Nat.le_of_ble_eq_true rfl⟩) 28 rfl cW_28 rfl rfl hl.1 (Nat.le_of_ble_eq_true rfl) dX2_judgedNow_35 rfl ⟨Nat.zero_le _, Nat.zero_le _⟩ (fun r8 u9 H locs hp10 hO => ?_)
  obtain ⟨hJ, hTu9⟩ := hp10
  have hT : KT u u9 := KT.tr (by exact hT) hTu9
  refine hret _ _ _ _ _ _ dX2_judgedNow_38 rfl ?_ hO
  exact ⟨hJ, hT⟩
theorem dX2_canGo_0 : decode cX2_canGo 0 = .ok (.aload_n 0, 1) := by decide +kernel
theorem dX2_canGo_1 : decode cX2_canGo 1 = .ok (.iload_n 1, 1) := by decide +kernel
theorem dX2_canGo_2 : decode cX2_canGo 2 = .ok (.invokevirtual 90, 3) := by decide +kernel
theorem dX2_canGo_5 : decode cX2_canGo 5 = .ok (.ifCond .eq 47, 3) := by decide +kernel
theorem dX2_canGo_8 : decode cX2_canGo 8 = .ok (.aload_n 0, 1) := by decide +kernel
theorem dX2_canGo_9 : decode cX2_canGo 9 = .ok (.getfield 9, 3) := by decide +kernel
theorem dX2_canGo_12 : decode cX2_canGo 12 = .ok (.iconst 1, 1) := by decide +kernel
theorem dX2_canGo_13 : decode cX2_canGo 13 = .ok (.iaload, 1) := by decide +kernel
theorem dX2_canGo_14 : decode cX2_canGo 14 = .ok (.sipush 999, 3) := by decide +kernel
theorem dX2_canGo_17 : decode cX2_canGo 17 = .ok (.if_icmp .ge 35, 3) := by decide +kernel
theorem dX2_canGo_20 : decode cX2_canGo 20 = .ok (.iload_n 1, 1) := by decide +kernel
theorem dX2_canGo_21 : decode cX2_canGo 21 = .ok (.aload_n 0, 1) := by decide +kernel
theorem dX2_canGo_22 : decode cX2_canGo 22 = .ok (.getfield 9, 3) := by decide +kernel
theorem dX2_canGo_25 : decode cX2_canGo 25 = .ok (.iconst 0, 1) := by decide +kernel
theorem dX2_canGo_26 : decode cX2_canGo 26 = .ok (.iaload, 1) := by decide +kernel
theorem dX2_canGo_27 : decode cX2_canGo 27 = .ok (.if_icmp .eq 21, 3) := by decide +kernel
theorem dX2_canGo_30 : decode cX2_canGo 30 = .ok (.aload_n 0, 1) := by decide +kernel
theorem dX2_canGo_31 : decode cX2_canGo 31 = .ok (.iload_n 1, 1) := by decide +kernel
theorem dX2_canGo_32 : decode cX2_canGo 32 = .ok (.iconst 0, 1) := by decide +kernel
theorem dX2_canGo_33 : decode cX2_canGo 33 = .ok (.invokevirtual 93, 3) := by decide +kernel
theorem dX2_canGo_36 : decode cX2_canGo 36 = .ok (.aload_n 0, 1) := by decide +kernel
theorem dX2_canGo_37 : decode cX2_canGo 37 = .ok (.getfield 9, 3) := by decide +kernel
theorem dX2_canGo_40 : decode cX2_canGo 40 = .ok (.iconst 0, 1) := by decide +kernel
theorem dX2_canGo_41 : decode cX2_canGo 41 = .ok (.iaload, 1) := by decide +kernel
theorem dX2_canGo_42 : decode cX2_canGo 42 = .ok (.ishr, 1) := by decide +kernel
theorem dX2_canGo_43 : decode cX2_canGo 43 = .ok (.iconst 1, 1) := by decide +kernel
theorem dX2_canGo_44 : decode cX2_canGo 44 = .ok (.iand, 1) := by decide +kernel
theorem dX2_canGo_45 : decode cX2_canGo 45 = .ok (.ifCond .eq 7, 3) := by decide +kernel
theorem dX2_canGo_48 : decode cX2_canGo 48 = .ok (.iconst 1, 1) := by decide +kernel
theorem dX2_canGo_49 : decode cX2_canGo 49 = .ok (.goto 4, 3) := by decide +kernel
theorem dX2_canGo_52 : decode cX2_canGo 52 = .ok (.iconst 0, 1) := by decide +kernel
theorem dX2_canGo_53 : decode cX2_canGo 53 = .ok (.ireturn, 1) := by decide +kernel
theorem wd_903 : (Cond.code ⟨"WebCourt$Court", "canGo", "(I)Z"⟩ prog_4_method_14_code (2 : Nat) (Option.some FieldType.boolean)) ∈ gtb := gtb_c4 74 (by decide +kernel) rfl
theorem wd_904 : (Cond.methodLink "WebCourt$Court" (90 : Nat) ⟨"WebCourt$Court", "hasKnot", "(I)Z"⟩) ∈ gtb := gtb_c4 75 (by decide +kernel) rfl
theorem wd_818 : (Cond.instanceMethod ⟨"WebCourt$Court", "hasKnot", "(I)Z"⟩) ∈ gtb := gtb_c3 229 (by decide +kernel) rfl
theorem wd_819 : (Cond.selects "WebCourt$Court" ⟨"WebCourt$Court", "hasKnot", "(I)Z"⟩ ⟨"WebCourt$Court", "hasKnot", "(I)Z"⟩) ∈ gtb := gtb_c3 230 (by decide +kernel) rfl
theorem hd_yX2_hasKnot : yX2_hasKnot.cls = RX2 ∧ yX2_hasKnot.cls ≠ "java/lang/invoke/MethodHandle" ∧ yX2_hasKnot.cls ≠ "java/lang/invoke/VarHandle" ∧ (parseMethodDescriptor yX2_hasKnot.desc).map (fun d => d.parameters.length) = some 1 := by decide +kernel
theorem wd_905 : (Cond.methodLink "WebCourt$Court" (93 : Nat) ⟨"WebCourt$Court", "nextTo", "(IZ)I"⟩) ∈ gtb := gtb_c4 76 (by decide +kernel) rfl
theorem wd_822 : (Cond.instanceMethod ⟨"WebCourt$Court", "nextTo", "(IZ)I"⟩) ∈ gtb := gtb_c3 233 (by decide +kernel) rfl
theorem wd_823 : (Cond.selects "WebCourt$Court" ⟨"WebCourt$Court", "nextTo", "(IZ)I"⟩ ⟨"WebCourt$Court", "nextTo", "(IZ)I"⟩) ∈ gtb := gtb_c3 234 (by decide +kernel) rfl
theorem hd_yX2_nextTo : yX2_nextTo.cls = RX2 ∧ yX2_nextTo.cls ≠ "java/lang/invoke/MethodHandle" ∧ yX2_nextTo.cls ≠ "java/lang/invoke/VarHandle" ∧ (parseMethodDescriptor yX2_nextTo.desc).map (fun d => d.parameters.length) = some 2 := by decide +kernel
set_option maxHeartbeats 4000000 in
set_option maxRecDepth 100000 in
theorem T_X2_canGo (l : Launch) (D : va_G) (cy : Nat → ClassId) (a : Nat → Nat) (u : St) (hJ : CI a u) (x1 : Int32)  : Mi l D cy (cW cy a) yX2_canGo (.code yX2_canGo cX2_canGo 2 (some .boolean)) (rmo 1 25) [.ref (a 28), .int x1] u (fun (r : Int32) (u' : St) => (r = 0 ∨ r = 1) ∧ (u' = u)) := by
  refine Mi.of (own := RX2) rfl (by decide) (Nat.le_of_ble_eq_true rfl) ?_
  have hT : KT u u := KT.rf
  intro p e s m below meth c A Q ls C hret hO hl
  obtain ⟨hx, hb, hml, hown, ht, hK, hA⟩ := id C
  have hl : lv_has ls 2 [(0, .ref (a 28)), (1, .int x1)] := hl
  refine lv_aload_n hx hb dX2_canGo_0 rfl (lv_at hl 0 rfl) ?_
  refine lv_iload_n hx hb dX2_canGo_1 rfl (lv_at hl 1 rfl) ?_
  refine cVi (w := cW cy a) (As := [.int x1]) (rest := []) C hO (T_X2_hasKnot l D cy a _ (by exact hJ) (x1)) (cwV 1 ht (gV wd_904 wd_818 wd_819 wd_115 wd_820) rfl rfl rfl hd_yX2_hasKnot ⟨Nat.le_of_ble_eq_true rfl, Nat.le_of_ble_eq_true rfl⟩) 28 rfl cW_28 rfl rfl hl.1 (Nat.le_of_ble_eq_true rfl) dX2_canGo_2 rfl ⟨Nat.zero_le _, Nat.zero_le _⟩ (fun r1 u2 H locs hp3 hO => ?_)
  obtain ⟨hr1, hu2⟩ := hp3
  rw [hu2] at hO
  rcases hr1 with ⟨hcr1, hvr1⟩ | ⟨hcr1, hvr1⟩
  · subst hvr1
    refine bn_eq (X := 1) hx hb dX2_canGo_5 rfl (by omega) ?_ (tgt := 52) (by decide)
    refine lv_aload_n hx hb dX2_canGo_8 rfl (lv_at hl 0 rfl) ?_
    refine gf_RX2_9 (v := .ref (a 29)) C hO 28 cW_28 rfl dX2_canGo_9 ?_
    refine lv_iconst (v := 1) hx hb dX2_canGo_12 (by decide) ?_
    refine aI C hO 29 cW_29 (i_in (X := 1) rfl (by omega) (by omega)) dX2_canGo_13 ?_
    refine lv_topi (fun w4 ew4 => ?_)
    refine lv_sipush (v := 999) hx hb dX2_canGo_14 (by decide) ?_
    refine cs_ge (tgt := 52) (X := (w4).toInt) (Y := 999) hx hb dX2_canGo_17 (by decide) rfl rfl (fun c5 => ?_) (fun c5 => ?_)
    · refine lv_iconst (v := 0) hx hb dX2_canGo_52 (by decide) ?_
      refine hret _ _ _ _ _ _ dX2_canGo_53 rfl ?_ hO
      exact ⟨Or.inl rfl, rfl⟩
    · refine lv_iload_n hx hb dX2_canGo_20 rfl (lv_at hl 1 rfl) ?_
      refine lv_aload_n hx hb dX2_canGo_21 rfl (lv_at hl 0 rfl) ?_
      refine gf_RX2_9 (v := .ref (a 29)) C hO 28 cW_28 rfl dX2_canGo_22 ?_
      refine lv_iconst (v := 0) hx hb dX2_canGo_25 (by decide) ?_
      refine aI C hO 29 cW_29 (i_in (X := 0) rfl (by omega) (by omega)) dX2_canGo_26 ?_
      refine lv_topi (fun w6 ew6 => ?_)
      refine cs_eq (tgt := 48) (X := (x1).toInt) (Y := (w6).toInt) hx hb dX2_canGo_27 (by decide) rfl rfl (fun c7 => ?_) (fun c7 => ?_)
      · refine lv_iconst (v := 1) hx hb dX2_canGo_48 (by decide) ?_
        refine lv_goto (tgt := 53) hx hb dX2_canGo_49 (by decide) ?_
        refine hret _ _ _ _ _ _ dX2_canGo_53 rfl ?_ hO
        exact ⟨Or.inr rfl, rfl⟩
      · refine lv_aload_n hx hb dX2_canGo_30 rfl (lv_at hl 0 rfl) ?_
        refine lv_iload_n hx hb dX2_canGo_31 rfl (lv_at hl 1 rfl) ?_
        refine lv_iconst (v := 0) hx hb dX2_canGo_32 (by decide) ?_
        refine cVi (w := cW cy a) (As := [.int x1, .int 0]) (rest := []) C hO (T_X2_nextTo l D cy a _ (by exact hJ) (x1) (0)) (cwV 2 ht (gV wd_905 wd_822 wd_823 wd_115 wd_824) rfl rfl rfl hd_yX2_nextTo ⟨Nat.le_of_ble_eq_true rfl, Nat.le_of_ble_eq_true rfl⟩) 28 rfl cW_28 rfl rfl hl.1 (Nat.le_of_ble_eq_true rfl) dX2_canGo_33 rfl ⟨Nat.zero_le _, Nat.zero_le _⟩ (fun r8 u9 H locs hp10 hO => ?_)
        have hu9 := hp10
        rw [hu9] at hO
        refine lv_aload_n hx hb dX2_canGo_36 rfl (lv_at hl 0 rfl) ?_
        refine gf_RX2_9 (v := .ref (a 29)) C hO 28 cW_28 rfl dX2_canGo_37 ?_
        refine lv_iconst (v := 0) hx hb dX2_canGo_40 (by decide) ?_
        refine aI C hO 29 cW_29 (i_in (X := 0) rfl (by omega) (by omega)) dX2_canGo_41 ?_
        refine lv_topi (fun w11 ew11 => ?_)
        refine lv_ishr hx hb dX2_canGo_42 ?_
        refine lv_topi (fun z12 ez12 => ?_)
        refine lv_iconst (v := 1) hx hb dX2_canGo_43 (by decide) ?_
        refine lv_iand hx hb dX2_canGo_44 ?_
        refine lv_topi (fun z13 ez13 => ?_)
        have g14 : 0 ≤ z13.toInt ∧ z13.toInt ≤ 1 := by rw [ez13]; exact i_andr rfl (by omega)
        refine bs_eq (tgt := 52) (X := (z13).toInt) hx hb dX2_canGo_45 (by decide) rfl (fun c15 => ?_) (fun c15 => ?_)
        · refine lv_iconst (v := 0) hx hb dX2_canGo_52 (by decide) ?_
          refine hret _ _ _ _ _ _ dX2_canGo_53 rfl ?_ hO
          exact ⟨Or.inl rfl, rfl⟩
        · refine lv_iconst (v := 1) hx hb dX2_canGo_48 (by decide) ?_
          refine lv_goto (tgt := 53) hx hb dX2_canGo_49 (by decide) ?_
          refine hret _ _ _ _ _ _ dX2_canGo_53 rfl ?_ hO
          exact ⟨Or.inr rfl, rfl⟩
  · subst hvr1
    refine bt_eq (tgt := 52) (X := 0) hx hb dX2_canGo_5 (by decide) rfl (by omega) ?_
    refine lv_iconst (v := 0) hx hb dX2_canGo_52 (by decide) ?_
    refine hret _ _ _ _ _ _ dX2_canGo_53 rfl ?_ hO
    exact ⟨Or.inl rfl, rfl⟩
theorem dX2_drawsBack_0 : decode cX2_drawsBack 0 = .ok (.aload_n 0, 1) := by decide +kernel
theorem dX2_drawsBack_1 : decode cX2_drawsBack 1 = .ok (.getfield 9, 3) := by decide +kernel
theorem dX2_drawsBack_4 : decode cX2_drawsBack 4 = .ok (.iconst 3, 1) := by decide +kernel
theorem dX2_drawsBack_5 : decode cX2_drawsBack 5 = .ok (.aload_n 0, 1) := by decide +kernel
theorem dX2_drawsBack_6 : decode cX2_drawsBack 6 = .ok (.getfield 9, 3) := by decide +kernel
theorem dX2_drawsBack_9 : decode cX2_drawsBack 9 = .ok (.iconst 3, 1) := by decide +kernel
theorem dX2_drawsBack_10 : decode cX2_drawsBack 10 = .ok (.iaload, 1) := by decide +kernel
theorem dX2_drawsBack_11 : decode cX2_drawsBack 11 = .ok (.sipush 137, 3) := by decide +kernel
theorem dX2_drawsBack_14 : decode cX2_drawsBack 14 = .ok (.imul, 1) := by decide +kernel
theorem dX2_drawsBack_15 : decode cX2_drawsBack 15 = .ok (.bipush 71, 2) := by decide +kernel
theorem dX2_drawsBack_17 : decode cX2_drawsBack 17 = .ok (.iadd, 1) := by decide +kernel
theorem dX2_drawsBack_18 : decode cX2_drawsBack 18 = .ok (.sipush 1000, 3) := by decide +kernel
theorem dX2_drawsBack_21 : decode cX2_drawsBack 21 = .ok (.irem, 1) := by decide +kernel
theorem dX2_drawsBack_22 : decode cX2_drawsBack 22 = .ok (.iastore, 1) := by decide +kernel
theorem dX2_drawsBack_23 : decode cX2_drawsBack 23 = .ok (.aload_n 0, 1) := by decide +kernel
theorem dX2_drawsBack_24 : decode cX2_drawsBack 24 = .ok (.getfield 9, 3) := by decide +kernel
theorem dX2_drawsBack_27 : decode cX2_drawsBack 27 = .ok (.iconst 3, 1) := by decide +kernel
theorem dX2_drawsBack_28 : decode cX2_drawsBack 28 = .ok (.iaload, 1) := by decide +kernel
theorem dX2_drawsBack_29 : decode cX2_drawsBack 29 = .ok (.bipush 100, 2) := by decide +kernel
theorem dX2_drawsBack_31 : decode cX2_drawsBack 31 = .ok (.irem, 1) := by decide +kernel
theorem dX2_drawsBack_32 : decode cX2_drawsBack 32 = .ok (.aload_n 0, 1) := by decide +kernel
theorem dX2_drawsBack_33 : decode cX2_drawsBack 33 = .ok (.getfield 15, 3) := by decide +kernel
theorem dX2_drawsBack_36 : decode cX2_drawsBack 36 = .ok (.getfield 101, 3) := by decide +kernel
theorem dX2_drawsBack_39 : decode cX2_drawsBack 39 = .ok (.if_icmp .ge 7, 3) := by decide +kernel
theorem dX2_drawsBack_42 : decode cX2_drawsBack 42 = .ok (.iconst 1, 1) := by decide +kernel
theorem dX2_drawsBack_43 : decode cX2_drawsBack 43 = .ok (.goto 4, 3) := by decide +kernel
theorem dX2_drawsBack_46 : decode cX2_drawsBack 46 = .ok (.iconst 0, 1) := by decide +kernel
theorem dX2_drawsBack_47 : decode cX2_drawsBack 47 = .ok (.ireturn, 1) := by decide +kernel
theorem wd_920 : (Cond.code ⟨"WebCourt$Court", "drawsBack", "()Z"⟩ prog_4_method_16_code (1 : Nat) (Option.some FieldType.boolean)) ∈ gtb := gtb_c4 91 (by decide +kernel) rfl
theorem wd_281 : (Cond.fieldLink "WebCourt$Court" (101 : Nat) "WebCourt$Web" "back" "I") ∈ gtb := gtb_c1 172 (by decide +kernel) rfl
theorem gf_RX2_101 {p : Program} {l : Launch} {e : Env} {R : Room} {s : State} {m : MethodId} {args : Array Value} {below : List Frame} {meth : Method} {c : Code} {H : Heap} {locs : List Loc} {cells slots : Nat} {Q : State → Prop} {cc : ByteArray} {pc nL : Nat} {ls : Array Slot} {rest : List Value} {D : va_G} {cy : Nat → ClassId} {A : Nat → Prop} {ws : va_W} {b : Nat} {fs : List Value} {v : Value} (C : Cx p s m args c cc nL RX2 D cy A) (hO : Wo D A ws s.heap H locs) (q0 : Nat) (he : ws[q0]? = some (b, .inr (9, fs))) (hv : fs[15]? = some v) (hdg : decode cc pc = .ok (.getfield 101, 3)) (kk : W p l e R s m args below meth c H locs cells slots Q (F0 m (pc + 3) ls (v :: rest))) : W p l e R s m args below meth c H locs cells slots Q (F0 m pc ls (.ref b :: rest)) := gF (k := 15) C hO q0 he rfl inFX9 (by decide) wd_281 rfl hv hdg kk
set_option maxHeartbeats 4000000 in
set_option maxRecDepth 100000 in
theorem T_X2_drawsBack (l : Launch) (D : va_G) (cy : Nat → ClassId) (a : Nat → Nat) (u : St) (hJ : CI a u)   : Mi l D cy (cW cy a) yX2_drawsBack (.code yX2_drawsBack cX2_drawsBack 1 (some .boolean)) (rmo 0 0) [.ref (a 28)] u (fun (r : Int32) (u' : St) => (r = 0 ∨ r = 1) ∧ (CI a u') ∧ (KT u u')) := by
  refine Mi.of (own := RX2) rfl (by decide) (Nat.le_of_ble_eq_true rfl) ?_
  have hT : KT u u := KT.rf
  intro p e s m below meth c A Q ls C hret hO hl
  obtain ⟨hx, hb, hml, hown, ht, hK, hA⟩ := id C
  have hl : lv_has ls 1 [(0, .ref (a 28))] := hl
  refine lv_aload_n hx hb dX2_drawsBack_0 rfl (lv_at hl 0 rfl) ?_
  refine gf_RX2_9 (v := .ref (a 29)) C hO 28 cW_28 rfl dX2_drawsBack_1 ?_
  refine lv_iconst (v := 3) hx hb dX2_drawsBack_4 (by decide) ?_
  refine lv_aload_n hx hb dX2_drawsBack_5 rfl (lv_at hl 0 rfl) ?_
  refine gf_RX2_9 (v := .ref (a 29)) C hO 28 cW_28 rfl dX2_drawsBack_6 ?_
  refine lv_iconst (v := 3) hx hb dX2_drawsBack_9 (by decide) ?_
  refine aI C hO 29 cW_29 (i_in (X := 3) rfl (by omega) (by omega)) dX2_drawsBack_10 ?_
  refine lv_topi (fun w1 ew1 => ?_)
  refine lv_sipush (v := 137) hx hb dX2_drawsBack_11 (by decide) ?_
  refine lv_imul hx hb dX2_drawsBack_14 ?_
  refine lv_bipush (v := 71) hx hb dX2_drawsBack_15 (by decide) ?_
  refine lv_iadd hx hb dX2_drawsBack_17 ?_
  refine lv_sipush (v := 1000) hx hb dX2_drawsBack_18 (by decide) ?_
  refine lv_irem hx hb dX2_drawsBack_21 (i_ne0 (X := 1000) rfl (by omega)) ?_
  refine lv_topi (fun z2 ez2 => ?_)
  refine aIs C hO 29 cW_29 (i_in (X := 3) rfl (by omega) (by omega)) cW_s29 dX2_drawsBack_22 (fun H locs hO => ?_)
  have hJ := CIsA hO hJ
  refine lv_aload_n hx hb dX2_drawsBack_23 rfl (lv_at hl 0 rfl) ?_
  refine gf_RX2_9 (v := .ref (a 29)) C hO 28 cW_28 rfl dX2_drawsBack_24 ?_
  refine lv_iconst (v := 3) hx hb dX2_drawsBack_27 (by decide) ?_
  refine aI C hO 29 cW_29 (i_in (X := 3) rfl (by omega) (by omega)) dX2_drawsBack_28 ?_
  refine tE (y := z2) rfl ?_
  refine lv_bipush (v := 100) hx hb dX2_drawsBack_29 (by decide) ?_
  refine lv_irem hx hb dX2_drawsBack_31 (i_ne0 (X := 100) rfl (by omega)) ?_
  refine lv_topi (fun z3 ez3 => ?_)
  refine lv_aload_n hx hb dX2_drawsBack_32 rfl (lv_at hl 0 rfl) ?_
  refine gf_RX2_15 (v := .ref (a 3)) C hO 28 cW_28 (congrArg (fun z : Nat => some (Value.ref z)) (CI_R0 hJ)) dX2_drawsBack_33 ?_
  refine gf_RX2_101 (v := .int (fI u 3 15)) C hO 3 cW_3 rfl dX2_drawsBack_36 ?_
  refine cs_ge (tgt := 46) (X := (z3).toInt) (Y := ((fI u 3 15)).toInt) hx hb dX2_drawsBack_39 (by decide) rfl rfl (fun c4 => ?_) (fun c4 => ?_)
  · refine lv_iconst (v := 0) hx hb dX2_drawsBack_46 (by decide) ?_
    refine hret _ _ _ _ _ _ dX2_drawsBack_47 rfl ?_ hO
    exact ⟨Or.inl rfl, hJ, hT⟩
  · refine lv_iconst (v := 1) hx hb dX2_drawsBack_42 (by decide) ?_
    refine lv_goto (tgt := 47) hx hb dX2_drawsBack_43 (by decide) ?_
    refine hret _ _ _ _ _ _ dX2_drawsBack_47 rfl ?_ hO
    exact ⟨Or.inr rfl, hJ, hT⟩
theorem dX2_go_0 : decode cX2_go 0 = .ok (.aload_n 0, 1) := by decide +kernel
theorem dX2_go_1 : decode cX2_go 1 = .ok (.getfield 9, 3) := by decide +kernel
theorem dX2_go_4 : decode cX2_go 4 = .ok (.iconst 0, 1) := by decide +kernel
theorem dX2_go_5 : decode cX2_go 5 = .ok (.iload_n 1, 1) := by decide +kernel
theorem dX2_go_6 : decode cX2_go 6 = .ok (.iastore, 1) := by decide +kernel
theorem dX2_go_7 : decode cX2_go 7 = .ok (.aload_n 0, 1) := by decide +kernel
theorem dX2_go_8 : decode cX2_go 8 = .ok (.getfield 9, 3) := by decide +kernel
theorem dX2_go_11 : decode cX2_go 11 = .ok (.iconst 1, 1) := by decide +kernel
theorem dX2_go_12 : decode cX2_go 12 = .ok (.dup2, 1) := by decide +kernel
theorem dX2_go_13 : decode cX2_go 13 = .ok (.iaload, 1) := by decide +kernel
theorem dX2_go_14 : decode cX2_go 14 = .ok (.iconst 1, 1) := by decide +kernel
theorem dX2_go_15 : decode cX2_go 15 = .ok (.iadd, 1) := by decide +kernel
theorem dX2_go_16 : decode cX2_go 16 = .ok (.iastore, 1) := by decide +kernel
theorem dX2_go_17 : decode cX2_go 17 = .ok (.aload_n 0, 1) := by decide +kernel
theorem dX2_go_18 : decode cX2_go 18 = .ok (.getfield 9, 3) := by decide +kernel
theorem dX2_go_21 : decode cX2_go 21 = .ok (.iconst 2, 1) := by decide +kernel
theorem dX2_go_22 : decode cX2_go 22 = .ok (.iconst 0, 1) := by decide +kernel
theorem dX2_go_23 : decode cX2_go 23 = .ok (.iastore, 1) := by decide +kernel
theorem dX2_go_24 : decode cX2_go 24 = .ok (.iconst 0, 1) := by decide +kernel
theorem dX2_go_25 : decode cX2_go 25 = .ok (.istore_n 2, 1) := by decide +kernel
theorem dX2_go_26 : decode cX2_go 26 = .ok (.iconst 0, 1) := by decide +kernel
theorem dX2_go_27 : decode cX2_go 27 = .ok (.istore_n 3, 1) := by decide +kernel
theorem dX2_go_28 : decode cX2_go 28 = .ok (.iload_n 3, 1) := by decide +kernel
theorem dX2_go_29 : decode cX2_go 29 = .ok (.aload_n 0, 1) := by decide +kernel
theorem dX2_go_30 : decode cX2_go 30 = .ok (.getfield 15, 3) := by decide +kernel
theorem dX2_go_33 : decode cX2_go 33 = .ok (.getfield 34, 3) := by decide +kernel
theorem dX2_go_36 : decode cX2_go 36 = .ok (.if_icmp .ge 43, 3) := by decide +kernel
theorem dX2_go_39 : decode cX2_go 39 = .ok (.aload_n 0, 1) := by decide +kernel
theorem dX2_go_40 : decode cX2_go 40 = .ok (.getfield 9, 3) := by decide +kernel
theorem dX2_go_43 : decode cX2_go 43 = .ok (.iconst 5, 1) := by decide +kernel
theorem dX2_go_44 : decode cX2_go 44 = .ok (.iload_n 3, 1) := by decide +kernel
theorem dX2_go_45 : decode cX2_go 45 = .ok (.iadd, 1) := by decide +kernel
theorem dX2_go_46 : decode cX2_go 46 = .ok (.iaload, 1) := by decide +kernel
theorem dX2_go_47 : decode cX2_go 47 = .ok (.iconst 1, 1) := by decide +kernel
theorem dX2_go_48 : decode cX2_go 48 = .ok (.if_icmp .ne 25, 3) := by decide +kernel
theorem dX2_go_51 : decode cX2_go 51 = .ok (.aload_n 0, 1) := by decide +kernel
theorem dX2_go_52 : decode cX2_go 52 = .ok (.invokevirtual 97, 3) := by decide +kernel
theorem dX2_go_55 : decode cX2_go 55 = .ok (.ifCond .eq 18, 3) := by decide +kernel
theorem dX2_go_58 : decode cX2_go 58 = .ok (.aload_n 0, 1) := by decide +kernel
theorem dX2_go_59 : decode cX2_go 59 = .ok (.getfield 9, 3) := by decide +kernel
theorem dX2_go_62 : decode cX2_go 62 = .ok (.iconst 5, 1) := by decide +kernel
theorem dX2_go_63 : decode cX2_go 63 = .ok (.iload_n 3, 1) := by decide +kernel
theorem dX2_go_64 : decode cX2_go 64 = .ok (.iadd, 1) := by decide +kernel
theorem dX2_go_65 : decode cX2_go 65 = .ok (.iconst 0, 1) := by decide +kernel
theorem dX2_go_66 : decode cX2_go 66 = .ok (.iastore, 1) := by decide +kernel
theorem dX2_go_67 : decode cX2_go 67 = .ok (.iload_n 2, 1) := by decide +kernel
theorem dX2_go_68 : decode cX2_go 68 = .ok (.iconst 1, 1) := by decide +kernel
theorem dX2_go_69 : decode cX2_go 69 = .ok (.iload_n 3, 1) := by decide +kernel
theorem dX2_go_70 : decode cX2_go 70 = .ok (.ishl, 1) := by decide +kernel
theorem dX2_go_71 : decode cX2_go 71 = .ok (.ior, 1) := by decide +kernel
theorem dX2_go_72 : decode cX2_go 72 = .ok (.istore_n 2, 1) := by decide +kernel
theorem dX2_go_73 : decode cX2_go 73 = .ok (.iinc 3 1, 3) := by decide +kernel
theorem dX2_go_76 : decode cX2_go 76 = .ok (.goto (-48), 3) := by decide +kernel
theorem dX2_go_79 : decode cX2_go 79 = .ok (.iload_n 2, 1) := by decide +kernel
theorem dX2_go_80 : decode cX2_go 80 = .ok (.ireturn, 1) := by decide +kernel
theorem wd_916 : (Cond.code ⟨"WebCourt$Court", "go", "(I)I"⟩ prog_4_method_15_code (4 : Nat) (Option.some FieldType.int)) ∈ gtb := gtb_c4 87 (by decide +kernel) rfl
theorem wd_917 : (Cond.methodLink "WebCourt$Court" (97 : Nat) ⟨"WebCourt$Court", "drawsBack", "()Z"⟩) ∈ gtb := gtb_c4 88 (by decide +kernel) rfl
theorem wd_919 : (Cond.instanceMethod ⟨"WebCourt$Court", "drawsBack", "()Z"⟩) ∈ gtb := gtb_c4 90 (by decide +kernel) rfl
theorem wd_30 : (Cond.selects "WebCourt$Court" ⟨"WebCourt$Court", "drawsBack", "()Z"⟩ ⟨"WebCourt$Court", "drawsBack", "()Z"⟩) ∈ gtb := gtb_p 30 (by decide +kernel) rfl
theorem hd_yX2_drawsBack : yX2_drawsBack.cls = RX2 ∧ yX2_drawsBack.cls ≠ "java/lang/invoke/MethodHandle" ∧ yX2_drawsBack.cls ≠ "java/lang/invoke/VarHandle" ∧ (parseMethodDescriptor yX2_drawsBack.desc).map (fun d => d.parameters.length) = some 0 := by decide +kernel
set_option maxHeartbeats 4000000 in
set_option maxRecDepth 100000 in
theorem T_X2_go (l : Launch) (D : va_G) (cy : Nat → ClassId) (a : Nat → Nat) (u : St) (hJ : CI a u) (x1 : Int32)  : Mi l D cy (cW cy a) yX2_go (.code yX2_go cX2_go 4 (some .int)) (rmo 1 20) [.ref (a 28), .int x1] u (fun (r : Int32) (u' : St) => (CI a u') ∧ (KT u u')) := by
  refine Mi.of (own := RX2) rfl (by decide) (Nat.le_of_ble_eq_true rfl) ?_
  have hT : KT u u := KT.rf
  intro p e s m below meth c A Q ls C hret hO hl
  obtain ⟨hx, hb, hml, hown, ht, hK, hA⟩ := id C
  have hl : lv_has ls 4 [(0, .ref (a 28)), (1, .int x1)] := hl
  refine lv_aload_n hx hb dX2_go_0 rfl (lv_at hl 0 rfl) ?_
  refine gf_RX2_9 (v := .ref (a 29)) C hO 28 cW_28 rfl dX2_go_1 ?_
  refine lv_iconst (v := 0) hx hb dX2_go_4 (by decide) ?_
  refine lv_iload_n hx hb dX2_go_5 rfl (lv_at hl 1 rfl) ?_
  refine aIs C hO 29 cW_29 (i_in (X := 0) rfl (by omega) (by omega)) cW_s29 dX2_go_6 (fun H locs hO => ?_)
  have hJ := CIsA hO hJ
  refine lv_aload_n hx hb dX2_go_7 rfl (lv_at hl 0 rfl) ?_
  refine gf_RX2_9 (v := .ref (a 29)) C hO 28 cW_28 rfl dX2_go_8 ?_
  refine lv_iconst (v := 1) hx hb dX2_go_11 (by decide) ?_
  refine lv_dup2_11 hx hb dX2_go_12 rfl rfl ?_
  refine aI C hO 29 cW_29 (i_in (X := 1) rfl (by omega) (by omega)) dX2_go_13 ?_
  refine lv_topi (fun w1 ew1 => ?_)
  refine lv_iconst (v := 1) hx hb dX2_go_14 (by decide) ?_
  refine lv_iadd hx hb dX2_go_15 ?_
  refine aIs C hO 29 cW_29 (i_in (X := 1) rfl (by omega) (by omega)) cW_s29 dX2_go_16 (fun H locs hO => ?_)
  have hJ := CIsA hO hJ
  refine lv_aload_n hx hb dX2_go_17 rfl (lv_at hl 0 rfl) ?_
  refine gf_RX2_9 (v := .ref (a 29)) C hO 28 cW_28 rfl dX2_go_18 ?_
  refine lv_iconst (v := 2) hx hb dX2_go_21 (by decide) ?_
  refine lv_iconst (v := 0) hx hb dX2_go_22 (by decide) ?_
  refine aIs C hO 29 cW_29 (i_in (X := 2) rfl (by omega) (by omega)) cW_s29 dX2_go_23 (fun H locs hO => ?_)
  have hJ := CIsA hO hJ
  refine lv_iconst (v := 0) hx hb dX2_go_24 (by decide) ?_
  refine lv_istore_n (lv' := [(2, .int 0), (0, .ref (a 28)), (1, .int x1)]) hx hb dX2_go_25 rfl hl (by decide) rfl (fun ls hl => ?_)
  refine lv_iconst (v := 0) hx hb dX2_go_26 (by decide) ?_
  refine lv_istore_n (lv' := [(3, .int 0), (2, .int 0), (0, .ref (a 28)), (1, .int x1)]) hx hb dX2_go_27 rfl hl (by decide) rfl (fun ls hl => ?_)
  have LP_28_k3 : ∀ (n : Nat) (u2 : St) (H : Heap) (locs : List Loc) (ls : Array Slot) (i_k3 : Int32) (w2_k3 : Int32), Wo D A (cW cy a u2) s.heap H locs → lv_has ls 4 [(3, .int i_k3), (2, .int w2_k3), (0, .ref (a 28)), (1, .int x1)] → CI a u2 → KT u u2 → 0 ≤ i_k3.toInt ∧ i_k3.toInt ≤ 6 → 6 - i_k3.toInt < (n : Int) → W p l e (rmo 1 20) s m [.ref (a 28), .int x1].toArray below meth c H locs 0 0 Q (F0 m 28 ls []) := by
    intro n
    induction n with
    | zero =>
      intro u2 H locs ls i_k3 w2_k3 hO hl hJ hT iv0_k3 hm_k3
      exact absurd hm_k3 (by omega)
    | succ n ih_k3 =>
      intro u2 H locs ls i_k3 w2_k3 hO hl hJ hT iv0_k3 hm_k3
      refine lv_iload_n hx hb dX2_go_28 rfl (lv_at hl 0 rfl) ?_
      refine lv_aload_n hx hb dX2_go_29 rfl (lv_at hl 2 rfl) ?_
      refine gf_RX2_15 (v := .ref (a 3)) C hO 28 cW_28 (congrArg (fun z : Nat => some (Value.ref z)) (CI_R0 hJ)) dX2_go_30 ?_
      have g4 : 0 ≤ (fI u2 3 12).toInt ∧ (fI u2 3 12).toInt ≤ 6 := by have h := CI_3_12 hJ; exact h
      refine gf_RX2_34 (v := .int (fI u2 3 12)) C hO 3 cW_3 rfl dX2_go_33 ?_
      refine cs_ge (tgt := 79) (X := (i_k3).toInt) (Y := ((fI u2 3 12)).toInt) hx hb dX2_go_36 (by decide) rfl rfl (fun c5 => ?_) (fun c5 => ?_)
      · refine lv_iload_n hx hb dX2_go_79 rfl (lv_at hl 1 rfl) ?_
        refine hret _ _ _ _ _ _ dX2_go_80 rfl ?_ hO
        exact ⟨hJ, hT⟩
      · refine lv_aload_n hx hb dX2_go_39 rfl (lv_at hl 2 rfl) ?_
        refine gf_RX2_9 (v := .ref (a 29)) C hO 28 cW_28 rfl dX2_go_40 ?_
        refine lv_iconst (v := 5) hx hb dX2_go_43 (by decide) ?_
        refine lv_iload_n hx hb dX2_go_44 rfl (lv_at hl 0 rfl) ?_
        have e6 : ((5 + i_k3)).toInt = 5 + (i_k3).toInt := i_add rfl rfl (by omega)
        refine lv_iadd hx hb dX2_go_45 ?_
        refine aI C hO 29 cW_29 (i_in (X := (5 + (i_k3).toInt)) e6 (by omega) (by omega)) dX2_go_46 ?_
        refine lv_topi (fun w7 ew7 => ?_)
        refine lv_iconst (v := 1) hx hb dX2_go_47 (by decide) ?_
        refine cs_ne (tgt := 73) (X := (w7).toInt) (Y := 1) hx hb dX2_go_48 (by decide) rfl rfl (fun c8 => ?_) (fun c8 => ?_)
        · have e9 : ((i_k3 + 1)).toInt = (i_k3).toInt + 1 := i_add rfl rfl (by omega)
          refine lv_iinc (v := (i_k3 + 1)) (lv' := [(3, .int (i_k3 + 1)), (2, .int w2_k3), (0, .ref (a 28)), (1, .int x1)]) hx hb dX2_go_73 hl (k := 0) rfl rfl (by decide) rfl (fun ls hl => ?_)
          refine lv_goto (tgt := 28) hx hb dX2_go_76 (by decide) ?_
          exact ih_k3 _ _ _ _ ((i_k3 + 1)) (w2_k3) hO (lv_sub hl [0, 1, 2, 3] rfl) (by exact hJ) (by exact hT) (by first | decide | omega) (by first | decide | omega)
        · refine lv_aload_n hx hb dX2_go_51 rfl (lv_at hl 2 rfl) ?_
          refine cVi (w := cW cy a) (As := []) (rest := []) C hO (T_X2_drawsBack l D cy a _ (by exact hJ)) (cwV 0 ht (gV wd_917 wd_919 wd_30 wd_115 wd_920) rfl rfl rfl hd_yX2_drawsBack ⟨Nat.le_of_ble_eq_true rfl, Nat.le_of_ble_eq_true rfl⟩) 28 rfl cW_28 rfl rfl hl.1 (Nat.le_of_ble_eq_true rfl) dX2_go_52 rfl ⟨Nat.zero_le _, Nat.zero_le _⟩ (fun r10 u11 H locs hp12 hO => ?_)
          obtain ⟨hr10, hJ, hTu11⟩ := hp12
          have gr10 : 0 ≤ r10.toInt ∧ r10.toInt ≤ 1 := by rcases hr10 with h | h <;> rw [h] <;> decide
          have hT : KT u u11 := KT.tr (by exact hT) hTu11
          refine bs_eq (tgt := 73) (X := (r10).toInt) hx hb dX2_go_55 (by decide) rfl (fun c13 => ?_) (fun c13 => ?_)
          · have e14 : ((i_k3 + 1)).toInt = (i_k3).toInt + 1 := i_add rfl rfl (by omega)
            refine lv_iinc (v := (i_k3 + 1)) (lv' := [(3, .int (i_k3 + 1)), (2, .int w2_k3), (0, .ref (a 28)), (1, .int x1)]) hx hb dX2_go_73 hl (k := 0) rfl rfl (by decide) rfl (fun ls hl => ?_)
            refine lv_goto (tgt := 28) hx hb dX2_go_76 (by decide) ?_
            exact ih_k3 _ _ _ _ ((i_k3 + 1)) (w2_k3) hO (lv_sub hl [0, 1, 2, 3] rfl) (by exact hJ) (by exact hT) (by first | decide | omega) (by first | decide | omega)
          · refine lv_aload_n hx hb dX2_go_58 rfl (lv_at hl 2 rfl) ?_
            refine gf_RX2_9 (v := .ref (a 29)) C hO 28 cW_28 rfl dX2_go_59 ?_
            refine lv_iconst (v := 5) hx hb dX2_go_62 (by decide) ?_
            refine lv_iload_n hx hb dX2_go_63 rfl (lv_at hl 0 rfl) ?_
            have e15 : ((5 + i_k3)).toInt = 5 + (i_k3).toInt := i_add rfl rfl (by omega)
            refine lv_iadd hx hb dX2_go_64 ?_
            refine lv_iconst (v := 0) hx hb dX2_go_65 (by decide) ?_
            refine aIs C hO 29 cW_29 (i_in (X := (5 + (i_k3).toInt)) e15 (by omega) (by omega)) cW_s29 dX2_go_66 (fun H locs hO => ?_)
            have hJ := CIsA hO hJ
            refine lv_iload_n hx hb dX2_go_67 rfl (lv_at hl 1 rfl) ?_
            refine lv_iconst (v := 1) hx hb dX2_go_68 (by decide) ?_
            refine lv_iload_n hx hb dX2_go_69 rfl (lv_at hl 0 rfl) ?_
            refine lv_ishl hx hb dX2_go_70 ?_
            refine lv_topi (fun z16 ez16 => ?_)
            have g17 : 0 ≤ z16.toInt ∧ z16.toInt ≤ 2 ^ 5 := by rw [ez16]; exact i_shl1 rfl (by omega) (by omega) (by decide)
            refine lv_ior hx hb dX2_go_71 ?_
            refine lv_topi (fun z18 ez18 => ?_)
            refine lv_istore_n (lv' := [(2, .int z18), (3, .int i_k3), (0, .ref (a 28)), (1, .int x1)]) hx hb dX2_go_72 rfl hl (by decide) rfl (fun ls hl => ?_)
            have e19 : ((i_k3 + 1)).toInt = (i_k3).toInt + 1 := i_add rfl rfl (by omega)
            refine lv_iinc (v := (i_k3 + 1)) (lv' := [(3, .int (i_k3 + 1)), (2, .int z18), (0, .ref (a 28)), (1, .int x1)]) hx hb dX2_go_73 hl (k := 1) rfl rfl (by decide) rfl (fun ls hl => ?_)
            refine lv_goto (tgt := 28) hx hb dX2_go_76 (by decide) ?_
            exact ih_k3 _ _ _ _ ((i_k3 + 1)) (z18) hO (lv_sub hl [0, 1, 2, 3] rfl) (by exact hJ) (by exact hT) (by first | decide | omega) (by first | decide | omega)
  exact LP_28_k3 4000 _ _ _ _ (0) (0) hO (lv_sub hl [0, 1, 2, 3] rfl) (by exact hJ) (by exact hT) (by first | decide | omega) (by first | decide | omega)
theorem dX2_canBeHeard_0 : decode cX2_canBeHeard 0 = .ok (.aload_n 0, 1) := by decide +kernel
theorem dX2_canBeHeard_1 : decode cX2_canBeHeard 1 = .ok (.iload_n 1, 1) := by decide +kernel
theorem dX2_canBeHeard_2 : decode cX2_canBeHeard 2 = .ok (.invokevirtual 104, 3) := by decide +kernel
theorem dX2_canBeHeard_5 : decode cX2_canBeHeard 5 = .ok (.ifCond .eq 34, 3) := by decide +kernel
theorem dX2_canBeHeard_8 : decode cX2_canBeHeard 8 = .ok (.aload_n 0, 1) := by decide +kernel
theorem dX2_canBeHeard_9 : decode cX2_canBeHeard 9 = .ok (.getfield 15, 3) := by decide +kernel
theorem dX2_canBeHeard_12 : decode cX2_canBeHeard 12 = .ok (.getfield 47, 3) := by decide +kernel
theorem dX2_canBeHeard_15 : decode cX2_canBeHeard 15 = .ok (.iload_n 1, 1) := by decide +kernel
theorem dX2_canBeHeard_16 : decode cX2_canBeHeard 16 = .ok (.iaload, 1) := by decide +kernel
theorem dX2_canBeHeard_17 : decode cX2_canBeHeard 17 = .ok (.aload_n 0, 1) := by decide +kernel
theorem dX2_canBeHeard_18 : decode cX2_canBeHeard 18 = .ok (.getfield 9, 3) := by decide +kernel
theorem dX2_canBeHeard_21 : decode cX2_canBeHeard 21 = .ok (.iconst 0, 1) := by decide +kernel
theorem dX2_canBeHeard_22 : decode cX2_canBeHeard 22 = .ok (.iaload, 1) := by decide +kernel
theorem dX2_canBeHeard_23 : decode cX2_canBeHeard 23 = .ok (.if_icmp .ne 16, 3) := by decide +kernel
theorem dX2_canBeHeard_26 : decode cX2_canBeHeard 26 = .ok (.aload_n 0, 1) := by decide +kernel
theorem dX2_canBeHeard_27 : decode cX2_canBeHeard 27 = .ok (.getfield 9, 3) := by decide +kernel
theorem dX2_canBeHeard_30 : decode cX2_canBeHeard 30 = .ok (.iconst 2, 1) := by decide +kernel
theorem dX2_canBeHeard_31 : decode cX2_canBeHeard 31 = .ok (.iaload, 1) := by decide +kernel
theorem dX2_canBeHeard_32 : decode cX2_canBeHeard 32 = .ok (.ifCond .ne 7, 3) := by decide +kernel
theorem dX2_canBeHeard_35 : decode cX2_canBeHeard 35 = .ok (.iconst 1, 1) := by decide +kernel
theorem dX2_canBeHeard_36 : decode cX2_canBeHeard 36 = .ok (.goto 4, 3) := by decide +kernel
theorem dX2_canBeHeard_39 : decode cX2_canBeHeard 39 = .ok (.iconst 0, 1) := by decide +kernel
theorem dX2_canBeHeard_40 : decode cX2_canBeHeard 40 = .ok (.ireturn, 1) := by decide +kernel
theorem wd_928 : (Cond.code ⟨"WebCourt$Court", "canBeHeard", "(I)Z"⟩ prog_4_method_17_code (2 : Nat) (Option.some FieldType.boolean)) ∈ gtb := gtb_c4 99 (by decide +kernel) rfl
theorem wd_929 : (Cond.methodLink "WebCourt$Court" (104 : Nat) ⟨"WebCourt$Court", "isHeld", "(I)Z"⟩) ∈ gtb := gtb_c4 100 (by decide +kernel) rfl
theorem wd_930 : (Cond.instanceMethod ⟨"WebCourt$Court", "isHeld", "(I)Z"⟩) ∈ gtb := gtb_c4 101 (by decide +kernel) rfl
theorem wd_931 : (Cond.selects "WebCourt$Court" ⟨"WebCourt$Court", "isHeld", "(I)Z"⟩ ⟨"WebCourt$Court", "isHeld", "(I)Z"⟩) ∈ gtb := gtb_c4 102 (by decide +kernel) rfl
theorem hd_yX2_isHeld : yX2_isHeld.cls = RX2 ∧ yX2_isHeld.cls ≠ "java/lang/invoke/MethodHandle" ∧ yX2_isHeld.cls ≠ "java/lang/invoke/VarHandle" ∧ (parseMethodDescriptor yX2_isHeld.desc).map (fun d => d.parameters.length) = some 1 := by decide +kernel
set_option maxHeartbeats 4000000 in
set_option maxRecDepth 100000 in
theorem T_X2_canBeHeard (l : Launch) (D : va_G) (cy : Nat → ClassId) (a : Nat → Nat) (u : St) (hJ : CI a u) (x1 : Int32)  : Mi l D cy (cW cy a) yX2_canBeHeard (.code yX2_canBeHeard cX2_canBeHeard 2 (some .boolean)) (rmo 2 42) [.ref (a 28), .int x1] u (fun (r : Int32) (u' : St) => (r = 0 ∨ r = 1) ∧ (u' = u)) := by
  refine Mi.of (own := RX2) rfl (by decide) (Nat.le_of_ble_eq_true rfl) ?_
  have hT : KT u u := KT.rf
  intro p e s m below meth c A Q ls C hret hO hl
  obtain ⟨hx, hb, hml, hown, ht, hK, hA⟩ := id C
  have hl : lv_has ls 2 [(0, .ref (a 28)), (1, .int x1)] := hl
  refine lv_aload_n hx hb dX2_canBeHeard_0 rfl (lv_at hl 0 rfl) ?_
  refine lv_iload_n hx hb dX2_canBeHeard_1 rfl (lv_at hl 1 rfl) ?_
  refine cVi (w := cW cy a) (As := [.int x1]) (rest := []) C hO (T_X2_isHeld l D cy a _ (by exact hJ) (x1)) (cwV 1 ht (gV wd_929 wd_930 wd_931 wd_115 wd_932) rfl rfl rfl hd_yX2_isHeld ⟨Nat.le_of_ble_eq_true rfl, Nat.le_of_ble_eq_true rfl⟩) 28 rfl cW_28 rfl rfl hl.1 (Nat.le_of_ble_eq_true rfl) dX2_canBeHeard_2 rfl ⟨Nat.zero_le _, Nat.zero_le _⟩ (fun r1 u2 H locs hp3 hO => ?_)
  obtain ⟨hr1, hu2⟩ := hp3
  rw [hu2] at hO
  rcases hr1 with ⟨hcr1, hvr1⟩ | ⟨hcr1, hvr1⟩
  · subst hvr1
    refine bn_eq (X := 1) hx hb dX2_canBeHeard_5 rfl (by omega) ?_ (tgt := 39) (by decide)
    refine lv_aload_n hx hb dX2_canBeHeard_8 rfl (lv_at hl 0 rfl) ?_
    refine gf_RX2_15 (v := .ref (a 3)) C hO 28 cW_28 (congrArg (fun z : Nat => some (Value.ref z)) (CI_R0 hJ)) dX2_canBeHeard_9 ?_
    refine gf_RX2_47 (v := .ref (a 10)) C hO 3 cW_3 rfl dX2_canBeHeard_12 ?_
    refine lv_iload_n hx hb dX2_canBeHeard_15 rfl (lv_at hl 1 rfl) ?_
    refine aI C hO 10 cW_10 (i_in (X := (x1).toInt) rfl (by omega) (by omega)) dX2_canBeHeard_16 ?_
    refine lv_topi (fun w4 ew4 => ?_)
    refine lv_aload_n hx hb dX2_canBeHeard_17 rfl (lv_at hl 0 rfl) ?_
    refine gf_RX2_9 (v := .ref (a 29)) C hO 28 cW_28 rfl dX2_canBeHeard_18 ?_
    refine lv_iconst (v := 0) hx hb dX2_canBeHeard_21 (by decide) ?_
    refine aI C hO 29 cW_29 (i_in (X := 0) rfl (by omega) (by omega)) dX2_canBeHeard_22 ?_
    refine lv_topi (fun w5 ew5 => ?_)
    refine cs_ne (tgt := 39) (X := (w4).toInt) (Y := (w5).toInt) hx hb dX2_canBeHeard_23 (by decide) rfl rfl (fun c6 => ?_) (fun c6 => ?_)
    · refine lv_iconst (v := 0) hx hb dX2_canBeHeard_39 (by decide) ?_
      refine hret _ _ _ _ _ _ dX2_canBeHeard_40 rfl ?_ hO
      exact ⟨Or.inl rfl, rfl⟩
    · refine lv_aload_n hx hb dX2_canBeHeard_26 rfl (lv_at hl 0 rfl) ?_
      refine gf_RX2_9 (v := .ref (a 29)) C hO 28 cW_28 rfl dX2_canBeHeard_27 ?_
      refine lv_iconst (v := 2) hx hb dX2_canBeHeard_30 (by decide) ?_
      refine aI C hO 29 cW_29 (i_in (X := 2) rfl (by omega) (by omega)) dX2_canBeHeard_31 ?_
      refine lv_topi (fun w7 ew7 => ?_)
      refine bs_ne (tgt := 39) (X := (w7).toInt) hx hb dX2_canBeHeard_32 (by decide) rfl (fun c8 => ?_) (fun c8 => ?_)
      · refine lv_iconst (v := 0) hx hb dX2_canBeHeard_39 (by decide) ?_
        refine hret _ _ _ _ _ _ dX2_canBeHeard_40 rfl ?_ hO
        exact ⟨Or.inl rfl, rfl⟩
      · refine lv_iconst (v := 1) hx hb dX2_canBeHeard_35 (by decide) ?_
        refine lv_goto (tgt := 40) hx hb dX2_canBeHeard_36 (by decide) ?_
        refine hret _ _ _ _ _ _ dX2_canBeHeard_40 rfl ?_ hO
        exact ⟨Or.inr rfl, rfl⟩
  · subst hvr1
    refine bt_eq (tgt := 39) (X := 0) hx hb dX2_canBeHeard_5 (by decide) rfl (by omega) ?_
    refine lv_iconst (v := 0) hx hb dX2_canBeHeard_39 (by decide) ?_
    refine hret _ _ _ _ _ _ dX2_canBeHeard_40 rfl ?_ hO
    exact ⟨Or.inl rfl, rfl⟩
theorem dX2_decide_0 : decode cX2_decide 0 = .ok (.aload_n 0, 1) := by decide +kernel
theorem dX2_decide_1 : decode cX2_decide 1 = .ok (.iload_n 1, 1) := by decide +kernel
theorem dX2_decide_2 : decode cX2_decide 2 = .ok (.invokevirtual 107, 3) := by decide +kernel
theorem dX2_decide_5 : decode cX2_decide 5 = .ok (.istore_n 2, 1) := by decide +kernel
theorem dX2_decide_6 : decode cX2_decide 6 = .ok (.aload_n 0, 1) := by decide +kernel
theorem dX2_decide_7 : decode cX2_decide 7 = .ok (.getfield 9, 3) := by decide +kernel
theorem dX2_decide_10 : decode cX2_decide 10 = .ok (.iconst 2, 1) := by decide +kernel
theorem dX2_decide_11 : decode cX2_decide 11 = .ok (.iconst 1, 1) := by decide +kernel
theorem dX2_decide_12 : decode cX2_decide 12 = .ok (.iastore, 1) := by decide +kernel
theorem dX2_decide_13 : decode cX2_decide 13 = .ok (.iload_n 2, 1) := by decide +kernel
theorem dX2_decide_14 : decode cX2_decide 14 = .ok (.ifCond .ne 30, 3) := by decide +kernel
theorem dX2_decide_17 : decode cX2_decide 17 = .ok (.aload_n 0, 1) := by decide +kernel
theorem dX2_decide_18 : decode cX2_decide 18 = .ok (.getfield 9, 3) := by decide +kernel
theorem dX2_decide_21 : decode cX2_decide 21 = .ok (.bipush 23, 2) := by decide +kernel
theorem dX2_decide_23 : decode cX2_decide 23 = .ok (.iload_n 1, 1) := by decide +kernel
theorem dX2_decide_24 : decode cX2_decide 24 = .ok (.iadd, 1) := by decide +kernel
theorem dX2_decide_25 : decode cX2_decide 25 = .ok (.aload_n 0, 1) := by decide +kernel
theorem dX2_decide_26 : decode cX2_decide 26 = .ok (.getfield 9, 3) := by decide +kernel
theorem dX2_decide_29 : decode cX2_decide 29 = .ok (.bipush 23, 2) := by decide +kernel
theorem dX2_decide_31 : decode cX2_decide 31 = .ok (.iload_n 1, 1) := by decide +kernel
theorem dX2_decide_32 : decode cX2_decide 32 = .ok (.iadd, 1) := by decide +kernel
theorem dX2_decide_33 : decode cX2_decide 33 = .ok (.iaload, 1) := by decide +kernel
theorem dX2_decide_34 : decode cX2_decide 34 = .ok (.iconst 1, 1) := by decide +kernel
theorem dX2_decide_35 : decode cX2_decide 35 = .ok (.iadd, 1) := by decide +kernel
theorem dX2_decide_36 : decode cX2_decide 36 = .ok (.bipush 99, 2) := by decide +kernel
theorem dX2_decide_38 : decode cX2_decide 38 = .ok (.invokestatic 110, 3) := by decide +kernel
theorem dX2_decide_41 : decode cX2_decide 41 = .ok (.iastore, 1) := by decide +kernel
theorem dX2_decide_42 : decode cX2_decide 42 = .ok (.iconst 0, 1) := by decide +kernel
theorem dX2_decide_43 : decode cX2_decide 43 = .ok (.ireturn, 1) := by decide +kernel
theorem dX2_decide_44 : decode cX2_decide 44 = .ok (.aload_n 0, 1) := by decide +kernel
theorem dX2_decide_45 : decode cX2_decide 45 = .ok (.getfield 9, 3) := by decide +kernel
theorem dX2_decide_48 : decode cX2_decide 48 = .ok (.iconst 5, 1) := by decide +kernel
theorem dX2_decide_49 : decode cX2_decide 49 = .ok (.iload_n 1, 1) := by decide +kernel
theorem dX2_decide_50 : decode cX2_decide 50 = .ok (.iadd, 1) := by decide +kernel
theorem dX2_decide_51 : decode cX2_decide 51 = .ok (.iload_n 2, 1) := by decide +kernel
theorem dX2_decide_52 : decode cX2_decide 52 = .ok (.ifCond .le 7, 3) := by decide +kernel
theorem dX2_decide_55 : decode cX2_decide 55 = .ok (.iconst 1, 1) := by decide +kernel
theorem dX2_decide_56 : decode cX2_decide 56 = .ok (.goto 4, 3) := by decide +kernel
theorem dX2_decide_59 : decode cX2_decide 59 = .ok (.iconst 2, 1) := by decide +kernel
theorem dX2_decide_60 : decode cX2_decide 60 = .ok (.iastore, 1) := by decide +kernel
theorem dX2_decide_61 : decode cX2_decide 61 = .ok (.iload_n 2, 1) := by decide +kernel
theorem dX2_decide_62 : decode cX2_decide 62 = .ok (.ifCond .le 28, 3) := by decide +kernel
theorem dX2_decide_65 : decode cX2_decide 65 = .ok (.aload_n 0, 1) := by decide +kernel
theorem dX2_decide_66 : decode cX2_decide 66 = .ok (.getfield 9, 3) := by decide +kernel
theorem dX2_decide_69 : decode cX2_decide 69 = .ok (.bipush 17, 2) := by decide +kernel
theorem dX2_decide_71 : decode cX2_decide 71 = .ok (.iload_n 1, 1) := by decide +kernel
theorem dX2_decide_72 : decode cX2_decide 72 = .ok (.iadd, 1) := by decide +kernel
theorem dX2_decide_73 : decode cX2_decide 73 = .ok (.aload_n 0, 1) := by decide +kernel
theorem dX2_decide_74 : decode cX2_decide 74 = .ok (.getfield 9, 3) := by decide +kernel
theorem dX2_decide_77 : decode cX2_decide 77 = .ok (.bipush 17, 2) := by decide +kernel
theorem dX2_decide_79 : decode cX2_decide 79 = .ok (.iload_n 1, 1) := by decide +kernel
theorem dX2_decide_80 : decode cX2_decide 80 = .ok (.iadd, 1) := by decide +kernel
theorem dX2_decide_81 : decode cX2_decide 81 = .ok (.iaload, 1) := by decide +kernel
theorem dX2_decide_82 : decode cX2_decide 82 = .ok (.iconst 1, 1) := by decide +kernel
theorem dX2_decide_83 : decode cX2_decide 83 = .ok (.iadd, 1) := by decide +kernel
theorem dX2_decide_84 : decode cX2_decide 84 = .ok (.bipush 99, 2) := by decide +kernel
theorem dX2_decide_86 : decode cX2_decide 86 = .ok (.invokestatic 110, 3) := by decide +kernel
theorem dX2_decide_89 : decode cX2_decide 89 = .ok (.iastore, 1) := by decide +kernel
theorem dX2_decide_90 : decode cX2_decide 90 = .ok (.aload_n 0, 1) := by decide +kernel
theorem dX2_decide_91 : decode cX2_decide 91 = .ok (.getfield 9, 3) := by decide +kernel
theorem dX2_decide_94 : decode cX2_decide 94 = .ok (.iconst 5, 1) := by decide +kernel
theorem dX2_decide_95 : decode cX2_decide 95 = .ok (.iload_n 1, 1) := by decide +kernel
theorem dX2_decide_96 : decode cX2_decide 96 = .ok (.iadd, 1) := by decide +kernel
theorem dX2_decide_97 : decode cX2_decide 97 = .ok (.iaload, 1) := by decide +kernel
theorem dX2_decide_98 : decode cX2_decide 98 = .ok (.ireturn, 1) := by decide +kernel
theorem wd_937 : (Cond.code ⟨"WebCourt$Court", "decide", "(I)I"⟩ prog_4_method_18_code (3 : Nat) (Option.some FieldType.int)) ∈ gtb := gtb_c4 108 (by decide +kernel) rfl
theorem wd_938 : (Cond.methodLink "WebCourt$Court" (107 : Nat) ⟨"WebCourt$Court", "judgedNow", "(I)I"⟩) ∈ gtb := gtb_c4 109 (by decide +kernel) rfl
theorem wd_850 : (Cond.instanceMethod ⟨"WebCourt$Court", "judgedNow", "(I)I"⟩) ∈ gtb := gtb_c4 21 (by decide +kernel) rfl
theorem wd_851 : (Cond.selects "WebCourt$Court" ⟨"WebCourt$Court", "judgedNow", "(I)I"⟩ ⟨"WebCourt$Court", "judgedNow", "(I)I"⟩) ∈ gtb := gtb_c4 22 (by decide +kernel) rfl
theorem hd_yX2_judgedNow : yX2_judgedNow.cls = RX2 ∧ yX2_judgedNow.cls ≠ "java/lang/invoke/MethodHandle" ∧ yX2_judgedNow.cls ≠ "java/lang/invoke/VarHandle" ∧ (parseMethodDescriptor yX2_judgedNow.desc).map (fun d => d.parameters.length) = some 1 := by decide +kernel
theorem wd_939 : (Cond.methodLink "WebCourt$Court" (110 : Nat) ⟨"java/lang/Math", "min", "(II)I"⟩) ∈ gtb := gtb_c4 110 (by decide +kernel) rfl
theorem wd_639 : (Cond.static ⟨"java/lang/Math", "min", "(II)I"⟩) ∈ gtb := gtb_c3 50 (by decide +kernel) rfl
theorem wd_126 : (Cond.initialized "java/lang/Math") ∈ gtb := gtb_c1 17 (by decide +kernel) rfl
theorem wd_640 : (Cond.code ⟨"java/lang/Math", "min", "(II)I"⟩ prog_16_method_69_code (2 : Nat) (Option.some FieldType.int)) ∈ gtb := gtb_c3 51 (by decide +kernel) rfl
set_option maxHeartbeats 4000000 in
set_option maxRecDepth 100000 in
theorem T_X2_decide (l : Launch) (D : va_G) (cy : Nat → ClassId) (a : Nat → Nat) (u : St) (hJ : CI a u) (x1 : Int32) (hx_x1 : 0 ≤ x1.toInt ∧ x1.toInt ≤ 5) : Mi l D cy (cW cy a) yX2_decide (.code yX2_decide cX2_decide 3 (some .int)) (rmo 4 99) [.ref (a 28), .int x1] u (fun (r : Int32) (u' : St) => (CI a u') ∧ (KT u u')) := by
  refine Mi.of (own := RX2) rfl (by decide) (Nat.le_of_ble_eq_true rfl) ?_
  have hT : KT u u := KT.rf
  intro p e s m below meth c A Q ls C hret hO hl
  obtain ⟨hx, hb, hml, hown, ht, hK, hA⟩ := id C
  have hl : lv_has ls 3 [(0, .ref (a 28)), (1, .int x1)] := hl
  refine lv_aload_n hx hb dX2_decide_0 rfl (lv_at hl 0 rfl) ?_
  refine lv_iload_n hx hb dX2_decide_1 rfl (lv_at hl 1 rfl) ?_
  refine cVi (w := cW cy a) (As := [.int x1]) (rest := []) C hO (T_X2_judgedNow l D cy a _ (by exact hJ) (x1) (by first | omega | decide)) (cwV 1 ht (gV wd_938 wd_850 wd_851 wd_115 wd_852) rfl rfl rfl hd_yX2_judgedNow ⟨Nat.le_of_ble_eq_true rfl, Nat.le_of_ble_eq_true rfl⟩) 28 rfl cW_28 rfl rfl hl.1 (Nat.le_of_ble_eq_true rfl) dX2_decide_2 rfl ⟨Nat.zero_le _, Nat.zero_le _⟩ (fun r1 u2 H locs hp3 hO => ?_)
  obtain ⟨hJ, hTu2⟩ := hp3
  have hT : KT u u2 := KT.tr (by exact hT) hTu2
  refine lv_istore_n (lv' := [(2, .int r1), (0, .ref (a 28)), (1, .int x1)]) hx hb dX2_decide_5 rfl hl (by decide) rfl (fun ls hl => ?_)
  refine lv_aload_n hx hb dX2_decide_6 rfl (lv_at hl 1 rfl) ?_
  refine gf_RX2_9 (v := .ref (a 29)) C hO 28 cW_28 rfl dX2_decide_7 ?_
  refine lv_iconst (v := 2) hx hb dX2_decide_10 (by decide) ?_
  refine lv_iconst (v := 1) hx hb dX2_decide_11 (by decide) ?_
  refine aIs C hO 29 cW_29 (i_in (X := 2) rfl (by omega) (by omega)) cW_s29 dX2_decide_12 (fun H locs hO => ?_)
  have hJ := CIsA hO hJ
  refine lv_iload_n hx hb dX2_decide_13 rfl (lv_at hl 0 rfl) ?_
  refine bs_ne (tgt := 44) (X := (r1).toInt) hx hb dX2_decide_14 (by decide) rfl (fun c4 => ?_) (fun c4 => ?_)
  · refine lv_aload_n hx hb dX2_decide_44 rfl (lv_at hl 1 rfl) ?_
    refine gf_RX2_9 (v := .ref (a 29)) C hO 28 cW_28 rfl dX2_decide_45 ?_
    refine lv_iconst (v := 5) hx hb dX2_decide_48 (by decide) ?_
    refine lv_iload_n hx hb dX2_decide_49 rfl (lv_at hl 2 rfl) ?_
    have e5 : ((5 + x1)).toInt = 5 + (x1).toInt := i_add rfl rfl (by omega)
    refine lv_iadd hx hb dX2_decide_50 ?_
    refine lv_iload_n hx hb dX2_decide_51 rfl (lv_at hl 0 rfl) ?_
    refine bs_le (tgt := 59) (X := (r1).toInt) hx hb dX2_decide_52 (by decide) rfl (fun c6 => ?_) (fun c6 => ?_)
    · refine lv_iconst (v := 2) hx hb dX2_decide_59 (by decide) ?_
      refine aIs C hO 29 cW_29 (i_in (X := (5 + (x1).toInt)) e5 (by omega) (by omega)) cW_s29 dX2_decide_60 (fun H locs hO => ?_)
      have hJ := CIsA hO hJ
      refine lv_iload_n hx hb dX2_decide_61 rfl (lv_at hl 0 rfl) ?_
      refine bt_le (tgt := 90) (X := (r1).toInt) hx hb dX2_decide_62 (by decide) rfl (by omega) ?_
      refine lv_aload_n hx hb dX2_decide_90 rfl (lv_at hl 1 rfl) ?_
      refine gf_RX2_9 (v := .ref (a 29)) C hO 28 cW_28 rfl dX2_decide_91 ?_
      refine lv_iconst (v := 5) hx hb dX2_decide_94 (by decide) ?_
      refine lv_iload_n hx hb dX2_decide_95 rfl (lv_at hl 2 rfl) ?_
      have e7 : ((5 + x1)).toInt = 5 + (x1).toInt := i_add rfl rfl (by omega)
      refine lv_iadd hx hb dX2_decide_96 ?_
      refine aI C hO 29 cW_29 (i_in (X := (5 + (x1).toInt)) e7 (by omega) (by omega)) dX2_decide_97 ?_
      refine lv_topi (fun w8 ew8 => ?_)
      refine hret _ _ _ _ _ _ dX2_decide_98 rfl ?_ hO
      exact ⟨hJ, hT⟩
    · refine lv_iconst (v := 1) hx hb dX2_decide_55 (by decide) ?_
      refine lv_goto (tgt := 60) hx hb dX2_decide_56 (by decide) ?_
      refine aIs C hO 29 cW_29 (i_in (X := (5 + (x1).toInt)) e5 (by omega) (by omega)) cW_s29 dX2_decide_60 (fun H locs hO => ?_)
      have hJ := CIsA hO hJ
      refine lv_iload_n hx hb dX2_decide_61 rfl (lv_at hl 0 rfl) ?_
      refine bn_le (X := (r1).toInt) hx hb dX2_decide_62 rfl (by omega) ?_ (tgt := 90) (by decide)
      refine lv_aload_n hx hb dX2_decide_65 rfl (lv_at hl 1 rfl) ?_
      refine gf_RX2_9 (v := .ref (a 29)) C hO 28 cW_28 rfl dX2_decide_66 ?_
      refine lv_bipush (v := 17) hx hb dX2_decide_69 (by decide) ?_
      refine lv_iload_n hx hb dX2_decide_71 rfl (lv_at hl 2 rfl) ?_
      have e9 : ((17 + x1)).toInt = 17 + (x1).toInt := i_add rfl rfl (by omega)
      refine lv_iadd hx hb dX2_decide_72 ?_
      refine lv_aload_n hx hb dX2_decide_73 rfl (lv_at hl 1 rfl) ?_
      refine gf_RX2_9 (v := .ref (a 29)) C hO 28 cW_28 rfl dX2_decide_74 ?_
      refine lv_bipush (v := 17) hx hb dX2_decide_77 (by decide) ?_
      refine lv_iload_n hx hb dX2_decide_79 rfl (lv_at hl 2 rfl) ?_
      have e10 : ((17 + x1)).toInt = 17 + (x1).toInt := i_add rfl rfl (by omega)
      refine lv_iadd hx hb dX2_decide_80 ?_
      refine aI C hO 29 cW_29 (i_in (X := (17 + (x1).toInt)) e10 (by omega) (by omega)) dX2_decide_81 ?_
      refine lv_topi (fun w11 ew11 => ?_)
      refine lv_iconst (v := 1) hx hb dX2_decide_82 (by decide) ?_
      refine lv_iadd hx hb dX2_decide_83 ?_
      refine lv_bipush (v := 99) hx hb dX2_decide_84 (by decide) ?_
      refine va_mmin hx hb (by rw [hml]; exact hl.1.symm) hown (ht _ wd_939) (ht _ wd_639) (ht _ wd_126) (ht _ wd_640) (Nat.le_of_ble_eq_true rfl) (Nat.le_of_ble_eq_true rfl) (Nat.zero_le _) (Nat.zero_le _) dX2_decide_86 ?_
      refine lv_topi (fun z12 ez12 => ?_)
      refine aIs C hO 29 cW_29 (i_in (X := (17 + (x1).toInt)) e9 (by omega) (by omega)) cW_s29 dX2_decide_89 (fun H locs hO => ?_)
      have hJ := CIsA hO hJ
      refine lv_aload_n hx hb dX2_decide_90 rfl (lv_at hl 1 rfl) ?_
      refine gf_RX2_9 (v := .ref (a 29)) C hO 28 cW_28 rfl dX2_decide_91 ?_
      refine lv_iconst (v := 5) hx hb dX2_decide_94 (by decide) ?_
      refine lv_iload_n hx hb dX2_decide_95 rfl (lv_at hl 2 rfl) ?_
      have e13 : ((5 + x1)).toInt = 5 + (x1).toInt := i_add rfl rfl (by omega)
      refine lv_iadd hx hb dX2_decide_96 ?_
      refine aI C hO 29 cW_29 (i_in (X := (5 + (x1).toInt)) e13 (by omega) (by omega)) dX2_decide_97 ?_
      refine lv_topi (fun w14 ew14 => ?_)
      refine hret _ _ _ _ _ _ dX2_decide_98 rfl ?_ hO
      exact ⟨hJ, hT⟩
  · refine lv_aload_n hx hb dX2_decide_17 rfl (lv_at hl 1 rfl) ?_
    refine gf_RX2_9 (v := .ref (a 29)) C hO 28 cW_28 rfl dX2_decide_18 ?_
    refine lv_bipush (v := 23) hx hb dX2_decide_21 (by decide) ?_
    refine lv_iload_n hx hb dX2_decide_23 rfl (lv_at hl 2 rfl) ?_
    have e15 : ((23 + x1)).toInt = 23 + (x1).toInt := i_add rfl rfl (by omega)
    refine lv_iadd hx hb dX2_decide_24 ?_
    refine lv_aload_n hx hb dX2_decide_25 rfl (lv_at hl 1 rfl) ?_
    refine gf_RX2_9 (v := .ref (a 29)) C hO 28 cW_28 rfl dX2_decide_26 ?_
    refine lv_bipush (v := 23) hx hb dX2_decide_29 (by decide) ?_
    refine lv_iload_n hx hb dX2_decide_31 rfl (lv_at hl 2 rfl) ?_
    have e16 : ((23 + x1)).toInt = 23 + (x1).toInt := i_add rfl rfl (by omega)
    refine lv_iadd hx hb dX2_decide_32 ?_
    refine aI C hO 29 cW_29 (i_in (X := (23 + (x1).toInt)) e16 (by omega) (by omega)) dX2_decide_33 ?_
    refine lv_topi (fun w17 ew17 => ?_)
    refine lv_iconst (v := 1) hx hb dX2_decide_34 (by decide) ?_
    refine lv_iadd hx hb dX2_decide_35 ?_
    refine lv_bipush (v := 99) hx hb dX2_decide_36 (by decide) ?_
    refine va_mmin hx hb (by rw [hml]; exact hl.1.symm) hown (ht _ wd_939) (ht _ wd_639) (ht _ wd_126) (ht _ wd_640) (Nat.le_of_ble_eq_true rfl) (Nat.le_of_ble_eq_true rfl) (Nat.zero_le _) (Nat.zero_le _) dX2_decide_38 ?_
    refine lv_topi (fun z18 ez18 => ?_)
    refine aIs C hO 29 cW_29 (i_in (X := (23 + (x1).toInt)) e15 (by omega) (by omega)) cW_s29 dX2_decide_41 (fun H locs hO => ?_)
    have hJ := CIsA hO hJ
    refine lv_iconst (v := 0) hx hb dX2_decide_42 (by decide) ?_
    refine hret _ _ _ _ _ _ dX2_decide_43 rfl ?_ hO
    exact ⟨hJ, hT⟩
