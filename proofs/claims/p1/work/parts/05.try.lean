theorem dX2_hasKnot_0 : decode cX2_hasKnot 0 = .ok (.iload_n 1, 1) := by decide +kernel
theorem dX2_hasKnot_1 : decode cX2_hasKnot 1 = .ok (.ifCond .lt 18, 3) := by decide +kernel
theorem dX2_hasKnot_4 : decode cX2_hasKnot 4 = .ok (.iload_n 1, 1) := by decide +kernel
theorem dX2_hasKnot_5 : decode cX2_hasKnot 5 = .ok (.aload_n 0, 1) := by decide +kernel
theorem dX2_hasKnot_6 : decode cX2_hasKnot 6 = .ok (.getfield 15, 3) := by decide +kernel
theorem dX2_hasKnot_9 : decode cX2_hasKnot 9 = .ok (.getfield 19, 3) := by decide +kernel
theorem dX2_hasKnot_12 : decode cX2_hasKnot 12 = .ok (.if_icmp .ge 7, 3) := by decide +kernel
theorem dX2_hasKnot_15 : decode cX2_hasKnot 15 = .ok (.iconst 1, 1) := by decide +kernel
theorem dX2_hasKnot_16 : decode cX2_hasKnot 16 = .ok (.goto 4, 3) := by decide +kernel
theorem dX2_hasKnot_19 : decode cX2_hasKnot 19 = .ok (.iconst 0, 1) := by decide +kernel
theorem dX2_hasKnot_20 : decode cX2_hasKnot 20 = .ok (.ireturn, 1) := by decide +kernel
theorem wd_820 : (Cond.code ⟨"WebCourt$Court", "hasKnot", "(I)Z"⟩ prog_4_method_3_code (2 : Nat) (Option.some FieldType.boolean)) ∈ gtb := gtb_c3 231 (by decide +kernel) rfl
theorem wd_358 : (Cond.fieldLink "WebCourt$Court" (15 : Nat) "WebCourt$Court" "web" "LWebCourt$Web;") ∈ gtb := gtb_c2 9 (by decide +kernel) rfl
theorem wd_363 : (Cond.laysFinal "WebCourt$Court" "WebCourt$Court" "row" "[I") ∈ gtb := gtb_c2 14 (by decide +kernel) rfl
theorem wd_365 : (Cond.lays "WebCourt$Court" "WebCourt$Court" "web" "LWebCourt$Web;") ∈ gtb := gtb_c2 16 (by decide +kernel) rfl
theorem inFX2 : ∀ w ∈ u_ws RX2 TX2 2, w ∈ gtb := by
  show ∀ w ∈ [u_lay RX2 TX2 0, u_lay RX2 TX2 1], w ∈ gtb
  exact List.forall_mem_cons.mpr ⟨wd_363, List.forall_mem_cons.mpr ⟨wd_365, fun _ h => absurd h List.not_mem_nil⟩⟩
theorem gf_RX2_15 {p : Program} {l : Launch} {e : Env} {R : Room} {s : State} {m : MethodId} {args : Array Value} {below : List Frame} {meth : Method} {c : Code} {H : Heap} {locs : List Loc} {cells slots : Nat} {Q : State → Prop} {cc : ByteArray} {pc nL : Nat} {ls : Array Slot} {rest : List Value} {D : va_G} {cy : Nat → ClassId} {A : Nat → Prop} {ws : va_W} {b : Nat} {fs : List Value} {v : Value} (C : Cx p s m args c cc nL RX2 D cy A) (hO : Wo D A ws s.heap H locs) (q0 : Nat) (he : ws[q0]? = some (b, .inr (2, fs))) (hv : fs[1]? = some v) (hdg : decode cc pc = .ok (.getfield 15, 3)) (kk : W p l e R s m args below meth c H locs cells slots Q (F0 m (pc + 3) ls (v :: rest))) : W p l e R s m args below meth c H locs cells slots Q (F0 m pc ls (.ref b :: rest)) := gF (k := 1) C hO q0 he rfl inFX2 (by decide) wd_358 rfl hv hdg kk
theorem wd_252 : (Cond.fieldLink "WebCourt$Court" (19 : Nat) "WebCourt$Web" "knots" "I") ∈ gtb := gtb_c1 143 (by decide +kernel) rfl
theorem wd_289 : (Cond.laysFinal "WebCourt$Web" "WebCourt$Web" "knotNames" "[J") ∈ gtb := gtb_c1 180 (by decide +kernel) rfl
theorem wd_291 : (Cond.laysFinal "WebCourt$Web" "WebCourt$Web" "pleaNames" "[J") ∈ gtb := gtb_c1 182 (by decide +kernel) rfl
theorem wd_293 : (Cond.laysFinal "WebCourt$Web" "WebCourt$Web" "caseNames" "[J") ∈ gtb := gtb_c1 184 (by decide +kernel) rfl
theorem wd_295 : (Cond.laysFinal "WebCourt$Web" "WebCourt$Web" "lineFrom" "[I") ∈ gtb := gtb_c1 186 (by decide +kernel) rfl
theorem wd_297 : (Cond.laysFinal "WebCourt$Web" "WebCourt$Web" "lineTo" "[I") ∈ gtb := gtb_c1 188 (by decide +kernel) rfl
theorem wd_299 : (Cond.laysFinal "WebCourt$Web" "WebCourt$Web" "strong" "[I") ∈ gtb := gtb_c1 190 (by decide +kernel) rfl
theorem wd_301 : (Cond.laysFinal "WebCourt$Web" "WebCourt$Web" "caseKnots" "[I") ∈ gtb := gtb_c1 192 (by decide +kernel) rfl
theorem wd_303 : (Cond.laysFinal "WebCourt$Web" "WebCourt$Web" "casePleas" "[I") ∈ gtb := gtb_c1 194 (by decide +kernel) rfl
theorem wd_305 : (Cond.laysFinal "WebCourt$Web" "WebCourt$Web" "law" "LWebCourt$Law;") ∈ gtb := gtb_c1 196 (by decide +kernel) rfl
theorem wd_307 : (Cond.lays "WebCourt$Web" "WebCourt$Web" "knots" "I") ∈ gtb := gtb_c1 198 (by decide +kernel) rfl
theorem wd_309 : (Cond.lays "WebCourt$Web" "WebCourt$Web" "lines" "I") ∈ gtb := gtb_c1 200 (by decide +kernel) rfl
theorem wd_311 : (Cond.lays "WebCourt$Web" "WebCourt$Web" "pleas" "I") ∈ gtb := gtb_c1 202 (by decide +kernel) rfl
theorem wd_313 : (Cond.lays "WebCourt$Web" "WebCourt$Web" "cases" "I") ∈ gtb := gtb_c1 204 (by decide +kernel) rfl
theorem wd_315 : (Cond.lays "WebCourt$Web" "WebCourt$Web" "sticky" "I") ∈ gtb := gtb_c1 206 (by decide +kernel) rfl
theorem wd_317 : (Cond.lays "WebCourt$Web" "WebCourt$Web" "bench" "I") ∈ gtb := gtb_c1 208 (by decide +kernel) rfl
theorem wd_319 : (Cond.lays "WebCourt$Web" "WebCourt$Web" "back" "I") ∈ gtb := gtb_c1 210 (by decide +kernel) rfl
theorem wd_321 : (Cond.lays "WebCourt$Web" "WebCourt$Web" "draw" "I") ∈ gtb := gtb_c1 212 (by decide +kernel) rfl
theorem wd_323 : (Cond.lays "WebCourt$Web" "WebCourt$Web" "toldOnce" "I") ∈ gtb := gtb_c1 214 (by decide +kernel) rfl
theorem inFX9 : ∀ w ∈ u_ws RX9 TX9 18, w ∈ gtb := by
  show ∀ w ∈ [u_lay RX9 TX9 0, u_lay RX9 TX9 1, u_lay RX9 TX9 2, u_lay RX9 TX9 3, u_lay RX9 TX9 4, u_lay RX9 TX9 5, u_lay RX9 TX9 6, u_lay RX9 TX9 7, u_lay RX9 TX9 8, u_lay RX9 TX9 9, u_lay RX9 TX9 10, u_lay RX9 TX9 11, u_lay RX9 TX9 12, u_lay RX9 TX9 13, u_lay RX9 TX9 14, u_lay RX9 TX9 15, u_lay RX9 TX9 16, u_lay RX9 TX9 17], w ∈ gtb
  exact List.forall_mem_cons.mpr ⟨wd_289, List.forall_mem_cons.mpr ⟨wd_291, List.forall_mem_cons.mpr ⟨wd_293, List.forall_mem_cons.mpr ⟨wd_295, List.forall_mem_cons.mpr ⟨wd_297, List.forall_mem_cons.mpr ⟨wd_299, List.forall_mem_cons.mpr ⟨wd_301, List.forall_mem_cons.mpr ⟨wd_303, List.forall_mem_cons.mpr ⟨wd_305, List.forall_mem_cons.mpr ⟨wd_307, List.forall_mem_cons.mpr ⟨wd_309, List.forall_mem_cons.mpr ⟨wd_311, List.forall_mem_cons.mpr ⟨wd_313, List.forall_mem_cons.mpr ⟨wd_315, List.forall_mem_cons.mpr ⟨wd_317, List.forall_mem_cons.mpr ⟨wd_319, List.forall_mem_cons.mpr ⟨wd_321, List.forall_mem_cons.mpr ⟨wd_323, fun _ h => absurd h List.not_mem_nil⟩⟩⟩⟩⟩⟩⟩⟩⟩⟩⟩⟩⟩⟩⟩⟩⟩⟩
theorem gf_RX2_19 {p : Program} {l : Launch} {e : Env} {R : Room} {s : State} {m : MethodId} {args : Array Value} {below : List Frame} {meth : Method} {c : Code} {H : Heap} {locs : List Loc} {cells slots : Nat} {Q : State → Prop} {cc : ByteArray} {pc nL : Nat} {ls : Array Slot} {rest : List Value} {D : va_G} {cy : Nat → ClassId} {A : Nat → Prop} {ws : va_W} {b : Nat} {fs : List Value} {v : Value} (C : Cx p s m args c cc nL RX2 D cy A) (hO : Wo D A ws s.heap H locs) (q0 : Nat) (he : ws[q0]? = some (b, .inr (9, fs))) (hv : fs[9]? = some v) (hdg : decode cc pc = .ok (.getfield 19, 3)) (kk : W p l e R s m args below meth c H locs cells slots Q (F0 m (pc + 3) ls (v :: rest))) : W p l e R s m args below meth c H locs cells slots Q (F0 m pc ls (.ref b :: rest)) := gF (k := 9) C hO q0 he rfl inFX9 (by decide) wd_252 rfl hv hdg kk
set_option maxHeartbeats 4000000 in
set_option maxRecDepth 100000 in
theorem T_X2_hasKnot (l : Launch) (D : va_G) (cy : Nat → ClassId) (a : Nat → Nat) (u : St) (hI_3_9 : fI u 3 9 = 0) (hR_0 : fR u 0 = a 3) (x1 : Int32)  : Mi l D cy (cW cy a) yX2_hasKnot (.code yX2_hasKnot cX2_hasKnot 2 (some .boolean)) (rmo 0 0) [.ref (a 28), .int x1] u (fun (r : Int32) (u' : St) => r = 0 ∧ u' = u) := by
  refine Mi.of (own := RX2) rfl (by decide) (Nat.le_of_ble_eq_true rfl) ?_
  intro p e s m below meth c A Q ls C hret hO hl
  obtain ⟨hx, hb, hml, hown, ht, hK, hA⟩ := id C
  have hl : lv_has ls 2 [(0, .ref (a 28)), (1, .int x1)] := hl
  refine lv_iload_n hx hb dX2_hasKnot_0 rfl (lv_at hl 1 rfl) ?_
  refine bs_lt (tgt := 19) (X := (x1).toInt) hx hb dX2_hasKnot_1 (by decide) rfl (fun c1 => ?_) (fun c1 => ?_)
  · refine lv_iconst (v := 0) hx hb dX2_hasKnot_19 (by decide) ?_
    refine hret _ _ _ _ _ _ dX2_hasKnot_20 rfl ?_ hO
    exact ⟨rfl, rfl⟩
  · refine lv_iload_n hx hb dX2_hasKnot_4 rfl (lv_at hl 1 rfl) ?_
    refine lv_aload_n hx hb dX2_hasKnot_5 rfl (lv_at hl 0 rfl) ?_
    refine gf_RX2_15 (v := .ref (a 3)) C hO 28 cW_28 (congrArg (fun z : Nat => some (Value.ref z)) hR_0) dX2_hasKnot_6 ?_
    refine gf_RX2_19 (v := .int 0) C hO 3 cW_3 (congrArg (fun z : Int32 => some (Value.int z)) hI_3_9) dX2_hasKnot_9 ?_
    refine ct_ge (tgt := 19) (X := (x1).toInt) (Y := 0) hx hb dX2_hasKnot_12 (by decide) rfl rfl (by omega) ?_
    refine lv_iconst (v := 0) hx hb dX2_hasKnot_19 (by decide) ?_
    refine hret _ _ _ _ _ _ dX2_hasKnot_20 rfl ?_ hO
    exact ⟨rfl, rfl⟩
theorem dX2_hasPlea_0 : decode cX2_hasPlea 0 = .ok (.iload_n 1, 1) := by decide +kernel
theorem dX2_hasPlea_1 : decode cX2_hasPlea 1 = .ok (.ifCond .lt 18, 3) := by decide +kernel
theorem dX2_hasPlea_4 : decode cX2_hasPlea 4 = .ok (.iload_n 1, 1) := by decide +kernel
theorem dX2_hasPlea_5 : decode cX2_hasPlea 5 = .ok (.aload_n 0, 1) := by decide +kernel
theorem dX2_hasPlea_6 : decode cX2_hasPlea 6 = .ok (.getfield 15, 3) := by decide +kernel
theorem dX2_hasPlea_9 : decode cX2_hasPlea 9 = .ok (.getfield 40, 3) := by decide +kernel
theorem dX2_hasPlea_12 : decode cX2_hasPlea 12 = .ok (.if_icmp .ge 7, 3) := by decide +kernel
theorem dX2_hasPlea_15 : decode cX2_hasPlea 15 = .ok (.iconst 1, 1) := by decide +kernel
theorem dX2_hasPlea_16 : decode cX2_hasPlea 16 = .ok (.goto 4, 3) := by decide +kernel
theorem dX2_hasPlea_19 : decode cX2_hasPlea 19 = .ok (.iconst 0, 1) := by decide +kernel
theorem dX2_hasPlea_20 : decode cX2_hasPlea 20 = .ok (.ireturn, 1) := by decide +kernel
theorem wd_836 : (Cond.code ⟨"WebCourt$Court", "hasPlea", "(I)Z"⟩ prog_4_method_4_code (2 : Nat) (Option.some FieldType.boolean)) ∈ gtb := gtb_c4 7 (by decide +kernel) rfl
theorem wd_263 : (Cond.fieldLink "WebCourt$Court" (40 : Nat) "WebCourt$Web" "pleas" "I") ∈ gtb := gtb_c1 154 (by decide +kernel) rfl
theorem gf_RX2_40 {p : Program} {l : Launch} {e : Env} {R : Room} {s : State} {m : MethodId} {args : Array Value} {below : List Frame} {meth : Method} {c : Code} {H : Heap} {locs : List Loc} {cells slots : Nat} {Q : State → Prop} {cc : ByteArray} {pc nL : Nat} {ls : Array Slot} {rest : List Value} {D : va_G} {cy : Nat → ClassId} {A : Nat → Prop} {ws : va_W} {b : Nat} {fs : List Value} {v : Value} (C : Cx p s m args c cc nL RX2 D cy A) (hO : Wo D A ws s.heap H locs) (q0 : Nat) (he : ws[q0]? = some (b, .inr (9, fs))) (hv : fs[11]? = some v) (hdg : decode cc pc = .ok (.getfield 40, 3)) (kk : W p l e R s m args below meth c H locs cells slots Q (F0 m (pc + 3) ls (v :: rest))) : W p l e R s m args below meth c H locs cells slots Q (F0 m pc ls (.ref b :: rest)) := gF (k := 11) C hO q0 he rfl inFX9 (by decide) wd_263 rfl hv hdg kk
set_option maxHeartbeats 4000000 in
set_option maxRecDepth 100000 in
theorem T_X2_hasPlea (l : Launch) (D : va_G) (cy : Nat → ClassId) (a : Nat → Nat) (u : St) (hI_3_11 : fI u 3 11 = 0) (hR_0 : fR u 0 = a 3) (x1 : Int32)  : Mi l D cy (cW cy a) yX2_hasPlea (.code yX2_hasPlea cX2_hasPlea 2 (some .boolean)) (rmo 0 0) [.ref (a 28), .int x1] u (fun (r : Int32) (u' : St) => r = 0 ∧ u' = u) := by
  refine Mi.of (own := RX2) rfl (by decide) (Nat.le_of_ble_eq_true rfl) ?_
  intro p e s m below meth c A Q ls C hret hO hl
  obtain ⟨hx, hb, hml, hown, ht, hK, hA⟩ := id C
  have hl : lv_has ls 2 [(0, .ref (a 28)), (1, .int x1)] := hl
  refine lv_iload_n hx hb dX2_hasPlea_0 rfl (lv_at hl 1 rfl) ?_
  refine bs_lt (tgt := 19) (X := (x1).toInt) hx hb dX2_hasPlea_1 (by decide) rfl (fun c1 => ?_) (fun c1 => ?_)
  · refine lv_iconst (v := 0) hx hb dX2_hasPlea_19 (by decide) ?_
    refine hret _ _ _ _ _ _ dX2_hasPlea_20 rfl ?_ hO
    exact ⟨rfl, rfl⟩
  · refine lv_iload_n hx hb dX2_hasPlea_4 rfl (lv_at hl 1 rfl) ?_
    refine lv_aload_n hx hb dX2_hasPlea_5 rfl (lv_at hl 0 rfl) ?_
    refine gf_RX2_15 (v := .ref (a 3)) C hO 28 cW_28 (congrArg (fun z : Nat => some (Value.ref z)) hR_0) dX2_hasPlea_6 ?_
    refine gf_RX2_40 (v := .int 0) C hO 3 cW_3 (congrArg (fun z : Int32 => some (Value.int z)) hI_3_11) dX2_hasPlea_9 ?_
    refine ct_ge (tgt := 19) (X := (x1).toInt) (Y := 0) hx hb dX2_hasPlea_12 (by decide) rfl rfl (by omega) ?_
    refine lv_iconst (v := 0) hx hb dX2_hasPlea_19 (by decide) ?_
    refine hret _ _ _ _ _ _ dX2_hasPlea_20 rfl ?_ hO
    exact ⟨rfl, rfl⟩
theorem dX2_hasCase_0 : decode cX2_hasCase 0 = .ok (.iload_n 1, 1) := by decide +kernel
theorem dX2_hasCase_1 : decode cX2_hasCase 1 = .ok (.ifCond .lt 18, 3) := by decide +kernel
theorem dX2_hasCase_4 : decode cX2_hasCase 4 = .ok (.iload_n 1, 1) := by decide +kernel
theorem dX2_hasCase_5 : decode cX2_hasCase 5 = .ok (.aload_n 0, 1) := by decide +kernel
theorem dX2_hasCase_6 : decode cX2_hasCase 6 = .ok (.getfield 15, 3) := by decide +kernel
theorem dX2_hasCase_9 : decode cX2_hasCase 9 = .ok (.getfield 34, 3) := by decide +kernel
theorem dX2_hasCase_12 : decode cX2_hasCase 12 = .ok (.if_icmp .ge 7, 3) := by decide +kernel
theorem dX2_hasCase_15 : decode cX2_hasCase 15 = .ok (.iconst 1, 1) := by decide +kernel
theorem dX2_hasCase_16 : decode cX2_hasCase 16 = .ok (.goto 4, 3) := by decide +kernel
theorem dX2_hasCase_19 : decode cX2_hasCase 19 = .ok (.iconst 0, 1) := by decide +kernel
theorem dX2_hasCase_20 : decode cX2_hasCase 20 = .ok (.ireturn, 1) := by decide +kernel
theorem wd_844 : (Cond.code ⟨"WebCourt$Court", "hasCase", "(I)Z"⟩ prog_4_method_5_code (2 : Nat) (Option.some FieldType.boolean)) ∈ gtb := gtb_c4 15 (by decide +kernel) rfl
theorem wd_269 : (Cond.fieldLink "WebCourt$Court" (34 : Nat) "WebCourt$Web" "cases" "I") ∈ gtb := gtb_c1 160 (by decide +kernel) rfl
theorem gf_RX2_34 {p : Program} {l : Launch} {e : Env} {R : Room} {s : State} {m : MethodId} {args : Array Value} {below : List Frame} {meth : Method} {c : Code} {H : Heap} {locs : List Loc} {cells slots : Nat} {Q : State → Prop} {cc : ByteArray} {pc nL : Nat} {ls : Array Slot} {rest : List Value} {D : va_G} {cy : Nat → ClassId} {A : Nat → Prop} {ws : va_W} {b : Nat} {fs : List Value} {v : Value} (C : Cx p s m args c cc nL RX2 D cy A) (hO : Wo D A ws s.heap H locs) (q0 : Nat) (he : ws[q0]? = some (b, .inr (9, fs))) (hv : fs[12]? = some v) (hdg : decode cc pc = .ok (.getfield 34, 3)) (kk : W p l e R s m args below meth c H locs cells slots Q (F0 m (pc + 3) ls (v :: rest))) : W p l e R s m args below meth c H locs cells slots Q (F0 m pc ls (.ref b :: rest)) := gF (k := 12) C hO q0 he rfl inFX9 (by decide) wd_269 rfl hv hdg kk
set_option maxHeartbeats 4000000 in
set_option maxRecDepth 100000 in
theorem T_X2_hasCase (l : Launch) (D : va_G) (cy : Nat → ClassId) (a : Nat → Nat) (u : St) (hI_3_12 : fI u 3 12 = 0) (hR_0 : fR u 0 = a 3) (x1 : Int32)  : Mi l D cy (cW cy a) yX2_hasCase (.code yX2_hasCase cX2_hasCase 2 (some .boolean)) (rmo 0 0) [.ref (a 28), .int x1] u (fun (r : Int32) (u' : St) => r = 0 ∧ u' = u) := by
  refine Mi.of (own := RX2) rfl (by decide) (Nat.le_of_ble_eq_true rfl) ?_
  intro p e s m below meth c A Q ls C hret hO hl
  obtain ⟨hx, hb, hml, hown, ht, hK, hA⟩ := id C
  have hl : lv_has ls 2 [(0, .ref (a 28)), (1, .int x1)] := hl
  refine lv_iload_n hx hb dX2_hasCase_0 rfl (lv_at hl 1 rfl) ?_
  refine bs_lt (tgt := 19) (X := (x1).toInt) hx hb dX2_hasCase_1 (by decide) rfl (fun c1 => ?_) (fun c1 => ?_)
  · refine lv_iconst (v := 0) hx hb dX2_hasCase_19 (by decide) ?_
    refine hret _ _ _ _ _ _ dX2_hasCase_20 rfl ?_ hO
    exact ⟨rfl, rfl⟩
  · refine lv_iload_n hx hb dX2_hasCase_4 rfl (lv_at hl 1 rfl) ?_
    refine lv_aload_n hx hb dX2_hasCase_5 rfl (lv_at hl 0 rfl) ?_
    refine gf_RX2_15 (v := .ref (a 3)) C hO 28 cW_28 (congrArg (fun z : Nat => some (Value.ref z)) hR_0) dX2_hasCase_6 ?_
    refine gf_RX2_34 (v := .int 0) C hO 3 cW_3 (congrArg (fun z : Int32 => some (Value.int z)) hI_3_12) dX2_hasCase_9 ?_
    refine ct_ge (tgt := 19) (X := (x1).toInt) (Y := 0) hx hb dX2_hasCase_12 (by decide) rfl rfl (by omega) ?_
    refine lv_iconst (v := 0) hx hb dX2_hasCase_19 (by decide) ?_
    refine hret _ _ _ _ _ _ dX2_hasCase_20 rfl ?_ hO
    exact ⟨rfl, rfl⟩
theorem dX2_isHeld_0 : decode cX2_isHeld 0 = .ok (.aload_n 0, 1) := by decide +kernel
theorem dX2_isHeld_1 : decode cX2_isHeld 1 = .ok (.iload_n 1, 1) := by decide +kernel
theorem dX2_isHeld_2 : decode cX2_isHeld 2 = .ok (.invokevirtual 43, 3) := by decide +kernel
theorem dX2_isHeld_5 : decode cX2_isHeld 5 = .ok (.ifCond .eq 18, 3) := by decide +kernel
theorem dX2_isHeld_8 : decode cX2_isHeld 8 = .ok (.aload_n 0, 1) := by decide +kernel
theorem dX2_isHeld_9 : decode cX2_isHeld 9 = .ok (.getfield 9, 3) := by decide +kernel
theorem dX2_isHeld_12 : decode cX2_isHeld 12 = .ok (.iconst 5, 1) := by decide +kernel
theorem dX2_isHeld_13 : decode cX2_isHeld 13 = .ok (.iload_n 1, 1) := by decide +kernel
theorem dX2_isHeld_14 : decode cX2_isHeld 14 = .ok (.iadd, 1) := by decide +kernel
theorem dX2_isHeld_15 : decode cX2_isHeld 15 = .ok (.iaload, 1) := by decide +kernel
theorem dX2_isHeld_16 : decode cX2_isHeld 16 = .ok (.ifCond .ne 7, 3) := by decide +kernel
theorem dX2_isHeld_19 : decode cX2_isHeld 19 = .ok (.iconst 1, 1) := by decide +kernel
theorem dX2_isHeld_20 : decode cX2_isHeld 20 = .ok (.goto 4, 3) := by decide +kernel
theorem dX2_isHeld_23 : decode cX2_isHeld 23 = .ok (.iconst 0, 1) := by decide +kernel
theorem dX2_isHeld_24 : decode cX2_isHeld 24 = .ok (.ireturn, 1) := by decide +kernel
theorem wd_932 : (Cond.code ⟨"WebCourt$Court", "isHeld", "(I)Z"⟩ prog_4_method_6_code (2 : Nat) (Option.some FieldType.boolean)) ∈ gtb := gtb_c4 103 (by decide +kernel) rfl
theorem wd_933 : (Cond.methodLink "WebCourt$Court" (43 : Nat) ⟨"WebCourt$Court", "hasCase", "(I)Z"⟩) ∈ gtb := gtb_c4 104 (by decide +kernel) rfl
theorem wd_842 : (Cond.instanceMethod ⟨"WebCourt$Court", "hasCase", "(I)Z"⟩) ∈ gtb := gtb_c4 13 (by decide +kernel) rfl
theorem wd_843 : (Cond.selects "WebCourt$Court" ⟨"WebCourt$Court", "hasCase", "(I)Z"⟩ ⟨"WebCourt$Court", "hasCase", "(I)Z"⟩) ∈ gtb := gtb_c4 14 (by decide +kernel) rfl
theorem wd_115 : (Cond.initialized "WebCourt$Court") ∈ gtb := gtb_c1 6 (by decide +kernel) rfl
theorem hd_yX2_hasCase : yX2_hasCase.cls = RX2 ∧ yX2_hasCase.cls ≠ "java/lang/invoke/MethodHandle" ∧ yX2_hasCase.cls ≠ "java/lang/invoke/VarHandle" ∧ (parseMethodDescriptor yX2_hasCase.desc).map (fun d => d.parameters.length) = some 1 := by decide +kernel
set_option maxHeartbeats 4000000 in
set_option maxRecDepth 100000 in
theorem T_X2_isHeld (l : Launch) (D : va_G) (cy : Nat → ClassId) (a : Nat → Nat) (u : St) (hI_3_12 : fI u 3 12 = 0) (hR_0 : fR u 0 = a 3) (x1 : Int32)  : Mi l D cy (cW cy a) yX2_isHeld (.code yX2_isHeld cX2_isHeld 2 (some .boolean)) (rmo 1 21) [.ref (a 28), .int x1] u (fun (r : Int32) (u' : St) => r = 0 ∧ u' = u) := by
  refine Mi.of (own := RX2) rfl (by decide) (Nat.le_of_ble_eq_true rfl) ?_
  intro p e s m below meth c A Q ls C hret hO hl
  obtain ⟨hx, hb, hml, hown, ht, hK, hA⟩ := id C
  have hl : lv_has ls 2 [(0, .ref (a 28)), (1, .int x1)] := hl
  refine lv_aload_n hx hb dX2_isHeld_0 rfl (lv_at hl 0 rfl) ?_
  refine lv_iload_n hx hb dX2_isHeld_1 rfl (lv_at hl 1 rfl) ?_
  refine cVi (w := cW cy a) (As := [.int x1]) (rest := []) C hO (T_X2_hasCase l D cy a _ (hI_3_12) (hR_0) (x1)) (cwV 1 ht (gV wd_933 wd_842 wd_843 wd_115 wd_844) rfl rfl rfl hd_yX2_hasCase ⟨Nat.le_of_ble_eq_true rfl, Nat.le_of_ble_eq_true rfl⟩) 28 rfl cW_28 rfl rfl hl.1 (Nat.le_of_ble_eq_true rfl) dX2_isHeld_2 rfl ⟨Nat.zero_le _, Nat.zero_le _⟩ (fun r1 u2 H locs hp3 hO => ?_)
  obtain ⟨hr1, hu2⟩ := hp3
  subst hr1
  rw [hu2] at hO
  refine bt_eq (tgt := 23) (X := 0) hx hb dX2_isHeld_5 (by decide) rfl (by omega) ?_
  refine lv_iconst (v := 0) hx hb dX2_isHeld_23 (by decide) ?_
  refine hret _ _ _ _ _ _ dX2_isHeld_24 rfl ?_ hO
  exact ⟨rfl, rfl⟩
theorem dX11_isIn_0 : decode cX11_isIn 0 = .ok (.iload_n 0, 1) := by decide +kernel
theorem dX11_isIn_1 : decode cX11_isIn 1 = .ok (.iload_n 1, 1) := by decide +kernel
theorem dX11_isIn_2 : decode cX11_isIn 2 = .ok (.if_icmp .lt 12, 3) := by decide +kernel
theorem dX11_isIn_5 : decode cX11_isIn 5 = .ok (.iload_n 0, 1) := by decide +kernel
theorem dX11_isIn_6 : decode cX11_isIn 6 = .ok (.iload_n 2, 1) := by decide +kernel
theorem dX11_isIn_7 : decode cX11_isIn 7 = .ok (.if_icmp .gt 7, 3) := by decide +kernel
theorem dX11_isIn_10 : decode cX11_isIn 10 = .ok (.iconst 1, 1) := by decide +kernel
theorem dX11_isIn_11 : decode cX11_isIn 11 = .ok (.goto 4, 3) := by decide +kernel
theorem dX11_isIn_14 : decode cX11_isIn 14 = .ok (.iconst 0, 1) := by decide +kernel
theorem dX11_isIn_15 : decode cX11_isIn 15 = .ok (.ireturn, 1) := by decide +kernel
theorem wd_1724 : (Cond.code ⟨"WebCourtModel", "isIn", "(III)Z"⟩ prog_13_method_41_code (3 : Nat) (Option.some FieldType.boolean)) ∈ gtb := gtb_c7 175 (by decide +kernel) rfl
set_option maxHeartbeats 4000000 in
set_option maxRecDepth 100000 in
theorem T_X11_isIn_m1 (l : Launch) (D : va_G) (cy : Nat → ClassId) (a : Nat → Nat) (u : St)  (x1 : Int32)  : Mi l D cy (mW cy a) yX11_isIn (.code yX11_isIn cX11_isIn 3 (some .boolean)) (rmo 0 0) [.int x1, .int 0, .int (-1)] u (fun (r : Int32) (u' : St) => r = 0 ∧ u' = u) := by
  refine Mi.of (own := RX11) rfl (by decide) (Nat.le_of_ble_eq_true rfl) ?_
  intro p e s m below meth c A Q ls C hret hO hl
  obtain ⟨hx, hb, hml, hown, ht, hK, hA⟩ := id C
  have hl : lv_has ls 3 [(0, .int x1), (1, .int 0), (2, .int (-1))] := hl
  refine lv_iload_n hx hb dX11_isIn_0 rfl (lv_at hl 0 rfl) ?_
  refine lv_iload_n hx hb dX11_isIn_1 rfl (lv_at hl 1 rfl) ?_
  refine cs_lt (tgt := 14) (X := (x1).toInt) (Y := 0) hx hb dX11_isIn_2 (by decide) rfl rfl (fun c1 => ?_) (fun c1 => ?_)
  · refine lv_iconst (v := 0) hx hb dX11_isIn_14 (by decide) ?_
    refine hret _ _ _ _ _ _ dX11_isIn_15 rfl ?_ hO
    exact ⟨rfl, rfl⟩
  · refine lv_iload_n hx hb dX11_isIn_5 rfl (lv_at hl 0 rfl) ?_
    refine lv_iload_n hx hb dX11_isIn_6 rfl (lv_at hl 2 rfl) ?_
    refine ct_gt (tgt := 14) (X := (x1).toInt) (Y := (-1)) hx hb dX11_isIn_7 (by decide) rfl rfl (by omega) ?_
    refine lv_iconst (v := 0) hx hb dX11_isIn_14 (by decide) ?_
    refine hret _ _ _ _ _ _ dX11_isIn_15 rfl ?_ hO
    exact ⟨rfl, rfl⟩
theorem dX11_many_0 : decode cX11_many 0 = .ok (.aload_n 0, 1) := by decide +kernel
theorem dX11_many_1 : decode cX11_many 1 = .ok (.getfield 30, 3) := by decide +kernel
theorem dX11_many_4 : decode cX11_many 4 = .ok (.aload_n 0, 1) := by decide +kernel
theorem dX11_many_5 : decode cX11_many 5 = .ok (.getfield 255, 3) := by decide +kernel
theorem dX11_many_8 : decode cX11_many 8 = .ok (.iaload, 1) := by decide +kernel
theorem dX11_many_9 : decode cX11_many 9 = .ok (.ireturn, 1) := by decide +kernel
theorem wd_1351 : (Cond.code ⟨"WebCourtModel", "many", "()I"⟩ prog_13_method_46_code (1 : Nat) (Option.some FieldType.int)) ∈ gtb := gtb_c6 42 (by decide +kernel) rfl
theorem wd_1370 : (Cond.fieldLink "WebCourtModel" (30 : Nat) "WebCourtModel" "cases" "[I") ∈ gtb := gtb_c6 61 (by decide +kernel) rfl
theorem wd_1421 : (Cond.laysFinal "WebCourtModel" "WebCourtModel" "tape" "[B") ∈ gtb := gtb_c6 112 (by decide +kernel) rfl
theorem wd_1423 : (Cond.laysFinal "WebCourtModel" "WebCourtModel" "text" "[B") ∈ gtb := gtb_c6 114 (by decide +kernel) rfl
theorem wd_1425 : (Cond.lays "WebCourtModel" "WebCourtModel" "taped" "I") ∈ gtb := gtb_c6 116 (by decide +kernel) rfl
theorem wd_1427 : (Cond.lays "WebCourtModel" "WebCourtModel" "size" "I") ∈ gtb := gtb_c6 118 (by decide +kernel) rfl
theorem wd_1429 : (Cond.lays "WebCourtModel" "WebCourtModel" "faultKind" "I") ∈ gtb := gtb_c6 120 (by decide +kernel) rfl
theorem wd_1431 : (Cond.lays "WebCourtModel" "WebCourtModel" "faultPlace" "I") ∈ gtb := gtb_c6 122 (by decide +kernel) rfl
theorem wd_1433 : (Cond.lays "WebCourtModel" "WebCourtModel" "at" "I") ∈ gtb := gtb_c6 124 (by decide +kernel) rfl
theorem wd_1435 : (Cond.lays "WebCourtModel" "WebCourtModel" "end" "I") ∈ gtb := gtb_c6 126 (by decide +kernel) rfl
theorem wd_1437 : (Cond.lays "WebCourtModel" "WebCourtModel" "token" "I") ∈ gtb := gtb_c6 128 (by decide +kernel) rfl
theorem wd_1439 : (Cond.lays "WebCourtModel" "WebCourtModel" "number" "I") ∈ gtb := gtb_c6 130 (by decide +kernel) rfl
theorem wd_1441 : (Cond.lays "WebCourtModel" "WebCourtModel" "name" "J") ∈ gtb := gtb_c6 132 (by decide +kernel) rfl
theorem wd_1443 : (Cond.laysFinal "WebCourtModel" "WebCourtModel" "knots" "[I") ∈ gtb := gtb_c6 134 (by decide +kernel) rfl
theorem wd_1445 : (Cond.laysFinal "WebCourtModel" "WebCourtModel" "lines" "[I") ∈ gtb := gtb_c6 136 (by decide +kernel) rfl
theorem wd_1447 : (Cond.laysFinal "WebCourtModel" "WebCourtModel" "pleas" "[I") ∈ gtb := gtb_c6 138 (by decide +kernel) rfl
theorem wd_1449 : (Cond.laysFinal "WebCourtModel" "WebCourtModel" "cases" "[I") ∈ gtb := gtb_c6 140 (by decide +kernel) rfl
theorem wd_1451 : (Cond.laysFinal "WebCourtModel" "WebCourtModel" "units" "[I") ∈ gtb := gtb_c6 142 (by decide +kernel) rfl
theorem wd_1453 : (Cond.laysFinal "WebCourtModel" "WebCourtModel" "bench" "[I") ∈ gtb := gtb_c6 144 (by decide +kernel) rfl
theorem wd_1455 : (Cond.laysFinal "WebCourtModel" "WebCourtModel" "back" "[I") ∈ gtb := gtb_c6 146 (by decide +kernel) rfl
theorem wd_1457 : (Cond.laysFinal "WebCourtModel" "WebCourtModel" "draw" "[I") ∈ gtb := gtb_c6 148 (by decide +kernel) rfl
theorem wd_1459 : (Cond.laysFinal "WebCourtModel" "WebCourtModel" "told" "[I") ∈ gtb := gtb_c6 150 (by decide +kernel) rfl
theorem wd_1461 : (Cond.laysFinal "WebCourtModel" "WebCourtModel" "stickyTold" "[I") ∈ gtb := gtb_c6 152 (by decide +kernel) rfl
theorem wd_1463 : (Cond.laysFinal "WebCourtModel" "WebCourtModel" "oneEnd" "[I") ∈ gtb := gtb_c6 154 (by decide +kernel) rfl
theorem wd_1465 : (Cond.laysFinal "WebCourtModel" "WebCourtModel" "otherEnd" "[I") ∈ gtb := gtb_c6 156 (by decide +kernel) rfl
theorem wd_1467 : (Cond.laysFinal "WebCourtModel" "WebCourtModel" "strong" "[I") ∈ gtb := gtb_c6 158 (by decide +kernel) rfl
theorem wd_1469 : (Cond.laysFinal "WebCourtModel" "WebCourtModel" "knotOf" "[I") ∈ gtb := gtb_c6 160 (by decide +kernel) rfl
theorem wd_1471 : (Cond.laysFinal "WebCourtModel" "WebCourtModel" "pleaTold" "[I") ∈ gtb := gtb_c6 162 (by decide +kernel) rfl
theorem wd_1473 : (Cond.laysFinal "WebCourtModel" "WebCourtModel" "ruleFrom" "[I") ∈ gtb := gtb_c6 164 (by decide +kernel) rfl
theorem wd_1475 : (Cond.laysFinal "WebCourtModel" "WebCourtModel" "ruleTo" "[I") ∈ gtb := gtb_c6 166 (by decide +kernel) rfl
theorem wd_1477 : (Cond.laysFinal "WebCourtModel" "WebCourtModel" "kName" "[J") ∈ gtb := gtb_c6 168 (by decide +kernel) rfl
theorem wd_1479 : (Cond.laysFinal "WebCourtModel" "WebCourtModel" "pName" "[J") ∈ gtb := gtb_c6 170 (by decide +kernel) rfl
theorem wd_1481 : (Cond.laysFinal "WebCourtModel" "WebCourtModel" "cName" "[J") ∈ gtb := gtb_c6 172 (by decide +kernel) rfl
theorem wd_1483 : (Cond.laysFinal "WebCourtModel" "WebCourtModel" "code" "[I") ∈ gtb := gtb_c6 174 (by decide +kernel) rfl
theorem wd_1485 : (Cond.laysFinal "WebCourtModel" "WebCourtModel" "codeNumber" "[I") ∈ gtb := gtb_c6 176 (by decide +kernel) rfl
theorem wd_1487 : (Cond.laysFinal "WebCourtModel" "WebCourtModel" "eWhat" "[I") ∈ gtb := gtb_c6 178 (by decide +kernel) rfl
theorem wd_1489 : (Cond.laysFinal "WebCourtModel" "WebCourtModel" "eSign" "[I") ∈ gtb := gtb_c6 180 (by decide +kernel) rfl
theorem wd_1491 : (Cond.laysFinal "WebCourtModel" "WebCourtModel" "pile" "[I") ∈ gtb := gtb_c6 182 (by decide +kernel) rfl
theorem wd_1493 : (Cond.lays "WebCourtModel" "WebCourtModel" "bank" "I") ∈ gtb := gtb_c6 184 (by decide +kernel) rfl
theorem wd_1495 : (Cond.lays "WebCourtModel" "WebCourtModel" "rb" "I") ∈ gtb := gtb_c6 186 (by decide +kernel) rfl
theorem wd_1497 : (Cond.lays "WebCourtModel" "WebCourtModel" "codes" "I") ∈ gtb := gtb_c6 188 (by decide +kernel) rfl
theorem wd_1499 : (Cond.lays "WebCourtModel" "WebCourtModel" "within" "I") ∈ gtb := gtb_c6 190 (by decide +kernel) rfl
theorem wd_1501 : (Cond.lays "WebCourtModel" "WebCourtModel" "piled" "I") ∈ gtb := gtb_c6 192 (by decide +kernel) rfl
theorem wd_1503 : (Cond.lays "WebCourtModel" "WebCourtModel" "unitsInRule" "I") ∈ gtb := gtb_c6 194 (by decide +kernel) rfl
theorem wd_1505 : (Cond.lays "WebCourtModel" "WebCourtModel" "askCase" "I") ∈ gtb := gtb_c6 196 (by decide +kernel) rfl
theorem wd_1507 : (Cond.lays "WebCourtModel" "WebCourtModel" "askPleas" "I") ∈ gtb := gtb_c6 198 (by decide +kernel) rfl
theorem wd_1509 : (Cond.laysFinal "WebCourtModel" "WebCourtModel" "all" "[I") ∈ gtb := gtb_c6 200 (by decide +kernel) rfl
theorem wd_1511 : (Cond.lays "WebCourtModel" "WebCourtModel" "thought" "I") ∈ gtb := gtb_c6 202 (by decide +kernel) rfl
theorem wd_1513 : (Cond.laysFinal "WebCourtModel" "WebCourtModel" "was" "[I") ∈ gtb := gtb_c6 204 (by decide +kernel) rfl
theorem wd_1515 : (Cond.lays "WebCourtModel" "WebCourtModel" "acts" "I") ∈ gtb := gtb_c6 206 (by decide +kernel) rfl
theorem wd_1517 : (Cond.lays "WebCourtModel" "WebCourtModel" "undone" "I") ∈ gtb := gtb_c6 208 (by decide +kernel) rfl
theorem wd_1519 : (Cond.laysFinal "WebCourtModel" "WebCourtModel" "laidRow" "[I") ∈ gtb := gtb_c6 210 (by decide +kernel) rfl
theorem wd_1521 : (Cond.lays "WebCourtModel" "WebCourtModel" "laid" "I") ∈ gtb := gtb_c6 212 (by decide +kernel) rfl
theorem wd_1523 : (Cond.laysFinal "WebCourtModel" "WebCourtModel" "verdicts" "[I") ∈ gtb := gtb_c6 214 (by decide +kernel) rfl
theorem wd_1525 : (Cond.laysFinal "WebCourtModel" "WebCourtModel" "far" "[I") ∈ gtb := gtb_c6 216 (by decide +kernel) rfl
theorem wd_1527 : (Cond.laysFinal "WebCourtModel" "WebCourtModel" "verdictIf" "[I") ∈ gtb := gtb_c6 218 (by decide +kernel) rfl
theorem wd_1529 : (Cond.laysFinal "WebCourtModel" "WebCourtModel" "sCase" "[I") ∈ gtb := gtb_c6 220 (by decide +kernel) rfl
theorem wd_1531 : (Cond.laysFinal "WebCourtModel" "WebCourtModel" "sMuch" "[I") ∈ gtb := gtb_c6 222 (by decide +kernel) rfl
theorem wd_1533 : (Cond.laysFinal "WebCourtModel" "WebCourtModel" "sIs" "[I") ∈ gtb := gtb_c6 224 (by decide +kernel) rfl
theorem wd_1535 : (Cond.laysFinal "WebCourtModel" "WebCourtModel" "sTold" "[I") ∈ gtb := gtb_c6 226 (by decide +kernel) rfl
theorem wd_1537 : (Cond.laysFinal "WebCourtModel" "WebCourtModel" "sUntold" "[I") ∈ gtb := gtb_c6 228 (by decide +kernel) rfl
theorem wd_1539 : (Cond.laysFinal "WebCourtModel" "WebCourtModel" "parts" "[I") ∈ gtb := gtb_c6 230 (by decide +kernel) rfl
theorem wd_1541 : (Cond.laysFinal "WebCourtModel" "WebCourtModel" "kept" "[I") ∈ gtb := gtb_c6 232 (by decide +kernel) rfl
theorem wd_1543 : (Cond.lays "WebCourtModel" "WebCourtModel" "heards" "I") ∈ gtb := gtb_c6 234 (by decide +kernel) rfl
theorem wd_1545 : (Cond.lays "WebCourtModel" "WebCourtModel" "time" "I") ∈ gtb := gtb_c6 236 (by decide +kernel) rfl
theorem wd_1547 : (Cond.laysFinal "WebCourtModel" "WebCourtModel" "boxAll" "[I") ∈ gtb := gtb_c6 238 (by decide +kernel) rfl
theorem wd_1549 : (Cond.laysFinal "WebCourtModel" "WebCourtModel" "isBoxed" "[Z") ∈ gtb := gtb_c7 0 (by decide +kernel) rfl
theorem inFX11 : ∀ w ∈ u_ws RX11 TX11 65, w ∈ gtb := by
  show ∀ w ∈ [u_lay RX11 TX11 0, u_lay RX11 TX11 1, u_lay RX11 TX11 2, u_lay RX11 TX11 3, u_lay RX11 TX11 4, u_lay RX11 TX11 5, u_lay RX11 TX11 6, u_lay RX11 TX11 7, u_lay RX11 TX11 8, u_lay RX11 TX11 9, u_lay RX11 TX11 10, u_lay RX11 TX11 11, u_lay RX11 TX11 12, u_lay RX11 TX11 13, u_lay RX11 TX11 14, u_lay RX11 TX11 15, u_lay RX11 TX11 16, u_lay RX11 TX11 17, u_lay RX11 TX11 18, u_lay RX11 TX11 19, u_lay RX11 TX11 20, u_lay RX11 TX11 21, u_lay RX11 TX11 22, u_lay RX11 TX11 23, u_lay RX11 TX11 24, u_lay RX11 TX11 25, u_lay RX11 TX11 26, u_lay RX11 TX11 27, u_lay RX11 TX11 28, u_lay RX11 TX11 29, u_lay RX11 TX11 30, u_lay RX11 TX11 31, u_lay RX11 TX11 32, u_lay RX11 TX11 33, u_lay RX11 TX11 34, u_lay RX11 TX11 35, u_lay RX11 TX11 36, u_lay RX11 TX11 37, u_lay RX11 TX11 38, u_lay RX11 TX11 39, u_lay RX11 TX11 40, u_lay RX11 TX11 41, u_lay RX11 TX11 42, u_lay RX11 TX11 43, u_lay RX11 TX11 44, u_lay RX11 TX11 45, u_lay RX11 TX11 46, u_lay RX11 TX11 47, u_lay RX11 TX11 48, u_lay RX11 TX11 49, u_lay RX11 TX11 50, u_lay RX11 TX11 51, u_lay RX11 TX11 52, u_lay RX11 TX11 53, u_lay RX11 TX11 54, u_lay RX11 TX11 55, u_lay RX11 TX11 56, u_lay RX11 TX11 57, u_lay RX11 TX11 58, u_lay RX11 TX11 59, u_lay RX11 TX11 60, u_lay RX11 TX11 61, u_lay RX11 TX11 62, u_lay RX11 TX11 63, u_lay RX11 TX11 64], w ∈ gtb
  exact List.forall_mem_cons.mpr ⟨wd_1421, List.forall_mem_cons.mpr ⟨wd_1423, List.forall_mem_cons.mpr ⟨wd_1425, List.forall_mem_cons.mpr ⟨wd_1427, List.forall_mem_cons.mpr ⟨wd_1429, List.forall_mem_cons.mpr ⟨wd_1431, List.forall_mem_cons.mpr ⟨wd_1433, List.forall_mem_cons.mpr ⟨wd_1435, List.forall_mem_cons.mpr ⟨wd_1437, List.forall_mem_cons.mpr ⟨wd_1439, List.forall_mem_cons.mpr ⟨wd_1441, List.forall_mem_cons.mpr ⟨wd_1443, List.forall_mem_cons.mpr ⟨wd_1445, List.forall_mem_cons.mpr ⟨wd_1447, List.forall_mem_cons.mpr ⟨wd_1449, List.forall_mem_cons.mpr ⟨wd_1451, List.forall_mem_cons.mpr ⟨wd_1453, List.forall_mem_cons.mpr ⟨wd_1455, List.forall_mem_cons.mpr ⟨wd_1457, List.forall_mem_cons.mpr ⟨wd_1459, List.forall_mem_cons.mpr ⟨wd_1461, List.forall_mem_cons.mpr ⟨wd_1463, List.forall_mem_cons.mpr ⟨wd_1465, List.forall_mem_cons.mpr ⟨wd_1467, List.forall_mem_cons.mpr ⟨wd_1469, List.forall_mem_cons.mpr ⟨wd_1471, List.forall_mem_cons.mpr ⟨wd_1473, List.forall_mem_cons.mpr ⟨wd_1475, List.forall_mem_cons.mpr ⟨wd_1477, List.forall_mem_cons.mpr ⟨wd_1479, List.forall_mem_cons.mpr ⟨wd_1481, List.forall_mem_cons.mpr ⟨wd_1483, List.forall_mem_cons.mpr ⟨wd_1485, List.forall_mem_cons.mpr ⟨wd_1487, List.forall_mem_cons.mpr ⟨wd_1489, List.forall_mem_cons.mpr ⟨wd_1491, List.forall_mem_cons.mpr ⟨wd_1493, List.forall_mem_cons.mpr ⟨wd_1495, List.forall_mem_cons.mpr ⟨wd_1497, List.forall_mem_cons.mpr ⟨wd_1499, List.forall_mem_cons.mpr ⟨wd_1501, List.forall_mem_cons.mpr ⟨wd_1503, List.forall_mem_cons.mpr ⟨wd_1505, List.forall_mem_cons.mpr ⟨wd_1507, List.forall_mem_cons.mpr ⟨wd_1509, List.forall_mem_cons.mpr ⟨wd_1511, List.forall_mem_cons.mpr ⟨wd_1513, List.forall_mem_cons.mpr ⟨wd_1515, List.forall_mem_cons.mpr ⟨wd_1517, List.forall_mem_cons.mpr ⟨wd_1519, List.forall_mem_cons.mpr ⟨wd_1521, List.forall_mem_cons.mpr ⟨wd_1523, List.forall_mem_cons.mpr ⟨wd_1525, List.forall_mem_cons.mpr ⟨wd_1527, List.forall_mem_cons.mpr ⟨wd_1529, List.forall_mem_cons.mpr ⟨wd_1531, List.forall_mem_cons.mpr ⟨wd_1533, List.forall_mem_cons.mpr ⟨wd_1535, List.forall_mem_cons.mpr ⟨wd_1537, List.forall_mem_cons.mpr ⟨wd_1539, List.forall_mem_cons.mpr ⟨wd_1541, List.forall_mem_cons.mpr ⟨wd_1543, List.forall_mem_cons.mpr ⟨wd_1545, List.forall_mem_cons.mpr ⟨wd_1547, List.forall_mem_cons.mpr ⟨wd_1549, fun _ h => absurd h List.not_mem_nil⟩⟩⟩⟩⟩⟩⟩⟩⟩⟩⟩⟩⟩⟩⟩⟩⟩⟩⟩⟩⟩⟩⟩⟩⟩⟩⟩⟩⟩⟩⟩⟩⟩⟩⟩⟩⟩⟩⟩⟩⟩⟩⟩⟩⟩⟩⟩⟩⟩⟩⟩⟩⟩⟩⟩⟩⟩⟩⟩⟩⟩⟩⟩⟩⟩
theorem gf_RX11_30 {p : Program} {l : Launch} {e : Env} {R : Room} {s : State} {m : MethodId} {args : Array Value} {below : List Frame} {meth : Method} {c : Code} {H : Heap} {locs : List Loc} {cells slots : Nat} {Q : State → Prop} {cc : ByteArray} {pc nL : Nat} {ls : Array Slot} {rest : List Value} {D : va_G} {cy : Nat → ClassId} {A : Nat → Prop} {ws : va_W} {b : Nat} {fs : List Value} {v : Value} (C : Cx p s m args c cc nL RX11 D cy A) (hO : Wo D A ws s.heap H locs) (q0 : Nat) (he : ws[q0]? = some (b, .inr (11, fs))) (hv : fs[14]? = some v) (hdg : decode cc pc = .ok (.getfield 30, 3)) (kk : W p l e R s m args below meth c H locs cells slots Q (F0 m (pc + 3) ls (v :: rest))) : W p l e R s m args below meth c H locs cells slots Q (F0 m pc ls (.ref b :: rest)) := gF (k := 14) C hO q0 he rfl inFX11 (by decide) wd_1370 rfl hv hdg kk
theorem wd_1392 : (Cond.fieldLink "WebCourtModel" (255 : Nat) "WebCourtModel" "bank" "I") ∈ gtb := gtb_c6 83 (by decide +kernel) rfl
theorem gf_RX11_255 {p : Program} {l : Launch} {e : Env} {R : Room} {s : State} {m : MethodId} {args : Array Value} {below : List Frame} {meth : Method} {c : Code} {H : Heap} {locs : List Loc} {cells slots : Nat} {Q : State → Prop} {cc : ByteArray} {pc nL : Nat} {ls : Array Slot} {rest : List Value} {D : va_G} {cy : Nat → ClassId} {A : Nat → Prop} {ws : va_W} {b : Nat} {fs : List Value} {v : Value} (C : Cx p s m args c cc nL RX11 D cy A) (hO : Wo D A ws s.heap H locs) (q0 : Nat) (he : ws[q0]? = some (b, .inr (11, fs))) (hv : fs[36]? = some v) (hdg : decode cc pc = .ok (.getfield 255, 3)) (kk : W p l e R s m args below meth c H locs cells slots Q (F0 m (pc + 3) ls (v :: rest))) : W p l e R s m args below meth c H locs cells slots Q (F0 m pc ls (.ref b :: rest)) := gF (k := 36) C hO q0 he rfl inFX11 (by decide) wd_1392 rfl hv hdg kk
set_option maxHeartbeats 4000000 in
set_option maxRecDepth 100000 in
theorem T_X11_many (l : Launch) (D : va_G) (cy : Nat → ClassId) (a : Nat → Nat) (u : St) (hA_6_0 : fA u 6 0 = 0) (hI_0_36 : fI u 0 36 = 0)   : Mi l D cy (mW cy a) yX11_many (.code yX11_many cX11_many 1 (some .int)) (rmo 0 0) [.ref (a 0)] u (fun (r : Int32) (u' : St) => r = 0 ∧ u' = u) := by
  refine Mi.of (own := RX11) rfl (by decide) (Nat.le_of_ble_eq_true rfl) ?_
  intro p e s m below meth c A Q ls C hret hO hl
  obtain ⟨hx, hb, hml, hown, ht, hK, hA⟩ := id C
  have hl : lv_has ls 1 [(0, .ref (a 0))] := hl
  refine lv_aload_n hx hb dX11_many_0 rfl (lv_at hl 0 rfl) ?_
  refine gf_RX11_30 (v := .ref (a 6)) C hO 0 mW_0 rfl dX11_many_1 ?_
  refine lv_aload_n hx hb dX11_many_4 rfl (lv_at hl 0 rfl) ?_
  refine gf_RX11_255 (v := .int 0) C hO 0 mW_0 (congrArg (fun z : Int32 => some (Value.int z)) hI_0_36) dX11_many_5 ?_
  refine aI C hO 6 mW_6 (i_in (X := 0) rfl (by omega) (by omega)) dX11_many_8 ?_
  refine tE (y := 0) hA_6_0 ?_
  refine hret _ _ _ _ _ _ dX11_many_9 rfl ?_ hO
  exact ⟨rfl, rfl⟩
theorem dX11_isCase_0 : decode cX11_isCase 0 = .ok (.iload_n 1, 1) := by decide +kernel
theorem dX11_isCase_1 : decode cX11_isCase 1 = .ok (.iconst 0, 1) := by decide +kernel
theorem dX11_isCase_2 : decode cX11_isCase 2 = .ok (.aload_n 0, 1) := by decide +kernel
theorem dX11_isCase_3 : decode cX11_isCase 3 = .ok (.invokevirtual 371, 3) := by decide +kernel
theorem dX11_isCase_6 : decode cX11_isCase 6 = .ok (.iconst 1, 1) := by decide +kernel
theorem dX11_isCase_7 : decode cX11_isCase 7 = .ok (.isub, 1) := by decide +kernel
theorem dX11_isCase_8 : decode cX11_isCase 8 = .ok (.invokestatic 374, 3) := by decide +kernel
theorem dX11_isCase_11 : decode cX11_isCase 11 = .ok (.ireturn, 1) := by decide +kernel
theorem wd_1756 : (Cond.code ⟨"WebCourtModel", "isCase", "(I)Z"⟩ prog_13_method_49_code (2 : Nat) (Option.some FieldType.boolean)) ∈ gtb := gtb_c7 207 (by decide +kernel) rfl
theorem wd_1348 : (Cond.methodLink "WebCourtModel" (371 : Nat) ⟨"WebCourtModel", "many", "()I"⟩) ∈ gtb := gtb_c6 39 (by decide +kernel) rfl
theorem wd_1350 : (Cond.instanceMethod ⟨"WebCourtModel", "many", "()I"⟩) ∈ gtb := gtb_c6 41 (by decide +kernel) rfl
theorem wd_46 : (Cond.selects "WebCourtModel" ⟨"WebCourtModel", "many", "()I"⟩ ⟨"WebCourtModel", "many", "()I"⟩) ∈ gtb := gtb_p 46 (by decide +kernel) rfl
theorem wd_121 : (Cond.initialized "WebCourtModel") ∈ gtb := gtb_c1 12 (by decide +kernel) rfl
theorem hd_yX11_many : yX11_many.cls = RX11 ∧ yX11_many.cls ≠ "java/lang/invoke/MethodHandle" ∧ yX11_many.cls ≠ "java/lang/invoke/VarHandle" ∧ (parseMethodDescriptor yX11_many.desc).map (fun d => d.parameters.length) = some 0 := by decide +kernel
theorem wd_1722 : (Cond.methodLink "WebCourtModel" (374 : Nat) ⟨"WebCourtModel", "isIn", "(III)Z"⟩) ∈ gtb := gtb_c7 173 (by decide +kernel) rfl
theorem wd_1723 : (Cond.static ⟨"WebCourtModel", "isIn", "(III)Z"⟩) ∈ gtb := gtb_c7 174 (by decide +kernel) rfl
theorem gSS {own : String} {idx : Nat} {y : MethodName} {cw : Cond} (h1 : Cond.methodLink own idx y ∈ gtb) (h2 : Cond.static y ∈ gtb) (h3 : Cond.initialized y.cls ∈ gtb) (h5 : cw ∈ gtb) : GoodIn gtb (va_wsS own idx y (cw :: gtb)) := by
  intro w hw
  rcases List.mem_append.mp hw with hw | hw
  · rcases List.mem_cons.mp hw with e | hw
    · subst e; exact ⟨h1, gtb_good h1⟩
    · rcases List.mem_cons.mp hw with e | hw
      · subst e; exact ⟨h2, gtb_good h2⟩
      · rcases List.mem_cons.mp hw with e | hw
        · subst e; exact ⟨h3, gtb_good h3⟩
        · cases hw
  · exact gGood h5 w hw
theorem hd_yX11_isIn : yX11_isIn.cls ≠ "java/lang/invoke/MethodHandle" ∧ yX11_isIn.cls ≠ "java/lang/invoke/VarHandle" ∧ (parseMethodDescriptor yX11_isIn.desc).map (fun d => d.parameters.length) = some 3 := by decide +kernel
set_option maxHeartbeats 4000000 in
set_option maxRecDepth 100000 in
theorem T_X11_isCase (l : Launch) (D : va_G) (cy : Nat → ClassId) (a : Nat → Nat) (u : St) (hA_6_0 : fA u 6 0 = 0) (hI_0_36 : fI u 0 36 = 0) (x1 : Int32)  : Mi l D cy (mW cy a) yX11_isCase (.code yX11_isCase cX11_isCase 2 (some .boolean)) (rmo 1 22) [.ref (a 0), .int x1] u (fun (r : Int32) (u' : St) => r = 0 ∧ u' = u) := by
  refine Mi.of (own := RX11) rfl (by decide) (Nat.le_of_ble_eq_true rfl) ?_
  intro p e s m below meth c A Q ls C hret hO hl
  obtain ⟨hx, hb, hml, hown, ht, hK, hA⟩ := id C
  have hl : lv_has ls 2 [(0, .ref (a 0)), (1, .int x1)] := hl
  refine lv_iload_n hx hb dX11_isCase_0 rfl (lv_at hl 1 rfl) ?_
  refine lv_iconst (v := 0) hx hb dX11_isCase_1 (by decide) ?_
  refine lv_aload_n hx hb dX11_isCase_2 rfl (lv_at hl 0 rfl) ?_
  refine cVi (w := mW cy a) (As := []) (rest := [.int 0, .int x1]) C hO (T_X11_many l D cy a _ (hA_6_0) (hI_0_36)) (cwV 0 ht (gV wd_1348 wd_1350 wd_46 wd_121 wd_1351) rfl rfl rfl hd_yX11_many ⟨Nat.le_of_ble_eq_true rfl, Nat.le_of_ble_eq_true rfl⟩) 0 rfl mW_0 rfl rfl hl.1 (Nat.le_of_ble_eq_true rfl) dX11_isCase_3 rfl ⟨Nat.zero_le _, Nat.zero_le _⟩ (fun r1 u2 H locs hp3 hO => ?_)
  obtain ⟨hr1, hu2⟩ := hp3
  subst hr1
  rw [hu2] at hO
  refine lv_iconst (v := 1) hx hb dX11_isCase_6 (by decide) ?_
  refine lv_isub hx hb dX11_isCase_7 ?_
  refine tE (y := (-1)) rfl ?_
  refine cSi (w := mW cy a) (As := [.int x1, .int 0, .int (-1)]) (rest := []) C hO (T_X11_isIn_m1 l D cy a _ (x1)) (va_cwS 3 ht (gSS wd_1722 wd_1723 wd_121 wd_1724) rfl rfl rfl hd_yX11_isIn ⟨Nat.le_of_ble_eq_true rfl, Nat.le_of_ble_eq_true rfl⟩)  rfl hl.1 (Nat.le_of_ble_eq_true rfl) dX11_isCase_8 rfl ⟨Nat.zero_le _, Nat.zero_le _⟩ (fun r4 u5 H locs hp6 hO => ?_)
  obtain ⟨hr4, hu5⟩ := hp6
  subst hr4
  rw [hu5] at hO
  refine hret _ _ _ _ _ _ dX11_isCase_11 rfl ?_ hO
  exact ⟨rfl, rfl⟩
theorem dX11_isHeld_0 : decode cX11_isHeld 0 = .ok (.aload_n 0, 1) := by decide +kernel
theorem dX11_isHeld_1 : decode cX11_isHeld 1 = .ok (.iload_n 1, 1) := by decide +kernel
theorem dX11_isHeld_2 : decode cX11_isHeld 2 = .ok (.invokevirtual 383, 3) := by decide +kernel
theorem dX11_isHeld_5 : decode cX11_isHeld 5 = .ok (.ifCond .eq 18, 3) := by decide +kernel
theorem dX11_isHeld_8 : decode cX11_isHeld 8 = .ok (.aload_n 0, 1) := by decide +kernel
theorem dX11_isHeld_9 : decode cX11_isHeld 9 = .ok (.getfield 97, 3) := by decide +kernel
theorem dX11_isHeld_12 : decode cX11_isHeld 12 = .ok (.iconst 0, 1) := by decide +kernel
theorem dX11_isHeld_13 : decode cX11_isHeld 13 = .ok (.iload_n 1, 1) := by decide +kernel
theorem dX11_isHeld_14 : decode cX11_isHeld 14 = .ok (.iadd, 1) := by decide +kernel
theorem dX11_isHeld_15 : decode cX11_isHeld 15 = .ok (.iaload, 1) := by decide +kernel
theorem dX11_isHeld_16 : decode cX11_isHeld 16 = .ok (.ifCond .ne 7, 3) := by decide +kernel
theorem dX11_isHeld_19 : decode cX11_isHeld 19 = .ok (.iconst 1, 1) := by decide +kernel
theorem dX11_isHeld_20 : decode cX11_isHeld 20 = .ok (.goto 4, 3) := by decide +kernel
theorem dX11_isHeld_23 : decode cX11_isHeld 23 = .ok (.iconst 0, 1) := by decide +kernel
theorem dX11_isHeld_24 : decode cX11_isHeld 24 = .ok (.ireturn, 1) := by decide +kernel
theorem wd_1800 : (Cond.code ⟨"WebCourtModel", "isHeld", "(I)Z"⟩ prog_13_method_52_code (2 : Nat) (Option.some FieldType.boolean)) ∈ gtb := gtb_c8 11 (by decide +kernel) rfl
theorem wd_1753 : (Cond.methodLink "WebCourtModel" (383 : Nat) ⟨"WebCourtModel", "isCase", "(I)Z"⟩) ∈ gtb := gtb_c7 204 (by decide +kernel) rfl
theorem wd_1755 : (Cond.instanceMethod ⟨"WebCourtModel", "isCase", "(I)Z"⟩) ∈ gtb := gtb_c7 206 (by decide +kernel) rfl
theorem wd_83 : (Cond.selects "WebCourtModel" ⟨"WebCourtModel", "isCase", "(I)Z"⟩ ⟨"WebCourtModel", "isCase", "(I)Z"⟩) ∈ gtb := gtb_p 83 (by decide +kernel) rfl
theorem hd_yX11_isCase : yX11_isCase.cls = RX11 ∧ yX11_isCase.cls ≠ "java/lang/invoke/MethodHandle" ∧ yX11_isCase.cls ≠ "java/lang/invoke/VarHandle" ∧ (parseMethodDescriptor yX11_isCase.desc).map (fun d => d.parameters.length) = some 1 := by decide +kernel
set_option maxHeartbeats 4000000 in
set_option maxRecDepth 100000 in
theorem T_X11_isHeld (l : Launch) (D : va_G) (cy : Nat → ClassId) (a : Nat → Nat) (u : St) (hA_6_0 : fA u 6 0 = 0) (hI_0_36 : fI u 0 36 = 0) (x1 : Int32)  : Mi l D cy (mW cy a) yX11_isHeld (.code yX11_isHeld cX11_isHeld 2 (some .boolean)) (rmo 2 43) [.ref (a 0), .int x1] u (fun (r : Int32) (u' : St) => r = 0 ∧ u' = u) := by
  refine Mi.of (own := RX11) rfl (by decide) (Nat.le_of_ble_eq_true rfl) ?_
  intro p e s m below meth c A Q ls C hret hO hl
  obtain ⟨hx, hb, hml, hown, ht, hK, hA⟩ := id C
  have hl : lv_has ls 2 [(0, .ref (a 0)), (1, .int x1)] := hl
  refine lv_aload_n hx hb dX11_isHeld_0 rfl (lv_at hl 0 rfl) ?_
  refine lv_iload_n hx hb dX11_isHeld_1 rfl (lv_at hl 1 rfl) ?_
  refine cVi (w := mW cy a) (As := [.int x1]) (rest := []) C hO (T_X11_isCase l D cy a _ (hA_6_0) (hI_0_36) (x1)) (cwV 1 ht (gV wd_1753 wd_1755 wd_83 wd_121 wd_1756) rfl rfl rfl hd_yX11_isCase ⟨Nat.le_of_ble_eq_true rfl, Nat.le_of_ble_eq_true rfl⟩) 0 rfl mW_0 rfl rfl hl.1 (Nat.le_of_ble_eq_true rfl) dX11_isHeld_2 rfl ⟨Nat.zero_le _, Nat.zero_le _⟩ (fun r1 u2 H locs hp3 hO => ?_)
  obtain ⟨hr1, hu2⟩ := hp3
  subst hr1
  rw [hu2] at hO
  refine bt_eq (tgt := 23) (X := 0) hx hb dX11_isHeld_5 (by decide) rfl (by omega) ?_
  refine lv_iconst (v := 0) hx hb dX11_isHeld_23 (by decide) ?_
  refine hret _ _ _ _ _ _ dX11_isHeld_24 rfl ?_ hO
  exact ⟨rfl, rfl⟩
theorem dX10_verdict_0 : decode cX10_verdict 0 = .ok (.aload_n 0, 1) := by decide +kernel
theorem dX10_verdict_1 : decode cX10_verdict 1 = .ok (.getfield 37, 3) := by decide +kernel
theorem dX10_verdict_4 : decode cX10_verdict 4 = .ok (.iload_n 1, 1) := by decide +kernel
theorem dX10_verdict_5 : decode cX10_verdict 5 = .ok (.invokevirtual 144, 3) := by decide +kernel
theorem dX10_verdict_8 : decode cX10_verdict 8 = .ok (.ifCond .eq 14, 3) := by decide +kernel
theorem dX10_verdict_11 : decode cX10_verdict 11 = .ok (.aload_n 0, 1) := by decide +kernel
theorem dX10_verdict_12 : decode cX10_verdict 12 = .ok (.getfield 37, 3) := by decide +kernel
theorem dX10_verdict_15 : decode cX10_verdict 15 = .ok (.iload_n 1, 1) := by decide +kernel
theorem dX10_verdict_16 : decode cX10_verdict 16 = .ok (.invokevirtual 156, 3) := by decide +kernel
theorem dX10_verdict_19 : decode cX10_verdict 19 = .ok (.goto 5, 3) := by decide +kernel
theorem dX10_verdict_22 : decode cX10_verdict 22 = .ok (.ldc 159, 2) := by decide +kernel
theorem dX10_verdict_24 : decode cX10_verdict 24 = .ok (.ireturn, 1) := by decide +kernel
theorem wd_848 : (Cond.code ⟨"WebCourt", "verdict", "(I)I"⟩ prog_1_method_9_code (2 : Nat) (Option.some FieldType.int)) ∈ gtb := gtb_c4 19 (by decide +kernel) rfl
theorem wd_470 : (Cond.fieldLink "WebCourt" (37 : Nat) "WebCourt" "court" "LWebCourt$Court;") ∈ gtb := gtb_c2 121 (by decide +kernel) rfl
theorem wd_481 : (Cond.laysFinal "WebCourt" "WebCourt" "tape" "LWebCourt$Tape;") ∈ gtb := gtb_c2 132 (by decide +kernel) rfl
theorem wd_483 : (Cond.laysFinal "WebCourt" "WebCourt" "reader" "LWebCourt$Reader;") ∈ gtb := gtb_c2 134 (by decide +kernel) rfl
theorem wd_485 : (Cond.laysFinal "WebCourt" "WebCourt" "court" "LWebCourt$Court;") ∈ gtb := gtb_c2 136 (by decide +kernel) rfl
theorem wd_487 : (Cond.laysFinal "WebCourt" "WebCourt" "acts" "LWebCourt$Acts;") ∈ gtb := gtb_c2 138 (by decide +kernel) rfl
theorem wd_489 : (Cond.laysFinal "WebCourt" "WebCourt" "ways" "LWebCourt$Ways;") ∈ gtb := gtb_c2 140 (by decide +kernel) rfl
theorem wd_491 : (Cond.laysFinal "WebCourt" "WebCourt" "rounds" "LWebCourt$Rounds;") ∈ gtb := gtb_c2 142 (by decide +kernel) rfl
theorem wd_493 : (Cond.laysFinal "WebCourt" "WebCourt" "counsel" "LWebCourt$Counsel;") ∈ gtb := gtb_c2 144 (by decide +kernel) rfl
theorem wd_495 : (Cond.laysFinal "WebCourt" "WebCourt" "hearsay" "LWebCourt$Hearsay;") ∈ gtb := gtb_c2 146 (by decide +kernel) rfl
theorem wd_497 : (Cond.laysFinal "WebCourt" "WebCourt" "boxes" "[[I") ∈ gtb := gtb_c2 148 (by decide +kernel) rfl
theorem wd_499 : (Cond.laysFinal "WebCourt" "WebCourt" "lying" "[I") ∈ gtb := gtb_c2 150 (by decide +kernel) rfl
theorem wd_501 : (Cond.lays "WebCourt" "WebCourt" "lyingCount" "I") ∈ gtb := gtb_c2 152 (by decide +kernel) rfl
theorem wd_503 : (Cond.lays "WebCourt" "WebCourt" "boxesKept" "I") ∈ gtb := gtb_c2 154 (by decide +kernel) rfl
theorem wd_505 : (Cond.lays "WebCourt" "WebCourt" "draft" "LWebCourt$Web;") ∈ gtb := gtb_c2 156 (by decide +kernel) rfl
theorem inFX10 : ∀ w ∈ u_ws RX10 TX10 13, w ∈ gtb := by
  show ∀ w ∈ [u_lay RX10 TX10 0, u_lay RX10 TX10 1, u_lay RX10 TX10 2, u_lay RX10 TX10 3, u_lay RX10 TX10 4, u_lay RX10 TX10 5, u_lay RX10 TX10 6, u_lay RX10 TX10 7, u_lay RX10 TX10 8, u_lay RX10 TX10 9, u_lay RX10 TX10 10, u_lay RX10 TX10 11, u_lay RX10 TX10 12], w ∈ gtb
  exact List.forall_mem_cons.mpr ⟨wd_481, List.forall_mem_cons.mpr ⟨wd_483, List.forall_mem_cons.mpr ⟨wd_485, List.forall_mem_cons.mpr ⟨wd_487, List.forall_mem_cons.mpr ⟨wd_489, List.forall_mem_cons.mpr ⟨wd_491, List.forall_mem_cons.mpr ⟨wd_493, List.forall_mem_cons.mpr ⟨wd_495, List.forall_mem_cons.mpr ⟨wd_497, List.forall_mem_cons.mpr ⟨wd_499, List.forall_mem_cons.mpr ⟨wd_501, List.forall_mem_cons.mpr ⟨wd_503, List.forall_mem_cons.mpr ⟨wd_505, fun _ h => absurd h List.not_mem_nil⟩⟩⟩⟩⟩⟩⟩⟩⟩⟩⟩⟩⟩
theorem gf_RX10_37 {p : Program} {l : Launch} {e : Env} {R : Room} {s : State} {m : MethodId} {args : Array Value} {below : List Frame} {meth : Method} {c : Code} {H : Heap} {locs : List Loc} {cells slots : Nat} {Q : State → Prop} {cc : ByteArray} {pc nL : Nat} {ls : Array Slot} {rest : List Value} {D : va_G} {cy : Nat → ClassId} {A : Nat → Prop} {ws : va_W} {b : Nat} {fs : List Value} {v : Value} (C : Cx p s m args c cc nL RX10 D cy A) (hO : Wo D A ws s.heap H locs) (q0 : Nat) (he : ws[q0]? = some (b, .inr (10, fs))) (hv : fs[2]? = some v) (hdg : decode cc pc = .ok (.getfield 37, 3)) (kk : W p l e R s m args below meth c H locs cells slots Q (F0 m (pc + 3) ls (v :: rest))) : W p l e R s m args below meth c H locs cells slots Q (F0 m pc ls (.ref b :: rest)) := gF (k := 2) C hO q0 he rfl inFX10 (by decide) wd_470 rfl hv hdg kk
theorem wd_841 : (Cond.methodLink "WebCourt" (144 : Nat) ⟨"WebCourt$Court", "hasCase", "(I)Z"⟩) ∈ gtb := gtb_c4 12 (by decide +kernel) rfl
theorem wd_895 : (Cond.constant "WebCourt" (159 : Nat) (-1000000000 : Int32)) ∈ gtb := gtb_c4 66 (by decide +kernel) rfl
set_option maxHeartbeats 4000000 in
set_option maxRecDepth 100000 in
theorem T_X10_verdict (l : Launch) (D : va_G) (cy : Nat → ClassId) (a : Nat → Nat) (u : St) (hI_3_12 : fI u 3 12 = 0) (hR_0 : fR u 0 = a 3) (x1 : Int32)  : Mi l D cy (cW cy a) yX10_verdict (.code yX10_verdict cX10_verdict 2 (some .int)) (rmo 1 21) [.ref (a 0), .int x1] u (fun (r : Int32) (u' : St) => r = (-1000000000) ∧ u' = u) := by
  refine Mi.of (own := RX10) rfl (by decide) (Nat.le_of_ble_eq_true rfl) ?_
  intro p e s m below meth c A Q ls C hret hO hl
  obtain ⟨hx, hb, hml, hown, ht, hK, hA⟩ := id C
  have hl : lv_has ls 2 [(0, .ref (a 0)), (1, .int x1)] := hl
  refine lv_aload_n hx hb dX10_verdict_0 rfl (lv_at hl 0 rfl) ?_
  refine gf_RX10_37 (v := .ref (a 28)) C hO 0 cW_0 rfl dX10_verdict_1 ?_
  refine lv_iload_n hx hb dX10_verdict_4 rfl (lv_at hl 1 rfl) ?_
  refine cVi (w := cW cy a) (As := [.int x1]) (rest := []) C hO (T_X2_hasCase l D cy a _ (hI_3_12) (hR_0) (x1)) (cwV 1 ht (gV wd_841 wd_842 wd_843 wd_115 wd_844) rfl rfl rfl hd_yX2_hasCase ⟨Nat.le_of_ble_eq_true rfl, Nat.le_of_ble_eq_true rfl⟩) 28 rfl cW_28 rfl rfl hl.1 (Nat.le_of_ble_eq_true rfl) dX10_verdict_5 rfl ⟨Nat.zero_le _, Nat.zero_le _⟩ (fun r1 u2 H locs hp3 hO => ?_)
  obtain ⟨hr1, hu2⟩ := hp3
  subst hr1
  rw [hu2] at hO
  refine bt_eq (tgt := 22) (X := 0) hx hb dX10_verdict_8 (by decide) rfl (by omega) ?_
  refine lv_ldc (v := (-1000000000)) hx hb hown (ht _ wd_895) dX10_verdict_22 ?_
  refine hret _ _ _ _ _ _ dX10_verdict_24 rfl ?_ hO
  exact ⟨rfl, rfl⟩
