def q_end (n : Int32) : Int32 := if n.toInt = 0 then 0 else -1
def q_term (n : Int32) : Int32 := if 0 ≤ n.toInt ∧ n.toInt ≤ 30 then 0 else -1
def q_prec (n : Int32) : Int32 := if 0 ≤ n.toInt ∧ n.toInt ≤ 99 then 0 else -1
def q_odds (n q : Int32) : Int32 := if (0 ≤ n.toInt ∧ n.toInt ≤ 4) ∧ 0 ≤ q.toInt ∧ q.toInt ≤ 1 then 1 else -1
def q_later (x : Int32) : Int32 := if 0 ≤ x.toInt ∧ x.toInt ≤ 1000 then x else -1
def q_about (w : Int32) : Int32 := if 0 ≤ w.toInt ∧ w.toInt ≤ 15 ∧ ¬ w.toInt = 4 then 0 else -1
def q_rest (w : Int32) : Int32 := if 8 ≤ w.toInt ∧ w.toInt ≤ 14 then 0 else -1
def q_image (b : Int32) : Int32 := if 0 ≤ b.toInt ∧ b.toInt ≤ 2 then 0 else -1
theorem dX2_hasKnot_0 : decode cX2_hasKnot 0 = .ok (.iload_n 1, 1) := by decide +kernel
theorem dX2_hasKnot_1 : decode cX2_hasKnot 1 = .ok (.ifCond .lt 18, 3) := by decide +kernel
theorem dX2_hasKnot_4 : decode cX2_hasKnot 4 = .ok (.iload_n 1, 1) := by decide +kernel
theorem dX2_hasKnot_5 : decode cX2_hasKnot 5 = .ok (.aload_n 0, 1) := by decide +kernel
theorem dX2_hasKnot_6 : decode cX2_hasKnot 6 = .ok (.getfield 15, 3) := by decide +kernel
theorem dX2_hasKnot_9 : decode cX2_hasKnot 9 = .ok (.getfield 19, 3) := by decide +kernel
theorem dX2_hasKnot_12 : decode cX2_hasKnot 12 = .ok (.if_icmp .ge 7, 3) := by decide +kernel
theorem dX2_hasKnot_15 : decode cX2_hasKnot 15 = .ok (.iconst 1, 1) := by decide +kernel
theorem dX2_hasKnot_16 : decode cX2_hasKnot 16 = .ok (.goto 4, 3) := by decide +kernel
theorem dX2_hasKnot_19 : decode cX2_hasKnot 19 = .ok (.iconst 0, 1) := by decide +kernel
theorem dX2_hasKnot_20 : decode cX2_hasKnot 20 = .ok (.ireturn, 1) := by decide +kernel
theorem wd_820 : (Cond.code ⟨"WebCourt$Court", "hasKnot", "(I)Z"⟩ prog_4_method_3_code (2 : Nat) (Option.some FieldType.boolean)) ∈ gtb := gtb_c3 231 (by decide +kernel) rfl
theorem wd_358 : (Cond.fieldLink "WebCourt$Court" (15 : Nat) "WebCourt$Court" "web" "LWebCourt$Web;") ∈ gtb := gtb_c2 9 (by decide +kernel) rfl
theorem wd_363 : (Cond.laysFinal "WebCourt$Court" "WebCourt$Court" "row" "[I") ∈ gtb := gtb_c2 14 (by decide +kernel) rfl
theorem wd_365 : (Cond.lays "WebCourt$Court" "WebCourt$Court" "web" "LWebCourt$Web;") ∈ gtb := gtb_c2 16 (by decide +kernel) rfl
theorem inFX2 : ∀ w ∈ u_ws RX2 TX2 2, w ∈ gtb := by
  show ∀ w ∈ [u_lay RX2 TX2 0, u_lay RX2 TX2 1], w ∈ gtb
  exact List.forall_mem_cons.mpr ⟨wd_363, List.forall_mem_cons.mpr ⟨wd_365, fun _ h => absurd h List.not_mem_nil⟩⟩
theorem gf_RX2_15 {p : Program} {l : Launch} {e : Env} {R : Room} {s : State} {m : MethodId} {args : Array Value} {below : List Frame} {meth : Method} {c : Code} {H : Heap} {locs : List Loc} {cells slots : Nat} {Q : State → Prop} {cc : ByteArray} {pc nL : Nat} {ls : Array Slot} {rest : List Value} {D : va_G} {cy : Nat → ClassId} {A : Nat → Prop} {ws : va_W} {b : Nat} {fs : List Value} {v : Value} (C : Cx p s m args c cc nL RX2 D cy A) (hO : Wo D A ws s.heap H locs) (q0 : Nat) (he : ws[q0]? = some (b, .inr (2, fs))) (hv : fs[1]? = some v) (hdg : decode cc pc = .ok (.getfield 15, 3)) (kk : W p l e R s m args below meth c H locs cells slots Q (F0 m (pc + 3) ls (v :: rest))) : W p l e R s m args below meth c H locs cells slots Q (F0 m pc ls (.ref b :: rest)) := gF (k := 1) C hO q0 he rfl inFX2 (by decide) wd_358 rfl hv hdg kk
theorem wd_252 : (Cond.fieldLink "WebCourt$Court" (19 : Nat) "WebCourt$Web" "knots" "I") ∈ gtb := gtb_c1 143 (by decide +kernel) rfl
theorem wd_289 : (Cond.laysFinal "WebCourt$Web" "WebCourt$Web" "knotNames" "[J") ∈ gtb := gtb_c1 180 (by decide +kernel) rfl
theorem wd_291 : (Cond.laysFinal "WebCourt$Web" "WebCourt$Web" "pleaNames" "[J") ∈ gtb := gtb_c1 182 (by decide +kernel) rfl
theorem wd_293 : (Cond.laysFinal "WebCourt$Web" "WebCourt$Web" "caseNames" "[J") ∈ gtb := gtb_c1 184 (by decide +kernel) rfl
theorem wd_295 : (Cond.laysFinal "WebCourt$Web" "WebCourt$Web" "lineFrom" "[I") ∈ gtb := gtb_c1 186 (by decide +kernel) rfl
theorem wd_297 : (Cond.laysFinal "WebCourt$Web" "WebCourt$Web" "lineTo" "[I") ∈ gtb := gtb_c1 188 (by decide +kernel) rfl
theorem wd_299 : (Cond.laysFinal "WebCourt$Web" "WebCourt$Web" "strong" "[I") ∈ gtb := gtb_c1 190 (by decide +kernel) rfl
theorem wd_301 : (Cond.laysFinal "WebCourt$Web" "WebCourt$Web" "caseKnots" "[I") ∈ gtb := gtb_c1 192 (by decide +kernel) rfl
theorem wd_303 : (Cond.laysFinal "WebCourt$Web" "WebCourt$Web" "casePleas" "[I") ∈ gtb := gtb_c1 194 (by decide +kernel) rfl
theorem wd_305 : (Cond.laysFinal "WebCourt$Web" "WebCourt$Web" "law" "LWebCourt$Law;") ∈ gtb := gtb_c1 196 (by decide +kernel) rfl
theorem wd_307 : (Cond.lays "WebCourt$Web" "WebCourt$Web" "knots" "I") ∈ gtb := gtb_c1 198 (by decide +kernel) rfl
theorem wd_309 : (Cond.lays "WebCourt$Web" "WebCourt$Web" "lines" "I") ∈ gtb := gtb_c1 200 (by decide +kernel) rfl
theorem wd_311 : (Cond.lays "WebCourt$Web" "WebCourt$Web" "pleas" "I") ∈ gtb := gtb_c1 202 (by decide +kernel) rfl
theorem wd_313 : (Cond.lays "WebCourt$Web" "WebCourt$Web" "cases" "I") ∈ gtb := gtb_c1 204 (by decide +kernel) rfl
theorem wd_315 : (Cond.lays "WebCourt$Web" "WebCourt$Web" "sticky" "I") ∈ gtb := gtb_c1 206 (by decide +kernel) rfl
theorem wd_317 : (Cond.lays "WebCourt$Web" "WebCourt$Web" "bench" "I") ∈ gtb := gtb_c1 208 (by decide +kernel) rfl
theorem wd_319 : (Cond.lays "WebCourt$Web" "WebCourt$Web" "back" "I") ∈ gtb := gtb_c1 210 (by decide +kernel) rfl
theorem wd_321 : (Cond.lays "WebCourt$Web" "WebCourt$Web" "draw" "I") ∈ gtb := gtb_c1 212 (by decide +kernel) rfl
theorem wd_323 : (Cond.lays "WebCourt$Web" "WebCourt$Web" "toldOnce" "I") ∈ gtb := gtb_c1 214 (by decide +kernel) rfl
theorem inFX9 : ∀ w ∈ u_ws RX9 TX9 18, w ∈ gtb := by
  show ∀ w ∈ [u_lay RX9 TX9 0, u_lay RX9 TX9 1, u_lay RX9 TX9 2, u_lay RX9 TX9 3, u_lay RX9 TX9 4, u_lay RX9 TX9 5, u_lay RX9 TX9 6, u_lay RX9 TX9 7, u_lay RX9 TX9 8, u_lay RX9 TX9 9, u_lay RX9 TX9 10, u_lay RX9 TX9 11, u_lay RX9 TX9 12, u_lay RX9 TX9 13, u_lay RX9 TX9 14, u_lay RX9 TX9 15, u_lay RX9 TX9 16, u_lay RX9 TX9 17], w ∈ gtb
  exact List.forall_mem_cons.mpr ⟨wd_289, List.forall_mem_cons.mpr ⟨wd_291, List.forall_mem_cons.mpr ⟨wd_293, List.forall_mem_cons.mpr ⟨wd_295, List.forall_mem_cons.mpr ⟨wd_297, List.forall_mem_cons.mpr ⟨wd_299, List.forall_mem_cons.mpr ⟨wd_301, List.forall_mem_cons.mpr ⟨wd_303, List.forall_mem_cons.mpr ⟨wd_305, List.forall_mem_cons.mpr ⟨wd_307, List.forall_mem_cons.mpr ⟨wd_309, List.forall_mem_cons.mpr ⟨wd_311, List.forall_mem_cons.mpr ⟨wd_313, List.forall_mem_cons.mpr ⟨wd_315, List.forall_mem_cons.mpr ⟨wd_317, List.forall_mem_cons.mpr ⟨wd_319, List.forall_mem_cons.mpr ⟨wd_321, List.forall_mem_cons.mpr ⟨wd_323, fun _ h => absurd h List.not_mem_nil⟩⟩⟩⟩⟩⟩⟩⟩⟩⟩⟩⟩⟩⟩⟩⟩⟩⟩
theorem gf_RX2_19 {p : Program} {l : Launch} {e : Env} {R : Room} {s : State} {m : MethodId} {args : Array Value} {below : List Frame} {meth : Method} {c : Code} {H : Heap} {locs : List Loc} {cells slots : Nat} {Q : State → Prop} {cc : ByteArray} {pc nL : Nat} {ls : Array Slot} {rest : List Value} {D : va_G} {cy : Nat → ClassId} {A : Nat → Prop} {ws : va_W} {b : Nat} {fs : List Value} {v : Value} (C : Cx p s m args c cc nL RX2 D cy A) (hO : Wo D A ws s.heap H locs) (q0 : Nat) (he : ws[q0]? = some (b, .inr (9, fs))) (hv : fs[9]? = some v) (hdg : decode cc pc = .ok (.getfield 19, 3)) (kk : W p l e R s m args below meth c H locs cells slots Q (F0 m (pc + 3) ls (v :: rest))) : W p l e R s m args below meth c H locs cells slots Q (F0 m pc ls (.ref b :: rest)) := gF (k := 9) C hO q0 he rfl inFX9 (by decide) wd_252 rfl hv hdg kk
set_option maxHeartbeats 4000000 in
set_option maxRecDepth 100000 in
theorem T_X2_hasKnot (l : Launch) (D : va_G) (cy : Nat → ClassId) (a : Nat → Nat) (u : St) (hI_3_9 : fI u 3 9 = 0) (hR_0 : fR u 0 = a 3) (x1 : Int32)  : Mi l D cy (cW cy a) yX2_hasKnot (.code yX2_hasKnot cX2_hasKnot 2 (some .boolean)) (rmo 0 0) [.ref (a 28), .int x1] u (fun (r : Int32) (u' : St) => (r = 0) ∧ (u' = u)) := by
  refine Mi.of (own := RX2) rfl (by decide) (Nat.le_of_ble_eq_true rfl) ?_
  intro p e s m below meth c A Q ls C hret hO hl
  obtain ⟨hx, hb, hml, hown, ht, hK, hA⟩ := id C
  have hl : lv_has ls 2 [(0, .ref (a 28)), (1, .int x1)] := hl
  refine lv_iload_n hx hb dX2_hasKnot_0 rfl (lv_at hl 1 rfl) ?_
  refine bs_lt (tgt := 19) (X := (x1).toInt) hx hb dX2_hasKnot_1 (by decide) rfl (fun c1 => ?_) (fun c1 => ?_)
  · refine lv_iconst (v := 0) hx hb dX2_hasKnot_19 (by decide) ?_
    refine hret _ _ _ _ _ _ dX2_hasKnot_20 rfl ?_ hO
    exact ⟨rfl, rfl⟩
  · refine lv_iload_n hx hb dX2_hasKnot_4 rfl (lv_at hl 1 rfl) ?_
    refine lv_aload_n hx hb dX2_hasKnot_5 rfl (lv_at hl 0 rfl) ?_
    refine gf_RX2_15 (v := .ref (a 3)) C hO 28 cW_28 (congrArg (fun z : Nat => some (Value.ref z)) hR_0) dX2_hasKnot_6 ?_
    refine gf_RX2_19 (v := .int 0) C hO 3 cW_3 (congrArg (fun z : Int32 => some (Value.int z)) hI_3_9) dX2_hasKnot_9 ?_
    refine ct_ge (tgt := 19) (X := (x1).toInt) (Y := 0) hx hb dX2_hasKnot_12 (by decide) rfl rfl (by omega) ?_
    refine lv_iconst (v := 0) hx hb dX2_hasKnot_19 (by decide) ?_
    refine hret _ _ _ _ _ _ dX2_hasKnot_20 rfl ?_ hO
    exact ⟨rfl, rfl⟩
theorem dX2_hasPlea_0 : decode cX2_hasPlea 0 = .ok (.iload_n 1, 1) := by decide +kernel
theorem dX2_hasPlea_1 : decode cX2_hasPlea 1 = .ok (.ifCond .lt 18, 3) := by decide +kernel
theorem dX2_hasPlea_4 : decode cX2_hasPlea 4 = .ok (.iload_n 1, 1) := by decide +kernel
theorem dX2_hasPlea_5 : decode cX2_hasPlea 5 = .ok (.aload_n 0, 1) := by decide +kernel
theorem dX2_hasPlea_6 : decode cX2_hasPlea 6 = .ok (.getfield 15, 3) := by decide +kernel
theorem dX2_hasPlea_9 : decode cX2_hasPlea 9 = .ok (.getfield 40, 3) := by decide +kernel
theorem dX2_hasPlea_12 : decode cX2_hasPlea 12 = .ok (.if_icmp .ge 7, 3) := by decide +kernel
theorem dX2_hasPlea_15 : decode cX2_hasPlea 15 = .ok (.iconst 1, 1) := by decide +kernel
theorem dX2_hasPlea_16 : decode cX2_hasPlea 16 = .ok (.goto 4, 3) := by decide +kernel
theorem dX2_hasPlea_19 : decode cX2_hasPlea 19 = .ok (.iconst 0, 1) := by decide +kernel
theorem dX2_hasPlea_20 : decode cX2_hasPlea 20 = .ok (.ireturn, 1) := by decide +kernel
theorem wd_836 : (Cond.code ⟨"WebCourt$Court", "hasPlea", "(I)Z"⟩ prog_4_method_4_code (2 : Nat) (Option.some FieldType.boolean)) ∈ gtb := gtb_c4 7 (by decide +kernel) rfl
theorem wd_263 : (Cond.fieldLink "WebCourt$Court" (40 : Nat) "WebCourt$Web" "pleas" "I") ∈ gtb := gtb_c1 154 (by decide +kernel) rfl
theorem gf_RX2_40 {p : Program} {l : Launch} {e : Env} {R : Room} {s : State} {m : MethodId} {args : Array Value} {below : List Frame} {meth : Method} {c : Code} {H : Heap} {locs : List Loc} {cells slots : Nat} {Q : State → Prop} {cc : ByteArray} {pc nL : Nat} {ls : Array Slot} {rest : List Value} {D : va_G} {cy : Nat → ClassId} {A : Nat → Prop} {ws : va_W} {b : Nat} {fs : List Value} {v : Value} (C : Cx p s m args c cc nL RX2 D cy A) (hO : Wo D A ws s.heap H locs) (q0 : Nat) (he : ws[q0]? = some (b, .inr (9, fs))) (hv : fs[11]? = some v) (hdg : decode cc pc = .ok (.getfield 40, 3)) (kk : W p l e R s m args below meth c H locs cells slots Q (F0 m (pc + 3) ls (v :: rest))) : W p l e R s m args below meth c H locs cells slots Q (F0 m pc ls (.ref b :: rest)) := gF (k := 11) C hO q0 he rfl inFX9 (by decide) wd_263 rfl hv hdg kk
set_option maxHeartbeats 4000000 in
set_option maxRecDepth 100000 in
theorem T_X2_hasPlea (l : Launch) (D : va_G) (cy : Nat → ClassId) (a : Nat → Nat) (u : St) (hI_3_11 : fI u 3 11 = 0) (hR_0 : fR u 0 = a 3) (x1 : Int32)  : Mi l D cy (cW cy a) yX2_hasPlea (.code yX2_hasPlea cX2_hasPlea 2 (some .boolean)) (rmo 0 0) [.ref (a 28), .int x1] u (fun (r : Int32) (u' : St) => (r = 0) ∧ (u' = u)) := by
  refine Mi.of (own := RX2) rfl (by decide) (Nat.le_of_ble_eq_true rfl) ?_
  intro p e s m below meth c A Q ls C hret hO hl
  obtain ⟨hx, hb, hml, hown, ht, hK, hA⟩ := id C
  have hl : lv_has ls 2 [(0, .ref (a 28)), (1, .int x1)] := hl
  refine lv_iload_n hx hb dX2_hasPlea_0 rfl (lv_at hl 1 rfl) ?_
  refine bs_lt (tgt := 19) (X := (x1).toInt) hx hb dX2_hasPlea_1 (by decide) rfl (fun c1 => ?_) (fun c1 => ?_)
  · refine lv_iconst (v := 0) hx hb dX2_hasPlea_19 (by decide) ?_
    refine hret _ _ _ _ _ _ dX2_hasPlea_20 rfl ?_ hO
    exact ⟨rfl, rfl⟩
  · refine lv_iload_n hx hb dX2_hasPlea_4 rfl (lv_at hl 1 rfl) ?_
    refine lv_aload_n hx hb dX2_hasPlea_5 rfl (lv_at hl 0 rfl) ?_
    refine gf_RX2_15 (v := .ref (a 3)) C hO 28 cW_28 (congrArg (fun z : Nat => some (Value.ref z)) hR_0) dX2_hasPlea_6 ?_
    refine gf_RX2_40 (v := .int 0) C hO 3 cW_3 (congrArg (fun z : Int32 => some (Value.int z)) hI_3_11) dX2_hasPlea_9 ?_
    refine ct_ge (tgt := 19) (X := (x1).toInt) (Y := 0) hx hb dX2_hasPlea_12 (by decide) rfl rfl (by omega) ?_
    refine lv_iconst (v := 0) hx hb dX2_hasPlea_19 (by decide) ?_
    refine hret _ _ _ _ _ _ dX2_hasPlea_20 rfl ?_ hO
    exact ⟨rfl, rfl⟩
theorem dX2_hasCase_0 : decode cX2_hasCase 0 = .ok (.iload_n 1, 1) := by decide +kernel
theorem dX2_hasCase_1 : decode cX2_hasCase 1 = .ok (.ifCond .lt 18, 3) := by decide +kernel
theorem dX2_hasCase_4 : decode cX2_hasCase 4 = .ok (.iload_n 1, 1) := by decide +kernel
theorem dX2_hasCase_5 : decode cX2_hasCase 5 = .ok (.aload_n 0, 1) := by decide +kernel
theorem dX2_hasCase_6 : decode cX2_hasCase 6 = .ok (.getfield 15, 3) := by decide +kernel
theorem dX2_hasCase_9 : decode cX2_hasCase 9 = .ok (.getfield 34, 3) := by decide +kernel
theorem dX2_hasCase_12 : decode cX2_hasCase 12 = .ok (.if_icmp .ge 7, 3) := by decide +kernel
theorem dX2_hasCase_15 : decode cX2_hasCase 15 = .ok (.iconst 1, 1) := by decide +kernel
theorem dX2_hasCase_16 : decode cX2_hasCase 16 = .ok (.goto 4, 3) := by decide +kernel
theorem dX2_hasCase_19 : decode cX2_hasCase 19 = .ok (.iconst 0, 1) := by decide +kernel
theorem dX2_hasCase_20 : decode cX2_hasCase 20 = .ok (.ireturn, 1) := by decide +kernel
theorem wd_844 : (Cond.code ⟨"WebCourt$Court", "hasCase", "(I)Z"⟩ prog_4_method_5_code (2 : Nat) (Option.some FieldType.boolean)) ∈ gtb := gtb_c4 15 (by decide +kernel) rfl
theorem wd_269 : (Cond.fieldLink "WebCourt$Court" (34 : Nat) "WebCourt$Web" "cases" "I") ∈ gtb := gtb_c1 160 (by decide +kernel) rfl
theorem gf_RX2_34 {p : Program} {l : Launch} {e : Env} {R : Room} {s : State} {m : MethodId} {args : Array Value} {below : List Frame} {meth : Method} {c : Code} {H : Heap} {locs : List Loc} {cells slots : Nat} {Q : State → Prop} {cc : ByteArray} {pc nL : Nat} {ls : Array Slot} {rest : List Value} {D : va_G} {cy : Nat → ClassId} {A : Nat → Prop} {ws : va_W} {b : Nat} {fs : List Value} {v : Value} (C : Cx p s m args c cc nL RX2 D cy A) (hO : Wo D A ws s.heap H locs) (q0 : Nat) (he : ws[q0]? = some (b, .inr (9, fs))) (hv : fs[12]? = some v) (hdg : decode cc pc = .ok (.getfield 34, 3)) (kk : W p l e R s m args below meth c H locs cells slots Q (F0 m (pc + 3) ls (v :: rest))) : W p l e R s m args below meth c H locs cells slots Q (F0 m pc ls (.ref b :: rest)) := gF (k := 12) C hO q0 he rfl inFX9 (by decide) wd_269 rfl hv hdg kk
set_option maxHeartbeats 4000000 in
set_option maxRecDepth 100000 in
theorem T_X2_hasCase (l : Launch) (D : va_G) (cy : Nat → ClassId) (a : Nat → Nat) (u : St) (hI_3_12 : fI u 3 12 = 0) (hR_0 : fR u 0 = a 3) (x1 : Int32)  : Mi l D cy (cW cy a) yX2_hasCase (.code yX2_hasCase cX2_hasCase 2 (some .boolean)) (rmo 0 0) [.ref (a 28), .int x1] u (fun (r : Int32) (u' : St) => (r = 0) ∧ (u' = u)) := by
  refine Mi.of (own := RX2) rfl (by decide) (Nat.le_of_ble_eq_true rfl) ?_
  intro p e s m below meth c A Q ls C hret hO hl
  obtain ⟨hx, hb, hml, hown, ht, hK, hA⟩ := id C
  have hl : lv_has ls 2 [(0, .ref (a 28)), (1, .int x1)] := hl
  refine lv_iload_n hx hb dX2_hasCase_0 rfl (lv_at hl 1 rfl) ?_
  refine bs_lt (tgt := 19) (X := (x1).toInt) hx hb dX2_hasCase_1 (by decide) rfl (fun c1 => ?_) (fun c1 => ?_)
  · refine lv_iconst (v := 0) hx hb dX2_hasCase_19 (by decide) ?_
    refine hret _ _ _ _ _ _ dX2_hasCase_20 rfl ?_ hO
    exact ⟨rfl, rfl⟩
  · refine lv_iload_n hx hb dX2_hasCase_4 rfl (lv_at hl 1 rfl) ?_
    refine lv_aload_n hx hb dX2_hasCase_5 rfl (lv_at hl 0 rfl) ?_
    refine gf_RX2_15 (v := .ref (a 3)) C hO 28 cW_28 (congrArg (fun z : Nat => some (Value.ref z)) hR_0) dX2_hasCase_6 ?_
    refine gf_RX2_34 (v := .int 0) C hO 3 cW_3 (congrArg (fun z : Int32 => some (Value.int z)) hI_3_12) dX2_hasCase_9 ?_
    refine ct_ge (tgt := 19) (X := (x1).toInt) (Y := 0) hx hb dX2_hasCase_12 (by decide) rfl rfl (by omega) ?_
    refine lv_iconst (v := 0) hx hb dX2_hasCase_19 (by decide) ?_
    refine hret _ _ _ _ _ _ dX2_hasCase_20 rfl ?_ hO
    exact ⟨rfl, rfl⟩
theorem dX2_isHeld_0 : decode cX2_isHeld 0 = .ok (.aload_n 0, 1) := by decide +kernel
theorem dX2_isHeld_1 : decode cX2_isHeld 1 = .ok (.iload_n 1, 1) := by decide +kernel
theorem dX2_isHeld_2 : decode cX2_isHeld 2 = .ok (.invokevirtual 43, 3) := by decide +kernel
theorem dX2_isHeld_5 : decode cX2_isHeld 5 = .ok (.ifCond .eq 18, 3) := by decide +kernel
theorem dX2_isHeld_8 : decode cX2_isHeld 8 = .ok (.aload_n 0, 1) := by decide +kernel
theorem dX2_isHeld_9 : decode cX2_isHeld 9 = .ok (.getfield 9, 3) := by decide +kernel
theorem dX2_isHeld_12 : decode cX2_isHeld 12 = .ok (.iconst 5, 1) := by decide +kernel
theorem dX2_isHeld_13 : decode cX2_isHeld 13 = .ok (.iload_n 1, 1) := by decide +kernel
theorem dX2_isHeld_14 : decode cX2_isHeld 14 = .ok (.iadd, 1) := by decide +kernel
theorem dX2_isHeld_15 : decode cX2_isHeld 15 = .ok (.iaload, 1) := by decide +kernel
theorem dX2_isHeld_16 : decode cX2_isHeld 16 = .ok (.ifCond .ne 7, 3) := by decide +kernel
theorem dX2_isHeld_19 : decode cX2_isHeld 19 = .ok (.iconst 1, 1) := by decide +kernel
theorem dX2_isHeld_20 : decode cX2_isHeld 20 = .ok (.goto 4, 3) := by decide +kernel
theorem dX2_isHeld_23 : decode cX2_isHeld 23 = .ok (.iconst 0, 1) := by decide +kernel
theorem dX2_isHeld_24 : decode cX2_isHeld 24 = .ok (.ireturn, 1) := by decide +kernel
theorem wd_932 : (Cond.code ⟨"WebCourt$Court", "isHeld", "(I)Z"⟩ prog_4_method_6_code (2 : Nat) (Option.some FieldType.boolean)) ∈ gtb := gtb_c4 103 (by decide +kernel) rfl
theorem wd_933 : (Cond.methodLink "WebCourt$Court" (43 : Nat) ⟨"WebCourt$Court", "hasCase", "(I)Z"⟩) ∈ gtb := gtb_c4 104 (by decide +kernel) rfl
theorem wd_842 : (Cond.instanceMethod ⟨"WebCourt$Court", "hasCase", "(I)Z"⟩) ∈ gtb := gtb_c4 13 (by decide +kernel) rfl
theorem wd_843 : (Cond.selects "WebCourt$Court" ⟨"WebCourt$Court", "hasCase", "(I)Z"⟩ ⟨"WebCourt$Court", "hasCase", "(I)Z"⟩) ∈ gtb := gtb_c4 14 (by decide +kernel) rfl
theorem wd_115 : (Cond.initialized "WebCourt$Court") ∈ gtb := gtb_c1 6 (by decide +kernel) rfl
theorem hd_yX2_hasCase : yX2_hasCase.cls = RX2 ∧ yX2_hasCase.cls ≠ "java/lang/invoke/MethodHandle" ∧ yX2_hasCase.cls ≠ "java/lang/invoke/VarHandle" ∧ (parseMethodDescriptor yX2_hasCase.desc).map (fun d => d.parameters.length) = some 1 := by decide +kernel
set_option maxHeartbeats 4000000 in
set_option maxRecDepth 100000 in
theorem T_X2_isHeld (l : Launch) (D : va_G) (cy : Nat → ClassId) (a : Nat → Nat) (u : St) (hI_3_12 : fI u 3 12 = 0) (hR_0 : fR u 0 = a 3) (x1 : Int32)  : Mi l D cy (cW cy a) yX2_isHeld (.code yX2_isHeld cX2_isHeld 2 (some .boolean)) (rmo 1 21) [.ref (a 28), .int x1] u (fun (r : Int32) (u' : St) => (r = 0) ∧ (u' = u)) := by
  refine Mi.of (own := RX2) rfl (by decide) (Nat.le_of_ble_eq_true rfl) ?_
  intro p e s m below meth c A Q ls C hret hO hl
  obtain ⟨hx, hb, hml, hown, ht, hK, hA⟩ := id C
  have hl : lv_has ls 2 [(0, .ref (a 28)), (1, .int x1)] := hl
  refine lv_aload_n hx hb dX2_isHeld_0 rfl (lv_at hl 0 rfl) ?_
  refine lv_iload_n hx hb dX2_isHeld_1 rfl (lv_at hl 1 rfl) ?_
  refine cVi (w := cW cy a) (As := [.int x1]) (rest := []) C hO (T_X2_hasCase l D cy a _ (by exact hI_3_12) (by exact hR_0) (x1)) (cwV 1 ht (gV wd_933 wd_842 wd_843 wd_115 wd_844) rfl rfl rfl hd_yX2_hasCase ⟨Nat.le_of_ble_eq_true rfl, Nat.le_of_ble_eq_true rfl⟩) 28 rfl cW_28 rfl rfl hl.1 (Nat.le_of_ble_eq_true rfl) dX2_isHeld_2 rfl ⟨Nat.zero_le _, Nat.zero_le _⟩ (fun r1 u2 H locs hp3 hO => ?_)
  obtain ⟨hr1, hu2⟩ := hp3
  subst hr1
  rw [hu2] at hO
  refine bt_eq (tgt := 23) (X := 0) hx hb dX2_isHeld_5 (by decide) rfl (by omega) ?_
  refine lv_iconst (v := 0) hx hb dX2_isHeld_23 (by decide) ?_
  refine hret _ _ _ _ _ _ dX2_isHeld_24 rfl ?_ hO
  exact ⟨rfl, rfl⟩
theorem dX2_canGo_0 : decode cX2_canGo 0 = .ok (.aload_n 0, 1) := by decide +kernel
theorem dX2_canGo_1 : decode cX2_canGo 1 = .ok (.iload_n 1, 1) := by decide +kernel
theorem dX2_canGo_2 : decode cX2_canGo 2 = .ok (.invokevirtual 90, 3) := by decide +kernel
theorem dX2_canGo_5 : decode cX2_canGo 5 = .ok (.ifCond .eq 47, 3) := by decide +kernel
theorem dX2_canGo_8 : decode cX2_canGo 8 = .ok (.aload_n 0, 1) := by decide +kernel
theorem dX2_canGo_9 : decode cX2_canGo 9 = .ok (.getfield 9, 3) := by decide +kernel
theorem dX2_canGo_12 : decode cX2_canGo 12 = .ok (.iconst 1, 1) := by decide +kernel
theorem dX2_canGo_13 : decode cX2_canGo 13 = .ok (.iaload, 1) := by decide +kernel
theorem dX2_canGo_14 : decode cX2_canGo 14 = .ok (.sipush 999, 3) := by decide +kernel
theorem dX2_canGo_17 : decode cX2_canGo 17 = .ok (.if_icmp .ge 35, 3) := by decide +kernel
theorem dX2_canGo_20 : decode cX2_canGo 20 = .ok (.iload_n 1, 1) := by decide +kernel
theorem dX2_canGo_21 : decode cX2_canGo 21 = .ok (.aload_n 0, 1) := by decide +kernel
theorem dX2_canGo_22 : decode cX2_canGo 22 = .ok (.getfield 9, 3) := by decide +kernel
theorem dX2_canGo_25 : decode cX2_canGo 25 = .ok (.iconst 0, 1) := by decide +kernel
theorem dX2_canGo_26 : decode cX2_canGo 26 = .ok (.iaload, 1) := by decide +kernel
theorem dX2_canGo_27 : decode cX2_canGo 27 = .ok (.if_icmp .eq 21, 3) := by decide +kernel
theorem dX2_canGo_30 : decode cX2_canGo 30 = .ok (.aload_n 0, 1) := by decide +kernel
theorem dX2_canGo_31 : decode cX2_canGo 31 = .ok (.iload_n 1, 1) := by decide +kernel
theorem dX2_canGo_32 : decode cX2_canGo 32 = .ok (.iconst 0, 1) := by decide +kernel
theorem dX2_canGo_33 : decode cX2_canGo 33 = .ok (.invokevirtual 93, 3) := by decide +kernel
theorem dX2_canGo_36 : decode cX2_canGo 36 = .ok (.aload_n 0, 1) := by decide +kernel
theorem dX2_canGo_37 : decode cX2_canGo 37 = .ok (.getfield 9, 3) := by decide +kernel
theorem dX2_canGo_40 : decode cX2_canGo 40 = .ok (.iconst 0, 1) := by decide +kernel
theorem dX2_canGo_41 : decode cX2_canGo 41 = .ok (.iaload, 1) := by decide +kernel
theorem dX2_canGo_42 : decode cX2_canGo 42 = .ok (.ishr, 1) := by decide +kernel
theorem dX2_canGo_43 : decode cX2_canGo 43 = .ok (.iconst 1, 1) := by decide +kernel
theorem dX2_canGo_44 : decode cX2_canGo 44 = .ok (.iand, 1) := by decide +kernel
theorem dX2_canGo_45 : decode cX2_canGo 45 = .ok (.ifCond .eq 7, 3) := by decide +kernel
theorem dX2_canGo_48 : decode cX2_canGo 48 = .ok (.iconst 1, 1) := by decide +kernel
theorem dX2_canGo_49 : decode cX2_canGo 49 = .ok (.goto 4, 3) := by decide +kernel
theorem dX2_canGo_52 : decode cX2_canGo 52 = .ok (.iconst 0, 1) := by decide +kernel
theorem dX2_canGo_53 : decode cX2_canGo 53 = .ok (.ireturn, 1) := by decide +kernel
theorem wd_903 : (Cond.code ⟨"WebCourt$Court", "canGo", "(I)Z"⟩ prog_4_method_14_code (2 : Nat) (Option.some FieldType.boolean)) ∈ gtb := gtb_c4 74 (by decide +kernel) rfl
theorem wd_904 : (Cond.methodLink "WebCourt$Court" (90 : Nat) ⟨"WebCourt$Court", "hasKnot", "(I)Z"⟩) ∈ gtb := gtb_c4 75 (by decide +kernel) rfl
theorem wd_818 : (Cond.instanceMethod ⟨"WebCourt$Court", "hasKnot", "(I)Z"⟩) ∈ gtb := gtb_c3 229 (by decide +kernel) rfl
theorem wd_819 : (Cond.selects "WebCourt$Court" ⟨"WebCourt$Court", "hasKnot", "(I)Z"⟩ ⟨"WebCourt$Court", "hasKnot", "(I)Z"⟩) ∈ gtb := gtb_c3 230 (by decide +kernel) rfl
theorem hd_yX2_hasKnot : yX2_hasKnot.cls = RX2 ∧ yX2_hasKnot.cls ≠ "java/lang/invoke/MethodHandle" ∧ yX2_hasKnot.cls ≠ "java/lang/invoke/VarHandle" ∧ (parseMethodDescriptor yX2_hasKnot.desc).map (fun d => d.parameters.length) = some 1 := by decide +kernel
set_option maxHeartbeats 4000000 in
set_option maxRecDepth 100000 in
theorem T_X2_canGo (l : Launch) (D : va_G) (cy : Nat → ClassId) (a : Nat → Nat) (u : St) (hI_3_9 : fI u 3 9 = 0) (hR_0 : fR u 0 = a 3) (x1 : Int32)  : Mi l D cy (cW cy a) yX2_canGo (.code yX2_canGo cX2_canGo 2 (some .boolean)) (rmo 1 21) [.ref (a 28), .int x1] u (fun (r : Int32) (u' : St) => (r = 0) ∧ (u' = u)) := by
  refine Mi.of (own := RX2) rfl (by decide) (Nat.le_of_ble_eq_true rfl) ?_
  intro p e s m below meth c A Q ls C hret hO hl
  obtain ⟨hx, hb, hml, hown, ht, hK, hA⟩ := id C
  have hl : lv_has ls 2 [(0, .ref (a 28)), (1, .int x1)] := hl
  refine lv_aload_n hx hb dX2_canGo_0 rfl (lv_at hl 0 rfl) ?_
  refine lv_iload_n hx hb dX2_canGo_1 rfl (lv_at hl 1 rfl) ?_
  refine cVi (w := cW cy a) (As := [.int x1]) (rest := []) C hO (T_X2_hasKnot l D cy a _ (by exact hI_3_9) (by exact hR_0) (x1)) (cwV 1 ht (gV wd_904 wd_818 wd_819 wd_115 wd_820) rfl rfl rfl hd_yX2_hasKnot ⟨Nat.le_of_ble_eq_true rfl, Nat.le_of_ble_eq_true rfl⟩) 28 rfl cW_28 rfl rfl hl.1 (Nat.le_of_ble_eq_true rfl) dX2_canGo_2 rfl ⟨Nat.zero_le _, Nat.zero_le _⟩ (fun r1 u2 H locs hp3 hO => ?_)
  obtain ⟨hr1, hu2⟩ := hp3
  subst hr1
  rw [hu2] at hO
  refine bt_eq (tgt := 52) (X := 0) hx hb dX2_canGo_5 (by decide) rfl (by omega) ?_
  refine lv_iconst (v := 0) hx hb dX2_canGo_52 (by decide) ?_
  refine hret _ _ _ _ _ _ dX2_canGo_53 rfl ?_ hO
  exact ⟨rfl, rfl⟩
theorem dX2_canBeHeard_0 : decode cX2_canBeHeard 0 = .ok (.aload_n 0, 1) := by decide +kernel
theorem dX2_canBeHeard_1 : decode cX2_canBeHeard 1 = .ok (.iload_n 1, 1) := by decide +kernel
theorem dX2_canBeHeard_2 : decode cX2_canBeHeard 2 = .ok (.invokevirtual 104, 3) := by decide +kernel
theorem dX2_canBeHeard_5 : decode cX2_canBeHeard 5 = .ok (.ifCond .eq 34, 3) := by decide +kernel
theorem dX2_canBeHeard_8 : decode cX2_canBeHeard 8 = .ok (.aload_n 0, 1) := by decide +kernel
theorem dX2_canBeHeard_9 : decode cX2_canBeHeard 9 = .ok (.getfield 15, 3) := by decide +kernel
theorem dX2_canBeHeard_12 : decode cX2_canBeHeard 12 = .ok (.getfield 47, 3) := by decide +kernel
theorem dX2_canBeHeard_15 : decode cX2_canBeHeard 15 = .ok (.iload_n 1, 1) := by decide +kernel
theorem dX2_canBeHeard_16 : decode cX2_canBeHeard 16 = .ok (.iaload, 1) := by decide +kernel
theorem dX2_canBeHeard_17 : decode cX2_canBeHeard 17 = .ok (.aload_n 0, 1) := by decide +kernel
theorem dX2_canBeHeard_18 : decode cX2_canBeHeard 18 = .ok (.getfield 9, 3) := by decide +kernel
theorem dX2_canBeHeard_21 : decode cX2_canBeHeard 21 = .ok (.iconst 0, 1) := by decide +kernel
theorem dX2_canBeHeard_22 : decode cX2_canBeHeard 22 = .ok (.iaload, 1) := by decide +kernel
theorem dX2_canBeHeard_23 : decode cX2_canBeHeard 23 = .ok (.if_icmp .ne 16, 3) := by decide +kernel
theorem dX2_canBeHeard_26 : decode cX2_canBeHeard 26 = .ok (.aload_n 0, 1) := by decide +kernel
theorem dX2_canBeHeard_27 : decode cX2_canBeHeard 27 = .ok (.getfield 9, 3) := by decide +kernel
theorem dX2_canBeHeard_30 : decode cX2_canBeHeard 30 = .ok (.iconst 2, 1) := by decide +kernel
theorem dX2_canBeHeard_31 : decode cX2_canBeHeard 31 = .ok (.iaload, 1) := by decide +kernel
theorem dX2_canBeHeard_32 : decode cX2_canBeHeard 32 = .ok (.ifCond .ne 7, 3) := by decide +kernel
theorem dX2_canBeHeard_35 : decode cX2_canBeHeard 35 = .ok (.iconst 1, 1) := by decide +kernel
theorem dX2_canBeHeard_36 : decode cX2_canBeHeard 36 = .ok (.goto 4, 3) := by decide +kernel
theorem dX2_canBeHeard_39 : decode cX2_canBeHeard 39 = .ok (.iconst 0, 1) := by decide +kernel
theorem dX2_canBeHeard_40 : decode cX2_canBeHeard 40 = .ok (.ireturn, 1) := by decide +kernel
theorem wd_928 : (Cond.code ⟨"WebCourt$Court", "canBeHeard", "(I)Z"⟩ prog_4_method_17_code (2 : Nat) (Option.some FieldType.boolean)) ∈ gtb := gtb_c4 99 (by decide +kernel) rfl
theorem wd_929 : (Cond.methodLink "WebCourt$Court" (104 : Nat) ⟨"WebCourt$Court", "isHeld", "(I)Z"⟩) ∈ gtb := gtb_c4 100 (by decide +kernel) rfl
theorem wd_930 : (Cond.instanceMethod ⟨"WebCourt$Court", "isHeld", "(I)Z"⟩) ∈ gtb := gtb_c4 101 (by decide +kernel) rfl
theorem wd_931 : (Cond.selects "WebCourt$Court" ⟨"WebCourt$Court", "isHeld", "(I)Z"⟩ ⟨"WebCourt$Court", "isHeld", "(I)Z"⟩) ∈ gtb := gtb_c4 102 (by decide +kernel) rfl
theorem hd_yX2_isHeld : yX2_isHeld.cls = RX2 ∧ yX2_isHeld.cls ≠ "java/lang/invoke/MethodHandle" ∧ yX2_isHeld.cls ≠ "java/lang/invoke/VarHandle" ∧ (parseMethodDescriptor yX2_isHeld.desc).map (fun d => d.parameters.length) = some 1 := by decide +kernel
set_option maxHeartbeats 4000000 in
set_option maxRecDepth 100000 in
theorem T_X2_canBeHeard (l : Launch) (D : va_G) (cy : Nat → ClassId) (a : Nat → Nat) (u : St) (hI_3_12 : fI u 3 12 = 0) (hR_0 : fR u 0 = a 3) (x1 : Int32)  : Mi l D cy (cW cy a) yX2_canBeHeard (.code yX2_canBeHeard cX2_canBeHeard 2 (some .boolean)) (rmo 2 42) [.ref (a 28), .int x1] u (fun (r : Int32) (u' : St) => (r = 0) ∧ (u' = u)) := by
  refine Mi.of (own := RX2) rfl (by decide) (Nat.le_of_ble_eq_true rfl) ?_
  intro p e s m below meth c A Q ls C hret hO hl
  obtain ⟨hx, hb, hml, hown, ht, hK, hA⟩ := id C
  have hl : lv_has ls 2 [(0, .ref (a 28)), (1, .int x1)] := hl
  refine lv_aload_n hx hb dX2_canBeHeard_0 rfl (lv_at hl 0 rfl) ?_
  refine lv_iload_n hx hb dX2_canBeHeard_1 rfl (lv_at hl 1 rfl) ?_
  refine cVi (w := cW cy a) (As := [.int x1]) (rest := []) C hO (T_X2_isHeld l D cy a _ (by exact hI_3_12) (by exact hR_0) (x1)) (cwV 1 ht (gV wd_929 wd_930 wd_931 wd_115 wd_932) rfl rfl rfl hd_yX2_isHeld ⟨Nat.le_of_ble_eq_true rfl, Nat.le_of_ble_eq_true rfl⟩) 28 rfl cW_28 rfl rfl hl.1 (Nat.le_of_ble_eq_true rfl) dX2_canBeHeard_2 rfl ⟨Nat.zero_le _, Nat.zero_le _⟩ (fun r1 u2 H locs hp3 hO => ?_)
  obtain ⟨hr1, hu2⟩ := hp3
  subst hr1
  rw [hu2] at hO
  refine bt_eq (tgt := 39) (X := 0) hx hb dX2_canBeHeard_5 (by decide) rfl (by omega) ?_
  refine lv_iconst (v := 0) hx hb dX2_canBeHeard_39 (by decide) ?_
  refine hret _ _ _ _ _ _ dX2_canBeHeard_40 rfl ?_ hO
  exact ⟨rfl, rfl⟩
theorem dX2_held_0 : decode cX2_held 0 = .ok (.iconst 0, 1) := by decide +kernel
theorem dX2_held_1 : decode cX2_held 1 = .ok (.istore_n 1, 1) := by decide +kernel
theorem dX2_held_2 : decode cX2_held 2 = .ok (.iconst 0, 1) := by decide +kernel
theorem dX2_held_3 : decode cX2_held 3 = .ok (.istore_n 2, 1) := by decide +kernel
theorem dX2_held_4 : decode cX2_held 4 = .ok (.iload_n 2, 1) := by decide +kernel
theorem dX2_held_5 : decode cX2_held 5 = .ok (.aload_n 0, 1) := by decide +kernel
theorem dX2_held_6 : decode cX2_held 6 = .ok (.getfield 15, 3) := by decide +kernel
theorem dX2_held_9 : decode cX2_held 9 = .ok (.getfield 34, 3) := by decide +kernel
theorem dX2_held_12 : decode cX2_held 12 = .ok (.if_icmp .ge 26, 3) := by decide +kernel
theorem dX2_held_15 : decode cX2_held 15 = .ok (.aload_n 0, 1) := by decide +kernel
theorem dX2_held_16 : decode cX2_held 16 = .ok (.getfield 9, 3) := by decide +kernel
theorem dX2_held_19 : decode cX2_held 19 = .ok (.iconst 5, 1) := by decide +kernel
theorem dX2_held_20 : decode cX2_held 20 = .ok (.iload_n 2, 1) := by decide +kernel
theorem dX2_held_21 : decode cX2_held 21 = .ok (.iadd, 1) := by decide +kernel
theorem dX2_held_22 : decode cX2_held 22 = .ok (.iaload, 1) := by decide +kernel
theorem dX2_held_23 : decode cX2_held 23 = .ok (.ifCond .ne 9, 3) := by decide +kernel
theorem dX2_held_26 : decode cX2_held 26 = .ok (.iload_n 1, 1) := by decide +kernel
theorem dX2_held_27 : decode cX2_held 27 = .ok (.iconst 1, 1) := by decide +kernel
theorem dX2_held_28 : decode cX2_held 28 = .ok (.iload_n 2, 1) := by decide +kernel
theorem dX2_held_29 : decode cX2_held 29 = .ok (.ishl, 1) := by decide +kernel
theorem dX2_held_30 : decode cX2_held 30 = .ok (.ior, 1) := by decide +kernel
theorem dX2_held_31 : decode cX2_held 31 = .ok (.istore_n 1, 1) := by decide +kernel
theorem dX2_held_32 : decode cX2_held 32 = .ok (.iinc 2 1, 3) := by decide +kernel
theorem dX2_held_35 : decode cX2_held 35 = .ok (.goto (-31), 3) := by decide +kernel
theorem dX2_held_38 : decode cX2_held 38 = .ok (.iload_n 1, 1) := by decide +kernel
theorem dX2_held_39 : decode cX2_held 39 = .ok (.ireturn, 1) := by decide +kernel
theorem wd_860 : (Cond.code ⟨"WebCourt$Court", "held", "()I"⟩ prog_4_method_8_code (3 : Nat) (Option.some FieldType.int)) ∈ gtb := gtb_c4 31 (by decide +kernel) rfl
set_option maxHeartbeats 4000000 in
set_option maxRecDepth 100000 in
theorem T_X2_held (l : Launch) (D : va_G) (cy : Nat → ClassId) (a : Nat → Nat) (u : St) (hI_3_12 : fI u 3 12 = 0) (hR_0 : fR u 0 = a 3)   : Mi l D cy (cW cy a) yX2_held (.code yX2_held cX2_held 3 (some .int)) (rmo 0 0) [.ref (a 28)] u (fun (r : Int32) (u' : St) => (r = 0) ∧ (u' = u)) := by
  refine Mi.of (own := RX2) rfl (by decide) (Nat.le_of_ble_eq_true rfl) ?_
  intro p e s m below meth c A Q ls C hret hO hl
  obtain ⟨hx, hb, hml, hown, ht, hK, hA⟩ := id C
  have hl : lv_has ls 3 [(0, .ref (a 28))] := hl
  refine lv_iconst (v := 0) hx hb dX2_held_0 (by decide) ?_
  refine lv_istore_n (lv' := [(1, .int 0), (0, .ref (a 28))]) hx hb dX2_held_1 rfl hl (by decide) rfl (fun ls hl => ?_)
  refine lv_iconst (v := 0) hx hb dX2_held_2 (by decide) ?_
  refine lv_istore_n (lv' := [(2, .int 0), (1, .int 0), (0, .ref (a 28))]) hx hb dX2_held_3 rfl hl (by decide) rfl (fun ls hl => ?_)
  refine lv_iload_n hx hb dX2_held_4 rfl (lv_at hl 0 rfl) ?_
  refine lv_aload_n hx hb dX2_held_5 rfl (lv_at hl 2 rfl) ?_
  refine gf_RX2_15 (v := .ref (a 3)) C hO 28 cW_28 (congrArg (fun z : Nat => some (Value.ref z)) hR_0) dX2_held_6 ?_
  refine gf_RX2_34 (v := .int 0) C hO 3 cW_3 (congrArg (fun z : Int32 => some (Value.int z)) hI_3_12) dX2_held_9 ?_
  refine ct_ge (tgt := 38) (X := 0) (Y := 0) hx hb dX2_held_12 (by decide) rfl rfl (by omega) ?_
  refine lv_iload_n hx hb dX2_held_38 rfl (lv_at hl 1 rfl) ?_
  refine hret _ _ _ _ _ _ dX2_held_39 rfl ?_ hO
  exact ⟨rfl, rfl⟩
theorem dX2_nextTo_0 : decode cX2_nextTo 0 = .ok (.iconst 0, 1) := by decide +kernel
theorem dX2_nextTo_1 : decode cX2_nextTo 1 = .ok (.istore_n 3, 1) := by decide +kernel
theorem dX2_nextTo_2 : decode cX2_nextTo 2 = .ok (.iconst 0, 1) := by decide +kernel
theorem dX2_nextTo_3 : decode cX2_nextTo 3 = .ok (.istore 4, 2) := by decide +kernel
theorem dX2_nextTo_5 : decode cX2_nextTo 5 = .ok (.iload 4, 2) := by decide +kernel
theorem dX2_nextTo_7 : decode cX2_nextTo 7 = .ok (.aload_n 0, 1) := by decide +kernel
theorem dX2_nextTo_8 : decode cX2_nextTo 8 = .ok (.getfield 15, 3) := by decide +kernel
theorem dX2_nextTo_11 : decode cX2_nextTo 11 = .ok (.getfield 50, 3) := by decide +kernel
theorem dX2_nextTo_14 : decode cX2_nextTo 14 = .ok (.if_icmp .ge 100, 3) := by decide +kernel
theorem dX2_nextTo_17 : decode cX2_nextTo 17 = .ok (.aload_n 0, 1) := by decide +kernel
theorem dX2_nextTo_18 : decode cX2_nextTo 18 = .ok (.getfield 9, 3) := by decide +kernel
theorem dX2_nextTo_21 : decode cX2_nextTo 21 = .ok (.iconst 4, 1) := by decide +kernel
theorem dX2_nextTo_22 : decode cX2_nextTo 22 = .ok (.iaload, 1) := by decide +kernel
theorem dX2_nextTo_23 : decode cX2_nextTo 23 = .ok (.iload 4, 2) := by decide +kernel
theorem dX2_nextTo_25 : decode cX2_nextTo 25 = .ok (.ishr, 1) := by decide +kernel
theorem dX2_nextTo_26 : decode cX2_nextTo 26 = .ok (.iconst 1, 1) := by decide +kernel
theorem dX2_nextTo_27 : decode cX2_nextTo 27 = .ok (.iand, 1) := by decide +kernel
theorem dX2_nextTo_28 : decode cX2_nextTo 28 = .ok (.ifCond .eq 7, 3) := by decide +kernel
theorem dX2_nextTo_31 : decode cX2_nextTo 31 = .ok (.iconst 1, 1) := by decide +kernel
theorem dX2_nextTo_32 : decode cX2_nextTo 32 = .ok (.goto 4, 3) := by decide +kernel
theorem dX2_nextTo_35 : decode cX2_nextTo 35 = .ok (.iconst 0, 1) := by decide +kernel
theorem dX2_nextTo_36 : decode cX2_nextTo 36 = .ok (.istore 5, 2) := by decide +kernel
theorem dX2_nextTo_38 : decode cX2_nextTo 38 = .ok (.iload 5, 2) := by decide +kernel
theorem dX2_nextTo_40 : decode cX2_nextTo 40 = .ok (.iload_n 2, 1) := by decide +kernel
theorem dX2_nextTo_41 : decode cX2_nextTo 41 = .ok (.if_icmp .eq 6, 3) := by decide +kernel
theorem dX2_nextTo_44 : decode cX2_nextTo 44 = .ok (.goto 64, 3) := by decide +kernel
theorem dX2_nextTo_47 : decode cX2_nextTo 47 = .ok (.aload_n 0, 1) := by decide +kernel
theorem dX2_nextTo_48 : decode cX2_nextTo 48 = .ok (.getfield 15, 3) := by decide +kernel
theorem dX2_nextTo_51 : decode cX2_nextTo 51 = .ok (.getfield 53, 3) := by decide +kernel
theorem dX2_nextTo_54 : decode cX2_nextTo 54 = .ok (.iload 4, 2) := by decide +kernel
theorem dX2_nextTo_56 : decode cX2_nextTo 56 = .ok (.iaload, 1) := by decide +kernel
theorem dX2_nextTo_57 : decode cX2_nextTo 57 = .ok (.iload_n 1, 1) := by decide +kernel
theorem dX2_nextTo_58 : decode cX2_nextTo 58 = .ok (.if_icmp .ne 21, 3) := by decide +kernel
theorem dX2_nextTo_61 : decode cX2_nextTo 61 = .ok (.iload_n 3, 1) := by decide +kernel
theorem dX2_nextTo_62 : decode cX2_nextTo 62 = .ok (.iconst 1, 1) := by decide +kernel
theorem dX2_nextTo_63 : decode cX2_nextTo 63 = .ok (.aload_n 0, 1) := by decide +kernel
theorem dX2_nextTo_64 : decode cX2_nextTo 64 = .ok (.getfield 15, 3) := by decide +kernel
theorem dX2_nextTo_67 : decode cX2_nextTo 67 = .ok (.getfield 56, 3) := by decide +kernel
theorem dX2_nextTo_70 : decode cX2_nextTo 70 = .ok (.iload 4, 2) := by decide +kernel
theorem dX2_nextTo_72 : decode cX2_nextTo 72 = .ok (.iaload, 1) := by decide +kernel
theorem dX2_nextTo_73 : decode cX2_nextTo 73 = .ok (.ishl, 1) := by decide +kernel
theorem dX2_nextTo_74 : decode cX2_nextTo 74 = .ok (.ior, 1) := by decide +kernel
theorem dX2_nextTo_75 : decode cX2_nextTo 75 = .ok (.istore_n 3, 1) := by decide +kernel
theorem dX2_nextTo_76 : decode cX2_nextTo 76 = .ok (.goto 32, 3) := by decide +kernel
theorem dX2_nextTo_79 : decode cX2_nextTo 79 = .ok (.aload_n 0, 1) := by decide +kernel
theorem dX2_nextTo_80 : decode cX2_nextTo 80 = .ok (.getfield 15, 3) := by decide +kernel
theorem dX2_nextTo_83 : decode cX2_nextTo 83 = .ok (.getfield 56, 3) := by decide +kernel
theorem dX2_nextTo_86 : decode cX2_nextTo 86 = .ok (.iload 4, 2) := by decide +kernel
theorem dX2_nextTo_88 : decode cX2_nextTo 88 = .ok (.iaload, 1) := by decide +kernel
theorem dX2_nextTo_89 : decode cX2_nextTo 89 = .ok (.iload_n 1, 1) := by decide +kernel
theorem dX2_nextTo_90 : decode cX2_nextTo 90 = .ok (.if_icmp .ne 18, 3) := by decide +kernel
theorem dX2_nextTo_93 : decode cX2_nextTo 93 = .ok (.iload_n 3, 1) := by decide +kernel
theorem dX2_nextTo_94 : decode cX2_nextTo 94 = .ok (.iconst 1, 1) := by decide +kernel
theorem dX2_nextTo_95 : decode cX2_nextTo 95 = .ok (.aload_n 0, 1) := by decide +kernel
theorem dX2_nextTo_96 : decode cX2_nextTo 96 = .ok (.getfield 15, 3) := by decide +kernel
theorem dX2_nextTo_99 : decode cX2_nextTo 99 = .ok (.getfield 53, 3) := by decide +kernel
theorem dX2_nextTo_102 : decode cX2_nextTo 102 = .ok (.iload 4, 2) := by decide +kernel
theorem dX2_nextTo_104 : decode cX2_nextTo 104 = .ok (.iaload, 1) := by decide +kernel
theorem dX2_nextTo_105 : decode cX2_nextTo 105 = .ok (.ishl, 1) := by decide +kernel
theorem dX2_nextTo_106 : decode cX2_nextTo 106 = .ok (.ior, 1) := by decide +kernel
theorem dX2_nextTo_107 : decode cX2_nextTo 107 = .ok (.istore_n 3, 1) := by decide +kernel
theorem dX2_nextTo_108 : decode cX2_nextTo 108 = .ok (.iinc 4 1, 3) := by decide +kernel
theorem dX2_nextTo_111 : decode cX2_nextTo 111 = .ok (.goto (-106), 3) := by decide +kernel
theorem dX2_nextTo_114 : decode cX2_nextTo 114 = .ok (.iload_n 3, 1) := by decide +kernel
theorem dX2_nextTo_115 : decode cX2_nextTo 115 = .ok (.ireturn, 1) := by decide +kernel
theorem wd_824 : (Cond.code ⟨"WebCourt$Court", "nextTo", "(IZ)I"⟩ prog_4_method_10_code (6 : Nat) (Option.some FieldType.int)) ∈ gtb := gtb_c3 235 (by decide +kernel) rfl
theorem wd_258 : (Cond.fieldLink "WebCourt$Court" (50 : Nat) "WebCourt$Web" "lines" "I") ∈ gtb := gtb_c1 149 (by decide +kernel) rfl
theorem gf_RX2_50 {p : Program} {l : Launch} {e : Env} {R : Room} {s : State} {m : MethodId} {args : Array Value} {below : List Frame} {meth : Method} {c : Code} {H : Heap} {locs : List Loc} {cells slots : Nat} {Q : State → Prop} {cc : ByteArray} {pc nL : Nat} {ls : Array Slot} {rest : List Value} {D : va_G} {cy : Nat → ClassId} {A : Nat → Prop} {ws : va_W} {b : Nat} {fs : List Value} {v : Value} (C : Cx p s m args c cc nL RX2 D cy A) (hO : Wo D A ws s.heap H locs) (q0 : Nat) (he : ws[q0]? = some (b, .inr (9, fs))) (hv : fs[10]? = some v) (hdg : decode cc pc = .ok (.getfield 50, 3)) (kk : W p l e R s m args below meth c H locs cells slots Q (F0 m (pc + 3) ls (v :: rest))) : W p l e R s m args below meth c H locs cells slots Q (F0 m pc ls (.ref b :: rest)) := gF (k := 10) C hO q0 he rfl inFX9 (by decide) wd_258 rfl hv hdg kk
set_option maxHeartbeats 4000000 in
set_option maxRecDepth 100000 in
theorem T_X2_nextTo (l : Launch) (D : va_G) (cy : Nat → ClassId) (a : Nat → Nat) (u : St) (hI_3_10 : fI u 3 10 = 0) (hR_0 : fR u 0 = a 3) (x1 : Int32) (x2 : Int32)  : Mi l D cy (cW cy a) yX2_nextTo (.code yX2_nextTo cX2_nextTo 6 (some .int)) (rmo 0 0) [.ref (a 28), .int x1, .int x2] u (fun (r : Int32) (u' : St) => (r = 0) ∧ (u' = u)) := by
  refine Mi.of (own := RX2) rfl (by decide) (Nat.le_of_ble_eq_true rfl) ?_
  intro p e s m below meth c A Q ls C hret hO hl
  obtain ⟨hx, hb, hml, hown, ht, hK, hA⟩ := id C
  have hl : lv_has ls 6 [(0, .ref (a 28)), (1, .int x1), (2, .int x2)] := hl
  refine lv_iconst (v := 0) hx hb dX2_nextTo_0 (by decide) ?_
  refine lv_istore_n (lv' := [(3, .int 0), (0, .ref (a 28)), (1, .int x1), (2, .int x2)]) hx hb dX2_nextTo_1 rfl hl (by decide) rfl (fun ls hl => ?_)
  refine lv_iconst (v := 0) hx hb dX2_nextTo_2 (by decide) ?_
  refine lv_istore (lv' := [(4, .int 0), (3, .int 0), (0, .ref (a 28)), (1, .int x1), (2, .int x2)]) hx hb dX2_nextTo_3 hl (by decide) rfl (fun ls hl => ?_)
  refine lv_iload hx hb dX2_nextTo_5 (lv_at hl 0 rfl) ?_
  refine lv_aload_n hx hb dX2_nextTo_7 rfl (lv_at hl 2 rfl) ?_
  refine gf_RX2_15 (v := .ref (a 3)) C hO 28 cW_28 (congrArg (fun z : Nat => some (Value.ref z)) hR_0) dX2_nextTo_8 ?_
  refine gf_RX2_50 (v := .int 0) C hO 3 cW_3 (congrArg (fun z : Int32 => some (Value.int z)) hI_3_10) dX2_nextTo_11 ?_
  refine ct_ge (tgt := 114) (X := 0) (Y := 0) hx hb dX2_nextTo_14 (by decide) rfl rfl (by omega) ?_
  refine lv_iload_n hx hb dX2_nextTo_114 rfl (lv_at hl 1 rfl) ?_
  refine hret _ _ _ _ _ _ dX2_nextTo_115 rfl ?_ hO
  exact ⟨rfl, rfl⟩
theorem dJ6_bitCount_0f7a4_0 : decode cJ6_bitCount_0f7a4 0 = .ok (.iload_n 0, 1) := by decide +kernel
theorem dJ6_bitCount_0f7a4_1 : decode cJ6_bitCount_0f7a4 1 = .ok (.iload_n 0, 1) := by decide +kernel
theorem dJ6_bitCount_0f7a4_2 : decode cJ6_bitCount_0f7a4 2 = .ok (.iconst 1, 1) := by decide +kernel
theorem dJ6_bitCount_0f7a4_3 : decode cJ6_bitCount_0f7a4 3 = .ok (.iushr, 1) := by decide +kernel
theorem dJ6_bitCount_0f7a4_4 : decode cJ6_bitCount_0f7a4 4 = .ok (.ldc_w 265, 3) := by decide +kernel
theorem dJ6_bitCount_0f7a4_7 : decode cJ6_bitCount_0f7a4 7 = .ok (.iand, 1) := by decide +kernel
theorem dJ6_bitCount_0f7a4_8 : decode cJ6_bitCount_0f7a4 8 = .ok (.isub, 1) := by decide +kernel
theorem dJ6_bitCount_0f7a4_9 : decode cJ6_bitCount_0f7a4 9 = .ok (.istore_n 0, 1) := by decide +kernel
theorem dJ6_bitCount_0f7a4_10 : decode cJ6_bitCount_0f7a4 10 = .ok (.iload_n 0, 1) := by decide +kernel
theorem dJ6_bitCount_0f7a4_11 : decode cJ6_bitCount_0f7a4 11 = .ok (.ldc_w 266, 3) := by decide +kernel
theorem dJ6_bitCount_0f7a4_14 : decode cJ6_bitCount_0f7a4 14 = .ok (.iand, 1) := by decide +kernel
theorem dJ6_bitCount_0f7a4_15 : decode cJ6_bitCount_0f7a4 15 = .ok (.iload_n 0, 1) := by decide +kernel
theorem dJ6_bitCount_0f7a4_16 : decode cJ6_bitCount_0f7a4 16 = .ok (.iconst 2, 1) := by decide +kernel
theorem dJ6_bitCount_0f7a4_17 : decode cJ6_bitCount_0f7a4 17 = .ok (.iushr, 1) := by decide +kernel
theorem dJ6_bitCount_0f7a4_18 : decode cJ6_bitCount_0f7a4 18 = .ok (.ldc_w 266, 3) := by decide +kernel
theorem dJ6_bitCount_0f7a4_21 : decode cJ6_bitCount_0f7a4 21 = .ok (.iand, 1) := by decide +kernel
theorem dJ6_bitCount_0f7a4_22 : decode cJ6_bitCount_0f7a4 22 = .ok (.iadd, 1) := by decide +kernel
theorem dJ6_bitCount_0f7a4_23 : decode cJ6_bitCount_0f7a4 23 = .ok (.istore_n 0, 1) := by decide +kernel
theorem dJ6_bitCount_0f7a4_24 : decode cJ6_bitCount_0f7a4 24 = .ok (.iload_n 0, 1) := by decide +kernel
theorem dJ6_bitCount_0f7a4_25 : decode cJ6_bitCount_0f7a4 25 = .ok (.iload_n 0, 1) := by decide +kernel
theorem dJ6_bitCount_0f7a4_26 : decode cJ6_bitCount_0f7a4 26 = .ok (.iconst 4, 1) := by decide +kernel
theorem dJ6_bitCount_0f7a4_27 : decode cJ6_bitCount_0f7a4 27 = .ok (.iushr, 1) := by decide +kernel
theorem dJ6_bitCount_0f7a4_28 : decode cJ6_bitCount_0f7a4 28 = .ok (.iadd, 1) := by decide +kernel
theorem dJ6_bitCount_0f7a4_29 : decode cJ6_bitCount_0f7a4 29 = .ok (.ldc_w 267, 3) := by decide +kernel
theorem dJ6_bitCount_0f7a4_32 : decode cJ6_bitCount_0f7a4 32 = .ok (.iand, 1) := by decide +kernel
theorem dJ6_bitCount_0f7a4_33 : decode cJ6_bitCount_0f7a4 33 = .ok (.istore_n 0, 1) := by decide +kernel
theorem dJ6_bitCount_0f7a4_34 : decode cJ6_bitCount_0f7a4 34 = .ok (.iload_n 0, 1) := by decide +kernel
theorem dJ6_bitCount_0f7a4_35 : decode cJ6_bitCount_0f7a4 35 = .ok (.iload_n 0, 1) := by decide +kernel
theorem dJ6_bitCount_0f7a4_36 : decode cJ6_bitCount_0f7a4 36 = .ok (.bipush 8, 2) := by decide +kernel
theorem dJ6_bitCount_0f7a4_38 : decode cJ6_bitCount_0f7a4 38 = .ok (.iushr, 1) := by decide +kernel
theorem dJ6_bitCount_0f7a4_39 : decode cJ6_bitCount_0f7a4 39 = .ok (.iadd, 1) := by decide +kernel
theorem dJ6_bitCount_0f7a4_40 : decode cJ6_bitCount_0f7a4 40 = .ok (.istore_n 0, 1) := by decide +kernel
theorem dJ6_bitCount_0f7a4_41 : decode cJ6_bitCount_0f7a4 41 = .ok (.iload_n 0, 1) := by decide +kernel
theorem dJ6_bitCount_0f7a4_42 : decode cJ6_bitCount_0f7a4 42 = .ok (.iload_n 0, 1) := by decide +kernel
theorem dJ6_bitCount_0f7a4_43 : decode cJ6_bitCount_0f7a4 43 = .ok (.bipush 16, 2) := by decide +kernel
theorem dJ6_bitCount_0f7a4_45 : decode cJ6_bitCount_0f7a4 45 = .ok (.iushr, 1) := by decide +kernel
theorem dJ6_bitCount_0f7a4_46 : decode cJ6_bitCount_0f7a4 46 = .ok (.iadd, 1) := by decide +kernel
theorem dJ6_bitCount_0f7a4_47 : decode cJ6_bitCount_0f7a4 47 = .ok (.istore_n 0, 1) := by decide +kernel
theorem dJ6_bitCount_0f7a4_48 : decode cJ6_bitCount_0f7a4 48 = .ok (.iload_n 0, 1) := by decide +kernel
theorem dJ6_bitCount_0f7a4_49 : decode cJ6_bitCount_0f7a4 49 = .ok (.bipush 63, 2) := by decide +kernel
theorem dJ6_bitCount_0f7a4_51 : decode cJ6_bitCount_0f7a4 51 = .ok (.iand, 1) := by decide +kernel
theorem dJ6_bitCount_0f7a4_52 : decode cJ6_bitCount_0f7a4 52 = .ok (.ireturn, 1) := by decide +kernel
theorem wd_871 : (Cond.code ⟨"java/lang/Integer", "bitCount", "(I)I"⟩ prog_15_method_49_code (1 : Nat) (Option.some FieldType.int)) ∈ gtb := gtb_c4 42 (by decide +kernel) rfl
theorem wd_872 : (Cond.constant "java/lang/Integer" (265 : Nat) (1431655765 : Int32)) ∈ gtb := gtb_c4 43 (by decide +kernel) rfl
theorem wd_873 : (Cond.constant "java/lang/Integer" (266 : Nat) (858993459 : Int32)) ∈ gtb := gtb_c4 44 (by decide +kernel) rfl
theorem wd_874 : (Cond.constant "java/lang/Integer" (267 : Nat) (252645135 : Int32)) ∈ gtb := gtb_c4 45 (by decide +kernel) rfl
set_option maxHeartbeats 4000000 in
set_option maxRecDepth 100000 in
theorem T_J6_bitCount_0f7a4_c0 (l : Launch) (D : va_G) (cy : Nat → ClassId) (a : Nat → Nat) (u : St)    : Mi l D cy (cW cy a) yJ6_bitCount_0f7a4 (.code yJ6_bitCount_0f7a4 cJ6_bitCount_0f7a4 1 (some .int)) (rmo 0 0) [.int 0] u (fun (r : Int32) (u' : St) => (r = 0) ∧ (u' = u)) := by
  refine Mi.of (own := RJ6) rfl (by decide) (Nat.le_of_ble_eq_true rfl) ?_
  intro p e s m below meth c A Q ls C hret hO hl
  obtain ⟨hx, hb, hml, hown, ht, hK, hA⟩ := id C
  have hl : lv_has ls 1 [(0, .int 0)] := hl
  refine lv_iload_n hx hb dJ6_bitCount_0f7a4_0 rfl (lv_at hl 0 rfl) ?_
  refine lv_iload_n hx hb dJ6_bitCount_0f7a4_1 rfl (lv_at hl 0 rfl) ?_
  refine lv_iconst (v := 1) hx hb dJ6_bitCount_0f7a4_2 (by decide) ?_
  refine lv_iushr (v := 0) hx hb dJ6_bitCount_0f7a4_3 (by decide) ?_
  refine lv_ldcw (v := 1431655765) hx hb hown (ht _ wd_872) dJ6_bitCount_0f7a4_4 ?_
  refine lv_iand hx hb dJ6_bitCount_0f7a4_7 ?_
  refine tE (y := 0) (by decide) ?_
  refine lv_isub hx hb dJ6_bitCount_0f7a4_8 ?_
  refine tE (y := 0) rfl ?_
  refine lv_istore_n (lv' := [(0, .int 0)]) hx hb dJ6_bitCount_0f7a4_9 rfl hl (by decide) rfl (fun ls hl => ?_)
  refine lv_iload_n hx hb dJ6_bitCount_0f7a4_10 rfl (lv_at hl 0 rfl) ?_
  refine lv_ldcw (v := 858993459) hx hb hown (ht _ wd_873) dJ6_bitCount_0f7a4_11 ?_
  refine lv_iand hx hb dJ6_bitCount_0f7a4_14 ?_
  refine tE (y := 0) (by decide) ?_
  refine lv_iload_n hx hb dJ6_bitCount_0f7a4_15 rfl (lv_at hl 0 rfl) ?_
  refine lv_iconst (v := 2) hx hb dJ6_bitCount_0f7a4_16 (by decide) ?_
  refine lv_iushr (v := 0) hx hb dJ6_bitCount_0f7a4_17 (by decide) ?_
  refine lv_ldcw (v := 858993459) hx hb hown (ht _ wd_873) dJ6_bitCount_0f7a4_18 ?_
  refine lv_iand hx hb dJ6_bitCount_0f7a4_21 ?_
  refine tE (y := 0) (by decide) ?_
  refine lv_iadd hx hb dJ6_bitCount_0f7a4_22 ?_
  refine tE (y := 0) rfl ?_
  refine lv_istore_n (lv' := [(0, .int 0)]) hx hb dJ6_bitCount_0f7a4_23 rfl hl (by decide) rfl (fun ls hl => ?_)
  refine lv_iload_n hx hb dJ6_bitCount_0f7a4_24 rfl (lv_at hl 0 rfl) ?_
  refine lv_iload_n hx hb dJ6_bitCount_0f7a4_25 rfl (lv_at hl 0 rfl) ?_
  refine lv_iconst (v := 4) hx hb dJ6_bitCount_0f7a4_26 (by decide) ?_
  refine lv_iushr (v := 0) hx hb dJ6_bitCount_0f7a4_27 (by decide) ?_
  refine lv_iadd hx hb dJ6_bitCount_0f7a4_28 ?_
  refine tE (y := 0) rfl ?_
  refine lv_ldcw (v := 252645135) hx hb hown (ht _ wd_874) dJ6_bitCount_0f7a4_29 ?_
  refine lv_iand hx hb dJ6_bitCount_0f7a4_32 ?_
  refine tE (y := 0) (by decide) ?_
  refine lv_istore_n (lv' := [(0, .int 0)]) hx hb dJ6_bitCount_0f7a4_33 rfl hl (by decide) rfl (fun ls hl => ?_)
  refine lv_iload_n hx hb dJ6_bitCount_0f7a4_34 rfl (lv_at hl 0 rfl) ?_
  refine lv_iload_n hx hb dJ6_bitCount_0f7a4_35 rfl (lv_at hl 0 rfl) ?_
  refine lv_bipush (v := 8) hx hb dJ6_bitCount_0f7a4_36 (by decide) ?_
  refine lv_iushr (v := 0) hx hb dJ6_bitCount_0f7a4_38 (by decide) ?_
  refine lv_iadd hx hb dJ6_bitCount_0f7a4_39 ?_
  refine tE (y := 0) rfl ?_
  refine lv_istore_n (lv' := [(0, .int 0)]) hx hb dJ6_bitCount_0f7a4_40 rfl hl (by decide) rfl (fun ls hl => ?_)
  refine lv_iload_n hx hb dJ6_bitCount_0f7a4_41 rfl (lv_at hl 0 rfl) ?_
  refine lv_iload_n hx hb dJ6_bitCount_0f7a4_42 rfl (lv_at hl 0 rfl) ?_
  refine lv_bipush (v := 16) hx hb dJ6_bitCount_0f7a4_43 (by decide) ?_
  refine lv_iushr (v := 0) hx hb dJ6_bitCount_0f7a4_45 (by decide) ?_
  refine lv_iadd hx hb dJ6_bitCount_0f7a4_46 ?_
  refine tE (y := 0) rfl ?_
  refine lv_istore_n (lv' := [(0, .int 0)]) hx hb dJ6_bitCount_0f7a4_47 rfl hl (by decide) rfl (fun ls hl => ?_)
  refine lv_iload_n hx hb dJ6_bitCount_0f7a4_48 rfl (lv_at hl 0 rfl) ?_
  refine lv_bipush (v := 63) hx hb dJ6_bitCount_0f7a4_49 (by decide) ?_
  refine lv_iand hx hb dJ6_bitCount_0f7a4_51 ?_
  refine tE (y := 0) (by decide) ?_
  refine hret _ _ _ _ _ _ dJ6_bitCount_0f7a4_52 rfl ?_ hO
  exact ⟨rfl, rfl⟩
theorem dX10_knot_0 : decode cX10_knot 0 = .ok (.aload_n 0, 1) := by decide +kernel
theorem dX10_knot_1 : decode cX10_knot 1 = .ok (.getfield 37, 3) := by decide +kernel
theorem dX10_knot_4 : decode cX10_knot 4 = .ok (.iload_n 1, 1) := by decide +kernel
theorem dX10_knot_5 : decode cX10_knot 5 = .ok (.invokevirtual 126, 3) := by decide +kernel
theorem dX10_knot_8 : decode cX10_knot 8 = .ok (.ifCond .ne 5, 3) := by decide +kernel
theorem dX10_knot_11 : decode cX10_knot 11 = .ok (.iconst (-1), 1) := by decide +kernel
theorem dX10_knot_12 : decode cX10_knot 12 = .ok (.ireturn, 1) := by decide +kernel
theorem dX10_knot_13 : decode cX10_knot 13 = .ok (.iload_n 2, 1) := by decide +kernel
theorem dX10_knot_14 : decode cX10_knot 14 = .ok (.tableswitch 55 0 2 #[26, 36, 46], 26) := by decide +kernel
theorem dX10_knot_40 : decode cX10_knot 40 = .ok (.aload_n 0, 1) := by decide +kernel
theorem dX10_knot_41 : decode cX10_knot 41 = .ok (.getfield 37, 3) := by decide +kernel
theorem dX10_knot_44 : decode cX10_knot 44 = .ok (.iload_n 1, 1) := by decide +kernel
theorem dX10_knot_45 : decode cX10_knot 45 = .ok (.iconst 0, 1) := by decide +kernel
theorem dX10_knot_46 : decode cX10_knot 46 = .ok (.invokevirtual 130, 3) := by decide +kernel
theorem dX10_knot_49 : decode cX10_knot 49 = .ok (.ireturn, 1) := by decide +kernel
theorem dX10_knot_50 : decode cX10_knot 50 = .ok (.aload_n 0, 1) := by decide +kernel
theorem dX10_knot_51 : decode cX10_knot 51 = .ok (.getfield 37, 3) := by decide +kernel
theorem dX10_knot_54 : decode cX10_knot 54 = .ok (.iload_n 1, 1) := by decide +kernel
theorem dX10_knot_55 : decode cX10_knot 55 = .ok (.iconst 1, 1) := by decide +kernel
theorem dX10_knot_56 : decode cX10_knot 56 = .ok (.invokevirtual 130, 3) := by decide +kernel
theorem dX10_knot_59 : decode cX10_knot 59 = .ok (.ireturn, 1) := by decide +kernel
theorem dX10_knot_60 : decode cX10_knot 60 = .ok (.aload_n 0, 1) := by decide +kernel
theorem dX10_knot_61 : decode cX10_knot 61 = .ok (.getfield 37, 3) := by decide +kernel
theorem dX10_knot_64 : decode cX10_knot 64 = .ok (.iload_n 1, 1) := by decide +kernel
theorem dX10_knot_65 : decode cX10_knot 65 = .ok (.invokevirtual 134, 3) := by decide +kernel
theorem dX10_knot_68 : decode cX10_knot 68 = .ok (.ireturn, 1) := by decide +kernel
theorem dX10_knot_69 : decode cX10_knot 69 = .ok (.iconst (-1), 1) := by decide +kernel
theorem dX10_knot_70 : decode cX10_knot 70 = .ok (.ireturn, 1) := by decide +kernel
theorem wd_816 : (Cond.code ⟨"WebCourt", "knot", "(II)I"⟩ prog_1_method_6_code (3 : Nat) (Option.some FieldType.int)) ∈ gtb := gtb_c3 227 (by decide +kernel) rfl
theorem wd_470 : (Cond.fieldLink "WebCourt" (37 : Nat) "WebCourt" "court" "LWebCourt$Court;") ∈ gtb := gtb_c2 121 (by decide +kernel) rfl
theorem wd_481 : (Cond.laysFinal "WebCourt" "WebCourt" "tape" "LWebCourt$Tape;") ∈ gtb := gtb_c2 132 (by decide +kernel) rfl
theorem wd_483 : (Cond.laysFinal "WebCourt" "WebCourt" "reader" "LWebCourt$Reader;") ∈ gtb := gtb_c2 134 (by decide +kernel) rfl
theorem wd_485 : (Cond.laysFinal "WebCourt" "WebCourt" "court" "LWebCourt$Court;") ∈ gtb := gtb_c2 136 (by decide +kernel) rfl
theorem wd_487 : (Cond.laysFinal "WebCourt" "WebCourt" "acts" "LWebCourt$Acts;") ∈ gtb := gtb_c2 138 (by decide +kernel) rfl
theorem wd_489 : (Cond.laysFinal "WebCourt" "WebCourt" "ways" "LWebCourt$Ways;") ∈ gtb := gtb_c2 140 (by decide +kernel) rfl
theorem wd_491 : (Cond.laysFinal "WebCourt" "WebCourt" "rounds" "LWebCourt$Rounds;") ∈ gtb := gtb_c2 142 (by decide +kernel) rfl
theorem wd_493 : (Cond.laysFinal "WebCourt" "WebCourt" "counsel" "LWebCourt$Counsel;") ∈ gtb := gtb_c2 144 (by decide +kernel) rfl
theorem wd_495 : (Cond.laysFinal "WebCourt" "WebCourt" "hearsay" "LWebCourt$Hearsay;") ∈ gtb := gtb_c2 146 (by decide +kernel) rfl
theorem wd_497 : (Cond.laysFinal "WebCourt" "WebCourt" "boxes" "[[I") ∈ gtb := gtb_c2 148 (by decide +kernel) rfl
theorem wd_499 : (Cond.laysFinal "WebCourt" "WebCourt" "lying" "[I") ∈ gtb := gtb_c2 150 (by decide +kernel) rfl
theorem wd_501 : (Cond.lays "WebCourt" "WebCourt" "lyingCount" "I") ∈ gtb := gtb_c2 152 (by decide +kernel) rfl
theorem wd_503 : (Cond.lays "WebCourt" "WebCourt" "boxesKept" "I") ∈ gtb := gtb_c2 154 (by decide +kernel) rfl
theorem wd_505 : (Cond.lays "WebCourt" "WebCourt" "draft" "LWebCourt$Web;") ∈ gtb := gtb_c2 156 (by decide +kernel) rfl
theorem inFX10 : ∀ w ∈ u_ws RX10 TX10 13, w ∈ gtb := by
  show ∀ w ∈ [u_lay RX10 TX10 0, u_lay RX10 TX10 1, u_lay RX10 TX10 2, u_lay RX10 TX10 3, u_lay RX10 TX10 4, u_lay RX10 TX10 5, u_lay RX10 TX10 6, u_lay RX10 TX10 7, u_lay RX10 TX10 8, u_lay RX10 TX10 9, u_lay RX10 TX10 10, u_lay RX10 TX10 11, u_lay RX10 TX10 12], w ∈ gtb
  exact List.forall_mem_cons.mpr ⟨wd_481, List.forall_mem_cons.mpr ⟨wd_483, List.forall_mem_cons.mpr ⟨wd_485, List.forall_mem_cons.mpr ⟨wd_487, List.forall_mem_cons.mpr ⟨wd_489, List.forall_mem_cons.mpr ⟨wd_491, List.forall_mem_cons.mpr ⟨wd_493, List.forall_mem_cons.mpr ⟨wd_495, List.forall_mem_cons.mpr ⟨wd_497, List.forall_mem_cons.mpr ⟨wd_499, List.forall_mem_cons.mpr ⟨wd_501, List.forall_mem_cons.mpr ⟨wd_503, List.forall_mem_cons.mpr ⟨wd_505, fun _ h => absurd h List.not_mem_nil⟩⟩⟩⟩⟩⟩⟩⟩⟩⟩⟩⟩⟩
theorem gf_RX10_37 {p : Program} {l : Launch} {e : Env} {R : Room} {s : State} {m : MethodId} {args : Array Value} {below : List Frame} {meth : Method} {c : Code} {H : Heap} {locs : List Loc} {cells slots : Nat} {Q : State → Prop} {cc : ByteArray} {pc nL : Nat} {ls : Array Slot} {rest : List Value} {D : va_G} {cy : Nat → ClassId} {A : Nat → Prop} {ws : va_W} {b : Nat} {fs : List Value} {v : Value} (C : Cx p s m args c cc nL RX10 D cy A) (hO : Wo D A ws s.heap H locs) (q0 : Nat) (he : ws[q0]? = some (b, .inr (10, fs))) (hv : fs[2]? = some v) (hdg : decode cc pc = .ok (.getfield 37, 3)) (kk : W p l e R s m args below meth c H locs cells slots Q (F0 m (pc + 3) ls (v :: rest))) : W p l e R s m args below meth c H locs cells slots Q (F0 m pc ls (.ref b :: rest)) := gF (k := 2) C hO q0 he rfl inFX10 (by decide) wd_470 rfl hv hdg kk
theorem wd_817 : (Cond.methodLink "WebCourt" (126 : Nat) ⟨"WebCourt$Court", "hasKnot", "(I)Z"⟩) ∈ gtb := gtb_c3 228 (by decide +kernel) rfl
set_option maxHeartbeats 4000000 in
set_option maxRecDepth 100000 in
theorem T_X10_knot (l : Launch) (D : va_G) (cy : Nat → ClassId) (a : Nat → Nat) (u : St) (hI_3_9 : fI u 3 9 = 0) (hR_0 : fR u 0 = a 3) (x1 : Int32) (x2 : Int32)  : Mi l D cy (cW cy a) yX10_knot (.code yX10_knot cX10_knot 3 (some .int)) (rmo 1 21) [.ref (a 0), .int x1, .int x2] u (fun (r : Int32) (u' : St) => (r = (-1)) ∧ (u' = u)) := by
  refine Mi.of (own := RX10) rfl (by decide) (Nat.le_of_ble_eq_true rfl) ?_
  intro p e s m below meth c A Q ls C hret hO hl
  obtain ⟨hx, hb, hml, hown, ht, hK, hA⟩ := id C
  have hl : lv_has ls 3 [(0, .ref (a 0)), (1, .int x1), (2, .int x2)] := hl
  refine lv_aload_n hx hb dX10_knot_0 rfl (lv_at hl 0 rfl) ?_
  refine gf_RX10_37 (v := .ref (a 28)) C hO 0 cW_0 rfl dX10_knot_1 ?_
  refine lv_iload_n hx hb dX10_knot_4 rfl (lv_at hl 1 rfl) ?_
  refine cVi (w := cW cy a) (As := [.int x1]) (rest := []) C hO (T_X2_hasKnot l D cy a _ (by exact hI_3_9) (by exact hR_0) (x1)) (cwV 1 ht (gV wd_817 wd_818 wd_819 wd_115 wd_820) rfl rfl rfl hd_yX2_hasKnot ⟨Nat.le_of_ble_eq_true rfl, Nat.le_of_ble_eq_true rfl⟩) 28 rfl cW_28 rfl rfl hl.1 (Nat.le_of_ble_eq_true rfl) dX10_knot_5 rfl ⟨Nat.zero_le _, Nat.zero_le _⟩ (fun r1 u2 H locs hp3 hO => ?_)
  obtain ⟨hr1, hu2⟩ := hp3
  subst hr1
  rw [hu2] at hO
  refine bn_ne (X := 0) hx hb dX10_knot_8 rfl (by omega) ?_ (tgt := 13) (by decide)
  refine lv_iconst (v := (-1)) hx hb dX10_knot_11 (by decide) ?_
  refine hret _ _ _ _ _ _ dX10_knot_12 rfl ?_ hO
  exact ⟨rfl, rfl⟩
theorem dX10_item_0 : decode cX10_item 0 = .ok (.aload_n 0, 1) := by decide +kernel
theorem dX10_item_1 : decode cX10_item 1 = .ok (.getfield 37, 3) := by decide +kernel
theorem dX10_item_4 : decode cX10_item 4 = .ok (.iload_n 1, 1) := by decide +kernel
theorem dX10_item_5 : decode cX10_item 5 = .ok (.invokevirtual 144, 3) := by decide +kernel
theorem dX10_item_8 : decode cX10_item 8 = .ok (.ifCond .ne 5, 3) := by decide +kernel
theorem dX10_item_11 : decode cX10_item 11 = .ok (.iconst (-1), 1) := by decide +kernel
theorem dX10_item_12 : decode cX10_item 12 = .ok (.ireturn, 1) := by decide +kernel
theorem dX10_item_13 : decode cX10_item 13 = .ok (.iload_n 2, 1) := by decide +kernel
theorem dX10_item_14 : decode cX10_item 14 = .ok (.tableswitch 115 0 5 #[38, 51, 63, 76, 89, 102], 38) := by decide +kernel
theorem dX10_item_52 : decode cX10_item 52 = .ok (.aload_n 0, 1) := by decide +kernel
theorem dX10_item_53 : decode cX10_item 53 = .ok (.getfield 37, 3) := by decide +kernel
theorem dX10_item_56 : decode cX10_item 56 = .ok (.getfield 101, 3) := by decide +kernel
theorem dX10_item_59 : decode cX10_item 59 = .ok (.getfield 147, 3) := by decide +kernel
theorem dX10_item_62 : decode cX10_item 62 = .ok (.iload_n 1, 1) := by decide +kernel
theorem dX10_item_63 : decode cX10_item 63 = .ok (.iaload, 1) := by decide +kernel
theorem dX10_item_64 : decode cX10_item 64 = .ok (.ireturn, 1) := by decide +kernel
theorem dX10_item_65 : decode cX10_item 65 = .ok (.aload_n 0, 1) := by decide +kernel
theorem dX10_item_66 : decode cX10_item 66 = .ok (.getfield 37, 3) := by decide +kernel
theorem dX10_item_69 : decode cX10_item 69 = .ok (.getfield 150, 3) := by decide +kernel
theorem dX10_item_72 : decode cX10_item 72 = .ok (.iconst 5, 1) := by decide +kernel
theorem dX10_item_73 : decode cX10_item 73 = .ok (.iload_n 1, 1) := by decide +kernel
theorem dX10_item_74 : decode cX10_item 74 = .ok (.iadd, 1) := by decide +kernel
theorem dX10_item_75 : decode cX10_item 75 = .ok (.iaload, 1) := by decide +kernel
theorem dX10_item_76 : decode cX10_item 76 = .ok (.ireturn, 1) := by decide +kernel
theorem dX10_item_77 : decode cX10_item 77 = .ok (.aload_n 0, 1) := by decide +kernel
theorem dX10_item_78 : decode cX10_item 78 = .ok (.getfield 37, 3) := by decide +kernel
theorem dX10_item_81 : decode cX10_item 81 = .ok (.getfield 150, 3) := by decide +kernel
theorem dX10_item_84 : decode cX10_item 84 = .ok (.bipush 11, 2) := by decide +kernel
theorem dX10_item_86 : decode cX10_item 86 = .ok (.iload_n 1, 1) := by decide +kernel
theorem dX10_item_87 : decode cX10_item 87 = .ok (.iadd, 1) := by decide +kernel
theorem dX10_item_88 : decode cX10_item 88 = .ok (.iaload, 1) := by decide +kernel
theorem dX10_item_89 : decode cX10_item 89 = .ok (.ireturn, 1) := by decide +kernel
theorem dX10_item_90 : decode cX10_item 90 = .ok (.aload_n 0, 1) := by decide +kernel
theorem dX10_item_91 : decode cX10_item 91 = .ok (.getfield 37, 3) := by decide +kernel
theorem dX10_item_94 : decode cX10_item 94 = .ok (.getfield 101, 3) := by decide +kernel
theorem dX10_item_97 : decode cX10_item 97 = .ok (.getfield 153, 3) := by decide +kernel
theorem dX10_item_100 : decode cX10_item 100 = .ok (.iload_n 1, 1) := by decide +kernel
theorem dX10_item_101 : decode cX10_item 101 = .ok (.iaload, 1) := by decide +kernel
theorem dX10_item_102 : decode cX10_item 102 = .ok (.ireturn, 1) := by decide +kernel
theorem dX10_item_103 : decode cX10_item 103 = .ok (.aload_n 0, 1) := by decide +kernel
theorem dX10_item_104 : decode cX10_item 104 = .ok (.getfield 37, 3) := by decide +kernel
theorem dX10_item_107 : decode cX10_item 107 = .ok (.getfield 150, 3) := by decide +kernel
theorem dX10_item_110 : decode cX10_item 110 = .ok (.bipush 17, 2) := by decide +kernel
theorem dX10_item_112 : decode cX10_item 112 = .ok (.iload_n 1, 1) := by decide +kernel
theorem dX10_item_113 : decode cX10_item 113 = .ok (.iadd, 1) := by decide +kernel
theorem dX10_item_114 : decode cX10_item 114 = .ok (.iaload, 1) := by decide +kernel
theorem dX10_item_115 : decode cX10_item 115 = .ok (.ireturn, 1) := by decide +kernel
theorem dX10_item_116 : decode cX10_item 116 = .ok (.aload_n 0, 1) := by decide +kernel
theorem dX10_item_117 : decode cX10_item 117 = .ok (.getfield 37, 3) := by decide +kernel
theorem dX10_item_120 : decode cX10_item 120 = .ok (.getfield 150, 3) := by decide +kernel
theorem dX10_item_123 : decode cX10_item 123 = .ok (.bipush 23, 2) := by decide +kernel
theorem dX10_item_125 : decode cX10_item 125 = .ok (.iload_n 1, 1) := by decide +kernel
theorem dX10_item_126 : decode cX10_item 126 = .ok (.iadd, 1) := by decide +kernel
theorem dX10_item_127 : decode cX10_item 127 = .ok (.iaload, 1) := by decide +kernel
theorem dX10_item_128 : decode cX10_item 128 = .ok (.ireturn, 1) := by decide +kernel
theorem dX10_item_129 : decode cX10_item 129 = .ok (.iconst (-1), 1) := by decide +kernel
theorem dX10_item_130 : decode cX10_item 130 = .ok (.ireturn, 1) := by decide +kernel
theorem wd_840 : (Cond.code ⟨"WebCourt", "item", "(II)I"⟩ prog_1_method_8_code (3 : Nat) (Option.some FieldType.int)) ∈ gtb := gtb_c4 11 (by decide +kernel) rfl
theorem wd_841 : (Cond.methodLink "WebCourt" (144 : Nat) ⟨"WebCourt$Court", "hasCase", "(I)Z"⟩) ∈ gtb := gtb_c4 12 (by decide +kernel) rfl
set_option maxHeartbeats 4000000 in
set_option maxRecDepth 100000 in
theorem T_X10_item (l : Launch) (D : va_G) (cy : Nat → ClassId) (a : Nat → Nat) (u : St) (hI_3_12 : fI u 3 12 = 0) (hR_0 : fR u 0 = a 3) (x1 : Int32) (x2 : Int32)  : Mi l D cy (cW cy a) yX10_item (.code yX10_item cX10_item 3 (some .int)) (rmo 1 21) [.ref (a 0), .int x1, .int x2] u (fun (r : Int32) (u' : St) => (r = (-1)) ∧ (u' = u)) := by
  refine Mi.of (own := RX10) rfl (by decide) (Nat.le_of_ble_eq_true rfl) ?_
  intro p e s m below meth c A Q ls C hret hO hl
  obtain ⟨hx, hb, hml, hown, ht, hK, hA⟩ := id C
  have hl : lv_has ls 3 [(0, .ref (a 0)), (1, .int x1), (2, .int x2)] := hl
  refine lv_aload_n hx hb dX10_item_0 rfl (lv_at hl 0 rfl) ?_
  refine gf_RX10_37 (v := .ref (a 28)) C hO 0 cW_0 rfl dX10_item_1 ?_
  refine lv_iload_n hx hb dX10_item_4 rfl (lv_at hl 1 rfl) ?_
  refine cVi (w := cW cy a) (As := [.int x1]) (rest := []) C hO (T_X2_hasCase l D cy a _ (by exact hI_3_12) (by exact hR_0) (x1)) (cwV 1 ht (gV wd_841 wd_842 wd_843 wd_115 wd_844) rfl rfl rfl hd_yX2_hasCase ⟨Nat.le_of_ble_eq_true rfl, Nat.le_of_ble_eq_true rfl⟩) 28 rfl cW_28 rfl rfl hl.1 (Nat.le_of_ble_eq_true rfl) dX10_item_5 rfl ⟨Nat.zero_le _, Nat.zero_le _⟩ (fun r1 u2 H locs hp3 hO => ?_)
  obtain ⟨hr1, hu2⟩ := hp3
  subst hr1
  rw [hu2] at hO
  refine bn_ne (X := 0) hx hb dX10_item_8 rfl (by omega) ?_ (tgt := 13) (by decide)
  refine lv_iconst (v := (-1)) hx hb dX10_item_11 (by decide) ?_
  refine hret _ _ _ _ _ _ dX10_item_12 rfl ?_ hO
  exact ⟨rfl, rfl⟩
theorem dX10_plea_0 : decode cX10_plea 0 = .ok (.aload_n 0, 1) := by decide +kernel
theorem dX10_plea_1 : decode cX10_plea 1 = .ok (.getfield 37, 3) := by decide +kernel
theorem dX10_plea_4 : decode cX10_plea 4 = .ok (.iload_n 1, 1) := by decide +kernel
theorem dX10_plea_5 : decode cX10_plea 5 = .ok (.invokevirtual 138, 3) := by decide +kernel
theorem dX10_plea_8 : decode cX10_plea 8 = .ok (.ifCond .eq 18, 3) := by decide +kernel
theorem dX10_plea_11 : decode cX10_plea 11 = .ok (.aload_n 0, 1) := by decide +kernel
theorem dX10_plea_12 : decode cX10_plea 12 = .ok (.getfield 37, 3) := by decide +kernel
theorem dX10_plea_15 : decode cX10_plea 15 = .ok (.getfield 101, 3) := by decide +kernel
theorem dX10_plea_18 : decode cX10_plea 18 = .ok (.getfield 141, 3) := by decide +kernel
theorem dX10_plea_21 : decode cX10_plea 21 = .ok (.iload_n 1, 1) := by decide +kernel
theorem dX10_plea_22 : decode cX10_plea 22 = .ok (.iaload, 1) := by decide +kernel
theorem dX10_plea_23 : decode cX10_plea 23 = .ok (.goto 4, 3) := by decide +kernel
theorem dX10_plea_26 : decode cX10_plea 26 = .ok (.iconst (-1), 1) := by decide +kernel
theorem dX10_plea_27 : decode cX10_plea 27 = .ok (.ireturn, 1) := by decide +kernel
theorem wd_832 : (Cond.code ⟨"WebCourt", "plea", "(I)I"⟩ prog_1_method_7_code (2 : Nat) (Option.some FieldType.int)) ∈ gtb := gtb_c4 3 (by decide +kernel) rfl
theorem wd_833 : (Cond.methodLink "WebCourt" (138 : Nat) ⟨"WebCourt$Court", "hasPlea", "(I)Z"⟩) ∈ gtb := gtb_c4 4 (by decide +kernel) rfl
theorem wd_834 : (Cond.instanceMethod ⟨"WebCourt$Court", "hasPlea", "(I)Z"⟩) ∈ gtb := gtb_c4 5 (by decide +kernel) rfl
theorem wd_835 : (Cond.selects "WebCourt$Court" ⟨"WebCourt$Court", "hasPlea", "(I)Z"⟩ ⟨"WebCourt$Court", "hasPlea", "(I)Z"⟩) ∈ gtb := gtb_c4 6 (by decide +kernel) rfl
theorem hd_yX2_hasPlea : yX2_hasPlea.cls = RX2 ∧ yX2_hasPlea.cls ≠ "java/lang/invoke/MethodHandle" ∧ yX2_hasPlea.cls ≠ "java/lang/invoke/VarHandle" ∧ (parseMethodDescriptor yX2_hasPlea.desc).map (fun d => d.parameters.length) = some 1 := by decide +kernel
set_option maxHeartbeats 4000000 in
set_option maxRecDepth 100000 in
theorem T_X10_plea (l : Launch) (D : va_G) (cy : Nat → ClassId) (a : Nat → Nat) (u : St) (hI_3_11 : fI u 3 11 = 0) (hR_0 : fR u 0 = a 3) (x1 : Int32)  : Mi l D cy (cW cy a) yX10_plea (.code yX10_plea cX10_plea 2 (some .int)) (rmo 1 21) [.ref (a 0), .int x1] u (fun (r : Int32) (u' : St) => (r = (-1)) ∧ (u' = u)) := by
  refine Mi.of (own := RX10) rfl (by decide) (Nat.le_of_ble_eq_true rfl) ?_
  intro p e s m below meth c A Q ls C hret hO hl
  obtain ⟨hx, hb, hml, hown, ht, hK, hA⟩ := id C
  have hl : lv_has ls 2 [(0, .ref (a 0)), (1, .int x1)] := hl
  refine lv_aload_n hx hb dX10_plea_0 rfl (lv_at hl 0 rfl) ?_
  refine gf_RX10_37 (v := .ref (a 28)) C hO 0 cW_0 rfl dX10_plea_1 ?_
  refine lv_iload_n hx hb dX10_plea_4 rfl (lv_at hl 1 rfl) ?_
  refine cVi (w := cW cy a) (As := [.int x1]) (rest := []) C hO (T_X2_hasPlea l D cy a _ (by exact hI_3_11) (by exact hR_0) (x1)) (cwV 1 ht (gV wd_833 wd_834 wd_835 wd_115 wd_836) rfl rfl rfl hd_yX2_hasPlea ⟨Nat.le_of_ble_eq_true rfl, Nat.le_of_ble_eq_true rfl⟩) 28 rfl cW_28 rfl rfl hl.1 (Nat.le_of_ble_eq_true rfl) dX10_plea_5 rfl ⟨Nat.zero_le _, Nat.zero_le _⟩ (fun r1 u2 H locs hp3 hO => ?_)
  obtain ⟨hr1, hu2⟩ := hp3
  subst hr1
  rw [hu2] at hO
  refine bt_eq (tgt := 26) (X := 0) hx hb dX10_plea_8 (by decide) rfl (by omega) ?_
  refine lv_iconst (v := (-1)) hx hb dX10_plea_26 (by decide) ?_
  refine hret _ _ _ _ _ _ dX10_plea_27 rfl ?_ hO
  exact ⟨rfl, rfl⟩
theorem dX10_verdict_0 : decode cX10_verdict 0 = .ok (.aload_n 0, 1) := by decide +kernel
theorem dX10_verdict_1 : decode cX10_verdict 1 = .ok (.getfield 37, 3) := by decide +kernel
theorem dX10_verdict_4 : decode cX10_verdict 4 = .ok (.iload_n 1, 1) := by decide +kernel
theorem dX10_verdict_5 : decode cX10_verdict 5 = .ok (.invokevirtual 144, 3) := by decide +kernel
theorem dX10_verdict_8 : decode cX10_verdict 8 = .ok (.ifCond .eq 14, 3) := by decide +kernel
theorem dX10_verdict_11 : decode cX10_verdict 11 = .ok (.aload_n 0, 1) := by decide +kernel
theorem dX10_verdict_12 : decode cX10_verdict 12 = .ok (.getfield 37, 3) := by decide +kernel
theorem dX10_verdict_15 : decode cX10_verdict 15 = .ok (.iload_n 1, 1) := by decide +kernel
theorem dX10_verdict_16 : decode cX10_verdict 16 = .ok (.invokevirtual 156, 3) := by decide +kernel
theorem dX10_verdict_19 : decode cX10_verdict 19 = .ok (.goto 5, 3) := by decide +kernel
theorem dX10_verdict_22 : decode cX10_verdict 22 = .ok (.ldc 159, 2) := by decide +kernel
theorem dX10_verdict_24 : decode cX10_verdict 24 = .ok (.ireturn, 1) := by decide +kernel
theorem wd_848 : (Cond.code ⟨"WebCourt", "verdict", "(I)I"⟩ prog_1_method_9_code (2 : Nat) (Option.some FieldType.int)) ∈ gtb := gtb_c4 19 (by decide +kernel) rfl
theorem wd_895 : (Cond.constant "WebCourt" (159 : Nat) (-1000000000 : Int32)) ∈ gtb := gtb_c4 66 (by decide +kernel) rfl
set_option maxHeartbeats 4000000 in
set_option maxRecDepth 100000 in
theorem T_X10_verdict (l : Launch) (D : va_G) (cy : Nat → ClassId) (a : Nat → Nat) (u : St) (hI_3_12 : fI u 3 12 = 0) (hR_0 : fR u 0 = a 3) (x1 : Int32)  : Mi l D cy (cW cy a) yX10_verdict (.code yX10_verdict cX10_verdict 2 (some .int)) (rmo 1 21) [.ref (a 0), .int x1] u (fun (r : Int32) (u' : St) => (r = (-1000000000)) ∧ (u' = u)) := by
  refine Mi.of (own := RX10) rfl (by decide) (Nat.le_of_ble_eq_true rfl) ?_
  intro p e s m below meth c A Q ls C hret hO hl
  obtain ⟨hx, hb, hml, hown, ht, hK, hA⟩ := id C
  have hl : lv_has ls 2 [(0, .ref (a 0)), (1, .int x1)] := hl
  refine lv_aload_n hx hb dX10_verdict_0 rfl (lv_at hl 0 rfl) ?_
  refine gf_RX10_37 (v := .ref (a 28)) C hO 0 cW_0 rfl dX10_verdict_1 ?_
  refine lv_iload_n hx hb dX10_verdict_4 rfl (lv_at hl 1 rfl) ?_
  refine cVi (w := cW cy a) (As := [.int x1]) (rest := []) C hO (T_X2_hasCase l D cy a _ (by exact hI_3_12) (by exact hR_0) (x1)) (cwV 1 ht (gV wd_841 wd_842 wd_843 wd_115 wd_844) rfl rfl rfl hd_yX2_hasCase ⟨Nat.le_of_ble_eq_true rfl, Nat.le_of_ble_eq_true rfl⟩) 28 rfl cW_28 rfl rfl hl.1 (Nat.le_of_ble_eq_true rfl) dX10_verdict_5 rfl ⟨Nat.zero_le _, Nat.zero_le _⟩ (fun r1 u2 H locs hp3 hO => ?_)
  obtain ⟨hr1, hu2⟩ := hp3
  subst hr1
  rw [hu2] at hO
  refine bt_eq (tgt := 22) (X := 0) hx hb dX10_verdict_8 (by decide) rfl (by omega) ?_
  refine lv_ldc (v := (-1000000000)) hx hb hown (ht _ wd_895) dX10_verdict_22 ?_
  refine hret _ _ _ _ _ _ dX10_verdict_24 rfl ?_ hO
  exact ⟨rfl, rfl⟩
theorem dX10_hour_0 : decode cX10_hour 0 = .ok (.aload_n 0, 1) := by decide +kernel
theorem dX10_hour_1 : decode cX10_hour 1 = .ok (.getfield 37, 3) := by decide +kernel
theorem dX10_hour_4 : decode cX10_hour 4 = .ok (.iload_n 1, 1) := by decide +kernel
theorem dX10_hour_5 : decode cX10_hour 5 = .ok (.invokevirtual 160, 3) := by decide +kernel
theorem dX10_hour_8 : decode cX10_hour 8 = .ok (.ifCond .ne 5, 3) := by decide +kernel
theorem dX10_hour_11 : decode cX10_hour 11 = .ok (.iconst (-1), 1) := by decide +kernel
theorem dX10_hour_12 : decode cX10_hour 12 = .ok (.ireturn, 1) := by decide +kernel
theorem dX10_hour_13 : decode cX10_hour 13 = .ok (.aload_n 0, 1) := by decide +kernel
theorem dX10_hour_14 : decode cX10_hour 14 = .ok (.getfield 44, 3) := by decide +kernel
theorem dX10_hour_17 : decode cX10_hour 17 = .ok (.aload_n 0, 1) := by decide +kernel
theorem dX10_hour_18 : decode cX10_hour 18 = .ok (.getfield 37, 3) := by decide +kernel
theorem dX10_hour_21 : decode cX10_hour 21 = .ok (.getfield 150, 3) := by decide +kernel
theorem dX10_hour_24 : decode cX10_hour 24 = .ok (.invokevirtual 163, 3) := by decide +kernel
theorem dX10_hour_27 : decode cX10_hour 27 = .ok (.aload_n 0, 1) := by decide +kernel
theorem dX10_hour_28 : decode cX10_hour 28 = .ok (.getfield 37, 3) := by decide +kernel
theorem dX10_hour_31 : decode cX10_hour 31 = .ok (.iload_n 1, 1) := by decide +kernel
theorem dX10_hour_32 : decode cX10_hour 32 = .ok (.invokevirtual 167, 3) := by decide +kernel
theorem dX10_hour_35 : decode cX10_hour 35 = .ok (.ireturn, 1) := by decide +kernel
theorem wd_899 : (Cond.code ⟨"WebCourt", "hour", "(I)I"⟩ prog_1_method_10_code (2 : Nat) (Option.some FieldType.int)) ∈ gtb := gtb_c4 70 (by decide +kernel) rfl
theorem wd_900 : (Cond.methodLink "WebCourt" (160 : Nat) ⟨"WebCourt$Court", "canGo", "(I)Z"⟩) ∈ gtb := gtb_c4 71 (by decide +kernel) rfl
theorem wd_901 : (Cond.instanceMethod ⟨"WebCourt$Court", "canGo", "(I)Z"⟩) ∈ gtb := gtb_c4 72 (by decide +kernel) rfl
theorem wd_902 : (Cond.selects "WebCourt$Court" ⟨"WebCourt$Court", "canGo", "(I)Z"⟩ ⟨"WebCourt$Court", "canGo", "(I)Z"⟩) ∈ gtb := gtb_c4 73 (by decide +kernel) rfl
theorem hd_yX2_canGo : yX2_canGo.cls = RX2 ∧ yX2_canGo.cls ≠ "java/lang/invoke/MethodHandle" ∧ yX2_canGo.cls ≠ "java/lang/invoke/VarHandle" ∧ (parseMethodDescriptor yX2_canGo.desc).map (fun d => d.parameters.length) = some 1 := by decide +kernel
set_option maxHeartbeats 4000000 in
set_option maxRecDepth 100000 in
theorem T_X10_hour (l : Launch) (D : va_G) (cy : Nat → ClassId) (a : Nat → Nat) (u : St) (hI_3_9 : fI u 3 9 = 0) (hR_0 : fR u 0 = a 3) (x1 : Int32)  : Mi l D cy (cW cy a) yX10_hour (.code yX10_hour cX10_hour 2 (some .int)) (rmo 2 42) [.ref (a 0), .int x1] u (fun (r : Int32) (u' : St) => (r = (-1)) ∧ (u' = u)) := by
  refine Mi.of (own := RX10) rfl (by decide) (Nat.le_of_ble_eq_true rfl) ?_
  intro p e s m below meth c A Q ls C hret hO hl
  obtain ⟨hx, hb, hml, hown, ht, hK, hA⟩ := id C
  have hl : lv_has ls 2 [(0, .ref (a 0)), (1, .int x1)] := hl
  refine lv_aload_n hx hb dX10_hour_0 rfl (lv_at hl 0 rfl) ?_
  refine gf_RX10_37 (v := .ref (a 28)) C hO 0 cW_0 rfl dX10_hour_1 ?_
  refine lv_iload_n hx hb dX10_hour_4 rfl (lv_at hl 1 rfl) ?_
  refine cVi (w := cW cy a) (As := [.int x1]) (rest := []) C hO (T_X2_canGo l D cy a _ (by exact hI_3_9) (by exact hR_0) (x1)) (cwV 1 ht (gV wd_900 wd_901 wd_902 wd_115 wd_903) rfl rfl rfl hd_yX2_canGo ⟨Nat.le_of_ble_eq_true rfl, Nat.le_of_ble_eq_true rfl⟩) 28 rfl cW_28 rfl rfl hl.1 (Nat.le_of_ble_eq_true rfl) dX10_hour_5 rfl ⟨Nat.zero_le _, Nat.zero_le _⟩ (fun r1 u2 H locs hp3 hO => ?_)
  obtain ⟨hr1, hu2⟩ := hp3
  subst hr1
  rw [hu2] at hO
  refine bn_ne (X := 0) hx hb dX10_hour_8 rfl (by omega) ?_ (tgt := 13) (by decide)
  refine lv_iconst (v := (-1)) hx hb dX10_hour_11 (by decide) ?_
  refine hret _ _ _ _ _ _ dX10_hour_12 rfl ?_ hO
  exact ⟨rfl, rfl⟩
theorem dX10_hear_0 : decode cX10_hear 0 = .ok (.aload_n 0, 1) := by decide +kernel
theorem dX10_hear_1 : decode cX10_hear 1 = .ok (.getfield 37, 3) := by decide +kernel
theorem dX10_hear_4 : decode cX10_hear 4 = .ok (.iload_n 1, 1) := by decide +kernel
theorem dX10_hear_5 : decode cX10_hear 5 = .ok (.invokevirtual 170, 3) := by decide +kernel
theorem dX10_hear_8 : decode cX10_hear 8 = .ok (.ifCond .ne 5, 3) := by decide +kernel
theorem dX10_hear_11 : decode cX10_hear 11 = .ok (.iconst (-1), 1) := by decide +kernel
theorem dX10_hear_12 : decode cX10_hear 12 = .ok (.ireturn, 1) := by decide +kernel
theorem dX10_hear_13 : decode cX10_hear 13 = .ok (.aload_n 0, 1) := by decide +kernel
theorem dX10_hear_14 : decode cX10_hear 14 = .ok (.getfield 44, 3) := by decide +kernel
theorem dX10_hear_17 : decode cX10_hear 17 = .ok (.aload_n 0, 1) := by decide +kernel
theorem dX10_hear_18 : decode cX10_hear 18 = .ok (.getfield 37, 3) := by decide +kernel
theorem dX10_hear_21 : decode cX10_hear 21 = .ok (.getfield 150, 3) := by decide +kernel
theorem dX10_hear_24 : decode cX10_hear 24 = .ok (.invokevirtual 163, 3) := by decide +kernel
theorem dX10_hear_27 : decode cX10_hear 27 = .ok (.aload_n 0, 1) := by decide +kernel
theorem dX10_hear_28 : decode cX10_hear 28 = .ok (.getfield 37, 3) := by decide +kernel
theorem dX10_hear_31 : decode cX10_hear 31 = .ok (.iload_n 1, 1) := by decide +kernel
theorem dX10_hear_32 : decode cX10_hear 32 = .ok (.invokevirtual 173, 3) := by decide +kernel
theorem dX10_hear_35 : decode cX10_hear 35 = .ok (.ireturn, 1) := by decide +kernel
theorem wd_924 : (Cond.code ⟨"WebCourt", "hear", "(I)I"⟩ prog_1_method_11_code (2 : Nat) (Option.some FieldType.int)) ∈ gtb := gtb_c4 95 (by decide +kernel) rfl
theorem wd_925 : (Cond.methodLink "WebCourt" (170 : Nat) ⟨"WebCourt$Court", "canBeHeard", "(I)Z"⟩) ∈ gtb := gtb_c4 96 (by decide +kernel) rfl
theorem wd_926 : (Cond.instanceMethod ⟨"WebCourt$Court", "canBeHeard", "(I)Z"⟩) ∈ gtb := gtb_c4 97 (by decide +kernel) rfl
theorem wd_927 : (Cond.selects "WebCourt$Court" ⟨"WebCourt$Court", "canBeHeard", "(I)Z"⟩ ⟨"WebCourt$Court", "canBeHeard", "(I)Z"⟩) ∈ gtb := gtb_c4 98 (by decide +kernel) rfl
theorem hd_yX2_canBeHeard : yX2_canBeHeard.cls = RX2 ∧ yX2_canBeHeard.cls ≠ "java/lang/invoke/MethodHandle" ∧ yX2_canBeHeard.cls ≠ "java/lang/invoke/VarHandle" ∧ (parseMethodDescriptor yX2_canBeHeard.desc).map (fun d => d.parameters.length) = some 1 := by decide +kernel
set_option maxHeartbeats 4000000 in
set_option maxRecDepth 100000 in
theorem T_X10_hear (l : Launch) (D : va_G) (cy : Nat → ClassId) (a : Nat → Nat) (u : St) (hI_3_12 : fI u 3 12 = 0) (hR_0 : fR u 0 = a 3) (x1 : Int32)  : Mi l D cy (cW cy a) yX10_hear (.code yX10_hear cX10_hear 2 (some .int)) (rmo 3 63) [.ref (a 0), .int x1] u (fun (r : Int32) (u' : St) => (r = (-1)) ∧ (u' = u)) := by
  refine Mi.of (own := RX10) rfl (by decide) (Nat.le_of_ble_eq_true rfl) ?_
  intro p e s m below meth c A Q ls C hret hO hl
  obtain ⟨hx, hb, hml, hown, ht, hK, hA⟩ := id C
  have hl : lv_has ls 2 [(0, .ref (a 0)), (1, .int x1)] := hl
  refine lv_aload_n hx hb dX10_hear_0 rfl (lv_at hl 0 rfl) ?_
  refine gf_RX10_37 (v := .ref (a 28)) C hO 0 cW_0 rfl dX10_hear_1 ?_
  refine lv_iload_n hx hb dX10_hear_4 rfl (lv_at hl 1 rfl) ?_
  refine cVi (w := cW cy a) (As := [.int x1]) (rest := []) C hO (T_X2_canBeHeard l D cy a _ (by exact hI_3_12) (by exact hR_0) (x1)) (cwV 1 ht (gV wd_925 wd_926 wd_927 wd_115 wd_928) rfl rfl rfl hd_yX2_canBeHeard ⟨Nat.le_of_ble_eq_true rfl, Nat.le_of_ble_eq_true rfl⟩) 28 rfl cW_28 rfl rfl hl.1 (Nat.le_of_ble_eq_true rfl) dX10_hear_5 rfl ⟨Nat.zero_le _, Nat.zero_le _⟩ (fun r1 u2 H locs hp3 hO => ?_)
  obtain ⟨hr1, hu2⟩ := hp3
  subst hr1
  rw [hu2] at hO
  refine bn_ne (X := 0) hx hb dX10_hear_8 rfl (by omega) ?_ (tgt := 13) (by decide)
  refine lv_iconst (v := (-1)) hx hb dX10_hear_11 (by decide) ?_
  refine hret _ _ _ _ _ _ dX10_hear_12 rfl ?_ hO
  exact ⟨rfl, rfl⟩
theorem dX10_grab_0 : decode cX10_grab 0 = .ok (.aload_n 0, 1) := by decide +kernel
theorem dX10_grab_1 : decode cX10_grab 1 = .ok (.getfield 37, 3) := by decide +kernel
theorem dX10_grab_4 : decode cX10_grab 4 = .ok (.iload_n 1, 1) := by decide +kernel
theorem dX10_grab_5 : decode cX10_grab 5 = .ok (.invokevirtual 144, 3) := by decide +kernel
theorem dX10_grab_8 : decode cX10_grab 8 = .ok (.ifCond .eq 14, 3) := by decide +kernel
theorem dX10_grab_11 : decode cX10_grab 11 = .ok (.aload_n 0, 1) := by decide +kernel
theorem dX10_grab_12 : decode cX10_grab 12 = .ok (.getfield 37, 3) := by decide +kernel
theorem dX10_grab_15 : decode cX10_grab 15 = .ok (.iload_n 1, 1) := by decide +kernel
theorem dX10_grab_16 : decode cX10_grab 16 = .ok (.invokevirtual 189, 3) := by decide +kernel
theorem dX10_grab_19 : decode cX10_grab 19 = .ok (.ifCond .eq 5, 3) := by decide +kernel
theorem dX10_grab_22 : decode cX10_grab 22 = .ok (.iconst (-1), 1) := by decide +kernel
theorem dX10_grab_23 : decode cX10_grab 23 = .ok (.ireturn, 1) := by decide +kernel
theorem dX10_grab_24 : decode cX10_grab 24 = .ok (.aload_n 0, 1) := by decide +kernel
theorem dX10_grab_25 : decode cX10_grab 25 = .ok (.getfield 44, 3) := by decide +kernel
theorem dX10_grab_28 : decode cX10_grab 28 = .ok (.aload_n 0, 1) := by decide +kernel
theorem dX10_grab_29 : decode cX10_grab 29 = .ok (.getfield 37, 3) := by decide +kernel
theorem dX10_grab_32 : decode cX10_grab 32 = .ok (.getfield 150, 3) := by decide +kernel
theorem dX10_grab_35 : decode cX10_grab 35 = .ok (.invokevirtual 163, 3) := by decide +kernel
theorem dX10_grab_38 : decode cX10_grab 38 = .ok (.aload_n 0, 1) := by decide +kernel
theorem dX10_grab_39 : decode cX10_grab 39 = .ok (.getfield 37, 3) := by decide +kernel
theorem dX10_grab_42 : decode cX10_grab 42 = .ok (.getfield 150, 3) := by decide +kernel
theorem dX10_grab_45 : decode cX10_grab 45 = .ok (.iconst 5, 1) := by decide +kernel
theorem dX10_grab_46 : decode cX10_grab 46 = .ok (.iload_n 1, 1) := by decide +kernel
theorem dX10_grab_47 : decode cX10_grab 47 = .ok (.iadd, 1) := by decide +kernel
theorem dX10_grab_48 : decode cX10_grab 48 = .ok (.iconst 0, 1) := by decide +kernel
theorem dX10_grab_49 : decode cX10_grab 49 = .ok (.iastore, 1) := by decide +kernel
theorem dX10_grab_50 : decode cX10_grab 50 = .ok (.aload_n 0, 1) := by decide +kernel
theorem dX10_grab_51 : decode cX10_grab 51 = .ok (.getfield 37, 3) := by decide +kernel
theorem dX10_grab_54 : decode cX10_grab 54 = .ok (.invokevirtual 192, 3) := by decide +kernel
theorem dX10_grab_57 : decode cX10_grab 57 = .ok (.invokestatic 180, 3) := by decide +kernel
theorem dX10_grab_60 : decode cX10_grab 60 = .ok (.ireturn, 1) := by decide +kernel
theorem wd_960 : (Cond.code ⟨"WebCourt", "grab", "(I)I"⟩ prog_1_method_15_code (2 : Nat) (Option.some FieldType.int)) ∈ gtb := gtb_c4 131 (by decide +kernel) rfl
set_option maxHeartbeats 4000000 in
set_option maxRecDepth 100000 in
theorem T_X10_grab (l : Launch) (D : va_G) (cy : Nat → ClassId) (a : Nat → Nat) (u : St) (hI_3_12 : fI u 3 12 = 0) (hR_0 : fR u 0 = a 3) (x1 : Int32)  : Mi l D cy (cW cy a) yX10_grab (.code yX10_grab cX10_grab 2 (some .int)) (rmo 1 21) [.ref (a 0), .int x1] u (fun (r : Int32) (u' : St) => (r = (-1)) ∧ (u' = u)) := by
  refine Mi.of (own := RX10) rfl (by decide) (Nat.le_of_ble_eq_true rfl) ?_
  intro p e s m below meth c A Q ls C hret hO hl
  obtain ⟨hx, hb, hml, hown, ht, hK, hA⟩ := id C
  have hl : lv_has ls 2 [(0, .ref (a 0)), (1, .int x1)] := hl
  refine lv_aload_n hx hb dX10_grab_0 rfl (lv_at hl 0 rfl) ?_
  refine gf_RX10_37 (v := .ref (a 28)) C hO 0 cW_0 rfl dX10_grab_1 ?_
  refine lv_iload_n hx hb dX10_grab_4 rfl (lv_at hl 1 rfl) ?_
  refine cVi (w := cW cy a) (As := [.int x1]) (rest := []) C hO (T_X2_hasCase l D cy a _ (by exact hI_3_12) (by exact hR_0) (x1)) (cwV 1 ht (gV wd_841 wd_842 wd_843 wd_115 wd_844) rfl rfl rfl hd_yX2_hasCase ⟨Nat.le_of_ble_eq_true rfl, Nat.le_of_ble_eq_true rfl⟩) 28 rfl cW_28 rfl rfl hl.1 (Nat.le_of_ble_eq_true rfl) dX10_grab_5 rfl ⟨Nat.zero_le _, Nat.zero_le _⟩ (fun r1 u2 H locs hp3 hO => ?_)
  obtain ⟨hr1, hu2⟩ := hp3
  subst hr1
  rw [hu2] at hO
  refine bt_eq (tgt := 22) (X := 0) hx hb dX10_grab_8 (by decide) rfl (by omega) ?_
  refine lv_iconst (v := (-1)) hx hb dX10_grab_22 (by decide) ?_
  refine hret _ _ _ _ _ _ dX10_grab_23 rfl ?_ hO
  exact ⟨rfl, rfl⟩
theorem dX10_spin_0 : decode cX10_spin 0 = .ok (.iload_n 1, 1) := by decide +kernel
theorem dX10_spin_1 : decode cX10_spin 1 = .ok (.ifCond .lt 17, 3) := by decide +kernel
theorem dX10_spin_4 : decode cX10_spin 4 = .ok (.iload_n 1, 1) := by decide +kernel
theorem dX10_spin_5 : decode cX10_spin 5 = .ok (.aload_n 0, 1) := by decide +kernel
theorem dX10_spin_6 : decode cX10_spin 6 = .ok (.getfield 37, 3) := by decide +kernel
theorem dX10_spin_9 : decode cX10_spin 9 = .ok (.getfield 101, 3) := by decide +kernel
theorem dX10_spin_12 : decode cX10_spin 12 = .ok (.getfield 196, 3) := by decide +kernel
theorem dX10_spin_15 : decode cX10_spin 15 = .ok (.if_icmp .lt 5, 3) := by decide +kernel
theorem dX10_spin_18 : decode cX10_spin 18 = .ok (.iconst (-1), 1) := by decide +kernel
theorem dX10_spin_19 : decode cX10_spin 19 = .ok (.ireturn, 1) := by decide +kernel
theorem dX10_spin_20 : decode cX10_spin 20 = .ok (.aload_n 0, 1) := by decide +kernel
theorem dX10_spin_21 : decode cX10_spin 21 = .ok (.getfield 44, 3) := by decide +kernel
theorem dX10_spin_24 : decode cX10_spin 24 = .ok (.aload_n 0, 1) := by decide +kernel
theorem dX10_spin_25 : decode cX10_spin 25 = .ok (.getfield 37, 3) := by decide +kernel
theorem dX10_spin_28 : decode cX10_spin 28 = .ok (.getfield 150, 3) := by decide +kernel
theorem dX10_spin_31 : decode cX10_spin 31 = .ok (.invokevirtual 163, 3) := by decide +kernel
theorem dX10_spin_34 : decode cX10_spin 34 = .ok (.aload_n 0, 1) := by decide +kernel
theorem dX10_spin_35 : decode cX10_spin 35 = .ok (.getfield 37, 3) := by decide +kernel
theorem dX10_spin_38 : decode cX10_spin 38 = .ok (.getfield 150, 3) := by decide +kernel
theorem dX10_spin_41 : decode cX10_spin 41 = .ok (.iconst 4, 1) := by decide +kernel
theorem dX10_spin_42 : decode cX10_spin 42 = .ok (.dup2, 1) := by decide +kernel
theorem dX10_spin_43 : decode cX10_spin 43 = .ok (.iaload, 1) := by decide +kernel
theorem dX10_spin_44 : decode cX10_spin 44 = .ok (.iconst 1, 1) := by decide +kernel
theorem dX10_spin_45 : decode cX10_spin 45 = .ok (.iload_n 1, 1) := by decide +kernel
theorem dX10_spin_46 : decode cX10_spin 46 = .ok (.ishl, 1) := by decide +kernel
theorem dX10_spin_47 : decode cX10_spin 47 = .ok (.ixor, 1) := by decide +kernel
theorem dX10_spin_48 : decode cX10_spin 48 = .ok (.iastore, 1) := by decide +kernel
theorem dX10_spin_49 : decode cX10_spin 49 = .ok (.aload_n 0, 1) := by decide +kernel
theorem dX10_spin_50 : decode cX10_spin 50 = .ok (.getfield 37, 3) := by decide +kernel
theorem dX10_spin_53 : decode cX10_spin 53 = .ok (.getfield 150, 3) := by decide +kernel
theorem dX10_spin_56 : decode cX10_spin 56 = .ok (.iconst 4, 1) := by decide +kernel
theorem dX10_spin_57 : decode cX10_spin 57 = .ok (.iaload, 1) := by decide +kernel
theorem dX10_spin_58 : decode cX10_spin 58 = .ok (.iload_n 1, 1) := by decide +kernel
theorem dX10_spin_59 : decode cX10_spin 59 = .ok (.ishr, 1) := by decide +kernel
theorem dX10_spin_60 : decode cX10_spin 60 = .ok (.iconst 1, 1) := by decide +kernel
theorem dX10_spin_61 : decode cX10_spin 61 = .ok (.iand, 1) := by decide +kernel
theorem dX10_spin_62 : decode cX10_spin 62 = .ok (.ireturn, 1) := by decide +kernel
theorem wd_966 : (Cond.code ⟨"WebCourt", "spin", "(I)I"⟩ prog_1_method_16_code (2 : Nat) (Option.some FieldType.int)) ∈ gtb := gtb_c4 137 (by decide +kernel) rfl
theorem wd_361 : (Cond.fieldLink "WebCourt" (101 : Nat) "WebCourt$Court" "web" "LWebCourt$Web;") ∈ gtb := gtb_c2 12 (by decide +kernel) rfl
theorem gf_RX10_101 {p : Program} {l : Launch} {e : Env} {R : Room} {s : State} {m : MethodId} {args : Array Value} {below : List Frame} {meth : Method} {c : Code} {H : Heap} {locs : List Loc} {cells slots : Nat} {Q : State → Prop} {cc : ByteArray} {pc nL : Nat} {ls : Array Slot} {rest : List Value} {D : va_G} {cy : Nat → ClassId} {A : Nat → Prop} {ws : va_W} {b : Nat} {fs : List Value} {v : Value} (C : Cx p s m args c cc nL RX10 D cy A) (hO : Wo D A ws s.heap H locs) (q0 : Nat) (he : ws[q0]? = some (b, .inr (2, fs))) (hv : fs[1]? = some v) (hdg : decode cc pc = .ok (.getfield 101, 3)) (kk : W p l e R s m args below meth c H locs cells slots Q (F0 m (pc + 3) ls (v :: rest))) : W p l e R s m args below meth c H locs cells slots Q (F0 m pc ls (.ref b :: rest)) := gF (k := 1) C hO q0 he rfl inFX2 (by decide) wd_361 rfl hv hdg kk
theorem wd_260 : (Cond.fieldLink "WebCourt" (196 : Nat) "WebCourt$Web" "lines" "I") ∈ gtb := gtb_c1 151 (by decide +kernel) rfl
theorem gf_RX10_196 {p : Program} {l : Launch} {e : Env} {R : Room} {s : State} {m : MethodId} {args : Array Value} {below : List Frame} {meth : Method} {c : Code} {H : Heap} {locs : List Loc} {cells slots : Nat} {Q : State → Prop} {cc : ByteArray} {pc nL : Nat} {ls : Array Slot} {rest : List Value} {D : va_G} {cy : Nat → ClassId} {A : Nat → Prop} {ws : va_W} {b : Nat} {fs : List Value} {v : Value} (C : Cx p s m args c cc nL RX10 D cy A) (hO : Wo D A ws s.heap H locs) (q0 : Nat) (he : ws[q0]? = some (b, .inr (9, fs))) (hv : fs[10]? = some v) (hdg : decode cc pc = .ok (.getfield 196, 3)) (kk : W p l e R s m args below meth c H locs cells slots Q (F0 m (pc + 3) ls (v :: rest))) : W p l e R s m args below meth c H locs cells slots Q (F0 m pc ls (.ref b :: rest)) := gF (k := 10) C hO q0 he rfl inFX9 (by decide) wd_260 rfl hv hdg kk
set_option maxHeartbeats 4000000 in
set_option maxRecDepth 100000 in
theorem T_X10_spin (l : Launch) (D : va_G) (cy : Nat → ClassId) (a : Nat → Nat) (u : St) (hI_3_10 : fI u 3 10 = 0) (hR_0 : fR u 0 = a 3) (x1 : Int32)  : Mi l D cy (cW cy a) yX10_spin (.code yX10_spin cX10_spin 2 (some .int)) (rmo 0 0) [.ref (a 0), .int x1] u (fun (r : Int32) (u' : St) => (r = (-1)) ∧ (u' = u)) := by
  refine Mi.of (own := RX10) rfl (by decide) (Nat.le_of_ble_eq_true rfl) ?_
  intro p e s m below meth c A Q ls C hret hO hl
  obtain ⟨hx, hb, hml, hown, ht, hK, hA⟩ := id C
  have hl : lv_has ls 2 [(0, .ref (a 0)), (1, .int x1)] := hl
  refine lv_iload_n hx hb dX10_spin_0 rfl (lv_at hl 1 rfl) ?_
  refine bs_lt (tgt := 18) (X := (x1).toInt) hx hb dX10_spin_1 (by decide) rfl (fun c1 => ?_) (fun c1 => ?_)
  · refine lv_iconst (v := (-1)) hx hb dX10_spin_18 (by decide) ?_
    refine hret _ _ _ _ _ _ dX10_spin_19 rfl ?_ hO
    exact ⟨rfl, rfl⟩
  · refine lv_iload_n hx hb dX10_spin_4 rfl (lv_at hl 1 rfl) ?_
    refine lv_aload_n hx hb dX10_spin_5 rfl (lv_at hl 0 rfl) ?_
    refine gf_RX10_37 (v := .ref (a 28)) C hO 0 cW_0 rfl dX10_spin_6 ?_
    refine gf_RX10_101 (v := .ref (a 3)) C hO 28 cW_28 (congrArg (fun z : Nat => some (Value.ref z)) hR_0) dX10_spin_9 ?_
    refine gf_RX10_196 (v := .int 0) C hO 3 cW_3 (congrArg (fun z : Int32 => some (Value.int z)) hI_3_10) dX10_spin_12 ?_
    refine cn_lt (X := (x1).toInt) (Y := 0) hx hb dX10_spin_15 rfl rfl (by omega) ?_ (tgt := 20) (by decide)
    refine lv_iconst (v := (-1)) hx hb dX10_spin_18 (by decide) ?_
    refine hret _ _ _ _ _ _ dX10_spin_19 rfl ?_ hO
    exact ⟨rfl, rfl⟩
theorem dX10_plead_0 : decode cX10_plead 0 = .ok (.aload_n 0, 1) := by decide +kernel
theorem dX10_plead_1 : decode cX10_plead 1 = .ok (.getfield 37, 3) := by decide +kernel
theorem dX10_plead_4 : decode cX10_plead 4 = .ok (.iload_n 1, 1) := by decide +kernel
theorem dX10_plead_5 : decode cX10_plead 5 = .ok (.invokevirtual 144, 3) := by decide +kernel
theorem dX10_plead_8 : decode cX10_plead 8 = .ok (.ifCond .eq 45, 3) := by decide +kernel
theorem dX10_plead_11 : decode cX10_plead 11 = .ok (.aload_n 0, 1) := by decide +kernel
theorem dX10_plead_12 : decode cX10_plead 12 = .ok (.getfield 37, 3) := by decide +kernel
theorem dX10_plead_15 : decode cX10_plead 15 = .ok (.iload_n 2, 1) := by decide +kernel
theorem dX10_plead_16 : decode cX10_plead 16 = .ok (.invokevirtual 138, 3) := by decide +kernel
theorem dX10_plead_19 : decode cX10_plead 19 = .ok (.ifCond .eq 34, 3) := by decide +kernel
theorem dX10_plead_22 : decode cX10_plead 22 = .ok (.aload_n 0, 1) := by decide +kernel
theorem dX10_plead_23 : decode cX10_plead 23 = .ok (.getfield 37, 3) := by decide +kernel
theorem dX10_plead_26 : decode cX10_plead 26 = .ok (.iload_n 1, 1) := by decide +kernel
theorem dX10_plead_27 : decode cX10_plead 27 = .ok (.iload_n 2, 1) := by decide +kernel
theorem dX10_plead_28 : decode cX10_plead 28 = .ok (.invokevirtual 176, 3) := by decide +kernel
theorem dX10_plead_31 : decode cX10_plead 31 = .ok (.ifCond .ne 22, 3) := by decide +kernel
theorem dX10_plead_34 : decode cX10_plead 34 = .ok (.aload_n 0, 1) := by decide +kernel
theorem dX10_plead_35 : decode cX10_plead 35 = .ok (.getfield 37, 3) := by decide +kernel
theorem dX10_plead_38 : decode cX10_plead 38 = .ok (.getfield 150, 3) := by decide +kernel
theorem dX10_plead_41 : decode cX10_plead 41 = .ok (.bipush 11, 2) := by decide +kernel
theorem dX10_plead_43 : decode cX10_plead 43 = .ok (.iload_n 1, 1) := by decide +kernel
theorem dX10_plead_44 : decode cX10_plead 44 = .ok (.iadd, 1) := by decide +kernel
theorem dX10_plead_45 : decode cX10_plead 45 = .ok (.iaload, 1) := by decide +kernel
theorem dX10_plead_46 : decode cX10_plead 46 = .ok (.invokestatic 180, 3) := by decide +kernel
theorem dX10_plead_49 : decode cX10_plead 49 = .ok (.iconst 4, 1) := by decide +kernel
theorem dX10_plead_50 : decode cX10_plead 50 = .ok (.if_icmp .lt 6, 3) := by decide +kernel
theorem dX10_plead_53 : decode cX10_plead 53 = .ok (.ldc 159, 2) := by decide +kernel
theorem dX10_plead_55 : decode cX10_plead 55 = .ok (.ireturn, 1) := by decide +kernel
theorem dX10_plead_56 : decode cX10_plead 56 = .ok (.aload_n 0, 1) := by decide +kernel
theorem dX10_plead_57 : decode cX10_plead 57 = .ok (.iload_n 1, 1) := by decide +kernel
theorem dX10_plead_58 : decode cX10_plead 58 = .ok (.iload_n 2, 1) := by decide +kernel
theorem dX10_plead_59 : decode cX10_plead 59 = .ok (.invokevirtual 185, 3) := by decide +kernel
theorem dX10_plead_62 : decode cX10_plead 62 = .ok (.ireturn, 1) := by decide +kernel
theorem wd_943 : (Cond.code ⟨"WebCourt", "plead", "(II)I"⟩ prog_1_method_12_code (3 : Nat) (Option.some FieldType.int)) ∈ gtb := gtb_c4 114 (by decide +kernel) rfl
set_option maxHeartbeats 4000000 in
set_option maxRecDepth 100000 in
theorem T_X10_plead (l : Launch) (D : va_G) (cy : Nat → ClassId) (a : Nat → Nat) (u : St) (hI_3_12 : fI u 3 12 = 0) (hR_0 : fR u 0 = a 3) (x1 : Int32) (x2 : Int32)  : Mi l D cy (cW cy a) yX10_plead (.code yX10_plead cX10_plead 3 (some .int)) (rmo 1 21) [.ref (a 0), .int x1, .int x2] u (fun (r : Int32) (u' : St) => (r = (-1000000000)) ∧ (u' = u)) := by
  refine Mi.of (own := RX10) rfl (by decide) (Nat.le_of_ble_eq_true rfl) ?_
  intro p e s m below meth c A Q ls C hret hO hl
  obtain ⟨hx, hb, hml, hown, ht, hK, hA⟩ := id C
  have hl : lv_has ls 3 [(0, .ref (a 0)), (1, .int x1), (2, .int x2)] := hl
  refine lv_aload_n hx hb dX10_plead_0 rfl (lv_at hl 0 rfl) ?_
  refine gf_RX10_37 (v := .ref (a 28)) C hO 0 cW_0 rfl dX10_plead_1 ?_
  refine lv_iload_n hx hb dX10_plead_4 rfl (lv_at hl 1 rfl) ?_
  refine cVi (w := cW cy a) (As := [.int x1]) (rest := []) C hO (T_X2_hasCase l D cy a _ (by exact hI_3_12) (by exact hR_0) (x1)) (cwV 1 ht (gV wd_841 wd_842 wd_843 wd_115 wd_844) rfl rfl rfl hd_yX2_hasCase ⟨Nat.le_of_ble_eq_true rfl, Nat.le_of_ble_eq_true rfl⟩) 28 rfl cW_28 rfl rfl hl.1 (Nat.le_of_ble_eq_true rfl) dX10_plead_5 rfl ⟨Nat.zero_le _, Nat.zero_le _⟩ (fun r1 u2 H locs hp3 hO => ?_)
  obtain ⟨hr1, hu2⟩ := hp3
  subst hr1
  rw [hu2] at hO
  refine bt_eq (tgt := 53) (X := 0) hx hb dX10_plead_8 (by decide) rfl (by omega) ?_
  refine lv_ldc (v := (-1000000000)) hx hb hown (ht _ wd_895) dX10_plead_53 ?_
  refine hret _ _ _ _ _ _ dX10_plead_55 rfl ?_ hO
  exact ⟨rfl, rfl⟩
theorem dX10_drop_0 : decode cX10_drop 0 = .ok (.aload_n 0, 1) := by decide +kernel
theorem dX10_drop_1 : decode cX10_drop 1 = .ok (.getfield 37, 3) := by decide +kernel
theorem dX10_drop_4 : decode cX10_drop 4 = .ok (.iload_n 1, 1) := by decide +kernel
theorem dX10_drop_5 : decode cX10_drop 5 = .ok (.invokevirtual 144, 3) := by decide +kernel
theorem dX10_drop_8 : decode cX10_drop 8 = .ok (.ifCond .eq 45, 3) := by decide +kernel
theorem dX10_drop_11 : decode cX10_drop 11 = .ok (.aload_n 0, 1) := by decide +kernel
theorem dX10_drop_12 : decode cX10_drop 12 = .ok (.getfield 37, 3) := by decide +kernel
theorem dX10_drop_15 : decode cX10_drop 15 = .ok (.iload_n 2, 1) := by decide +kernel
theorem dX10_drop_16 : decode cX10_drop 16 = .ok (.invokevirtual 138, 3) := by decide +kernel
theorem dX10_drop_19 : decode cX10_drop 19 = .ok (.ifCond .eq 34, 3) := by decide +kernel
theorem dX10_drop_22 : decode cX10_drop 22 = .ok (.aload_n 0, 1) := by decide +kernel
theorem dX10_drop_23 : decode cX10_drop 23 = .ok (.getfield 37, 3) := by decide +kernel
theorem dX10_drop_26 : decode cX10_drop 26 = .ok (.iload_n 1, 1) := by decide +kernel
theorem dX10_drop_27 : decode cX10_drop 27 = .ok (.iload_n 2, 1) := by decide +kernel
theorem dX10_drop_28 : decode cX10_drop 28 = .ok (.invokevirtual 176, 3) := by decide +kernel
theorem dX10_drop_31 : decode cX10_drop 31 = .ok (.ifCond .eq 22, 3) := by decide +kernel
theorem dX10_drop_34 : decode cX10_drop 34 = .ok (.aload_n 0, 1) := by decide +kernel
theorem dX10_drop_35 : decode cX10_drop 35 = .ok (.getfield 37, 3) := by decide +kernel
theorem dX10_drop_38 : decode cX10_drop 38 = .ok (.getfield 150, 3) := by decide +kernel
theorem dX10_drop_41 : decode cX10_drop 41 = .ok (.bipush 11, 2) := by decide +kernel
theorem dX10_drop_43 : decode cX10_drop 43 = .ok (.iload_n 1, 1) := by decide +kernel
theorem dX10_drop_44 : decode cX10_drop 44 = .ok (.iadd, 1) := by decide +kernel
theorem dX10_drop_45 : decode cX10_drop 45 = .ok (.iaload, 1) := by decide +kernel
theorem dX10_drop_46 : decode cX10_drop 46 = .ok (.invokestatic 180, 3) := by decide +kernel
theorem dX10_drop_49 : decode cX10_drop 49 = .ok (.iconst 1, 1) := by decide +kernel
theorem dX10_drop_50 : decode cX10_drop 50 = .ok (.if_icmp .gt 6, 3) := by decide +kernel
theorem dX10_drop_53 : decode cX10_drop 53 = .ok (.ldc 159, 2) := by decide +kernel
theorem dX10_drop_55 : decode cX10_drop 55 = .ok (.ireturn, 1) := by decide +kernel
theorem dX10_drop_56 : decode cX10_drop 56 = .ok (.aload_n 0, 1) := by decide +kernel
theorem dX10_drop_57 : decode cX10_drop 57 = .ok (.iload_n 1, 1) := by decide +kernel
theorem dX10_drop_58 : decode cX10_drop 58 = .ok (.iload_n 2, 1) := by decide +kernel
theorem dX10_drop_59 : decode cX10_drop 59 = .ok (.invokevirtual 185, 3) := by decide +kernel
theorem dX10_drop_62 : decode cX10_drop 62 = .ok (.ireturn, 1) := by decide +kernel
theorem wd_956 : (Cond.code ⟨"WebCourt", "drop", "(II)I"⟩ prog_1_method_13_code (3 : Nat) (Option.some FieldType.int)) ∈ gtb := gtb_c4 127 (by decide +kernel) rfl
set_option maxHeartbeats 4000000 in
set_option maxRecDepth 100000 in
theorem T_X10_drop (l : Launch) (D : va_G) (cy : Nat → ClassId) (a : Nat → Nat) (u : St) (hI_3_12 : fI u 3 12 = 0) (hR_0 : fR u 0 = a 3) (x1 : Int32) (x2 : Int32)  : Mi l D cy (cW cy a) yX10_drop (.code yX10_drop cX10_drop 3 (some .int)) (rmo 1 21) [.ref (a 0), .int x1, .int x2] u (fun (r : Int32) (u' : St) => (r = (-1000000000)) ∧ (u' = u)) := by
  refine Mi.of (own := RX10) rfl (by decide) (Nat.le_of_ble_eq_true rfl) ?_
  intro p e s m below meth c A Q ls C hret hO hl
  obtain ⟨hx, hb, hml, hown, ht, hK, hA⟩ := id C
  have hl : lv_has ls 3 [(0, .ref (a 0)), (1, .int x1), (2, .int x2)] := hl
  refine lv_aload_n hx hb dX10_drop_0 rfl (lv_at hl 0 rfl) ?_
  refine gf_RX10_37 (v := .ref (a 28)) C hO 0 cW_0 rfl dX10_drop_1 ?_
  refine lv_iload_n hx hb dX10_drop_4 rfl (lv_at hl 1 rfl) ?_
  refine cVi (w := cW cy a) (As := [.int x1]) (rest := []) C hO (T_X2_hasCase l D cy a _ (by exact hI_3_12) (by exact hR_0) (x1)) (cwV 1 ht (gV wd_841 wd_842 wd_843 wd_115 wd_844) rfl rfl rfl hd_yX2_hasCase ⟨Nat.le_of_ble_eq_true rfl, Nat.le_of_ble_eq_true rfl⟩) 28 rfl cW_28 rfl rfl hl.1 (Nat.le_of_ble_eq_true rfl) dX10_drop_5 rfl ⟨Nat.zero_le _, Nat.zero_le _⟩ (fun r1 u2 H locs hp3 hO => ?_)
  obtain ⟨hr1, hu2⟩ := hp3
  subst hr1
  rw [hu2] at hO
  refine bt_eq (tgt := 53) (X := 0) hx hb dX10_drop_8 (by decide) rfl (by omega) ?_
  refine lv_ldc (v := (-1000000000)) hx hb hown (ht _ wd_895) dX10_drop_53 ?_
  refine hret _ _ _ _ _ _ dX10_drop_55 rfl ?_ hO
  exact ⟨rfl, rfl⟩
