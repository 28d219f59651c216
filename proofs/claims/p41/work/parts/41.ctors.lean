
theorem Wo.swap {D : va_G} {A : Nat → Prop} {a b c : va_W} {H0 H : Heap} {locs : List Loc} (h : Wo D A ((a ++ b) ++ c) H0 H locs) : Wo D A ((a ++ c) ++ b) H0 H locs := ⟨h.1.swap, h.2.1.swap, h.2.2⟩
theorem Wo.perm {D : va_G} {A : Nat → Prop} {X X' pl : va_W} {H0 H : Heap} {locs : List Loc} (h : Wo D A (X ++ pl) H0 H locs) (is : List Nat) (hn : va_nd is = true) (hs : is.map (fun i => X[i]?) = X'.map some) : Wo D A (X' ++ pl) H0 H locs := by
  have hlen : is.length = X'.length := by have := congrArg List.length hs; simpa using this
  have hat : ∀ k : Nat, k < X'.length → ∃ i, is[k]? = some i ∧ i < X.length := by
    intro k hk
    obtain ⟨i, hi⟩ : ∃ i, is[k]? = some i := ⟨_, List.getElem?_eq_getElem (by omega)⟩
    have h1 : (is.map (fun i => X[i]?))[k]? = some (some (X'[k])) := by rw [hs, List.getElem?_map, List.getElem?_eq_getElem hk]; rfl
    rw [List.getElem?_map, hi] at h1
    exact ⟨i, hi, (List.getElem?_eq_some_iff.mp (Option.some.inj h1)).1⟩
  refine ⟨h.1.by _ (va_part is hs), h.2.1.by _ (va_part is hs) (fun i j hi hj e => ?_), h.2.2⟩
  by_cases h1 : i < X'.length <;> by_cases h2 : j < X'.length
  · obtain ⟨a, ha, hla⟩ := hat i h1
    obtain ⟨b, hb, hlb⟩ := hat j h2
    rw [if_pos h1, if_pos h2, ha, hb] at e
    have e2 : a = b := e
    subst e2
    exact va_nd_inj is hn i j a ha hb
  · obtain ⟨a, ha, hla⟩ := hat i h1
    rw [if_pos h1, if_neg h2, ha] at e
    have e2 : a = X.length + (j - X'.length) := e
    omega
  · obtain ⟨b, hb, hlb⟩ := hat j h2
    rw [if_neg h1, if_pos h2, hb] at e
    have e2 : X.length + (i - X'.length) = b := e
    omega
  · rw [if_neg h1, if_neg h2] at e
    omega
section CT2
variable {p : Program} {l : Launch} {e : Env} {R : Room} {s : State} {m : MethodId} {args : Array Value} {below : List Frame} {meth : Method} {c : Code} {H : Heap} {locs : List Loc} {cells slots : Nat} {Q : State → Prop}
variable {cc : ByteArray} {pc nL : Nat} {ls : Array Slot} {rest : List Value} {D : va_G} {cy : Nat → ClassId} {A : Nat → Prop} {own : String} {X pl : va_W} {b : Nat}
theorem dI {S : Type} {y : MethodName} {bytes : ByteArray} {maxL n index mc ms : Nat} {rm : Room} {As : List Value} {wc wr : va_W} {wf : S → va_W} {post : S → Prop} (C : Cx p s m args c cc nL own D cy A) (hQ : KQ D cy s) (hO : Wo D A (X ++ pl) s.heap H locs) (isC isR : List Nat) (hC : isC.map (fun i => X[i]?) = wc.map some) (hR : isR.map (fun i => X[i]?) = wr.map some) (hnC : va_nd isC = true) (hnR : va_nd isR = true) (hdis : ∀ i ∈ isR, i ∉ isC)
    (hM : Mc l D cy y (.code y bytes maxL none) rm (.ref b :: As) wc wf post mc ms)
    (cw : CallB R s args own index y bytes maxL none (.code y bytes maxL none :: gtb) rm mc ms n ∧ y.name = "<init>" ∧ (Cond.instanceMethod y).before args s = true) (hn : As.length = n) (hls : ls.size = nL) (hW : (rest.map fun v => v.category).sum ≤ 8) (hdg : decode cc pc = .ok (.invokespecial index, 3)) {st : List Value} (hst : st = As.reverse ++ .ref b :: rest) (hf : cells + mc ≤ R.cells ∧ slots + ms ≤ R.slots)
    (kk : ∀ (u : S) (H : Heap) (locs : List Loc), post u → Wo D A ((wr ++ wf u) ++ pl) s.heap H locs → W p l e R s m args below meth c H locs (cells + mc) (slots + ms) Q (F0 m (pc + 3) ls rest)) : W p l e R s m args below meth c H locs cells slots Q (F0 m pc ls st) := by
  have hOc : Wo D A (wc ++ pl) s.heap H locs := hO.perm isC hnC hC
  obtain ⟨hx, hb, hml, hown, ht, hK, hA, hG⟩ := C
  obtain ⟨hP, hD, hS⟩ := hO
  subst hst
  have hPc : va_P D vwCl wc H := fun k q hk => hOc.1 k q (by rw [List.getElem?_append_left (List.getElem?_eq_some_iff.mp hk).1]; exact hk)
  have hDc : va_D A wc := hOc.2.1.by (fun k => k) (fun k q hk => by rw [List.getElem?_append_left (List.getElem?_eq_some_iff.mp hk).1]; exact hk) (fun i j _ _ h => h)
  have hF : ∀ q, va_A wc H.size q → A q := fun q h => hDc.self' hS hA h
  refine va_callv (va_runI (As := As) (rest := rest) ⟨hx, hb, hml, hown, ht⟩ (hM H.size) cw ⟨fun a U g mk q => by obtain ⟨q0, q1, qP, qK, qD, qG⟩ := q; exact ⟨q0, q1, qP, qK.call, qD, qG.call⟩, fun U hU hW => ⟨rfl, by rw [hU], by rw [hU]; exact hPc, hQ.warm hW, hDc.weaken (fun _ _ _ _ => trivial), by rw [hU]; exact ((hG.kept hS.2.1).narrow hF).warm hW⟩⟩ rfl hn hls rfl (lv_room hW) hdg hf) hS (fun q _ h => hF q h) hF (fun u t H1 locs1 ht1 hvm hp hB hz hk hS1 => ?_)
  obtain ⟨hP1, hK1, hD1⟩ := hB
  rw [ht1] at hP1
  obtain ⟨hP2, hD2⟩ := va_joinQ hP hD isC isR hC hR hnR hdis hk hF hP1 hD1
  exact kk u H1 locs1 hp ⟨hP2, hD2, hS1⟩
theorem dIN {S : Type} {host : String} {y : MethodName} {bytes : ByteArray} {maxL n index mc ms : Nat} {rm : Room} {As : List Value} {wc wr : va_W} {wf : S → va_W} {post : S → Prop} (C : Cx p s m args c cc nL own D cy A) (hQ : KQ D cy s) (hO : Wo D A (X ++ pl) s.heap H locs) (isC isR : List Nat) (hC : isC.map (fun i => X[i]?) = wc.map some) (hR : isR.map (fun i => X[i]?) = wr.map some) (hnC : va_nd isC = true) (hnR : va_nd isR = true) (hdis : ∀ i ∈ isR, i ∉ isC)
    (hM : Mc l D cy y (.code y bytes maxL none) rm (.ref b :: As) wc wf post mc ms)
    (cw : va_CN R s args own index y host bytes maxL none (.code y bytes maxL none :: gtb) rm mc ms n ∧ y.name = "<init>" ∧ (Cond.instanceMethod y).before args s = true) (hn : As.length = n) (hls : ls.size = nL) (hW : (rest.map fun v => v.category).sum ≤ 8) (hdg : decode cc pc = .ok (.invokespecial index, 3)) {st : List Value} (hst : st = As.reverse ++ .ref b :: rest) (hf : cells + mc ≤ R.cells ∧ slots + ms ≤ R.slots)
    (kk : ∀ (u : S) (H : Heap) (locs : List Loc), post u → Wo D A ((wr ++ wf u) ++ pl) s.heap H locs → W p l e R s m args below meth c H locs (cells + mc) (slots + ms) Q (F0 m (pc + 3) ls rest)) : W p l e R s m args below meth c H locs cells slots Q (F0 m pc ls st) := by
  have hOc : Wo D A (wc ++ pl) s.heap H locs := hO.perm isC hnC hC
  obtain ⟨hx, hb, hml, hown, ht, hK, hA, hG⟩ := C
  obtain ⟨hP, hD, hS⟩ := hO
  subst hst
  have hPc : va_P D vwCl wc H := fun k q hk => hOc.1 k q (by rw [List.getElem?_append_left (List.getElem?_eq_some_iff.mp hk).1]; exact hk)
  have hDc : va_D A wc := hOc.2.1.by (fun k => k) (fun k q hk => by rw [List.getElem?_append_left (List.getElem?_eq_some_iff.mp hk).1]; exact hk) (fun i j _ _ h => h)
  have hF : ∀ q, va_A wc H.size q → A q := fun q h => hDc.self' hS hA h
  refine va_callv (va_runIN (As := As) (rest := rest) ⟨hx, hb, hml, hown, ht⟩ (hM H.size) cw ⟨fun a U g mk q => by obtain ⟨q0, q1, qP, qK, qD, qG⟩ := q; exact ⟨q0, q1, qP, qK.call, qD, qG.call⟩, fun U hU hW => ⟨rfl, by rw [hU], by rw [hU]; exact hPc, hQ.warm hW, hDc.weaken (fun _ _ _ _ => trivial), by rw [hU]; exact ((hG.kept hS.2.1).narrow hF).warm hW⟩⟩ rfl hn hls rfl (lv_room hW) hdg hf) hS (fun q _ h => hF q h) hF (fun u t H1 locs1 ht1 hvm hp hB hz hk hS1 => ?_)
  obtain ⟨hP1, hK1, hD1⟩ := hB
  rw [ht1] at hP1
  obtain ⟨hP2, hD2⟩ := va_joinQ hP hD isC isR hC hR hnR hdis hk hF hP1 hD1
  exact kk u H1 locs1 hp ⟨hP2, hD2, hS1⟩
end CT2
theorem dX4_init_0 : decode cX4_init 0 = .ok (.aload_n 0, 1) := by decide +kernel
theorem dX4_init_1 : decode cX4_init 1 = .ok (.invokespecial 3, 3) := by decide +kernel
theorem dX4_init_4 : decode cX4_init 4 = .ok (.aload_n 0, 1) := by decide +kernel
theorem dX4_init_5 : decode cX4_init 5 = .ok (.sipush 300, 3) := by decide +kernel
theorem dX4_init_8 : decode cX4_init 8 = .ok (.newarray .int, 2) := by decide +kernel
theorem dX4_init_10 : decode cX4_init 10 = .ok (.putfield 11, 3) := by decide +kernel
theorem dX4_init_13 : decode cX4_init 13 = .ok (.aload_n 0, 1) := by decide +kernel
theorem dX4_init_14 : decode cX4_init 14 = .ok (.bipush 31, 2) := by decide +kernel
theorem dX4_init_16 : decode cX4_init 16 = .ok (.newarray .int, 2) := by decide +kernel
theorem dX4_init_18 : decode cX4_init 18 = .ok (.putfield 15, 3) := by decide +kernel
theorem dX4_init_21 : decode cX4_init 21 = .ok (.return_, 1) := by decide +kernel
theorem wd_181 : (Cond.code ⟨"WebCourt$Law", "<init>", "()V"⟩ prog_6_method_1_code (1 : Nat) (Option.none : Option FieldType)) ∈ gtb := gtb_c1 72 (by decide +kernel) rfl
theorem wd_182 : (Cond.methodLink "WebCourt$Law" (3 : Nat) ⟨"java/lang/Object", "<init>", "()V"⟩) ∈ gtb := gtb_c1 73 (by decide +kernel) rfl
theorem wd_135 : (Cond.instanceMethod ⟨"java/lang/Object", "<init>", "()V"⟩) ∈ gtb := gtb_c1 26 (by decide +kernel) rfl
theorem wd_136 : (Cond.code ⟨"java/lang/Object", "<init>", "()V"⟩ object_method_1_code (1 : Nat) (Option.none : Option FieldType)) ∈ gtb := gtb_c1 27 (by decide +kernel) rfl
theorem wd_220 : (Cond.arrayClass FieldType.int) ∈ gtb := gtb_c1 111 (by decide +kernel) rfl
set_option maxHeartbeats 8000000 in
set_option maxRecDepth 100000 in
theorem K_X4 (l : Launch) (D : va_G) (cy : Nat → ClassId) (h0 : Nat) : Mc (S := Nat → Nat) l D cy yX4_init (.code yX4_init cX4_init 1 none) { frames := 1, cells := 2, slots := 331, locals := 20 } [.ref h0] [(h0, .inr (4, [.null, .null, .int 0, .int 0, .int 0, .int 0, .int 0, .int 0, .int 0, .int 0, .int 0]))] (fun q => [(h0, .inr (4, [.ref (q 0), .ref (q 1), .int 0, .int 0, .int 0, .int 0, .int 0, .int 0, .int 0, .int 0, .int 0])), ((q 0), .inl (cy 1, 300, .inl (fun _ => 0))), ((q 1), .inl (cy 1, 31, .inl (fun _ => 0)))]) (fun _ => True) 2 331 := by
  refine Mc.of (own := RX4) rfl rfl (by decide) (Nat.le_of_ble_eq_true rfl) ?_
  intro p e s m below meth c A Q ls C hQ hin hret hO hl
  obtain ⟨hx, hb, hml, hown, ht, hK, hA⟩ := id C
  have hl : lv_has ls 1 [(0, .ref h0)] := hl
  have hO : Wo D A ([(h0, .inr (4, [.null, .null, .int 0, .int 0, .int 0, .int 0, .int 0, .int 0, .int 0, .int 0, .int 0]))] ++ ([] : va_W)) s.heap s.heap [] := hO
  refine lv_aload_n hx hb dX4_init_0 rfl (lv_at hl 0 rfl) ?_
  refine oI C wd_182 wd_135 wd_136 hl.1 dX4_init_1 (Nat.le_of_ble_eq_true rfl) (Nat.le_of_ble_eq_true rfl) ?_
  refine lv_aload_n hx hb dX4_init_4 rfl (lv_at hl 0 rfl) ?_
  refine lv_sipush (v := 300) hx hb dX4_init_5 (by decide) ?_
  refine nAI (N := 300) C hO wd_220 (by decide) rfl (Nat.le_of_ble_eq_true rfl) (Nat.le_of_ble_eq_true rfl) (Nat.le_of_ble_eq_true rfl) dX4_init_8 (fun q1 H hO => ?_)
  have hO := hO.swap
  have hO : Wo D A ([(h0, .inr (4, [.null, .null, .int 0, .int 0, .int 0, .int 0, .int 0, .int 0, .int 0, .int 0, .int 0])), (q1, .inl (cy 1, 300, .inl (fun _ => 0)))] ++ ([] : va_W)) s.heap H [] := hO
  refine pFF (k := 0) (ws' := [(h0, .inr (4, [.ref q1, .null, .int 0, .int 0, .int 0, .int 0, .int 0, .int 0, .int 0, .int 0, .int 0])), (q1, .inl (cy 1, 300, .inl (fun _ => 0)))] ++ ([] : va_W)) (ty := tyX4 0) (v := .ref q1) C hin hO 0 rfl rfl inFX4 (by decide) wd_183 rfl rfl tyX4 tyX4_ok nmX4 rfl (by decide +kernel) rfl rfl (Nat.le_of_ble_eq_true rfl) rfl dX4_init_10 (fun H locs hO => ?_)
  refine lv_aload_n hx hb dX4_init_13 rfl (lv_at hl 0 rfl) ?_
  refine lv_bipush (v := 31) hx hb dX4_init_14 (by decide) ?_
  refine nAI (N := 31) C hO wd_220 (by decide) rfl (Nat.le_of_ble_eq_true rfl) (Nat.le_of_ble_eq_true rfl) (Nat.le_of_ble_eq_true rfl) dX4_init_16 (fun q2 H hO => ?_)
  have hO := hO.swap
  have hO : Wo D A ([(h0, .inr (4, [.ref q1, .null, .int 0, .int 0, .int 0, .int 0, .int 0, .int 0, .int 0, .int 0, .int 0])), (q1, .inl (cy 1, 300, .inl (fun _ => 0))), (q2, .inl (cy 1, 31, .inl (fun _ => 0)))] ++ ([] : va_W)) s.heap H locs := hO
  refine pFF (k := 1) (ws' := [(h0, .inr (4, [.ref q1, .ref q2, .int 0, .int 0, .int 0, .int 0, .int 0, .int 0, .int 0, .int 0, .int 0])), (q1, .inl (cy 1, 300, .inl (fun _ => 0))), (q2, .inl (cy 1, 31, .inl (fun _ => 0)))] ++ ([] : va_W)) (ty := tyX4 1) (v := .ref q2) C hin hO 0 rfl rfl inFX4 (by decide) wd_184 rfl rfl tyX4 tyX4_ok nmX4 rfl (by decide +kernel) rfl rfl (Nat.le_of_ble_eq_true rfl) rfl dX4_init_18 (fun H locs hO => ?_)
  exact hret (fun i => ([q1, q2] : List Nat).getD i 0) _ _ _ _ dX4_init_21 trivial hO
theorem dX7_init_0 : decode cX7_init 0 = .ok (.aload_n 0, 1) := by decide +kernel
theorem dX7_init_1 : decode cX7_init 1 = .ok (.invokespecial 3, 3) := by decide +kernel
theorem dX7_init_4 : decode cX7_init 4 = .ok (.aload_n 0, 1) := by decide +kernel
theorem dX7_init_5 : decode cX7_init 5 = .ok (.sipush 1600, 3) := by decide +kernel
theorem dX7_init_8 : decode cX7_init 8 = .ok (.newarray .byte, 2) := by decide +kernel
theorem dX7_init_10 : decode cX7_init 10 = .ok (.putfield 9, 3) := by decide +kernel
theorem dX7_init_13 : decode cX7_init 13 = .ok (.return_, 1) := by decide +kernel
theorem wd_141 : (Cond.code ⟨"WebCourt$Tape", "<init>", "()V"⟩ prog_9_method_1_code (1 : Nat) (Option.none : Option FieldType)) ∈ gtb := gtb_c1 32 (by decide +kernel) rfl
theorem wd_142 : (Cond.methodLink "WebCourt$Tape" (3 : Nat) ⟨"java/lang/Object", "<init>", "()V"⟩) ∈ gtb := gtb_c1 33 (by decide +kernel) rfl
theorem wd_170 : (Cond.arrayClass FieldType.byte) ∈ gtb := gtb_c1 61 (by decide +kernel) rfl
set_option maxHeartbeats 8000000 in
set_option maxRecDepth 100000 in
theorem K_X7 (l : Launch) (D : va_G) (cy : Nat → ClassId) (h0 : Nat) : Mc (S := Nat → Nat) l D cy yX7_init (.code yX7_init cX7_init 1 none) { frames := 1, cells := 1, slots := 1600, locals := 20 } [.ref h0] [(h0, .inr (7, [.null, .int 0, .int 0, .int 0, .int 0, .long 0, .int 0]))] (fun q => [(h0, .inr (7, [.ref (q 0), .int 0, .int 0, .int 0, .int 0, .long 0, .int 0])), ((q 0), .inl (cy 0, 1600, .inl (fun _ => 0)))]) (fun _ => True) 1 1600 := by
  refine Mc.of (own := RX7) rfl rfl (by decide) (Nat.le_of_ble_eq_true rfl) ?_
  intro p e s m below meth c A Q ls C hQ hin hret hO hl
  obtain ⟨hx, hb, hml, hown, ht, hK, hA⟩ := id C
  have hl : lv_has ls 1 [(0, .ref h0)] := hl
  have hO : Wo D A ([(h0, .inr (7, [.null, .int 0, .int 0, .int 0, .int 0, .long 0, .int 0]))] ++ ([] : va_W)) s.heap s.heap [] := hO
  refine lv_aload_n hx hb dX7_init_0 rfl (lv_at hl 0 rfl) ?_
  refine oI C wd_142 wd_135 wd_136 hl.1 dX7_init_1 (Nat.le_of_ble_eq_true rfl) (Nat.le_of_ble_eq_true rfl) ?_
  refine lv_aload_n hx hb dX7_init_4 rfl (lv_at hl 0 rfl) ?_
  refine lv_sipush (v := 1600) hx hb dX7_init_5 (by decide) ?_
  refine nAB (N := 1600) C hO wd_170 (by decide) rfl (Nat.le_of_ble_eq_true rfl) (Nat.le_of_ble_eq_true rfl) (Nat.le_of_ble_eq_true rfl) dX7_init_8 (fun q1 H hO => ?_)
  have hO := hO.swap
  have hO : Wo D A ([(h0, .inr (7, [.null, .int 0, .int 0, .int 0, .int 0, .long 0, .int 0])), (q1, .inl (cy 0, 1600, .inl (fun _ => 0)))] ++ ([] : va_W)) s.heap H [] := hO
  refine pFF (k := 0) (ws' := [(h0, .inr (7, [.ref q1, .int 0, .int 0, .int 0, .int 0, .long 0, .int 0])), (q1, .inl (cy 0, 1600, .inl (fun _ => 0)))] ++ ([] : va_W)) (ty := tyX7 0) (v := .ref q1) C hin hO 0 rfl rfl inFX7 (by decide) wd_143 rfl rfl tyX7 tyX7_ok nmX7 rfl (by decide +kernel) rfl rfl (Nat.le_of_ble_eq_true rfl) rfl dX7_init_10 (fun H locs hO => ?_)
  exact hret (fun i => ([q1] : List Nat).getD i 0) _ _ _ _ dX7_init_13 trivial hO
theorem dX9_init_0 : decode cX9_init 0 = .ok (.aload_n 0, 1) := by decide +kernel
theorem dX9_init_1 : decode cX9_init 1 = .ok (.invokespecial 3, 3) := by decide +kernel
theorem dX9_init_4 : decode cX9_init 4 = .ok (.aload_n 0, 1) := by decide +kernel
theorem dX9_init_5 : decode cX9_init 5 = .ok (.bipush 8, 2) := by decide +kernel
theorem dX9_init_7 : decode cX9_init 7 = .ok (.newarray .long, 2) := by decide +kernel
theorem dX9_init_9 : decode cX9_init 9 = .ok (.putfield 9, 3) := by decide +kernel
theorem dX9_init_12 : decode cX9_init 12 = .ok (.aload_n 0, 1) := by decide +kernel
theorem dX9_init_13 : decode cX9_init 13 = .ok (.bipush 8, 2) := by decide +kernel
theorem dX9_init_15 : decode cX9_init 15 = .ok (.newarray .long, 2) := by decide +kernel
theorem dX9_init_17 : decode cX9_init 17 = .ok (.putfield 15, 3) := by decide +kernel
theorem dX9_init_20 : decode cX9_init 20 = .ok (.aload_n 0, 1) := by decide +kernel
theorem dX9_init_21 : decode cX9_init 21 = .ok (.bipush 6, 2) := by decide +kernel
theorem dX9_init_23 : decode cX9_init 23 = .ok (.newarray .long, 2) := by decide +kernel
theorem dX9_init_25 : decode cX9_init 25 = .ok (.putfield 18, 3) := by decide +kernel
theorem dX9_init_28 : decode cX9_init 28 = .ok (.aload_n 0, 1) := by decide +kernel
theorem dX9_init_29 : decode cX9_init 29 = .ok (.bipush 14, 2) := by decide +kernel
theorem dX9_init_31 : decode cX9_init 31 = .ok (.newarray .int, 2) := by decide +kernel
theorem dX9_init_33 : decode cX9_init 33 = .ok (.putfield 21, 3) := by decide +kernel
theorem dX9_init_36 : decode cX9_init 36 = .ok (.aload_n 0, 1) := by decide +kernel
theorem dX9_init_37 : decode cX9_init 37 = .ok (.bipush 14, 2) := by decide +kernel
theorem dX9_init_39 : decode cX9_init 39 = .ok (.newarray .int, 2) := by decide +kernel
theorem dX9_init_41 : decode cX9_init 41 = .ok (.putfield 25, 3) := by decide +kernel
theorem dX9_init_44 : decode cX9_init 44 = .ok (.aload_n 0, 1) := by decide +kernel
theorem dX9_init_45 : decode cX9_init 45 = .ok (.bipush 8, 2) := by decide +kernel
theorem dX9_init_47 : decode cX9_init 47 = .ok (.newarray .int, 2) := by decide +kernel
theorem dX9_init_49 : decode cX9_init 49 = .ok (.putfield 28, 3) := by decide +kernel
theorem dX9_init_52 : decode cX9_init 52 = .ok (.aload_n 0, 1) := by decide +kernel
theorem dX9_init_53 : decode cX9_init 53 = .ok (.bipush 6, 2) := by decide +kernel
theorem dX9_init_55 : decode cX9_init 55 = .ok (.newarray .int, 2) := by decide +kernel
theorem dX9_init_57 : decode cX9_init 57 = .ok (.putfield 31, 3) := by decide +kernel
theorem dX9_init_60 : decode cX9_init 60 = .ok (.aload_n 0, 1) := by decide +kernel
theorem dX9_init_61 : decode cX9_init 61 = .ok (.bipush 6, 2) := by decide +kernel
theorem dX9_init_63 : decode cX9_init 63 = .ok (.newarray .int, 2) := by decide +kernel
theorem dX9_init_65 : decode cX9_init 65 = .ok (.putfield 34, 3) := by decide +kernel
theorem dX9_init_68 : decode cX9_init 68 = .ok (.aload_n 0, 1) := by decide +kernel
theorem dX9_init_69 : decode cX9_init 69 = .ok (.new 37, 3) := by decide +kernel
theorem dX9_init_72 : decode cX9_init 72 = .ok (.dup, 1) := by decide +kernel
theorem dX9_init_73 : decode cX9_init 73 = .ok (.invokespecial 39, 3) := by decide +kernel
theorem dX9_init_76 : decode cX9_init 76 = .ok (.putfield 40, 3) := by decide +kernel
theorem dX9_init_79 : decode cX9_init 79 = .ok (.return_, 1) := by decide +kernel
theorem wd_175 : (Cond.code ⟨"WebCourt$Web", "<init>", "()V"⟩ prog_11_method_1_code (1 : Nat) (Option.none : Option FieldType)) ∈ gtb := gtb_c1 66 (by decide +kernel) rfl
theorem wd_176 : (Cond.methodLink "WebCourt$Web" (3 : Nat) ⟨"java/lang/Object", "<init>", "()V"⟩) ∈ gtb := gtb_c1 67 (by decide +kernel) rfl
theorem wd_219 : (Cond.arrayClass FieldType.long) ∈ gtb := gtb_c1 110 (by decide +kernel) rfl
theorem wd_221 : (Cond.fieldLink "WebCourt$Web" (9 : Nat) "WebCourt$Web" "knotNames" "[J") ∈ gtb := gtb_c1 112 (by decide +kernel) rfl
theorem wd_223 : (Cond.fieldLink "WebCourt$Web" (15 : Nat) "WebCourt$Web" "pleaNames" "[J") ∈ gtb := gtb_c1 114 (by decide +kernel) rfl
theorem wd_225 : (Cond.fieldLink "WebCourt$Web" (18 : Nat) "WebCourt$Web" "caseNames" "[J") ∈ gtb := gtb_c1 116 (by decide +kernel) rfl
theorem wd_177 : (Cond.classLink "WebCourt$Web" (37 : Nat) "WebCourt$Law") ∈ gtb := gtb_c1 68 (by decide +kernel) rfl
theorem wd_178 : (Cond.instantiable "WebCourt$Law" (11 : Nat)) ∈ gtb := gtb_c1 69 (by decide +kernel) rfl
theorem hd_yX4_init : yX4_init.cls ≠ "java/lang/invoke/MethodHandle" ∧ yX4_init.cls ≠ "java/lang/invoke/VarHandle" ∧ (parseMethodDescriptor yX4_init.desc).map (fun d => d.parameters.length) = some 0 := by decide +kernel
theorem wd_180 : (Cond.instanceMethod ⟨"WebCourt$Law", "<init>", "()V"⟩) ∈ gtb := gtb_c1 71 (by decide +kernel) rfl
set_option maxHeartbeats 8000000 in
set_option maxRecDepth 100000 in
theorem K_X9 (l : Launch) (D : va_G) (cy : Nat → ClassId) (h0 : Nat) : Mc (S := Nat → Nat) l D cy yX9_init (.code yX9_init cX9_init 1 none) { frames := 2, cells := 11, slots := 412, locals := 40 } [.ref h0] [(h0, .inr (9, [.null, .null, .null, .null, .null, .null, .null, .null, .null, .int 0, .int 0, .int 0, .int 0, .int 0, .int 0, .int 0, .int 0, .int 0]))] (fun q => [(h0, .inr (9, [.ref (q 0), .ref (q 1), .ref (q 2), .ref (q 3), .ref (q 4), .ref (q 5), .ref (q 6), .ref (q 7), .ref (q 8), .int 0, .int 0, .int 0, .int 0, .int 0, .int 0, .int 0, .int 0, .int 0])), ((q 0), .inl (cy 2, 8, .inr (.inl (fun _ => 0)))), ((q 1), .inl (cy 2, 8, .inr (.inl (fun _ => 0)))), ((q 2), .inl (cy 2, 6, .inr (.inl (fun _ => 0)))), ((q 3), .inl (cy 1, 14, .inl (fun _ => 0))), ((q 4), .inl (cy 1, 14, .inl (fun _ => 0))), ((q 5), .inl (cy 1, 8, .inl (fun _ => 0))), ((q 6), .inl (cy 1, 6, .inl (fun _ => 0))), ((q 7), .inl (cy 1, 6, .inl (fun _ => 0))), ((q 8), .inr (4, [.ref (q 9), .ref (q 10), .int 0, .int 0, .int 0, .int 0, .int 0, .int 0, .int 0, .int 0, .int 0])), ((q 9), .inl (cy 1, 300, .inl (fun _ => 0))), ((q 10), .inl (cy 1, 31, .inl (fun _ => 0)))]) (fun _ => True) 11 412 := by
  refine Mc.of (own := RX9) rfl rfl (by decide) (Nat.le_of_ble_eq_true rfl) ?_
  intro p e s m below meth c A Q ls C hQ hin hret hO hl
  obtain ⟨hx, hb, hml, hown, ht, hK, hA⟩ := id C
  have hl : lv_has ls 1 [(0, .ref h0)] := hl
  have hO : Wo D A ([(h0, .inr (9, [.null, .null, .null, .null, .null, .null, .null, .null, .null, .int 0, .int 0, .int 0, .int 0, .int 0, .int 0, .int 0, .int 0, .int 0]))] ++ ([] : va_W)) s.heap s.heap [] := hO
  refine lv_aload_n hx hb dX9_init_0 rfl (lv_at hl 0 rfl) ?_
  refine oI C wd_176 wd_135 wd_136 hl.1 dX9_init_1 (Nat.le_of_ble_eq_true rfl) (Nat.le_of_ble_eq_true rfl) ?_
  refine lv_aload_n hx hb dX9_init_4 rfl (lv_at hl 0 rfl) ?_
  refine lv_bipush (v := 8) hx hb dX9_init_5 (by decide) ?_
  refine nAJ (N := 8) C hO wd_219 (by decide) rfl (Nat.le_of_ble_eq_true rfl) (Nat.le_of_ble_eq_true rfl) (Nat.le_of_ble_eq_true rfl) dX9_init_7 (fun q1 H hO => ?_)
  have hO := hO.swap
  have hO : Wo D A ([(h0, .inr (9, [.null, .null, .null, .null, .null, .null, .null, .null, .null, .int 0, .int 0, .int 0, .int 0, .int 0, .int 0, .int 0, .int 0, .int 0])), (q1, .inl (cy 2, 8, .inr (.inl (fun _ => 0))))] ++ ([] : va_W)) s.heap H [] := hO
  refine pFF (k := 0) (ws' := [(h0, .inr (9, [.ref q1, .null, .null, .null, .null, .null, .null, .null, .null, .int 0, .int 0, .int 0, .int 0, .int 0, .int 0, .int 0, .int 0, .int 0])), (q1, .inl (cy 2, 8, .inr (.inl (fun _ => 0))))] ++ ([] : va_W)) (ty := tyX9 0) (v := .ref q1) C hin hO 0 rfl rfl inFX9 (by decide) wd_221 rfl rfl tyX9 tyX9_ok nmX9 rfl (by decide +kernel) rfl rfl (Nat.le_of_ble_eq_true rfl) rfl dX9_init_9 (fun H locs hO => ?_)
  refine lv_aload_n hx hb dX9_init_12 rfl (lv_at hl 0 rfl) ?_
  refine lv_bipush (v := 8) hx hb dX9_init_13 (by decide) ?_
  refine nAJ (N := 8) C hO wd_219 (by decide) rfl (Nat.le_of_ble_eq_true rfl) (Nat.le_of_ble_eq_true rfl) (Nat.le_of_ble_eq_true rfl) dX9_init_15 (fun q2 H hO => ?_)
  have hO := hO.swap
  have hO : Wo D A ([(h0, .inr (9, [.ref q1, .null, .null, .null, .null, .null, .null, .null, .null, .int 0, .int 0, .int 0, .int 0, .int 0, .int 0, .int 0, .int 0, .int 0])), (q1, .inl (cy 2, 8, .inr (.inl (fun _ => 0)))), (q2, .inl (cy 2, 8, .inr (.inl (fun _ => 0))))] ++ ([] : va_W)) s.heap H locs := hO
  refine pFF (k := 1) (ws' := [(h0, .inr (9, [.ref q1, .ref q2, .null, .null, .null, .null, .null, .null, .null, .int 0, .int 0, .int 0, .int 0, .int 0, .int 0, .int 0, .int 0, .int 0])), (q1, .inl (cy 2, 8, .inr (.inl (fun _ => 0)))), (q2, .inl (cy 2, 8, .inr (.inl (fun _ => 0))))] ++ ([] : va_W)) (ty := tyX9 1) (v := .ref q2) C hin hO 0 rfl rfl inFX9 (by decide) wd_223 rfl rfl tyX9 tyX9_ok nmX9 rfl (by decide +kernel) rfl rfl (Nat.le_of_ble_eq_true rfl) rfl dX9_init_17 (fun H locs hO => ?_)
  refine lv_aload_n hx hb dX9_init_20 rfl (lv_at hl 0 rfl) ?_
  refine lv_bipush (v := 6) hx hb dX9_init_21 (by decide) ?_
  refine nAJ (N := 6) C hO wd_219 (by decide) rfl (Nat.le_of_ble_eq_true rfl) (Nat.le_of_ble_eq_true rfl) (Nat.le_of_ble_eq_true rfl) dX9_init_23 (fun q3 H hO => ?_)
  have hO := hO.swap
  have hO : Wo D A ([(h0, .inr (9, [.ref q1, .ref q2, .null, .null, .null, .null, .null, .null, .null, .int 0, .int 0, .int 0, .int 0, .int 0, .int 0, .int 0, .int 0, .int 0])), (q1, .inl (cy 2, 8, .inr (.inl (fun _ => 0)))), (q2, .inl (cy 2, 8, .inr (.inl (fun _ => 0)))), (q3, .inl (cy 2, 6, .inr (.inl (fun _ => 0))))] ++ ([] : va_W)) s.heap H locs := hO
  refine pFF (k := 2) (ws' := [(h0, .inr (9, [.ref q1, .ref q2, .ref q3, .null, .null, .null, .null, .null, .null, .int 0, .int 0, .int 0, .int 0, .int 0, .int 0, .int 0, .int 0, .int 0])), (q1, .inl (cy 2, 8, .inr (.inl (fun _ => 0)))), (q2, .inl (cy 2, 8, .inr (.inl (fun _ => 0)))), (q3, .inl (cy 2, 6, .inr (.inl (fun _ => 0))))] ++ ([] : va_W)) (ty := tyX9 2) (v := .ref q3) C hin hO 0 rfl rfl inFX9 (by decide) wd_225 rfl rfl tyX9 tyX9_ok nmX9 rfl (by decide +kernel) rfl rfl (Nat.le_of_ble_eq_true rfl) rfl dX9_init_25 (fun H locs hO => ?_)
  refine lv_aload_n hx hb dX9_init_28 rfl (lv_at hl 0 rfl) ?_
  refine lv_bipush (v := 14) hx hb dX9_init_29 (by decide) ?_
  refine nAI (N := 14) C hO wd_220 (by decide) rfl (Nat.le_of_ble_eq_true rfl) (Nat.le_of_ble_eq_true rfl) (Nat.le_of_ble_eq_true rfl) dX9_init_31 (fun q4 H hO => ?_)
  have hO := hO.swap
  have hO : Wo D A ([(h0, .inr (9, [.ref q1, .ref q2, .ref q3, .null, .null, .null, .null, .null, .null, .int 0, .int 0, .int 0, .int 0, .int 0, .int 0, .int 0, .int 0, .int 0])), (q1, .inl (cy 2, 8, .inr (.inl (fun _ => 0)))), (q2, .inl (cy 2, 8, .inr (.inl (fun _ => 0)))), (q3, .inl (cy 2, 6, .inr (.inl (fun _ => 0)))), (q4, .inl (cy 1, 14, .inl (fun _ => 0)))] ++ ([] : va_W)) s.heap H locs := hO
  refine pFF (k := 3) (ws' := [(h0, .inr (9, [.ref q1, .ref q2, .ref q3, .ref q4, .null, .null, .null, .null, .null, .int 0, .int 0, .int 0, .int 0, .int 0, .int 0, .int 0, .int 0, .int 0])), (q1, .inl (cy 2, 8, .inr (.inl (fun _ => 0)))), (q2, .inl (cy 2, 8, .inr (.inl (fun _ => 0)))), (q3, .inl (cy 2, 6, .inr (.inl (fun _ => 0)))), (q4, .inl (cy 1, 14, .inl (fun _ => 0)))] ++ ([] : va_W)) (ty := tyX9 3) (v := .ref q4) C hin hO 0 rfl rfl inFX9 (by decide) wd_227 rfl rfl tyX9 tyX9_ok nmX9 rfl (by decide +kernel) rfl rfl (Nat.le_of_ble_eq_true rfl) rfl dX9_init_33 (fun H locs hO => ?_)
  refine lv_aload_n hx hb dX9_init_36 rfl (lv_at hl 0 rfl) ?_
  refine lv_bipush (v := 14) hx hb dX9_init_37 (by decide) ?_
  refine nAI (N := 14) C hO wd_220 (by decide) rfl (Nat.le_of_ble_eq_true rfl) (Nat.le_of_ble_eq_true rfl) (Nat.le_of_ble_eq_true rfl) dX9_init_39 (fun q5 H hO => ?_)
  have hO := hO.swap
  have hO : Wo D A ([(h0, .inr (9, [.ref q1, .ref q2, .ref q3, .ref q4, .null, .null, .null, .null, .null, .int 0, .int 0, .int 0, .int 0, .int 0, .int 0, .int 0, .int 0, .int 0])), (q1, .inl (cy 2, 8, .inr (.inl (fun _ => 0)))), (q2, .inl (cy 2, 8, .inr (.inl (fun _ => 0)))), (q3, .inl (cy 2, 6, .inr (.inl (fun _ => 0)))), (q4, .inl (cy 1, 14, .inl (fun _ => 0))), (q5, .inl (cy 1, 14, .inl (fun _ => 0)))] ++ ([] : va_W)) s.heap H locs := hO
  refine pFF (k := 4) (ws' := [(h0, .inr (9, [.ref q1, .ref q2, .ref q3, .ref q4, .ref q5, .null, .null, .null, .null, .int 0, .int 0, .int 0, .int 0, .int 0, .int 0, .int 0, .int 0, .int 0])), (q1, .inl (cy 2, 8, .inr (.inl (fun _ => 0)))), (q2, .inl (cy 2, 8, .inr (.inl (fun _ => 0)))), (q3, .inl (cy 2, 6, .inr (.inl (fun _ => 0)))), (q4, .inl (cy 1, 14, .inl (fun _ => 0))), (q5, .inl (cy 1, 14, .inl (fun _ => 0)))] ++ ([] : va_W)) (ty := tyX9 4) (v := .ref q5) C hin hO 0 rfl rfl inFX9 (by decide) wd_231 rfl rfl tyX9 tyX9_ok nmX9 rfl (by decide +kernel) rfl rfl (Nat.le_of_ble_eq_true rfl) rfl dX9_init_41 (fun H locs hO => ?_)
  refine lv_aload_n hx hb dX9_init_44 rfl (lv_at hl 0 rfl) ?_
  refine lv_bipush (v := 8) hx hb dX9_init_45 (by decide) ?_
  refine nAI (N := 8) C hO wd_220 (by decide) rfl (Nat.le_of_ble_eq_true rfl) (Nat.le_of_ble_eq_true rfl) (Nat.le_of_ble_eq_true rfl) dX9_init_47 (fun q6 H hO => ?_)
  have hO := hO.swap
  have hO : Wo D A ([(h0, .inr (9, [.ref q1, .ref q2, .ref q3, .ref q4, .ref q5, .null, .null, .null, .null, .int 0, .int 0, .int 0, .int 0, .int 0, .int 0, .int 0, .int 0, .int 0])), (q1, .inl (cy 2, 8, .inr (.inl (fun _ => 0)))), (q2, .inl (cy 2, 8, .inr (.inl (fun _ => 0)))), (q3, .inl (cy 2, 6, .inr (.inl (fun _ => 0)))), (q4, .inl (cy 1, 14, .inl (fun _ => 0))), (q5, .inl (cy 1, 14, .inl (fun _ => 0))), (q6, .inl (cy 1, 8, .inl (fun _ => 0)))] ++ ([] : va_W)) s.heap H locs := hO
  refine pFF (k := 5) (ws' := [(h0, .inr (9, [.ref q1, .ref q2, .ref q3, .ref q4, .ref q5, .ref q6, .null, .null, .null, .int 0, .int 0, .int 0, .int 0, .int 0, .int 0, .int 0, .int 0, .int 0])), (q1, .inl (cy 2, 8, .inr (.inl (fun _ => 0)))), (q2, .inl (cy 2, 8, .inr (.inl (fun _ => 0)))), (q3, .inl (cy 2, 6, .inr (.inl (fun _ => 0)))), (q4, .inl (cy 1, 14, .inl (fun _ => 0))), (q5, .inl (cy 1, 14, .inl (fun _ => 0))), (q6, .inl (cy 1, 8, .inl (fun _ => 0)))] ++ ([] : va_W)) (ty := tyX9 5) (v := .ref q6) C hin hO 0 rfl rfl inFX9 (by decide) wd_235 rfl rfl tyX9 tyX9_ok nmX9 rfl (by decide +kernel) rfl rfl (Nat.le_of_ble_eq_true rfl) rfl dX9_init_49 (fun H locs hO => ?_)
  refine lv_aload_n hx hb dX9_init_52 rfl (lv_at hl 0 rfl) ?_
  refine lv_bipush (v := 6) hx hb dX9_init_53 (by decide) ?_
  refine nAI (N := 6) C hO wd_220 (by decide) rfl (Nat.le_of_ble_eq_true rfl) (Nat.le_of_ble_eq_true rfl) (Nat.le_of_ble_eq_true rfl) dX9_init_55 (fun q7 H hO => ?_)
  have hO := hO.swap
  have hO : Wo D A ([(h0, .inr (9, [.ref q1, .ref q2, .ref q3, .ref q4, .ref q5, .ref q6, .null, .null, .null, .int 0, .int 0, .int 0, .int 0, .int 0, .int 0, .int 0, .int 0, .int 0])), (q1, .inl (cy 2, 8, .inr (.inl (fun _ => 0)))), (q2, .inl (cy 2, 8, .inr (.inl (fun _ => 0)))), (q3, .inl (cy 2, 6, .inr (.inl (fun _ => 0)))), (q4, .inl (cy 1, 14, .inl (fun _ => 0))), (q5, .inl (cy 1, 14, .inl (fun _ => 0))), (q6, .inl (cy 1, 8, .inl (fun _ => 0))), (q7, .inl (cy 1, 6, .inl (fun _ => 0)))] ++ ([] : va_W)) s.heap H locs := hO
  refine pFF (k := 6) (ws' := [(h0, .inr (9, [.ref q1, .ref q2, .ref q3, .ref q4, .ref q5, .ref q6, .ref q7, .null, .null, .int 0, .int 0, .int 0, .int 0, .int 0, .int 0, .int 0, .int 0, .int 0])), (q1, .inl (cy 2, 8, .inr (.inl (fun _ => 0)))), (q2, .inl (cy 2, 8, .inr (.inl (fun _ => 0)))), (q3, .inl (cy 2, 6, .inr (.inl (fun _ => 0)))), (q4, .inl (cy 1, 14, .inl (fun _ => 0))), (q5, .inl (cy 1, 14, .inl (fun _ => 0))), (q6, .inl (cy 1, 8, .inl (fun _ => 0))), (q7, .inl (cy 1, 6, .inl (fun _ => 0)))] ++ ([] : va_W)) (ty := tyX9 6) (v := .ref q7) C hin hO 0 rfl rfl inFX9 (by decide) wd_238 rfl rfl tyX9 tyX9_ok nmX9 rfl (by decide +kernel) rfl rfl (Nat.le_of_ble_eq_true rfl) rfl dX9_init_57 (fun H locs hO => ?_)
  refine lv_aload_n hx hb dX9_init_60 rfl (lv_at hl 0 rfl) ?_
  refine lv_bipush (v := 6) hx hb dX9_init_61 (by decide) ?_
  refine nAI (N := 6) C hO wd_220 (by decide) rfl (Nat.le_of_ble_eq_true rfl) (Nat.le_of_ble_eq_true rfl) (Nat.le_of_ble_eq_true rfl) dX9_init_63 (fun q8 H hO => ?_)
  have hO := hO.swap
  have hO : Wo D A ([(h0, .inr (9, [.ref q1, .ref q2, .ref q3, .ref q4, .ref q5, .ref q6, .ref q7, .null, .null, .int 0, .int 0, .int 0, .int 0, .int 0, .int 0, .int 0, .int 0, .int 0])), (q1, .inl (cy 2, 8, .inr (.inl (fun _ => 0)))), (q2, .inl (cy 2, 8, .inr (.inl (fun _ => 0)))), (q3, .inl (cy 2, 6, .inr (.inl (fun _ => 0)))), (q4, .inl (cy 1, 14, .inl (fun _ => 0))), (q5, .inl (cy 1, 14, .inl (fun _ => 0))), (q6, .inl (cy 1, 8, .inl (fun _ => 0))), (q7, .inl (cy 1, 6, .inl (fun _ => 0))), (q8, .inl (cy 1, 6, .inl (fun _ => 0)))] ++ ([] : va_W)) s.heap H locs := hO
  refine pFF (k := 7) (ws' := [(h0, .inr (9, [.ref q1, .ref q2, .ref q3, .ref q4, .ref q5, .ref q6, .ref q7, .ref q8, .null, .int 0, .int 0, .int 0, .int 0, .int 0, .int 0, .int 0, .int 0, .int 0])), (q1, .inl (cy 2, 8, .inr (.inl (fun _ => 0)))), (q2, .inl (cy 2, 8, .inr (.inl (fun _ => 0)))), (q3, .inl (cy 2, 6, .inr (.inl (fun _ => 0)))), (q4, .inl (cy 1, 14, .inl (fun _ => 0))), (q5, .inl (cy 1, 14, .inl (fun _ => 0))), (q6, .inl (cy 1, 8, .inl (fun _ => 0))), (q7, .inl (cy 1, 6, .inl (fun _ => 0))), (q8, .inl (cy 1, 6, .inl (fun _ => 0)))] ++ ([] : va_W)) (ty := tyX9 7) (v := .ref q8) C hin hO 0 rfl rfl inFX9 (by decide) wd_243 rfl rfl tyX9 tyX9_ok nmX9 rfl (by decide +kernel) rfl rfl (Nat.le_of_ble_eq_true rfl) rfl dX9_init_65 (fun H locs hO => ?_)
  refine lv_aload_n hx hb dX9_init_68 rfl (lv_at hl 0 rfl) ?_
  refine nOb (ci := 4) (fs := [.null, .null, .int 0, .int 0, .int 0, .int 0, .int 0, .int 0, .int 0, .int 0, .int 0]) C hO inFX4 tyX4 tyX4_ok wd_177 wd_178 wd_113 rfl (fun j hj => by rcases (show j = 0 ∨ j = 1 ∨ j = 2 ∨ j = 3 ∨ j = 4 ∨ j = 5 ∨ j = 6 ∨ j = 7 ∨ j = 8 ∨ j = 9 ∨ j = 10 by omega) with rfl | rfl | rfl | rfl | rfl | rfl | rfl | rfl | rfl | rfl | rfl <;> rfl) (Nat.le_of_ble_eq_true rfl) (Nat.le_of_ble_eq_true rfl) dX9_init_69 (fun q9 H hO => ?_)
  have hO := hO.swap
  have hO : Wo D A ([(h0, .inr (9, [.ref q1, .ref q2, .ref q3, .ref q4, .ref q5, .ref q6, .ref q7, .ref q8, .null, .int 0, .int 0, .int 0, .int 0, .int 0, .int 0, .int 0, .int 0, .int 0])), (q1, .inl (cy 2, 8, .inr (.inl (fun _ => 0)))), (q2, .inl (cy 2, 8, .inr (.inl (fun _ => 0)))), (q3, .inl (cy 2, 6, .inr (.inl (fun _ => 0)))), (q4, .inl (cy 1, 14, .inl (fun _ => 0))), (q5, .inl (cy 1, 14, .inl (fun _ => 0))), (q6, .inl (cy 1, 8, .inl (fun _ => 0))), (q7, .inl (cy 1, 6, .inl (fun _ => 0))), (q8, .inl (cy 1, 6, .inl (fun _ => 0))), (q9, .inr (4, [.null, .null, .int 0, .int 0, .int 0, .int 0, .int 0, .int 0, .int 0, .int 0, .int 0]))] ++ ([] : va_W)) s.heap H locs := hO
  refine lv_dup hx hb dX9_init_72 rfl ?_
  refine dIN (As := []) (rest := [.ref q9, .ref h0]) (wc := [(q9, .inr (4, [.null, .null, .int 0, .int 0, .int 0, .int 0, .int 0, .int 0, .int 0, .int 0, .int 0]))]) (wr := [(h0, .inr (9, [.ref q1, .ref q2, .ref q3, .ref q4, .ref q5, .ref q6, .ref q7, .ref q8, .null, .int 0, .int 0, .int 0, .int 0, .int 0, .int 0, .int 0, .int 0, .int 0])), (q1, .inl (cy 2, 8, .inr (.inl (fun _ => 0)))), (q2, .inl (cy 2, 8, .inr (.inl (fun _ => 0)))), (q3, .inl (cy 2, 6, .inr (.inl (fun _ => 0)))), (q4, .inl (cy 1, 14, .inl (fun _ => 0))), (q5, .inl (cy 1, 14, .inl (fun _ => 0))), (q6, .inl (cy 1, 8, .inl (fun _ => 0))), (q7, .inl (cy 1, 6, .inl (fun _ => 0))), (q8, .inl (cy 1, 6, .inl (fun _ => 0)))]) C hQ hO [9] [0, 1, 2, 3, 4, 5, 6, 7, 8] rfl rfl (by decide) (by decide) (by decide) (K_X4 l D cy q9) ⟨va_cnB (host := "WebCourt") 0 ht (gGood wd_181) rfl rfl rfl hQ.2.2.2.1 (ht _ wd_113) hd_yX4_init ⟨Nat.le_of_ble_eq_true rfl, Nat.le_of_ble_eq_true rfl⟩, rfl, ht _ wd_180⟩ rfl hl.1 (Nat.le_of_ble_eq_true rfl) dX9_init_73 rfl ⟨Nat.le_of_ble_eq_true rfl, Nat.le_of_ble_eq_true rfl⟩ (fun u10 H locs h_u10 hO => ?_)
  have hO : Wo D A ([(h0, .inr (9, [.ref q1, .ref q2, .ref q3, .ref q4, .ref q5, .ref q6, .ref q7, .ref q8, .null, .int 0, .int 0, .int 0, .int 0, .int 0, .int 0, .int 0, .int 0, .int 0])), (q1, .inl (cy 2, 8, .inr (.inl (fun _ => 0)))), (q2, .inl (cy 2, 8, .inr (.inl (fun _ => 0)))), (q3, .inl (cy 2, 6, .inr (.inl (fun _ => 0)))), (q4, .inl (cy 1, 14, .inl (fun _ => 0))), (q5, .inl (cy 1, 14, .inl (fun _ => 0))), (q6, .inl (cy 1, 8, .inl (fun _ => 0))), (q7, .inl (cy 1, 6, .inl (fun _ => 0))), (q8, .inl (cy 1, 6, .inl (fun _ => 0))), (q9, .inr (4, [.ref (u10 0), .ref (u10 1), .int 0, .int 0, .int 0, .int 0, .int 0, .int 0, .int 0, .int 0, .int 0])), ((u10 0), .inl (cy 1, 300, .inl (fun _ => 0))), ((u10 1), .inl (cy 1, 31, .inl (fun _ => 0)))] ++ ([] : va_W)) s.heap H locs := hO
  refine pFF (k := 8) (ws' := [(h0, .inr (9, [.ref q1, .ref q2, .ref q3, .ref q4, .ref q5, .ref q6, .ref q7, .ref q8, .ref q9, .int 0, .int 0, .int 0, .int 0, .int 0, .int 0, .int 0, .int 0, .int 0])), (q1, .inl (cy 2, 8, .inr (.inl (fun _ => 0)))), (q2, .inl (cy 2, 8, .inr (.inl (fun _ => 0)))), (q3, .inl (cy 2, 6, .inr (.inl (fun _ => 0)))), (q4, .inl (cy 1, 14, .inl (fun _ => 0))), (q5, .inl (cy 1, 14, .inl (fun _ => 0))), (q6, .inl (cy 1, 8, .inl (fun _ => 0))), (q7, .inl (cy 1, 6, .inl (fun _ => 0))), (q8, .inl (cy 1, 6, .inl (fun _ => 0))), (q9, .inr (4, [.ref (u10 0), .ref (u10 1), .int 0, .int 0, .int 0, .int 0, .int 0, .int 0, .int 0, .int 0, .int 0])), ((u10 0), .inl (cy 1, 300, .inl (fun _ => 0))), ((u10 1), .inl (cy 1, 31, .inl (fun _ => 0)))] ++ ([] : va_W)) (ty := tyX9 8) (v := .ref q9) C hin hO 0 rfl rfl inFX9 (by decide) wd_247 rfl rfl tyX9 tyX9_ok nmX9 rfl (by decide +kernel) rfl rfl (Nat.le_of_ble_eq_true rfl) rfl dX9_init_76 (fun H locs hO => ?_)
  exact hret (fun i => ([q1, q2, q3, q4, q5, q6, q7, q8, q9, (u10 0), (u10 1)] : List Nat).getD i 0) _ _ _ _ dX9_init_79 trivial hO
theorem dX5_init_0 : decode cX5_init 0 = .ok (.aload_n 0, 1) := by decide +kernel
theorem dX5_init_1 : decode cX5_init 1 = .ok (.invokespecial 3, 3) := by decide +kernel
theorem dX5_init_4 : decode cX5_init 4 = .ok (.aload_n 0, 1) := by decide +kernel
theorem dX5_init_5 : decode cX5_init 5 = .ok (.aload_n 1, 1) := by decide +kernel
theorem dX5_init_6 : decode cX5_init 6 = .ok (.putfield 9, 3) := by decide +kernel
theorem dX5_init_9 : decode cX5_init 9 = .ok (.aload_n 0, 1) := by decide +kernel
theorem dX5_init_10 : decode cX5_init 10 = .ok (.aload_n 2, 1) := by decide +kernel
theorem dX5_init_11 : decode cX5_init 11 = .ok (.putfield 15, 3) := by decide +kernel
theorem dX5_init_14 : decode cX5_init 14 = .ok (.aload_n 0, 1) := by decide +kernel
theorem dX5_init_15 : decode cX5_init 15 = .ok (.iconst (-1), 1) := by decide +kernel
theorem dX5_init_16 : decode cX5_init 16 = .ok (.putfield 19, 3) := by decide +kernel
theorem dX5_init_19 : decode cX5_init 19 = .ok (.return_, 1) := by decide +kernel
theorem wd_330 : (Cond.code ⟨"WebCourt$Reader", "<init>", "(LWebCourt$Tape;LWebCourt$Web;)V"⟩ prog_7_method_1_code (3 : Nat) (Option.none : Option FieldType)) ∈ gtb := gtb_c1 221 (by decide +kernel) rfl
theorem wd_331 : (Cond.methodLink "WebCourt$Reader" (3 : Nat) ⟨"java/lang/Object", "<init>", "()V"⟩) ∈ gtb := gtb_c1 222 (by decide +kernel) rfl
set_option maxHeartbeats 8000000 in
set_option maxRecDepth 100000 in
theorem K_X5 (l : Launch) (D : va_G) (cy : Nat → ClassId) (h0 t1 t2 : Nat) : Mc (S := Nat → Nat) l D cy yX5_init (.code yX5_init cX5_init 3 none) { frames := 1, cells := 0, slots := 0, locals := 20 } [.ref h0, .ref t1, .ref t2] [(h0, .inr (5, [.null, .null, .int 0, .int 0]))] (fun q => [(h0, .inr (5, [.ref t1, .ref t2, .int 0, .int (-1)]))]) (fun _ => True) 0 0 := by
  refine Mc.of (own := RX5) rfl rfl (by decide) (Nat.le_of_ble_eq_true rfl) ?_
  intro p e s m below meth c A Q ls C hQ hin hret hO hl
  obtain ⟨hx, hb, hml, hown, ht, hK, hA⟩ := id C
  have hl : lv_has ls 3 [(0, .ref h0), (1, .ref t1), (2, .ref t2)] := hl
  have hO : Wo D A ([(h0, .inr (5, [.null, .null, .int 0, .int 0]))] ++ ([] : va_W)) s.heap s.heap [] := hO
  refine lv_aload_n hx hb dX5_init_0 rfl (lv_at hl 0 rfl) ?_
  refine oI C wd_331 wd_135 wd_136 hl.1 dX5_init_1 (Nat.le_of_ble_eq_true rfl) (Nat.le_of_ble_eq_true rfl) ?_
  refine lv_aload_n hx hb dX5_init_4 rfl (lv_at hl 0 rfl) ?_
  refine lv_aload_n hx hb dX5_init_5 rfl (lv_at hl 1 rfl) ?_
  refine pFF (k := 0) (ws' := [(h0, .inr (5, [.ref t1, .null, .int 0, .int 0]))] ++ ([] : va_W)) (ty := tyX5 0) (v := .ref t1) C hin hO 0 rfl rfl inFX5 (by decide) wd_332 rfl rfl tyX5 tyX5_ok nmX5 rfl (by decide +kernel) rfl rfl (Nat.le_of_ble_eq_true rfl) rfl dX5_init_6 (fun H locs hO => ?_)
  refine lv_aload_n hx hb dX5_init_9 rfl (lv_at hl 0 rfl) ?_
  refine lv_aload_n hx hb dX5_init_10 rfl (lv_at hl 2 rfl) ?_
  refine pF (k := 1) (ws' := [(h0, .inr (5, [.ref t1, .ref t2, .int 0, .int 0]))] ++ ([] : va_W)) (ty := tyX5 1) (v := .ref t2) C hO 0 rfl rfl inFX5 (by decide) wd_333 rfl tyX5 tyX5_ok nmX5 rfl (by decide +kernel) rfl rfl (Nat.le_of_ble_eq_true rfl) rfl dX5_init_11 (fun H locs hO => ?_)
  refine lv_aload_n hx hb dX5_init_14 rfl (lv_at hl 0 rfl) ?_
  refine lv_iconst (v := (-1)) hx hb dX5_init_15 (by decide) ?_
  refine pF (k := 3) (ws' := [(h0, .inr (5, [.ref t1, .ref t2, .int 0, .int (-1)]))] ++ ([] : va_W)) (ty := tyX5 3) (v := .int (-1)) C hO 0 rfl rfl inFX5 (by decide) wd_336 rfl tyX5 tyX5_ok nmX5 rfl (by decide +kernel) rfl rfl (Nat.le_of_ble_eq_true rfl) rfl dX5_init_16 (fun H locs hO => ?_)
  exact hret (fun i => ([] : List Nat).getD i 0) _ _ _ _ dX5_init_19 trivial hO
theorem dX2_init_0 : decode cX2_init 0 = .ok (.aload_n 0, 1) := by decide +kernel
theorem dX2_init_1 : decode cX2_init 1 = .ok (.invokespecial 3, 3) := by decide +kernel
theorem dX2_init_4 : decode cX2_init 4 = .ok (.aload_n 0, 1) := by decide +kernel
theorem dX2_init_5 : decode cX2_init 5 = .ok (.bipush 29, 2) := by decide +kernel
theorem dX2_init_7 : decode cX2_init 7 = .ok (.newarray .int, 2) := by decide +kernel
theorem dX2_init_9 : decode cX2_init 9 = .ok (.putfield 9, 3) := by decide +kernel
theorem dX2_init_12 : decode cX2_init 12 = .ok (.aload_n 0, 1) := by decide +kernel
theorem dX2_init_13 : decode cX2_init 13 = .ok (.aload_n 1, 1) := by decide +kernel
theorem dX2_init_14 : decode cX2_init 14 = .ok (.putfield 15, 3) := by decide +kernel
theorem dX2_init_17 : decode cX2_init 17 = .ok (.aload_n 0, 1) := by decide +kernel
theorem dX2_init_18 : decode cX2_init 18 = .ok (.getfield 9, 3) := by decide +kernel
theorem dX2_init_21 : decode cX2_init 21 = .ok (.iconst 0, 1) := by decide +kernel
theorem dX2_init_22 : decode cX2_init 22 = .ok (.iconst (-1), 1) := by decide +kernel
theorem dX2_init_23 : decode cX2_init 23 = .ok (.iastore, 1) := by decide +kernel
theorem dX2_init_24 : decode cX2_init 24 = .ok (.return_, 1) := by decide +kernel
theorem wd_351 : (Cond.code ⟨"WebCourt$Court", "<init>", "(LWebCourt$Web;)V"⟩ prog_4_method_1_code (2 : Nat) (Option.none : Option FieldType)) ∈ gtb := gtb_c2 2 (by decide +kernel) rfl
theorem wd_352 : (Cond.methodLink "WebCourt$Court" (3 : Nat) ⟨"java/lang/Object", "<init>", "()V"⟩) ∈ gtb := gtb_c2 3 (by decide +kernel) rfl
set_option maxHeartbeats 8000000 in
set_option maxRecDepth 100000 in
theorem K_X2 (l : Launch) (D : va_G) (cy : Nat → ClassId) (h0 t1 : Nat) : Mc (S := Nat → Nat) l D cy yX2_init (.code yX2_init cX2_init 2 none) { frames := 1, cells := 1, slots := 29, locals := 20 } [.ref h0, .ref t1] [(h0, .inr (2, [.null, .null]))] (fun q => [(h0, .inr (2, [.ref (q 0), .ref t1])), ((q 0), .inl (cy 1, 29, .inl (upd (fun _ => 0) (0 : Int32).toNatClampNeg (-1))))]) (fun _ => True) 1 29 := by
  refine Mc.of (own := RX2) rfl rfl (by decide) (Nat.le_of_ble_eq_true rfl) ?_
  intro p e s m below meth c A Q ls C hQ hin hret hO hl
  obtain ⟨hx, hb, hml, hown, ht, hK, hA⟩ := id C
  have hl : lv_has ls 2 [(0, .ref h0), (1, .ref t1)] := hl
  have hO : Wo D A ([(h0, .inr (2, [.null, .null]))] ++ ([] : va_W)) s.heap s.heap [] := hO
  refine lv_aload_n hx hb dX2_init_0 rfl (lv_at hl 0 rfl) ?_
  refine oI C wd_352 wd_135 wd_136 hl.1 dX2_init_1 (Nat.le_of_ble_eq_true rfl) (Nat.le_of_ble_eq_true rfl) ?_
  refine lv_aload_n hx hb dX2_init_4 rfl (lv_at hl 0 rfl) ?_
  refine lv_bipush (v := 29) hx hb dX2_init_5 (by decide) ?_
  refine nAI (N := 29) C hO wd_220 (by decide) rfl (Nat.le_of_ble_eq_true rfl) (Nat.le_of_ble_eq_true rfl) (Nat.le_of_ble_eq_true rfl) dX2_init_7 (fun q1 H hO => ?_)
  have hO := hO.swap
  have hO : Wo D A ([(h0, .inr (2, [.null, .null])), (q1, .inl (cy 1, 29, .inl (fun _ => 0)))] ++ ([] : va_W)) s.heap H [] := hO
  refine pFF (k := 0) (ws' := [(h0, .inr (2, [.ref q1, .null])), (q1, .inl (cy 1, 29, .inl (fun _ => 0)))] ++ ([] : va_W)) (ty := tyX2 0) (v := .ref q1) C hin hO 0 rfl rfl inFX2 (by decide) wd_353 rfl rfl tyX2 tyX2_ok nmX2 rfl (by decide +kernel) rfl rfl (Nat.le_of_ble_eq_true rfl) rfl dX2_init_9 (fun H locs hO => ?_)
  refine lv_aload_n hx hb dX2_init_12 rfl (lv_at hl 0 rfl) ?_
  refine lv_aload_n hx hb dX2_init_13 rfl (lv_at hl 1 rfl) ?_
  refine pF (k := 1) (ws' := [(h0, .inr (2, [.ref q1, .ref t1])), (q1, .inl (cy 1, 29, .inl (fun _ => 0)))] ++ ([] : va_W)) (ty := tyX2 1) (v := .ref t1) C hO 0 rfl rfl inFX2 (by decide) wd_358 rfl tyX2 tyX2_ok nmX2 rfl (by decide +kernel) rfl rfl (Nat.le_of_ble_eq_true rfl) rfl dX2_init_14 (fun H locs hO => ?_)
  refine lv_aload_n hx hb dX2_init_17 rfl (lv_at hl 0 rfl) ?_
  refine gf_RX2_9 (v := .ref q1) C hO 0 rfl rfl dX2_init_18 ?_
  refine lv_iconst (v := 0) hx hb dX2_init_21 (by decide) ?_
  refine lv_iconst (v := (-1)) hx hb dX2_init_22 (by decide) ?_
  refine aIs (ws' := [(h0, .inr (2, [.ref q1, .ref t1])), (q1, .inl (cy 1, 29, .inl (upd (fun _ => 0) (0 : Int32).toNatClampNeg (-1))))] ++ ([] : va_W)) C hO 1 rfl (i_in (X := 0) rfl (by omega) (by omega)) rfl dX2_init_23 (fun H locs hO => ?_)
  exact hret (fun i => ([q1] : List Nat).getD i 0) _ _ _ _ dX2_init_24 trivial hO
theorem dX8_init_0 : decode cX8_init 0 = .ok (.aload_n 0, 1) := by decide +kernel
theorem dX8_init_1 : decode cX8_init 1 = .ok (.invokespecial 3, 3) := by decide +kernel
theorem dX8_init_4 : decode cX8_init 4 = .ok (.aload_n 0, 1) := by decide +kernel
theorem dX8_init_5 : decode cX8_init 5 = .ok (.bipush 64, 2) := by decide +kernel
theorem dX8_init_7 : decode cX8_init 7 = .ok (.newarray .int, 2) := by decide +kernel
theorem dX8_init_9 : decode cX8_init 9 = .ok (.putfield 9, 3) := by decide +kernel
theorem dX8_init_12 : decode cX8_init 12 = .ok (.aload_n 0, 1) := by decide +kernel
theorem dX8_init_13 : decode cX8_init 13 = .ok (.aload_n 1, 1) := by decide +kernel
theorem dX8_init_14 : decode cX8_init 14 = .ok (.putfield 15, 3) := by decide +kernel
theorem dX8_init_17 : decode cX8_init 17 = .ok (.return_, 1) := by decide +kernel
theorem wd_395 : (Cond.code ⟨"WebCourt$Ways", "<init>", "(LWebCourt$Court;)V"⟩ prog_10_method_1_code (2 : Nat) (Option.none : Option FieldType)) ∈ gtb := gtb_c2 46 (by decide +kernel) rfl
theorem wd_396 : (Cond.methodLink "WebCourt$Ways" (3 : Nat) ⟨"java/lang/Object", "<init>", "()V"⟩) ∈ gtb := gtb_c2 47 (by decide +kernel) rfl
set_option maxHeartbeats 8000000 in
set_option maxRecDepth 100000 in
theorem K_X8 (l : Launch) (D : va_G) (cy : Nat → ClassId) (h0 t1 : Nat) : Mc (S := Nat → Nat) l D cy yX8_init (.code yX8_init cX8_init 2 none) { frames := 1, cells := 1, slots := 64, locals := 20 } [.ref h0, .ref t1] [(h0, .inr (8, [.null, .null]))] (fun q => [(h0, .inr (8, [.ref t1, .ref (q 0)])), ((q 0), .inl (cy 1, 64, .inl (fun _ => 0)))]) (fun _ => True) 1 64 := by
  refine Mc.of (own := RX8) rfl rfl (by decide) (Nat.le_of_ble_eq_true rfl) ?_
  intro p e s m below meth c A Q ls C hQ hin hret hO hl
  obtain ⟨hx, hb, hml, hown, ht, hK, hA⟩ := id C
  have hl : lv_has ls 2 [(0, .ref h0), (1, .ref t1)] := hl
  have hO : Wo D A ([(h0, .inr (8, [.null, .null]))] ++ ([] : va_W)) s.heap s.heap [] := hO
  refine lv_aload_n hx hb dX8_init_0 rfl (lv_at hl 0 rfl) ?_
  refine oI C wd_396 wd_135 wd_136 hl.1 dX8_init_1 (Nat.le_of_ble_eq_true rfl) (Nat.le_of_ble_eq_true rfl) ?_
  refine lv_aload_n hx hb dX8_init_4 rfl (lv_at hl 0 rfl) ?_
  refine lv_bipush (v := 64) hx hb dX8_init_5 (by decide) ?_
  refine nAI (N := 64) C hO wd_220 (by decide) rfl (Nat.le_of_ble_eq_true rfl) (Nat.le_of_ble_eq_true rfl) (Nat.le_of_ble_eq_true rfl) dX8_init_7 (fun q1 H hO => ?_)
  have hO := hO.swap
  have hO : Wo D A ([(h0, .inr (8, [.null, .null])), (q1, .inl (cy 1, 64, .inl (fun _ => 0)))] ++ ([] : va_W)) s.heap H [] := hO
  refine pFF (k := 1) (ws' := [(h0, .inr (8, [.null, .ref q1])), (q1, .inl (cy 1, 64, .inl (fun _ => 0)))] ++ ([] : va_W)) (ty := tyX8 1) (v := .ref q1) C hin hO 0 rfl rfl inFX8 (by decide) wd_398 rfl rfl tyX8 tyX8_ok nmX8 rfl (by decide +kernel) rfl rfl (Nat.le_of_ble_eq_true rfl) rfl dX8_init_9 (fun H locs hO => ?_)
  refine lv_aload_n hx hb dX8_init_12 rfl (lv_at hl 0 rfl) ?_
  refine lv_aload_n hx hb dX8_init_13 rfl (lv_at hl 1 rfl) ?_
  refine pFF (k := 0) (ws' := [(h0, .inr (8, [.ref t1, .ref q1])), (q1, .inl (cy 1, 64, .inl (fun _ => 0)))] ++ ([] : va_W)) (ty := tyX8 0) (v := .ref t1) C hin hO 0 rfl rfl inFX8 (by decide) wd_397 rfl rfl tyX8 tyX8_ok nmX8 rfl (by decide +kernel) rfl rfl (Nat.le_of_ble_eq_true rfl) rfl dX8_init_14 (fun H locs hO => ?_)
  exact hret (fun i => ([q1] : List Nat).getD i 0) _ _ _ _ dX8_init_17 trivial hO
theorem dX6_init_0 : decode cX6_init 0 = .ok (.aload_n 0, 1) := by decide +kernel
theorem dX6_init_1 : decode cX6_init 1 = .ok (.invokespecial 3, 3) := by decide +kernel
theorem dX6_init_4 : decode cX6_init 4 = .ok (.aload_n 0, 1) := by decide +kernel
theorem dX6_init_5 : decode cX6_init 5 = .ok (.sipush 384, 3) := by decide +kernel
theorem dX6_init_8 : decode cX6_init 8 = .ok (.newarray .int, 2) := by decide +kernel
theorem dX6_init_10 : decode cX6_init 10 = .ok (.putfield 11, 3) := by decide +kernel
theorem dX6_init_13 : decode cX6_init 13 = .ok (.aload_n 0, 1) := by decide +kernel
theorem dX6_init_14 : decode cX6_init 14 = .ok (.aload_n 1, 1) := by decide +kernel
theorem dX6_init_15 : decode cX6_init 15 = .ok (.putfield 15, 3) := by decide +kernel
theorem dX6_init_18 : decode cX6_init 18 = .ok (.aload_n 0, 1) := by decide +kernel
theorem dX6_init_19 : decode cX6_init 19 = .ok (.aload_n 2, 1) := by decide +kernel
theorem dX6_init_20 : decode cX6_init 20 = .ok (.putfield 19, 3) := by decide +kernel
theorem dX6_init_23 : decode cX6_init 23 = .ok (.return_, 1) := by decide +kernel
theorem wd_408 : (Cond.code ⟨"WebCourt$Rounds", "<init>", "(LWebCourt$Court;LWebCourt$Ways;)V"⟩ prog_8_method_1_code (3 : Nat) (Option.none : Option FieldType)) ∈ gtb := gtb_c2 59 (by decide +kernel) rfl
theorem wd_409 : (Cond.methodLink "WebCourt$Rounds" (3 : Nat) ⟨"java/lang/Object", "<init>", "()V"⟩) ∈ gtb := gtb_c2 60 (by decide +kernel) rfl
set_option maxHeartbeats 8000000 in
set_option maxRecDepth 100000 in
theorem K_X6 (l : Launch) (D : va_G) (cy : Nat → ClassId) (h0 t1 t2 : Nat) : Mc (S := Nat → Nat) l D cy yX6_init (.code yX6_init cX6_init 3 none) { frames := 1, cells := 1, slots := 384, locals := 20 } [.ref h0, .ref t1, .ref t2] [(h0, .inr (6, [.null, .null, .null]))] (fun q => [(h0, .inr (6, [.ref t1, .ref t2, .ref (q 0)])), ((q 0), .inl (cy 1, 384, .inl (fun _ => 0)))]) (fun _ => True) 1 384 := by
  refine Mc.of (own := RX6) rfl rfl (by decide) (Nat.le_of_ble_eq_true rfl) ?_
  intro p e s m below meth c A Q ls C hQ hin hret hO hl
  obtain ⟨hx, hb, hml, hown, ht, hK, hA⟩ := id C
  have hl : lv_has ls 3 [(0, .ref h0), (1, .ref t1), (2, .ref t2)] := hl
  have hO : Wo D A ([(h0, .inr (6, [.null, .null, .null]))] ++ ([] : va_W)) s.heap s.heap [] := hO
  refine lv_aload_n hx hb dX6_init_0 rfl (lv_at hl 0 rfl) ?_
  refine oI C wd_409 wd_135 wd_136 hl.1 dX6_init_1 (Nat.le_of_ble_eq_true rfl) (Nat.le_of_ble_eq_true rfl) ?_
  refine lv_aload_n hx hb dX6_init_4 rfl (lv_at hl 0 rfl) ?_
  refine lv_sipush (v := 384) hx hb dX6_init_5 (by decide) ?_
  refine nAI (N := 384) C hO wd_220 (by decide) rfl (Nat.le_of_ble_eq_true rfl) (Nat.le_of_ble_eq_true rfl) (Nat.le_of_ble_eq_true rfl) dX6_init_8 (fun q1 H hO => ?_)
  have hO := hO.swap
  have hO : Wo D A ([(h0, .inr (6, [.null, .null, .null])), (q1, .inl (cy 1, 384, .inl (fun _ => 0)))] ++ ([] : va_W)) s.heap H [] := hO
  refine pFF (k := 2) (ws' := [(h0, .inr (6, [.null, .null, .ref q1])), (q1, .inl (cy 1, 384, .inl (fun _ => 0)))] ++ ([] : va_W)) (ty := tyX6 2) (v := .ref q1) C hin hO 0 rfl rfl inFX6 (by decide) wd_412 rfl rfl tyX6 tyX6_ok nmX6 rfl (by decide +kernel) rfl rfl (Nat.le_of_ble_eq_true rfl) rfl dX6_init_10 (fun H locs hO => ?_)
  refine lv_aload_n hx hb dX6_init_13 rfl (lv_at hl 0 rfl) ?_
  refine lv_aload_n hx hb dX6_init_14 rfl (lv_at hl 1 rfl) ?_
  refine pFF (k := 0) (ws' := [(h0, .inr (6, [.ref t1, .null, .ref q1])), (q1, .inl (cy 1, 384, .inl (fun _ => 0)))] ++ ([] : va_W)) (ty := tyX6 0) (v := .ref t1) C hin hO 0 rfl rfl inFX6 (by decide) wd_410 rfl rfl tyX6 tyX6_ok nmX6 rfl (by decide +kernel) rfl rfl (Nat.le_of_ble_eq_true rfl) rfl dX6_init_15 (fun H locs hO => ?_)
  refine lv_aload_n hx hb dX6_init_18 rfl (lv_at hl 0 rfl) ?_
  refine lv_aload_n hx hb dX6_init_19 rfl (lv_at hl 2 rfl) ?_
  refine pFF (k := 1) (ws' := [(h0, .inr (6, [.ref t1, .ref t2, .ref q1])), (q1, .inl (cy 1, 384, .inl (fun _ => 0)))] ++ ([] : va_W)) (ty := tyX6 1) (v := .ref t2) C hin hO 0 rfl rfl inFX6 (by decide) wd_411 rfl rfl tyX6 tyX6_ok nmX6 rfl (by decide +kernel) rfl rfl (Nat.le_of_ble_eq_true rfl) rfl dX6_init_20 (fun H locs hO => ?_)
  exact hret (fun i => ([q1] : List Nat).getD i 0) _ _ _ _ dX6_init_23 trivial hO
theorem dX1_init_0 : decode cX1_init 0 = .ok (.aload_n 0, 1) := by decide +kernel
theorem dX1_init_1 : decode cX1_init 1 = .ok (.invokespecial 3, 3) := by decide +kernel
theorem dX1_init_4 : decode cX1_init 4 = .ok (.aload_n 0, 1) := by decide +kernel
theorem dX1_init_5 : decode cX1_init 5 = .ok (.bipush 8, 2) := by decide +kernel
theorem dX1_init_7 : decode cX1_init 7 = .ok (.newarray .int, 2) := by decide +kernel
theorem dX1_init_9 : decode cX1_init 9 = .ok (.putfield 9, 3) := by decide +kernel
theorem dX1_init_12 : decode cX1_init 12 = .ok (.aload_n 0, 1) := by decide +kernel
theorem dX1_init_13 : decode cX1_init 13 = .ok (.bipush 8, 2) := by decide +kernel
theorem dX1_init_15 : decode cX1_init 15 = .ok (.newarray .int, 2) := by decide +kernel
theorem dX1_init_17 : decode cX1_init 17 = .ok (.putfield 15, 3) := by decide +kernel
theorem dX1_init_20 : decode cX1_init 20 = .ok (.aload_n 0, 1) := by decide +kernel
theorem dX1_init_21 : decode cX1_init 21 = .ok (.aload_n 1, 1) := by decide +kernel
theorem dX1_init_22 : decode cX1_init 22 = .ok (.putfield 18, 3) := by decide +kernel
theorem dX1_init_25 : decode cX1_init 25 = .ok (.return_, 1) := by decide +kernel
theorem wd_424 : (Cond.code ⟨"WebCourt$Counsel", "<init>", "(LWebCourt$Court;)V"⟩ prog_3_method_1_code (2 : Nat) (Option.none : Option FieldType)) ∈ gtb := gtb_c2 75 (by decide +kernel) rfl
theorem wd_425 : (Cond.methodLink "WebCourt$Counsel" (3 : Nat) ⟨"java/lang/Object", "<init>", "()V"⟩) ∈ gtb := gtb_c2 76 (by decide +kernel) rfl
set_option maxHeartbeats 8000000 in
set_option maxRecDepth 100000 in
theorem K_X1 (l : Launch) (D : va_G) (cy : Nat → ClassId) (h0 t1 : Nat) : Mc (S := Nat → Nat) l D cy yX1_init (.code yX1_init cX1_init 2 none) { frames := 1, cells := 2, slots := 16, locals := 20 } [.ref h0, .ref t1] [(h0, .inr (1, [.null, .null, .null]))] (fun q => [(h0, .inr (1, [.ref t1, .ref (q 0), .ref (q 1)])), ((q 0), .inl (cy 1, 8, .inl (fun _ => 0))), ((q 1), .inl (cy 1, 8, .inl (fun _ => 0)))]) (fun _ => True) 2 16 := by
  refine Mc.of (own := RX1) rfl rfl (by decide) (Nat.le_of_ble_eq_true rfl) ?_
  intro p e s m below meth c A Q ls C hQ hin hret hO hl
  obtain ⟨hx, hb, hml, hown, ht, hK, hA⟩ := id C
  have hl : lv_has ls 2 [(0, .ref h0), (1, .ref t1)] := hl
  have hO : Wo D A ([(h0, .inr (1, [.null, .null, .null]))] ++ ([] : va_W)) s.heap s.heap [] := hO
  refine lv_aload_n hx hb dX1_init_0 rfl (lv_at hl 0 rfl) ?_
  refine oI C wd_425 wd_135 wd_136 hl.1 dX1_init_1 (Nat.le_of_ble_eq_true rfl) (Nat.le_of_ble_eq_true rfl) ?_
  refine lv_aload_n hx hb dX1_init_4 rfl (lv_at hl 0 rfl) ?_
  refine lv_bipush (v := 8) hx hb dX1_init_5 (by decide) ?_
  refine nAI (N := 8) C hO wd_220 (by decide) rfl (Nat.le_of_ble_eq_true rfl) (Nat.le_of_ble_eq_true rfl) (Nat.le_of_ble_eq_true rfl) dX1_init_7 (fun q1 H hO => ?_)
  have hO := hO.swap
  have hO : Wo D A ([(h0, .inr (1, [.null, .null, .null])), (q1, .inl (cy 1, 8, .inl (fun _ => 0)))] ++ ([] : va_W)) s.heap H [] := hO
  refine pFF (k := 1) (ws' := [(h0, .inr (1, [.null, .ref q1, .null])), (q1, .inl (cy 1, 8, .inl (fun _ => 0)))] ++ ([] : va_W)) (ty := tyX1 1) (v := .ref q1) C hin hO 0 rfl rfl inFX1 (by decide) wd_427 rfl rfl tyX1 tyX1_ok nmX1 rfl (by decide +kernel) rfl rfl (Nat.le_of_ble_eq_true rfl) rfl dX1_init_9 (fun H locs hO => ?_)
  refine lv_aload_n hx hb dX1_init_12 rfl (lv_at hl 0 rfl) ?_
  refine lv_bipush (v := 8) hx hb dX1_init_13 (by decide) ?_
  refine nAI (N := 8) C hO wd_220 (by decide) rfl (Nat.le_of_ble_eq_true rfl) (Nat.le_of_ble_eq_true rfl) (Nat.le_of_ble_eq_true rfl) dX1_init_15 (fun q2 H hO => ?_)
  have hO := hO.swap
  have hO : Wo D A ([(h0, .inr (1, [.null, .ref q1, .null])), (q1, .inl (cy 1, 8, .inl (fun _ => 0))), (q2, .inl (cy 1, 8, .inl (fun _ => 0)))] ++ ([] : va_W)) s.heap H locs := hO
  refine pFF (k := 2) (ws' := [(h0, .inr (1, [.null, .ref q1, .ref q2])), (q1, .inl (cy 1, 8, .inl (fun _ => 0))), (q2, .inl (cy 1, 8, .inl (fun _ => 0)))] ++ ([] : va_W)) (ty := tyX1 2) (v := .ref q2) C hin hO 0 rfl rfl inFX1 (by decide) wd_428 rfl rfl tyX1 tyX1_ok nmX1 rfl (by decide +kernel) rfl rfl (Nat.le_of_ble_eq_true rfl) rfl dX1_init_17 (fun H locs hO => ?_)
  refine lv_aload_n hx hb dX1_init_20 rfl (lv_at hl 0 rfl) ?_
  refine lv_aload_n hx hb dX1_init_21 rfl (lv_at hl 1 rfl) ?_
  refine pFF (k := 0) (ws' := [(h0, .inr (1, [.ref t1, .ref q1, .ref q2])), (q1, .inl (cy 1, 8, .inl (fun _ => 0))), (q2, .inl (cy 1, 8, .inl (fun _ => 0)))] ++ ([] : va_W)) (ty := tyX1 0) (v := .ref t1) C hin hO 0 rfl rfl inFX1 (by decide) wd_426 rfl rfl tyX1 tyX1_ok nmX1 rfl (by decide +kernel) rfl rfl (Nat.le_of_ble_eq_true rfl) rfl dX1_init_22 (fun H locs hO => ?_)
  exact hret (fun i => ([q1, q2] : List Nat).getD i 0) _ _ _ _ dX1_init_25 trivial hO
theorem dX3_init_0 : decode cX3_init 0 = .ok (.aload_n 0, 1) := by decide +kernel
theorem dX3_init_1 : decode cX3_init 1 = .ok (.invokespecial 3, 3) := by decide +kernel
theorem dX3_init_4 : decode cX3_init 4 = .ok (.aload_n 0, 1) := by decide +kernel
theorem dX3_init_5 : decode cX3_init 5 = .ok (.bipush 30, 2) := by decide +kernel
theorem dX3_init_7 : decode cX3_init 7 = .ok (.newarray .int, 2) := by decide +kernel
theorem dX3_init_9 : decode cX3_init 9 = .ok (.putfield 11, 3) := by decide +kernel
theorem dX3_init_12 : decode cX3_init 12 = .ok (.aload_n 0, 1) := by decide +kernel
theorem dX3_init_13 : decode cX3_init 13 = .ok (.bipush 30, 2) := by decide +kernel
theorem dX3_init_15 : decode cX3_init 15 = .ok (.newarray .int, 2) := by decide +kernel
theorem dX3_init_17 : decode cX3_init 17 = .ok (.putfield 15, 3) := by decide +kernel
theorem dX3_init_20 : decode cX3_init 20 = .ok (.aload_n 0, 1) := by decide +kernel
theorem dX3_init_21 : decode cX3_init 21 = .ok (.bipush 30, 2) := by decide +kernel
theorem dX3_init_23 : decode cX3_init 23 = .ok (.newarray .boolean, 2) := by decide +kernel
theorem dX3_init_25 : decode cX3_init 25 = .ok (.putfield 18, 3) := by decide +kernel
theorem dX3_init_28 : decode cX3_init 28 = .ok (.aload_n 0, 1) := by decide +kernel
theorem dX3_init_29 : decode cX3_init 29 = .ok (.bipush 30, 2) := by decide +kernel
theorem dX3_init_31 : decode cX3_init 31 = .ok (.newarray .int, 2) := by decide +kernel
theorem dX3_init_33 : decode cX3_init 33 = .ok (.putfield 22, 3) := by decide +kernel
theorem dX3_init_36 : decode cX3_init 36 = .ok (.aload_n 0, 1) := by decide +kernel
theorem dX3_init_37 : decode cX3_init 37 = .ok (.bipush 30, 2) := by decide +kernel
theorem dX3_init_39 : decode cX3_init 39 = .ok (.newarray .int, 2) := by decide +kernel
theorem dX3_init_41 : decode cX3_init 41 = .ok (.putfield 25, 3) := by decide +kernel
theorem dX3_init_44 : decode cX3_init 44 = .ok (.return_, 1) := by decide +kernel
theorem wd_440 : (Cond.code ⟨"WebCourt$Hearsay", "<init>", "()V"⟩ prog_5_method_1_code (1 : Nat) (Option.none : Option FieldType)) ∈ gtb := gtb_c2 91 (by decide +kernel) rfl
theorem wd_441 : (Cond.methodLink "WebCourt$Hearsay" (3 : Nat) ⟨"java/lang/Object", "<init>", "()V"⟩) ∈ gtb := gtb_c2 92 (by decide +kernel) rfl
theorem wd_466 : (Cond.arrayClass FieldType.boolean) ∈ gtb := gtb_c2 117 (by decide +kernel) rfl
set_option maxHeartbeats 8000000 in
set_option maxRecDepth 100000 in
theorem K_X3 (l : Launch) (D : va_G) (cy : Nat → ClassId) (h0 : Nat) : Mc (S := Nat → Nat) l D cy yX3_init (.code yX3_init cX3_init 1 none) { frames := 1, cells := 5, slots := 150, locals := 20 } [.ref h0] [(h0, .inr (3, [.null, .null, .null, .null, .null, .int 0, .int 0]))] (fun q => [(h0, .inr (3, [.ref (q 0), .ref (q 1), .ref (q 2), .ref (q 3), .ref (q 4), .int 0, .int 0])), ((q 0), .inl (cy 1, 30, .inl (fun _ => 0))), ((q 1), .inl (cy 1, 30, .inl (fun _ => 0))), ((q 2), .inl (cy 3, 30, .inl (fun _ => 0))), ((q 3), .inl (cy 1, 30, .inl (fun _ => 0))), ((q 4), .inl (cy 1, 30, .inl (fun _ => 0)))]) (fun _ => True) 5 150 := by
  refine Mc.of (own := RX3) rfl rfl (by decide) (Nat.le_of_ble_eq_true rfl) ?_
  intro p e s m below meth c A Q ls C hQ hin hret hO hl
  obtain ⟨hx, hb, hml, hown, ht, hK, hA⟩ := id C
  have hl : lv_has ls 1 [(0, .ref h0)] := hl
  have hO : Wo D A ([(h0, .inr (3, [.null, .null, .null, .null, .null, .int 0, .int 0]))] ++ ([] : va_W)) s.heap s.heap [] := hO
  refine lv_aload_n hx hb dX3_init_0 rfl (lv_at hl 0 rfl) ?_
  refine oI C wd_441 wd_135 wd_136 hl.1 dX3_init_1 (Nat.le_of_ble_eq_true rfl) (Nat.le_of_ble_eq_true rfl) ?_
  refine lv_aload_n hx hb dX3_init_4 rfl (lv_at hl 0 rfl) ?_
  refine lv_bipush (v := 30) hx hb dX3_init_5 (by decide) ?_
  refine nAI (N := 30) C hO wd_220 (by decide) rfl (Nat.le_of_ble_eq_true rfl) (Nat.le_of_ble_eq_true rfl) (Nat.le_of_ble_eq_true rfl) dX3_init_7 (fun q1 H hO => ?_)
  have hO := hO.swap
  have hO : Wo D A ([(h0, .inr (3, [.null, .null, .null, .null, .null, .int 0, .int 0])), (q1, .inl (cy 1, 30, .inl (fun _ => 0)))] ++ ([] : va_W)) s.heap H [] := hO
  refine pFF (k := 0) (ws' := [(h0, .inr (3, [.ref q1, .null, .null, .null, .null, .int 0, .int 0])), (q1, .inl (cy 1, 30, .inl (fun _ => 0)))] ++ ([] : va_W)) (ty := tyX3 0) (v := .ref q1) C hin hO 0 rfl rfl inFX3 (by decide) wd_442 rfl rfl tyX3 tyX3_ok nmX3 rfl (by decide +kernel) rfl rfl (Nat.le_of_ble_eq_true rfl) rfl dX3_init_9 (fun H locs hO => ?_)
  refine lv_aload_n hx hb dX3_init_12 rfl (lv_at hl 0 rfl) ?_
  refine lv_bipush (v := 30) hx hb dX3_init_13 (by decide) ?_
  refine nAI (N := 30) C hO wd_220 (by decide) rfl (Nat.le_of_ble_eq_true rfl) (Nat.le_of_ble_eq_true rfl) (Nat.le_of_ble_eq_true rfl) dX3_init_15 (fun q2 H hO => ?_)
  have hO := hO.swap
  have hO : Wo D A ([(h0, .inr (3, [.ref q1, .null, .null, .null, .null, .int 0, .int 0])), (q1, .inl (cy 1, 30, .inl (fun _ => 0))), (q2, .inl (cy 1, 30, .inl (fun _ => 0)))] ++ ([] : va_W)) s.heap H locs := hO
  refine pFF (k := 1) (ws' := [(h0, .inr (3, [.ref q1, .ref q2, .null, .null, .null, .int 0, .int 0])), (q1, .inl (cy 1, 30, .inl (fun _ => 0))), (q2, .inl (cy 1, 30, .inl (fun _ => 0)))] ++ ([] : va_W)) (ty := tyX3 1) (v := .ref q2) C hin hO 0 rfl rfl inFX3 (by decide) wd_443 rfl rfl tyX3 tyX3_ok nmX3 rfl (by decide +kernel) rfl rfl (Nat.le_of_ble_eq_true rfl) rfl dX3_init_17 (fun H locs hO => ?_)
  refine lv_aload_n hx hb dX3_init_20 rfl (lv_at hl 0 rfl) ?_
  refine lv_bipush (v := 30) hx hb dX3_init_21 (by decide) ?_
  refine nAZ (N := 30) C hO wd_466 (by decide) rfl (Nat.le_of_ble_eq_true rfl) (Nat.le_of_ble_eq_true rfl) (Nat.le_of_ble_eq_true rfl) dX3_init_23 (fun q3 H hO => ?_)
  have hO := hO.swap
  have hO : Wo D A ([(h0, .inr (3, [.ref q1, .ref q2, .null, .null, .null, .int 0, .int 0])), (q1, .inl (cy 1, 30, .inl (fun _ => 0))), (q2, .inl (cy 1, 30, .inl (fun _ => 0))), (q3, .inl (cy 3, 30, .inl (fun _ => 0)))] ++ ([] : va_W)) s.heap H locs := hO
  refine pFF (k := 2) (ws' := [(h0, .inr (3, [.ref q1, .ref q2, .ref q3, .null, .null, .int 0, .int 0])), (q1, .inl (cy 1, 30, .inl (fun _ => 0))), (q2, .inl (cy 1, 30, .inl (fun _ => 0))), (q3, .inl (cy 3, 30, .inl (fun _ => 0)))] ++ ([] : va_W)) (ty := tyX3 2) (v := .ref q3) C hin hO 0 rfl rfl inFX3 (by decide) wd_444 rfl rfl tyX3 tyX3_ok nmX3 rfl (by decide +kernel) rfl rfl (Nat.le_of_ble_eq_true rfl) rfl dX3_init_25 (fun H locs hO => ?_)
  refine lv_aload_n hx hb dX3_init_28 rfl (lv_at hl 0 rfl) ?_
  refine lv_bipush (v := 30) hx hb dX3_init_29 (by decide) ?_
  refine nAI (N := 30) C hO wd_220 (by decide) rfl (Nat.le_of_ble_eq_true rfl) (Nat.le_of_ble_eq_true rfl) (Nat.le_of_ble_eq_true rfl) dX3_init_31 (fun q4 H hO => ?_)
  have hO := hO.swap
  have hO : Wo D A ([(h0, .inr (3, [.ref q1, .ref q2, .ref q3, .null, .null, .int 0, .int 0])), (q1, .inl (cy 1, 30, .inl (fun _ => 0))), (q2, .inl (cy 1, 30, .inl (fun _ => 0))), (q3, .inl (cy 3, 30, .inl (fun _ => 0))), (q4, .inl (cy 1, 30, .inl (fun _ => 0)))] ++ ([] : va_W)) s.heap H locs := hO
  refine pFF (k := 3) (ws' := [(h0, .inr (3, [.ref q1, .ref q2, .ref q3, .ref q4, .null, .int 0, .int 0])), (q1, .inl (cy 1, 30, .inl (fun _ => 0))), (q2, .inl (cy 1, 30, .inl (fun _ => 0))), (q3, .inl (cy 3, 30, .inl (fun _ => 0))), (q4, .inl (cy 1, 30, .inl (fun _ => 0)))] ++ ([] : va_W)) (ty := tyX3 3) (v := .ref q4) C hin hO 0 rfl rfl inFX3 (by decide) wd_445 rfl rfl tyX3 tyX3_ok nmX3 rfl (by decide +kernel) rfl rfl (Nat.le_of_ble_eq_true rfl) rfl dX3_init_33 (fun H locs hO => ?_)
  refine lv_aload_n hx hb dX3_init_36 rfl (lv_at hl 0 rfl) ?_
  refine lv_bipush (v := 30) hx hb dX3_init_37 (by decide) ?_
  refine nAI (N := 30) C hO wd_220 (by decide) rfl (Nat.le_of_ble_eq_true rfl) (Nat.le_of_ble_eq_true rfl) (Nat.le_of_ble_eq_true rfl) dX3_init_39 (fun q5 H hO => ?_)
  have hO := hO.swap
  have hO : Wo D A ([(h0, .inr (3, [.ref q1, .ref q2, .ref q3, .ref q4, .null, .int 0, .int 0])), (q1, .inl (cy 1, 30, .inl (fun _ => 0))), (q2, .inl (cy 1, 30, .inl (fun _ => 0))), (q3, .inl (cy 3, 30, .inl (fun _ => 0))), (q4, .inl (cy 1, 30, .inl (fun _ => 0))), (q5, .inl (cy 1, 30, .inl (fun _ => 0)))] ++ ([] : va_W)) s.heap H locs := hO
  refine pFF (k := 4) (ws' := [(h0, .inr (3, [.ref q1, .ref q2, .ref q3, .ref q4, .ref q5, .int 0, .int 0])), (q1, .inl (cy 1, 30, .inl (fun _ => 0))), (q2, .inl (cy 1, 30, .inl (fun _ => 0))), (q3, .inl (cy 3, 30, .inl (fun _ => 0))), (q4, .inl (cy 1, 30, .inl (fun _ => 0))), (q5, .inl (cy 1, 30, .inl (fun _ => 0)))] ++ ([] : va_W)) (ty := tyX3 4) (v := .ref q5) C hin hO 0 rfl rfl inFX3 (by decide) wd_446 rfl rfl tyX3 tyX3_ok nmX3 rfl (by decide +kernel) rfl rfl (Nat.le_of_ble_eq_true rfl) rfl dX3_init_41 (fun H locs hO => ?_)
  exact hret (fun i => ([q1, q2, q3, q4, q5] : List Nat).getD i 0) _ _ _ _ dX3_init_44 trivial hO
