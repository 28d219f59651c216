theorem wd_130 : (Cond.instantiable "WebCourt" (13 : Nat)) ∈ gtb := gtb_c1 21 (by decide +kernel) rfl
theorem wd_1331 : (Cond.instantiable "WebCourtModel" (65 : Nat)) ∈ gtb := gtb_c6 22 (by decide +kernel) rfl
theorem wd_129 : (Cond.classLink "WebCourtLaw" (7 : Nat) "WebCourt") ∈ gtb := gtb_c1 20 (by decide +kernel) rfl
theorem wd_131 : (Cond.methodLink "WebCourtLaw" (9 : Nat) ⟨"WebCourt", "<init>", "()V"⟩) ∈ gtb := gtb_c1 22 (by decide +kernel) rfl
theorem wd_132 : (Cond.instanceMethod ⟨"WebCourt", "<init>", "()V"⟩) ∈ gtb := gtb_c1 23 (by decide +kernel) rfl
theorem hd_yX10_init : yX10_init.cls ≠ "java/lang/invoke/MethodHandle" ∧ yX10_init.cls ≠ "java/lang/invoke/VarHandle" ∧ (parseMethodDescriptor yX10_init.desc).map (fun d => d.parameters.length) = some 0 := by decide +kernel
theorem wd_1330 : (Cond.classLink "WebCourtLaw" (10 : Nat) "WebCourtModel") ∈ gtb := gtb_c6 21 (by decide +kernel) rfl
theorem wd_1332 : (Cond.methodLink "WebCourtLaw" (12 : Nat) ⟨"WebCourtModel", "<init>", "()V"⟩) ∈ gtb := gtb_c6 23 (by decide +kernel) rfl
theorem wd_1333 : (Cond.instanceMethod ⟨"WebCourtModel", "<init>", "()V"⟩) ∈ gtb := gtb_c6 24 (by decide +kernel) rfl
theorem hd_yX11_init : yX11_init.cls ≠ "java/lang/invoke/MethodHandle" ∧ yX11_init.cls ≠ "java/lang/invoke/VarHandle" ∧ (parseMethodDescriptor yX11_init.desc).map (fun d => d.parameters.length) = some 0 := by decide +kernel
def tmS : Nat → Term := fun i => if i = 0 then .string "WebCourt$Tape" 65 else .string "WebCourt$Tape" 75
theorem str_el0 : ∀ j : Fin 102, (Cond.eq (.elem (.field (tmS 0) "java/lang/String" "value" "[B") (.int (Int32.ofNat j.val))) (.int ((strByt.getD 0 []).getD j.val 0))) ∈ flatC (Jvm.Cond.and given_1 narrow_1) := by decide +kernel
theorem str_el1 : ∀ j : Fin 11, (Cond.eq (.elem (.field (tmS 1) "java/lang/String" "value" "[B") (.int (Int32.ofNat j.val))) (.int ((strByt.getD 1 []).getD j.val 0))) ∈ flatC (Jvm.Cond.and given_1 narrow_1) := by decide +kernel
theorem vk_S.congr {N : Nat} {len : List Nat} {byt : List (List Int32)} {k v k2 v2 : Nat → Nat} {A : Nat → Prop} {U : State} {H : Heap} (h : vk_S N len byt k v A U H) (e1 : ∀ i, i < N → k2 i = k i) (e2 : ∀ i, i < N → v2 i = v i) : vk_S N len byt k2 v2 A U H := by
  refine ⟨fun i hi => ?_, fun i j hi hj e => h.2 i j hi hj (by rw [← e1 i hi, ← e1 j hj]; exact e)⟩
  rw [e1 i hi, e2 i hi]
  exact h.1 i hi
set_option maxHeartbeats 4000000 in
set_option maxRecDepth 100000 in
theorem law_strings {s : State} {args : Array Value} (hs : ∀ c ∈ flatC (Jvm.Cond.and given_1 narrow_1), c.before args s = true) (hts : ∀ w ∈ lw_tbl, w.before args s = true) : ∃ adK adV : Nat → Nat, vk_S 2 strLen strByt adK adV (fun q : Nat => s.heap.size ≤ q) s s.heap ∧ vk_R "WebCourt$Tape" 65 "knot line sticky plea strong case at pleads bench law back draw or and not many before stays kin hour " (adK 0) s ∧ vk_R "WebCourt$Tape" 75 ";()<>=+-*/%" (adK 1) s ∧ va_Z "java/lang/String" "COMPACT_STRINGS" "Z" (.int 1) (fun q : Nat => s.heap.size ≤ q) s s.heap ∧ va_Zq "jdk/internal/util/Preconditions" "SIOOBE_FORMATTER" "Ljava/util/function/BiFunction;" (fun q : Nat => s.heap.size ≤ q) s s.heap := by
  have ht : ∀ w ∈ gtb, w.before args s = true := fun w h => hts w (gtb_in h)
  have hA9 : ∀ a : Nat, a < s.heap.size → ¬ (fun q : Nat => s.heap.size ≤ q) a := fun a h => Nat.not_le.mpr h
  obtain ⟨adK, adV, hZ, hE⟩ := vk_Sof (args := args) (s := s) (A := (fun q : Nat => s.heap.size ≤ q)) (tm := tmS) (len := strLen) (byt := strByt) (N := 2) (fun i hi => by
    rcases (show i = 0 ∨ i = 1 by omega) with rfl | rfl <;> decide) (fun i hi => by
    rcases (show i = 0 ∨ i = 1 by omega) with rfl | rfl
    · exact hs _ (by decide +kernel)
    · exact hs _ (by decide +kernel)) (fun i hi => by
    rcases (show i = 0 ∨ i = 1 by omega) with rfl | rfl
    · exact hs _ (by decide +kernel)
    · exact hs _ (by decide +kernel)) (fun i hi => by
    rcases (show i = 0 ∨ i = 1 by omega) with rfl | rfl
    · exact hs _ (by decide +kernel)
    · exact hs _ (by decide +kernel)) (fun i hi => by
    rcases (show i = 0 ∨ i = 1 by omega) with rfl | rfl
    · exact hs _ (by decide +kernel)
    · exact hs _ (by decide +kernel)) (fun i hi j hj => by
    rcases (show i = 0 ∨ i = 1 by omega) with rfl | rfl
    · exact hs _ (str_el0 ⟨j, hj⟩)
    · exact hs _ (str_el1 ⟨j, hj⟩)) (fun i j hi hj hij => by
    rcases (show (i = 0 ∧ j = 1) ∨ (i = 1 ∧ j = 0) by omega) with ⟨rfl, rfl⟩ | ⟨rfl, rfl⟩
    · exact Or.inl (hs _ (by decide +kernel))
    · exact Or.inr (hs _ (by decide +kernel))) hA9
  refine ⟨adK, adV, hZ, vk_R.of (hts _ (List.mem_append_right _ (List.mem_append_right _ (List.mem_append_left _ (List.mem_of_getElem? (i := 211) (by decide +kernel)))))) (hE 0 (by decide)), vk_R.of (hts _ (List.mem_append_right _ (List.mem_append_right _ (List.mem_append_right _ (List.mem_append_left _ (List.mem_of_getElem? (i := 30) (by decide +kernel))))))) (hE 1 (by decide)), va_Zof (hts _ (List.mem_append_right _ (List.mem_append_right _ (List.mem_append_left _ (List.mem_of_getElem? (i := 221) (by decide +kernel)))))) (ht _ wd_122) (va_eqi (hs _ (by decide +kernel))) hA9, va_Zqof (hts _ (List.mem_append_right _ (List.mem_append_right _ (List.mem_append_left _ (List.mem_of_getElem? (i := 237) (by decide +kernel)))))) (ht _ wd_124) (hs _ (by decide +kernel)) hA9⟩
set_option maxHeartbeats 4000000 in
set_option maxRecDepth 100000 in
theorem law_known {s : State} {args : Array Value} (hs : ∀ c ∈ flatC (Jvm.Cond.and given_1 narrow_1), c.before args s = true) (hts : ∀ w ∈ lw_tbl, w.before args s = true) : ∃ (D : va_G) (cy : Nat → ClassId), KQ D cy s ∧ Sg cy (fun q : Nat => s.heap.size ≤ q) s s.heap := by
  have ht : ∀ w ∈ gtb, w.before args s = true := fun w h => hts w (gtb_in h)
  obtain ⟨adK, adV, hZ1, hZ2, hZ3, hZ4, hZ5⟩ := law_strings hs hts
  obtain ⟨c0, i0, k0⟩ := u_known (C := RX0) (T := TX0) (N := 4) (n := 4) ht inFX0 (ht _ wd_369)
  obtain ⟨c1, i1, k1⟩ := u_known (C := RX1) (T := TX1) (N := 3) (n := 3) ht inFX1 (ht _ wd_421)
  obtain ⟨c2, i2, k2⟩ := u_known (C := RX2) (T := TX2) (N := 2) (n := 2) ht inFX2 (ht _ wd_348)
  obtain ⟨c3, i3, k3⟩ := u_known (C := RX3) (T := TX3) (N := 7) (n := 7) ht inFX3 (ht _ wd_437)
  obtain ⟨c4, i4, k4⟩ := u_known (C := RX4) (T := TX4) (N := 11) (n := 11) ht inFX4 (ht _ wd_178)
  obtain ⟨c5, i5, k5⟩ := u_known (C := RX5) (T := TX5) (N := 4) (n := 4) ht inFX5 (ht _ wd_327)
  obtain ⟨c6, i6, k6⟩ := u_known (C := RX6) (T := TX6) (N := 3) (n := 3) ht inFX6 (ht _ wd_405)
  obtain ⟨c7, i7, k7⟩ := u_known (C := RX7) (T := TX7) (N := 7) (n := 7) ht inFX7 (ht _ wd_138)
  obtain ⟨c8, i8, k8⟩ := u_known (C := RX8) (T := TX8) (N := 2) (n := 2) ht inFX8 (ht _ wd_392)
  obtain ⟨c9, i9, k9⟩ := u_known (C := RX9) (T := TX9) (N := 18) (n := 18) ht inFX9 (ht _ wd_172)
  obtain ⟨c10, i10, k10⟩ := u_known (C := RX10) (T := TX10) (N := 13) (n := 13) ht inFX10 (ht _ wd_130)
  obtain ⟨c11, i11, k11⟩ := u_known (C := RX11) (T := TX11) (N := 65) (n := 65) ht inFX11 (ht _ wd_1331)
  obtain ⟨y0, kA0, cm0, f0, g0, hk0⟩ := Cond.arrayClass_spec (ht (.arrayClass .byte) wd_170)
  obtain ⟨y1, kA1, cm1, f1, g1, hk1⟩ := Cond.arrayClass_spec (ht (.arrayClass .int) wd_220)
  obtain ⟨y2, kA2, cm2, f2, g2, hk2⟩ := Cond.arrayClass_spec (ht (.arrayClass .long) wd_219)
  obtain ⟨y3, kA3, cm3, f3, g3, hk3⟩ := Cond.arrayClass_spec (ht (.arrayClass .boolean) wd_466)
  have hao : (Cond.arrayOver (.array .int)).before args s = true := hts (.arrayOver (.array .int)) (List.mem_append_right _ (List.mem_append_right _ (List.mem_append_left _ (List.mem_of_getElem? (i := 26) (by decide +kernel)))))
  obtain ⟨cm4, y4, kA4, -, -, g4, hk4, f4⟩ := arrayOverA_spec hao
  refine ⟨(fun k => if k = 0 then c0 else if k = 1 then c1 else if k = 2 then c2 else if k = 3 then c3 else if k = 4 then c4 else if k = 5 then c5 else if k = 6 then c6 else if k = 7 then c7 else if k = 8 then c8 else if k = 9 then c9 else if k = 10 then c10 else c11, fun k => if k = 0 then i0 else if k = 1 then i1 else if k = 2 then i2 else if k = 3 then i3 else if k = 4 then i4 else if k = 5 then i5 else if k = 6 then i6 else if k = 7 then i7 else if k = 8 then i8 else if k = 9 then i9 else if k = 10 then i10 else i11), fun k => if k = 10 then adK 0 else if k = 11 then adK 1 else if k = 20 then adV 0 else if k = 21 then adV 1 else if k = 0 then y0 else if k = 1 then y1 else if k = 2 then y2 else if k = 3 then y3 else y4, ⟨⟨⟨?_, ?_⟩, va_Nw.of (w := kNest) rfl (hts kNest (List.mem_append_right _ (List.mem_append_right _ (List.mem_append_right _ (List.mem_append_right _ (List.mem_append_left _ (List.mem_of_getElem? (i := 81) (by decide +kernel))))))))⟩, va_Nw.of (w := nTape) rfl (hts nTape (List.mem_append_right _ (List.mem_append_left _ (List.mem_of_getElem? (i := 30) (by decide +kernel))))), va_Nw.of (w := nWeb) rfl (hts nWeb (List.mem_append_right _ (List.mem_append_left _ (List.mem_of_getElem? (i := 64) (by decide +kernel))))), va_Nw.of (w := nLaw) rfl (hts nLaw (List.mem_append_right _ (List.mem_append_left _ (List.mem_of_getElem? (i := 70) (by decide +kernel))))), va_Nw.of (w := nActs) rfl (hts nActs (List.mem_append_right _ (List.mem_append_right _ (List.mem_append_left _ (List.mem_of_getElem? (i := 21) (by decide +kernel)))))), va_Nw.of (w := nHears) rfl (hts nHears (List.mem_append_right _ (List.mem_append_right _ (List.mem_append_left _ (List.mem_of_getElem? (i := 89) (by decide +kernel)))))), hao⟩, hZ1.congr ?_ ?_, hZ2, hZ3, hZ4, hZ5⟩
  · intro k q hq
    match k, hq with
    | 0, hq => cases hq; exact k0
    | 1, hq => cases hq; exact k1
    | 2, hq => cases hq; exact k2
    | 3, hq => cases hq; exact k3
    | 4, hq => cases hq; exact k4
    | 5, hq => cases hq; exact k5
    | 6, hq => cases hq; exact k6
    | 7, hq => cases hq; exact k7
    | 8, hq => cases hq; exact k8
    | 9, hq => cases hq; exact k9
    | 10, hq => cases hq; exact k10
    | 11, hq => cases hq; exact k11
    | k + 12, hq => simp [vwCl] at hq
  · intro k q hq
    match k, hq with
    | 0, hq => cases hq; exact ⟨fun n z => ⟨fun k h => (by cases h), kA0, g0, cm0, hk0⟩, f0⟩
    | 1, hq => cases hq; exact ⟨fun n z => ⟨fun k h => (by cases h), kA1, g1, cm1, hk1⟩, f1⟩
    | 2, hq => cases hq; exact ⟨fun n z => ⟨fun k h => (by cases h), kA2, g2, cm2, hk2⟩, f2⟩
    | 3, hq => cases hq; exact ⟨fun n z => ⟨fun k h => (by cases h), kA3, g3, cm3, hk3⟩, f3⟩
    | 4, hq => cases hq; exact ⟨fun n z => ⟨fun k h => (by cases h), kA4, g4, cm4, hk4⟩, f4⟩
    | k + 5, hq => simp [tyL] at hq
  · intro i hi
    rcases (show i = 0 ∨ i = 1 by omega) with rfl | rfl <;> rfl
  · intro i hi
    rcases (show i = 0 ∨ i = 1 by omega) with rfl | rfl <;> rfl
set_option maxHeartbeats 8000000 in
set_option maxRecDepth 100000 in
theorem law_end {p : Program} {l : Launch} {e : Env} {s : State} {m : MethodId} {below : List Frame} {meth : Method} {c : Code} {b : Nat} {D : va_G} {cy : Nat → ClassId} {A : Nat → Prop} (hAe : (fun q : Nat => s.heap.size ≤ q) = A) (C : Cx p s m #[Value.ref b] c code 4 RL D cy A) (hr : meth.sig.returnType = ret) (hlocks : meth.locks = false) {H : Heap} {locs : List Loc} {ls : Array Slot} (hS : va_S A s.heap H locs) : W p l e room_1 s m #[Value.ref b] below meth c H locs 134 12281 (lw_Z below #[Value.ref b] s) (F0 m 1392 ls []) := by
  obtain ⟨hx, hb, hml, hown, ht, hK, hA⟩ := id C
  refine lv_iconst (v := 1) hx hb dL_law_1392 (by decide) ?_
  refine va_forget (fun q hq => by have h9 := hS.2.2 q hq; rw [← hAe] at h9; exact h9) ?_
  refine W.widen (k := 600000) (n := 7302250) (Nat.le_of_ble_eq_true rfl) (Nat.le_of_ble_eq_true rfl) ?_
  exact lw_ret hx hb hr hlocks dL_law_1393
