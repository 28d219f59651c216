def sAt (u : St) (q i : Nat) (x : Int32) : St := sA u q (upd (fA u q) i x)
theorem dX11_isIn_0 : decode cX11_isIn 0 = .ok (.iload_n 0, 1) := by decide +kernel
theorem dX11_isIn_1 : decode cX11_isIn 1 = .ok (.iload_n 1, 1) := by decide +kernel
theorem dX11_isIn_2 : decode cX11_isIn 2 = .ok (.if_icmp .lt 12, 3) := by decide +kernel
theorem dX11_isIn_5 : decode cX11_isIn 5 = .ok (.iload_n 0, 1) := by decide +kernel
theorem dX11_isIn_6 : decode cX11_isIn 6 = .ok (.iload_n 2, 1) := by decide +kernel
theorem dX11_isIn_7 : decode cX11_isIn 7 = .ok (.if_icmp .gt 7, 3) := by decide +kernel
theorem dX11_isIn_10 : decode cX11_isIn 10 = .ok (.iconst 1, 1) := by decide +kernel
theorem dX11_isIn_11 : decode cX11_isIn 11 = .ok (.goto 4, 3) := by decide +kernel
theorem dX11_isIn_14 : decode cX11_isIn 14 = .ok (.iconst 0, 1) := by decide +kernel
theorem dX11_isIn_15 : decode cX11_isIn 15 = .ok (.ireturn, 1) := by decide +kernel
theorem wd_1724 : (Cond.code ⟨"WebCourtModel", "isIn", "(III)Z"⟩ prog_13_method_41_code (3 : Nat) (Option.some FieldType.boolean)) ∈ gtb := gtb_c7 175 (by decide +kernel) rfl
set_option maxHeartbeats 4000000 in
set_option maxRecDepth 100000 in
theorem T_X11_isIn (l : Launch) (D : va_G) (cy : Nat → ClassId) (a : Nat → Nat) (u : St)  (x1 : Int32) (x2 : Int32) (x3 : Int32)  : Mi l D cy (mW cy a) yX11_isIn (.code yX11_isIn cX11_isIn 3 (some .boolean)) (rmo 0 0) [.int x1, .int x2, .int x3] u (fun (r : Int32) (u' : St) => (((x2.toInt ≤ x1.toInt ∧ x1.toInt ≤ x3.toInt) ∧ r = 1) ∨ ((x1.toInt < x2.toInt ∨ x3.toInt < x1.toInt) ∧ r = 0)) ∧ (u' = u)) := by
  refine Mi.of (own := RX11) rfl (by decide) (Nat.le_of_ble_eq_true rfl) ?_
  intro p e s m below meth c A Q ls C hret hO hl
  obtain ⟨hx, hb, hml, hown, ht, hK, hA⟩ := id C
  have hl : lv_has ls 3 [(0, .int x1), (1, .int x2), (2, .int x3)] := hl
  refine lv_iload_n hx hb dX11_isIn_0 rfl (lv_at hl 0 rfl) ?_
  refine lv_iload_n hx hb dX11_isIn_1 rfl (lv_at hl 1 rfl) ?_
  refine cs_lt (tgt := 14) (X := (x1).toInt) (Y := (x2).toInt) hx hb dX11_isIn_2 (by decide) rfl rfl (fun c1 => ?_) (fun c1 => ?_)
  · refine lv_iconst (v := 0) hx hb dX11_isIn_14 (by decide) ?_
    refine hret _ _ _ _ _ _ dX11_isIn_15 rfl ?_ hO
    exact ⟨Or.inr ⟨by omega, rfl⟩, rfl⟩
  · refine lv_iload_n hx hb dX11_isIn_5 rfl (lv_at hl 0 rfl) ?_
    refine lv_iload_n hx hb dX11_isIn_6 rfl (lv_at hl 2 rfl) ?_
    refine cs_gt (tgt := 14) (X := (x1).toInt) (Y := (x3).toInt) hx hb dX11_isIn_7 (by decide) rfl rfl (fun c2 => ?_) (fun c2 => ?_)
    · refine lv_iconst (v := 0) hx hb dX11_isIn_14 (by decide) ?_
      refine hret _ _ _ _ _ _ dX11_isIn_15 rfl ?_ hO
      exact ⟨Or.inr ⟨by omega, rfl⟩, rfl⟩
    · refine lv_iconst (v := 1) hx hb dX11_isIn_10 (by decide) ?_
      refine lv_goto (tgt := 15) hx hb dX11_isIn_11 (by decide) ?_
      refine hret _ _ _ _ _ _ dX11_isIn_15 rfl ?_ hO
      exact ⟨Or.inl ⟨by omega, rfl⟩, rfl⟩
theorem dX11_many_0 : decode cX11_many 0 = .ok (.aload_n 0, 1) := by decide +kernel
theorem dX11_many_1 : decode cX11_many 1 = .ok (.getfield 30, 3) := by decide +kernel
theorem dX11_many_4 : decode cX11_many 4 = .ok (.aload_n 0, 1) := by decide +kernel
theorem dX11_many_5 : decode cX11_many 5 = .ok (.getfield 255, 3) := by decide +kernel
theorem dX11_many_8 : decode cX11_many 8 = .ok (.iaload, 1) := by decide +kernel
theorem dX11_many_9 : decode cX11_many 9 = .ok (.ireturn, 1) := by decide +kernel
theorem wd_1351 : (Cond.code ⟨"WebCourtModel", "many", "()I"⟩ prog_13_method_46_code (1 : Nat) (Option.some FieldType.int)) ∈ gtb := gtb_c6 42 (by decide +kernel) rfl
theorem wd_1370 : (Cond.fieldLink "WebCourtModel" (30 : Nat) "WebCourtModel" "cases" "[I") ∈ gtb := gtb_c6 61 (by decide +kernel) rfl
theorem wd_1421 : (Cond.laysFinal "WebCourtModel" "WebCourtModel" "tape" "[B") ∈ gtb := gtb_c6 112 (by decide +kernel) rfl
theorem wd_1423 : (Cond.laysFinal "WebCourtModel" "WebCourtModel" "text" "[B") ∈ gtb := gtb_c6 114 (by decide +kernel) rfl
theorem wd_1425 : (Cond.lays "WebCourtModel" "WebCourtModel" "taped" "I") ∈ gtb := gtb_c6 116 (by decide +kernel) rfl
theorem wd_1427 : (Cond.lays "WebCourtModel" "WebCourtModel" "size" "I") ∈ gtb := gtb_c6 118 (by decide +kernel) rfl
theorem wd_1429 : (Cond.lays "WebCourtModel" "WebCourtModel" "faultKind" "I") ∈ gtb := gtb_c6 120 (by decide +kernel) rfl
theorem wd_1431 : (Cond.lays "WebCourtModel" "WebCourtModel" "faultPlace" "I") ∈ gtb := gtb_c6 122 (by decide +kernel) rfl
theorem wd_1433 : (Cond.lays "WebCourtModel" "WebCourtModel" "at" "I") ∈ gtb := gtb_c6 124 (by decide +kernel) rfl
theorem wd_1435 : (Cond.lays "WebCourtModel" "WebCourtModel" "end" "I") ∈ gtb := gtb_c6 126 (by decide +kernel) rfl
theorem wd_1437 : (Cond.lays "WebCourtModel" "WebCourtModel" "token" "I") ∈ gtb := gtb_c6 128 (by decide +kernel) rfl
theorem wd_1439 : (Cond.lays "WebCourtModel" "WebCourtModel" "number" "I") ∈ gtb := gtb_c6 130 (by decide +kernel) rfl
theorem wd_1441 : (Cond.lays "WebCourtModel" "WebCourtModel" "name" "J") ∈ gtb := gtb_c6 132 (by decide +kernel) rfl
theorem wd_1443 : (Cond.laysFinal "WebCourtModel" "WebCourtModel" "knots" "[I") ∈ gtb := gtb_c6 134 (by decide +kernel) rfl
theorem wd_1445 : (Cond.laysFinal "WebCourtModel" "WebCourtModel" "lines" "[I") ∈ gtb := gtb_c6 136 (by decide +kernel) rfl
theorem wd_1447 : (Cond.laysFinal "WebCourtModel" "WebCourtModel" "pleas" "[I") ∈ gtb := gtb_c6 138 (by decide +kernel) rfl
theorem wd_1449 : (Cond.laysFinal "WebCourtModel" "WebCourtModel" "cases" "[I") ∈ gtb := gtb_c6 140 (by decide +kernel) rfl
theorem wd_1451 : (Cond.laysFinal "WebCourtModel" "WebCourtModel" "units" "[I") ∈ gtb := gtb_c6 142 (by decide +kernel) rfl
theorem wd_1453 : (Cond.laysFinal "WebCourtModel" "WebCourtModel" "bench" "[I") ∈ gtb := gtb_c6 144 (by decide +kernel) rfl
theorem wd_1455 : (Cond.laysFinal "WebCourtModel" "WebCourtModel" "back" "[I") ∈ gtb := gtb_c6 146 (by decide +kernel) rfl
theorem wd_1457 : (Cond.laysFinal "WebCourtModel" "WebCourtModel" "draw" "[I") ∈ gtb := gtb_c6 148 (by decide +kernel) rfl
theorem wd_1459 : (Cond.laysFinal "WebCourtModel" "WebCourtModel" "told" "[I") ∈ gtb := gtb_c6 150 (by decide +kernel) rfl
theorem wd_1461 : (Cond.laysFinal "WebCourtModel" "WebCourtModel" "stickyTold" "[I") ∈ gtb := gtb_c6 152 (by decide +kernel) rfl
theorem wd_1463 : (Cond.laysFinal "WebCourtModel" "WebCourtModel" "oneEnd" "[I") ∈ gtb := gtb_c6 154 (by decide +kernel) rfl
theorem wd_1465 : (Cond.laysFinal "WebCourtModel" "WebCourtModel" "otherEnd" "[I") ∈ gtb := gtb_c6 156 (by decide +kernel) rfl
theorem wd_1467 : (Cond.laysFinal "WebCourtModel" "WebCourtModel" "strong" "[I") ∈ gtb := gtb_c6 158 (by decide +kernel) rfl
theorem wd_1469 : (Cond.laysFinal "WebCourtModel" "WebCourtModel" "knotOf" "[I") ∈ gtb := gtb_c6 160 (by decide +kernel) rfl
theorem wd_1471 : (Cond.laysFinal "WebCourtModel" "WebCourtModel" "pleaTold" "[I") ∈ gtb := gtb_c6 162 (by decide +kernel) rfl
theorem wd_1473 : (Cond.laysFinal "WebCourtModel" "WebCourtModel" "ruleFrom" "[I") ∈ gtb := gtb_c6 164 (by decide +kernel) rfl
theorem wd_1475 : (Cond.laysFinal "WebCourtModel" "WebCourtModel" "ruleTo" "[I") ∈ gtb := gtb_c6 166 (by decide +kernel) rfl
theorem wd_1477 : (Cond.laysFinal "WebCourtModel" "WebCourtModel" "kName" "[J") ∈ gtb := gtb_c6 168 (by decide +kernel) rfl
theorem wd_1479 : (Cond.laysFinal "WebCourtModel" "WebCourtModel" "pName" "[J") ∈ gtb := gtb_c6 170 (by decide +kernel) rfl
theorem wd_1481 : (Cond.laysFinal "WebCourtModel" "WebCourtModel" "cName" "[J") ∈ gtb := gtb_c6 172 (by decide +kernel) rfl
theorem wd_1483 : (Cond.laysFinal "WebCourtModel" "WebCourtModel" "code" "[I") ∈ gtb := gtb_c6 174 (by decide +kernel) rfl
theorem wd_1485 : (Cond.laysFinal "WebCourtModel" "WebCourtModel" "codeNumber" "[I") ∈ gtb := gtb_c6 176 (by decide +kernel) rfl
theorem wd_1487 : (Cond.laysFinal "WebCourtModel" "WebCourtModel" "eWhat" "[I") ∈ gtb := gtb_c6 178 (by decide +kernel) rfl
theorem wd_1489 : (Cond.laysFinal "WebCourtModel" "WebCourtModel" "eSign" "[I") ∈ gtb := gtb_c6 180 (by decide +kernel) rfl
theorem wd_1491 : (Cond.laysFinal "WebCourtModel" "WebCourtModel" "pile" "[I") ∈ gtb := gtb_c6 182 (by decide +kernel) rfl
theorem wd_1493 : (Cond.lays "WebCourtModel" "WebCourtModel" "bank" "I") ∈ gtb := gtb_c6 184 (by decide +kernel) rfl
theorem wd_1495 : (Cond.lays "WebCourtModel" "WebCourtModel" "rb" "I") ∈ gtb := gtb_c6 186 (by decide +kernel) rfl
theorem wd_1497 : (Cond.lays "WebCourtModel" "WebCourtModel" "codes" "I") ∈ gtb := gtb_c6 188 (by decide +kernel) rfl
theorem wd_1499 : (Cond.lays "WebCourtModel" "WebCourtModel" "within" "I") ∈ gtb := gtb_c6 190 (by decide +kernel) rfl
theorem wd_1501 : (Cond.lays "WebCourtModel" "WebCourtModel" "piled" "I") ∈ gtb := gtb_c6 192 (by decide +kernel) rfl
theorem wd_1503 : (Cond.lays "WebCourtModel" "WebCourtModel" "unitsInRule" "I") ∈ gtb := gtb_c6 194 (by decide +kernel) rfl
theorem wd_1505 : (Cond.lays "WebCourtModel" "WebCourtModel" "askCase" "I") ∈ gtb := gtb_c6 196 (by decide +kernel) rfl
theorem wd_1507 : (Cond.lays "WebCourtModel" "WebCourtModel" "askPleas" "I") ∈ gtb := gtb_c6 198 (by decide +kernel) rfl
theorem wd_1509 : (Cond.laysFinal "WebCourtModel" "WebCourtModel" "all" "[I") ∈ gtb := gtb_c6 200 (by decide +kernel) rfl
theorem wd_1511 : (Cond.lays "WebCourtModel" "WebCourtModel" "thought" "I") ∈ gtb := gtb_c6 202 (by decide +kernel) rfl
theorem wd_1513 : (Cond.laysFinal "WebCourtModel" "WebCourtModel" "was" "[I") ∈ gtb := gtb_c6 204 (by decide +kernel) rfl
theorem wd_1515 : (Cond.lays "WebCourtModel" "WebCourtModel" "acts" "I") ∈ gtb := gtb_c6 206 (by decide +kernel) rfl
theorem wd_1517 : (Cond.lays "WebCourtModel" "WebCourtModel" "undone" "I") ∈ gtb := gtb_c6 208 (by decide +kernel) rfl
theorem wd_1519 : (Cond.laysFinal "WebCourtModel" "WebCourtModel" "laidRow" "[I") ∈ gtb := gtb_c6 210 (by decide +kernel) rfl
theorem wd_1521 : (Cond.lays "WebCourtModel" "WebCourtModel" "laid" "I") ∈ gtb := gtb_c6 212 (by decide +kernel) rfl
theorem wd_1523 : (Cond.laysFinal "WebCourtModel" "WebCourtModel" "verdicts" "[I") ∈ gtb := gtb_c6 214 (by decide +kernel) rfl
theorem wd_1525 : (Cond.laysFinal "WebCourtModel" "WebCourtModel" "far" "[I") ∈ gtb := gtb_c6 216 (by decide +kernel) rfl
theorem wd_1527 : (Cond.laysFinal "WebCourtModel" "WebCourtModel" "verdictIf" "[I") ∈ gtb := gtb_c6 218 (by decide +kernel) rfl
theorem wd_1529 : (Cond.laysFinal "WebCourtModel" "WebCourtModel" "sCase" "[I") ∈ gtb := gtb_c6 220 (by decide +kernel) rfl
theorem wd_1531 : (Cond.laysFinal "WebCourtModel" "WebCourtModel" "sMuch" "[I") ∈ gtb := gtb_c6 222 (by decide +kernel) rfl
theorem wd_1533 : (Cond.laysFinal "WebCourtModel" "WebCourtModel" "sIs" "[I") ∈ gtb := gtb_c6 224 (by decide +kernel) rfl
theorem wd_1535 : (Cond.laysFinal "WebCourtModel" "WebCourtModel" "sTold" "[I") ∈ gtb := gtb_c6 226 (by decide +kernel) rfl
theorem wd_1537 : (Cond.laysFinal "WebCourtModel" "WebCourtModel" "sUntold" "[I") ∈ gtb := gtb_c6 228 (by decide +kernel) rfl
theorem wd_1539 : (Cond.laysFinal "WebCourtModel" "WebCourtModel" "parts" "[I") ∈ gtb := gtb_c6 230 (by decide +kernel) rfl
theorem wd_1541 : (Cond.laysFinal "WebCourtModel" "WebCourtModel" "kept" "[I") ∈ gtb := gtb_c6 232 (by decide +kernel) rfl
theorem wd_1543 : (Cond.lays "WebCourtModel" "WebCourtModel" "heards" "I") ∈ gtb := gtb_c6 234 (by decide +kernel) rfl
theorem wd_1545 : (Cond.lays "WebCourtModel" "WebCourtModel" "time" "I") ∈ gtb := gtb_c6 236 (by decide +kernel) rfl
theorem wd_1547 : (Cond.laysFinal "WebCourtModel" "WebCourtModel" "boxAll" "[I") ∈ gtb := gtb_c6 238 (by decide +kernel) rfl
theorem wd_1549 : (Cond.laysFinal "WebCourtModel" "WebCourtModel" "isBoxed" "[Z") ∈ gtb := gtb_c7 0 (by decide +kernel) rfl
theorem inFX11 : ∀ w ∈ u_ws RX11 TX11 65, w ∈ gtb := by
  show ∀ w ∈ [u_lay RX11 TX11 0, u_lay RX11 TX11 1, u_lay RX11 TX11 2, u_lay RX11 TX11 3, u_lay RX11 TX11 4, u_lay RX11 TX11 5, u_lay RX11 TX11 6, u_lay RX11 TX11 7, u_lay RX11 TX11 8, u_lay RX11 TX11 9, u_lay RX11 TX11 10, u_lay RX11 TX11 11, u_lay RX11 TX11 12, u_lay RX11 TX11 13, u_lay RX11 TX11 14, u_lay RX11 TX11 15, u_lay RX11 TX11 16, u_lay RX11 TX11 17, u_lay RX11 TX11 18, u_lay RX11 TX11 19, u_lay RX11 TX11 20, u_lay RX11 TX11 21, u_lay RX11 TX11 22, u_lay RX11 TX11 23, u_lay RX11 TX11 24, u_lay RX11 TX11 25, u_lay RX11 TX11 26, u_lay RX11 TX11 27, u_lay RX11 TX11 28, u_lay RX11 TX11 29, u_lay RX11 TX11 30, u_lay RX11 TX11 31, u_lay RX11 TX11 32, u_lay RX11 TX11 33, u_lay RX11 TX11 34, u_lay RX11 TX11 35, u_lay RX11 TX11 36, u_lay RX11 TX11 37, u_lay RX11 TX11 38, u_lay RX11 TX11 39, u_lay RX11 TX11 40, u_lay RX11 TX11 41, u_lay RX11 TX11 42, u_lay RX11 TX11 43, u_lay RX11 TX11 44, u_lay RX11 TX11 45, u_lay RX11 TX11 46, u_lay RX11 TX11 47, u_lay RX11 TX11 48, u_lay RX11 TX11 49, u_lay RX11 TX11 50, u_lay RX11 TX11 51, u_lay RX11 TX11 52, u_lay RX11 TX11 53, u_lay RX11 TX11 54, u_lay RX11 TX11 55, u_lay RX11 TX11 56, u_lay RX11 TX11 57, u_lay RX11 TX11 58, u_lay RX11 TX11 59, u_lay RX11 TX11 60, u_lay RX11 TX11 61, u_lay RX11 TX11 62, u_lay RX11 TX11 63, u_lay RX11 TX11 64], w ∈ gtb
  exact List.forall_mem_cons.mpr ⟨wd_1421, List.forall_mem_cons.mpr ⟨wd_1423, List.forall_mem_cons.mpr ⟨wd_1425, List.forall_mem_cons.mpr ⟨wd_1427, List.forall_mem_cons.mpr ⟨wd_1429, List.forall_mem_cons.mpr ⟨wd_1431, List.forall_mem_cons.mpr ⟨wd_1433, List.forall_mem_cons.mpr ⟨wd_1435, List.forall_mem_cons.mpr ⟨wd_1437, List.forall_mem_cons.mpr ⟨wd_1439, List.forall_mem_cons.mpr ⟨wd_1441, List.forall_mem_cons.mpr ⟨wd_1443, List.forall_mem_cons.mpr ⟨wd_1445, List.forall_mem_cons.mpr ⟨wd_1447, List.forall_mem_cons.mpr ⟨wd_1449, List.forall_mem_cons.mpr ⟨wd_1451, List.forall_mem_cons.mpr ⟨wd_1453, List.forall_mem_cons.mpr ⟨wd_1455, List.forall_mem_cons.mpr ⟨wd_1457, List.forall_mem_cons.mpr ⟨wd_1459, List.forall_mem_cons.mpr ⟨wd_1461, List.forall_mem_cons.mpr ⟨wd_1463, List.forall_mem_cons.mpr ⟨wd_1465, List.forall_mem_cons.mpr ⟨wd_1467, List.forall_mem_cons.mpr ⟨wd_1469, List.forall_mem_cons.mpr ⟨wd_1471, List.forall_mem_cons.mpr ⟨wd_1473, List.forall_mem_cons.mpr ⟨wd_1475, List.forall_mem_cons.mpr ⟨wd_1477, List.forall_mem_cons.mpr ⟨wd_1479, List.forall_mem_cons.mpr ⟨wd_1481, List.forall_mem_cons.mpr ⟨wd_1483, List.forall_mem_cons.mpr ⟨wd_1485, List.forall_mem_cons.mpr ⟨wd_1487, List.forall_mem_cons.mpr ⟨wd_1489, List.forall_mem_cons.mpr ⟨wd_1491, List.forall_mem_cons.mpr ⟨wd_1493, List.forall_mem_cons.mpr ⟨wd_1495, List.forall_mem_cons.mpr ⟨wd_1497, List.forall_mem_cons.mpr ⟨wd_1499, List.forall_mem_cons.mpr ⟨wd_1501, List.forall_mem_cons.mpr ⟨wd_1503, List.forall_mem_cons.mpr ⟨wd_1505, List.forall_mem_cons.mpr ⟨wd_1507, List.forall_mem_cons.mpr ⟨wd_1509, List.forall_mem_cons.mpr ⟨wd_1511, List.forall_mem_cons.mpr ⟨wd_1513, List.forall_mem_cons.mpr ⟨wd_1515, List.forall_mem_cons.mpr ⟨wd_1517, List.forall_mem_cons.mpr ⟨wd_1519, List.forall_mem_cons.mpr ⟨wd_1521, List.forall_mem_cons.mpr ⟨wd_1523, List.forall_mem_cons.mpr ⟨wd_1525, List.forall_mem_cons.mpr ⟨wd_1527, List.forall_mem_cons.mpr ⟨wd_1529, List.forall_mem_cons.mpr ⟨wd_1531, List.forall_mem_cons.mpr ⟨wd_1533, List.forall_mem_cons.mpr ⟨wd_1535, List.forall_mem_cons.mpr ⟨wd_1537, List.forall_mem_cons.mpr ⟨wd_1539, List.forall_mem_cons.mpr ⟨wd_1541, List.forall_mem_cons.mpr ⟨wd_1543, List.forall_mem_cons.mpr ⟨wd_1545, List.forall_mem_cons.mpr ⟨wd_1547, List.forall_mem_cons.mpr ⟨wd_1549, fun _ h => absurd h List.not_mem_nil⟩⟩⟩⟩⟩⟩⟩⟩⟩⟩⟩⟩⟩⟩⟩⟩⟩⟩⟩⟩⟩⟩⟩⟩⟩⟩⟩⟩⟩⟩⟩⟩⟩⟩⟩⟩⟩⟩⟩⟩⟩⟩⟩⟩⟩⟩⟩⟩⟩⟩⟩⟩⟩⟩⟩⟩⟩⟩⟩⟩⟩⟩⟩⟩⟩
theorem gf_RX11_30 {p : Program} {l : Launch} {e : Env} {R : Room} {s : State} {m : MethodId} {args : Array Value} {below : List Frame} {meth : Method} {c : Code} {H : Heap} {locs : List Loc} {cells slots : Nat} {Q : State → Prop} {cc : ByteArray} {pc nL : Nat} {ls : Array Slot} {rest : List Value} {D : va_G} {cy : Nat → ClassId} {A : Nat → Prop} {ws : va_W} {b : Nat} {fs : List Value} {v : Value} (C : Cx p s m args c cc nL RX11 D cy A) (hO : Wo D A ws s.heap H locs) (q0 : Nat) (he : ws[q0]? = some (b, .inr (11, fs))) (hv : fs[14]? = some v) (hdg : decode cc pc = .ok (.getfield 30, 3)) (kk : W p l e R s m args below meth c H locs cells slots Q (F0 m (pc + 3) ls (v :: rest))) : W p l e R s m args below meth c H locs cells slots Q (F0 m pc ls (.ref b :: rest)) := gF (k := 14) C hO q0 he rfl inFX11 (by decide) wd_1370 rfl hv hdg kk
theorem wd_1392 : (Cond.fieldLink "WebCourtModel" (255 : Nat) "WebCourtModel" "bank" "I") ∈ gtb := gtb_c6 83 (by decide +kernel) rfl
theorem gf_RX11_255 {p : Program} {l : Launch} {e : Env} {R : Room} {s : State} {m : MethodId} {args : Array Value} {below : List Frame} {meth : Method} {c : Code} {H : Heap} {locs : List Loc} {cells slots : Nat} {Q : State → Prop} {cc : ByteArray} {pc nL : Nat} {ls : Array Slot} {rest : List Value} {D : va_G} {cy : Nat → ClassId} {A : Nat → Prop} {ws : va_W} {b : Nat} {fs : List Value} {v : Value} (C : Cx p s m args c cc nL RX11 D cy A) (hO : Wo D A ws s.heap H locs) (q0 : Nat) (he : ws[q0]? = some (b, .inr (11, fs))) (hv : fs[36]? = some v) (hdg : decode cc pc = .ok (.getfield 255, 3)) (kk : W p l e R s m args below meth c H locs cells slots Q (F0 m (pc + 3) ls (v :: rest))) : W p l e R s m args below meth c H locs cells slots Q (F0 m pc ls (.ref b :: rest)) := gF (k := 36) C hO q0 he rfl inFX11 (by decide) wd_1392 rfl hv hdg kk
set_option maxHeartbeats 4000000 in
set_option maxRecDepth 100000 in
theorem T_X11_many (l : Launch) (D : va_G) (cy : Nat → ClassId) (a : Nat → Nat) (u : St) (hA_6_0 : fA u 6 0 = 0) (hI_0_36 : fI u 0 36 = 0)   : Mi l D cy (mW cy a) yX11_many (.code yX11_many cX11_many 1 (some .int)) (rmo 0 0) [.ref (a 0)] u (fun (r : Int32) (u' : St) => (r = 0) ∧ (u' = u)) := by
  refine Mi.of (own := RX11) rfl (by decide) (Nat.le_of_ble_eq_true rfl) ?_
  intro p e s m below meth c A Q ls C hret hO hl
  obtain ⟨hx, hb, hml, hown, ht, hK, hA⟩ := id C
  have hl : lv_has ls 1 [(0, .ref (a 0))] := hl
  refine lv_aload_n hx hb dX11_many_0 rfl (lv_at hl 0 rfl) ?_
  refine gf_RX11_30 (v := .ref (a 6)) C hO 0 mW_0 rfl dX11_many_1 ?_
  refine lv_aload_n hx hb dX11_many_4 rfl (lv_at hl 0 rfl) ?_
  refine gf_RX11_255 (v := .int 0) C hO 0 mW_0 (congrArg (fun z : Int32 => some (Value.int z)) hI_0_36) dX11_many_5 ?_
  refine aI C hO 6 mW_6 (i_in (X := 0) rfl (by omega) (by omega)) dX11_many_8 ?_
  refine tE (y := 0) hA_6_0 ?_
  refine hret _ _ _ _ _ _ dX11_many_9 rfl ?_ hO
  exact ⟨rfl, rfl⟩
theorem dX11_pleads_0 : decode cX11_pleads 0 = .ok (.aload_n 0, 1) := by decide +kernel
theorem dX11_pleads_1 : decode cX11_pleads 1 = .ok (.getfield 27, 3) := by decide +kernel
theorem dX11_pleads_4 : decode cX11_pleads 4 = .ok (.aload_n 0, 1) := by decide +kernel
theorem dX11_pleads_5 : decode cX11_pleads 5 = .ok (.getfield 255, 3) := by decide +kernel
theorem dX11_pleads_8 : decode cX11_pleads 8 = .ok (.iaload, 1) := by decide +kernel
theorem dX11_pleads_9 : decode cX11_pleads 9 = .ok (.ireturn, 1) := by decide +kernel
theorem wd_1748 : (Cond.code ⟨"WebCourtModel", "pleads", "()I"⟩ prog_13_method_47_code (1 : Nat) (Option.some FieldType.int)) ∈ gtb := gtb_c7 199 (by decide +kernel) rfl
theorem wd_1369 : (Cond.fieldLink "WebCourtModel" (27 : Nat) "WebCourtModel" "pleas" "[I") ∈ gtb := gtb_c6 60 (by decide +kernel) rfl
theorem gf_RX11_27 {p : Program} {l : Launch} {e : Env} {R : Room} {s : State} {m : MethodId} {args : Array Value} {below : List Frame} {meth : Method} {c : Code} {H : Heap} {locs : List Loc} {cells slots : Nat} {Q : State → Prop} {cc : ByteArray} {pc nL : Nat} {ls : Array Slot} {rest : List Value} {D : va_G} {cy : Nat → ClassId} {A : Nat → Prop} {ws : va_W} {b : Nat} {fs : List Value} {v : Value} (C : Cx p s m args c cc nL RX11 D cy A) (hO : Wo D A ws s.heap H locs) (q0 : Nat) (he : ws[q0]? = some (b, .inr (11, fs))) (hv : fs[13]? = some v) (hdg : decode cc pc = .ok (.getfield 27, 3)) (kk : W p l e R s m args below meth c H locs cells slots Q (F0 m (pc + 3) ls (v :: rest))) : W p l e R s m args below meth c H locs cells slots Q (F0 m pc ls (.ref b :: rest)) := gF (k := 13) C hO q0 he rfl inFX11 (by decide) wd_1369 rfl hv hdg kk
set_option maxHeartbeats 4000000 in
set_option maxRecDepth 100000 in
theorem T_X11_pleads (l : Launch) (D : va_G) (cy : Nat → ClassId) (a : Nat → Nat) (u : St) (hA_5_0 : fA u 5 0 = 0) (hI_0_36 : fI u 0 36 = 0)   : Mi l D cy (mW cy a) yX11_pleads (.code yX11_pleads cX11_pleads 1 (some .int)) (rmo 0 0) [.ref (a 0)] u (fun (r : Int32) (u' : St) => (r = 0) ∧ (u' = u)) := by
  refine Mi.of (own := RX11) rfl (by decide) (Nat.le_of_ble_eq_true rfl) ?_
  intro p e s m below meth c A Q ls C hret hO hl
  obtain ⟨hx, hb, hml, hown, ht, hK, hA⟩ := id C
  have hl : lv_has ls 1 [(0, .ref (a 0))] := hl
  refine lv_aload_n hx hb dX11_pleads_0 rfl (lv_at hl 0 rfl) ?_
  refine gf_RX11_27 (v := .ref (a 5)) C hO 0 mW_0 rfl dX11_pleads_1 ?_
  refine lv_aload_n hx hb dX11_pleads_4 rfl (lv_at hl 0 rfl) ?_
  refine gf_RX11_255 (v := .int 0) C hO 0 mW_0 (congrArg (fun z : Int32 => some (Value.int z)) hI_0_36) dX11_pleads_5 ?_
  refine aI C hO 5 mW_5 (i_in (X := 0) rfl (by omega) (by omega)) dX11_pleads_8 ?_
  refine tE (y := 0) hA_5_0 ?_
  refine hret _ _ _ _ _ _ dX11_pleads_9 rfl ?_ hO
  exact ⟨rfl, rfl⟩
theorem dX11_spots_0 : decode cX11_spots 0 = .ok (.aload_n 0, 1) := by decide +kernel
theorem dX11_spots_1 : decode cX11_spots 1 = .ok (.getfield 20, 3) := by decide +kernel
theorem dX11_spots_4 : decode cX11_spots 4 = .ok (.aload_n 0, 1) := by decide +kernel
theorem dX11_spots_5 : decode cX11_spots 5 = .ok (.getfield 255, 3) := by decide +kernel
theorem dX11_spots_8 : decode cX11_spots 8 = .ok (.iaload, 1) := by decide +kernel
theorem dX11_spots_9 : decode cX11_spots 9 = .ok (.ireturn, 1) := by decide +kernel
theorem wd_1355 : (Cond.code ⟨"WebCourtModel", "spots", "()I"⟩ prog_13_method_48_code (1 : Nat) (Option.some FieldType.int)) ∈ gtb := gtb_c6 46 (by decide +kernel) rfl
theorem wd_1367 : (Cond.fieldLink "WebCourtModel" (20 : Nat) "WebCourtModel" "knots" "[I") ∈ gtb := gtb_c6 58 (by decide +kernel) rfl
theorem gf_RX11_20 {p : Program} {l : Launch} {e : Env} {R : Room} {s : State} {m : MethodId} {args : Array Value} {below : List Frame} {meth : Method} {c : Code} {H : Heap} {locs : List Loc} {cells slots : Nat} {Q : State → Prop} {cc : ByteArray} {pc nL : Nat} {ls : Array Slot} {rest : List Value} {D : va_G} {cy : Nat → ClassId} {A : Nat → Prop} {ws : va_W} {b : Nat} {fs : List Value} {v : Value} (C : Cx p s m args c cc nL RX11 D cy A) (hO : Wo D A ws s.heap H locs) (q0 : Nat) (he : ws[q0]? = some (b, .inr (11, fs))) (hv : fs[11]? = some v) (hdg : decode cc pc = .ok (.getfield 20, 3)) (kk : W p l e R s m args below meth c H locs cells slots Q (F0 m (pc + 3) ls (v :: rest))) : W p l e R s m args below meth c H locs cells slots Q (F0 m pc ls (.ref b :: rest)) := gF (k := 11) C hO q0 he rfl inFX11 (by decide) wd_1367 rfl hv hdg kk
set_option maxHeartbeats 4000000 in
set_option maxRecDepth 100000 in
theorem T_X11_spots (l : Launch) (D : va_G) (cy : Nat → ClassId) (a : Nat → Nat) (u : St) (hA_3_0 : fA u 3 0 = 0) (hI_0_36 : fI u 0 36 = 0)   : Mi l D cy (mW cy a) yX11_spots (.code yX11_spots cX11_spots 1 (some .int)) (rmo 0 0) [.ref (a 0)] u (fun (r : Int32) (u' : St) => (r = 0) ∧ (u' = u)) := by
  refine Mi.of (own := RX11) rfl (by decide) (Nat.le_of_ble_eq_true rfl) ?_
  intro p e s m below meth c A Q ls C hret hO hl
  obtain ⟨hx, hb, hml, hown, ht, hK, hA⟩ := id C
  have hl : lv_has ls 1 [(0, .ref (a 0))] := hl
  refine lv_aload_n hx hb dX11_spots_0 rfl (lv_at hl 0 rfl) ?_
  refine gf_RX11_20 (v := .ref (a 3)) C hO 0 mW_0 rfl dX11_spots_1 ?_
  refine lv_aload_n hx hb dX11_spots_4 rfl (lv_at hl 0 rfl) ?_
  refine gf_RX11_255 (v := .int 0) C hO 0 mW_0 (congrArg (fun z : Int32 => some (Value.int z)) hI_0_36) dX11_spots_5 ?_
  refine aI C hO 3 mW_3 (i_in (X := 0) rfl (by omega) (by omega)) dX11_spots_8 ?_
  refine tE (y := 0) hA_3_0 ?_
  refine hret _ _ _ _ _ _ dX11_spots_9 rfl ?_ hO
  exact ⟨rfl, rfl⟩
theorem dX11_isCase_0 : decode cX11_isCase 0 = .ok (.iload_n 1, 1) := by decide +kernel
theorem dX11_isCase_1 : decode cX11_isCase 1 = .ok (.iconst 0, 1) := by decide +kernel
theorem dX11_isCase_2 : decode cX11_isCase 2 = .ok (.aload_n 0, 1) := by decide +kernel
theorem dX11_isCase_3 : decode cX11_isCase 3 = .ok (.invokevirtual 371, 3) := by decide +kernel
theorem dX11_isCase_6 : decode cX11_isCase 6 = .ok (.iconst 1, 1) := by decide +kernel
theorem dX11_isCase_7 : decode cX11_isCase 7 = .ok (.isub, 1) := by decide +kernel
theorem dX11_isCase_8 : decode cX11_isCase 8 = .ok (.invokestatic 374, 3) := by decide +kernel
theorem dX11_isCase_11 : decode cX11_isCase 11 = .ok (.ireturn, 1) := by decide +kernel
theorem wd_1756 : (Cond.code ⟨"WebCourtModel", "isCase", "(I)Z"⟩ prog_13_method_49_code (2 : Nat) (Option.some FieldType.boolean)) ∈ gtb := gtb_c7 207 (by decide +kernel) rfl
theorem wd_1348 : (Cond.methodLink "WebCourtModel" (371 : Nat) ⟨"WebCourtModel", "many", "()I"⟩) ∈ gtb := gtb_c6 39 (by decide +kernel) rfl
theorem wd_1350 : (Cond.instanceMethod ⟨"WebCourtModel", "many", "()I"⟩) ∈ gtb := gtb_c6 41 (by decide +kernel) rfl
theorem wd_46 : (Cond.selects "WebCourtModel" ⟨"WebCourtModel", "many", "()I"⟩ ⟨"WebCourtModel", "many", "()I"⟩) ∈ gtb := gtb_p 46 (by decide +kernel) rfl
theorem wd_121 : (Cond.initialized "WebCourtModel") ∈ gtb := gtb_c1 12 (by decide +kernel) rfl
theorem hd_yX11_many : yX11_many.cls = RX11 ∧ yX11_many.cls ≠ "java/lang/invoke/MethodHandle" ∧ yX11_many.cls ≠ "java/lang/invoke/VarHandle" ∧ (parseMethodDescriptor yX11_many.desc).map (fun d => d.parameters.length) = some 0 := by decide +kernel
theorem wd_1722 : (Cond.methodLink "WebCourtModel" (374 : Nat) ⟨"WebCourtModel", "isIn", "(III)Z"⟩) ∈ gtb := gtb_c7 173 (by decide +kernel) rfl
theorem wd_1723 : (Cond.static ⟨"WebCourtModel", "isIn", "(III)Z"⟩) ∈ gtb := gtb_c7 174 (by decide +kernel) rfl
theorem hd_yX11_isIn : yX11_isIn.cls ≠ "java/lang/invoke/MethodHandle" ∧ yX11_isIn.cls ≠ "java/lang/invoke/VarHandle" ∧ (parseMethodDescriptor yX11_isIn.desc).map (fun d => d.parameters.length) = some 3 := by decide +kernel
set_option maxHeartbeats 4000000 in
set_option maxRecDepth 100000 in
theorem T_X11_isCase (l : Launch) (D : va_G) (cy : Nat → ClassId) (a : Nat → Nat) (u : St) (hA_6_0 : fA u 6 0 = 0) (hI_0_36 : fI u 0 36 = 0) (x1 : Int32)  : Mi l D cy (mW cy a) yX11_isCase (.code yX11_isCase cX11_isCase 2 (some .boolean)) (rmo 1 22) [.ref (a 0), .int x1] u (fun (r : Int32) (u' : St) => (r = 0) ∧ (u' = u)) := by
  refine Mi.of (own := RX11) rfl (by decide) (Nat.le_of_ble_eq_true rfl) ?_
  intro p e s m below meth c A Q ls C hret hO hl
  obtain ⟨hx, hb, hml, hown, ht, hK, hA⟩ := id C
  have hl : lv_has ls 2 [(0, .ref (a 0)), (1, .int x1)] := hl
  refine lv_iload_n hx hb dX11_isCase_0 rfl (lv_at hl 1 rfl) ?_
  refine lv_iconst (v := 0) hx hb dX11_isCase_1 (by decide) ?_
  refine lv_aload_n hx hb dX11_isCase_2 rfl (lv_at hl 0 rfl) ?_
  refine cVi (w := mW cy a) (As := []) (rest := [.int 0, .int x1]) C hO (T_X11_many l D cy a _ (by exact hA_6_0) (by exact hI_0_36)) (cwV 0 ht (gV wd_1348 wd_1350 wd_46 wd_121 wd_1351) rfl rfl rfl hd_yX11_many ⟨Nat.le_of_ble_eq_true rfl, Nat.le_of_ble_eq_true rfl⟩) 0 rfl mW_0 rfl rfl hl.1 (Nat.le_of_ble_eq_true rfl) dX11_isCase_3 rfl ⟨Nat.zero_le _, Nat.zero_le _⟩ (fun r1 u2 H locs hp3 hO => ?_)
  obtain ⟨hr1, hu2⟩ := hp3
  subst hr1
  rw [hu2] at hO
  refine lv_iconst (v := 1) hx hb dX11_isCase_6 (by decide) ?_
  refine lv_isub hx hb dX11_isCase_7 ?_
  refine tE (y := (-1)) rfl ?_
  refine cSi (w := mW cy a) (As := [.int x1, .int 0, .int (-1)]) (rest := []) C hO (T_X11_isIn l D cy a _ (x1) (0) ((-1))) (va_cwS 3 ht (gSS wd_1722 wd_1723 wd_121 wd_1724) rfl rfl rfl hd_yX11_isIn ⟨Nat.le_of_ble_eq_true rfl, Nat.le_of_ble_eq_true rfl⟩)  rfl hl.1 (Nat.le_of_ble_eq_true rfl) dX11_isCase_8 rfl ⟨Nat.zero_le _, Nat.zero_le _⟩ (fun r4 u5 H locs hp6 hO => ?_)
  obtain ⟨hr4, hu5⟩ := hp6
  rw [hu5] at hO
  have zz7 : (0 : Int32).toInt = 0 := rfl
  have zz8 : ((-1) : Int32).toInt = (-1) := rfl
  rcases hr4 with ⟨hcr4, hvr4⟩ | ⟨hcr4, hvr4⟩
  · exfalso
    omega
  · subst hvr4
    refine hret _ _ _ _ _ _ dX11_isCase_11 rfl ?_ hO
    exact ⟨rfl, rfl⟩
theorem dX11_isPlea_0 : decode cX11_isPlea 0 = .ok (.iload_n 1, 1) := by decide +kernel
theorem dX11_isPlea_1 : decode cX11_isPlea 1 = .ok (.iconst 0, 1) := by decide +kernel
theorem dX11_isPlea_2 : decode cX11_isPlea 2 = .ok (.aload_n 0, 1) := by decide +kernel
theorem dX11_isPlea_3 : decode cX11_isPlea 3 = .ok (.invokevirtual 377, 3) := by decide +kernel
theorem dX11_isPlea_6 : decode cX11_isPlea 6 = .ok (.iconst 1, 1) := by decide +kernel
theorem dX11_isPlea_7 : decode cX11_isPlea 7 = .ok (.isub, 1) := by decide +kernel
theorem dX11_isPlea_8 : decode cX11_isPlea 8 = .ok (.invokestatic 374, 3) := by decide +kernel
theorem dX11_isPlea_11 : decode cX11_isPlea 11 = .ok (.ireturn, 1) := by decide +kernel
theorem wd_1744 : (Cond.code ⟨"WebCourtModel", "isPlea", "(I)Z"⟩ prog_13_method_50_code (2 : Nat) (Option.some FieldType.boolean)) ∈ gtb := gtb_c7 195 (by decide +kernel) rfl
theorem wd_1745 : (Cond.methodLink "WebCourtModel" (377 : Nat) ⟨"WebCourtModel", "pleads", "()I"⟩) ∈ gtb := gtb_c7 196 (by decide +kernel) rfl
theorem wd_1747 : (Cond.instanceMethod ⟨"WebCourtModel", "pleads", "()I"⟩) ∈ gtb := gtb_c7 198 (by decide +kernel) rfl
theorem wd_82 : (Cond.selects "WebCourtModel" ⟨"WebCourtModel", "pleads", "()I"⟩ ⟨"WebCourtModel", "pleads", "()I"⟩) ∈ gtb := gtb_p 82 (by decide +kernel) rfl
theorem hd_yX11_pleads : yX11_pleads.cls = RX11 ∧ yX11_pleads.cls ≠ "java/lang/invoke/MethodHandle" ∧ yX11_pleads.cls ≠ "java/lang/invoke/VarHandle" ∧ (parseMethodDescriptor yX11_pleads.desc).map (fun d => d.parameters.length) = some 0 := by decide +kernel
set_option maxHeartbeats 4000000 in
set_option maxRecDepth 100000 in
theorem T_X11_isPlea (l : Launch) (D : va_G) (cy : Nat → ClassId) (a : Nat → Nat) (u : St) (hA_5_0 : fA u 5 0 = 0) (hI_0_36 : fI u 0 36 = 0) (x1 : Int32)  : Mi l D cy (mW cy a) yX11_isPlea (.code yX11_isPlea cX11_isPlea 2 (some .boolean)) (rmo 1 22) [.ref (a 0), .int x1] u (fun (r : Int32) (u' : St) => (r = 0) ∧ (u' = u)) := by
  refine Mi.of (own := RX11) rfl (by decide) (Nat.le_of_ble_eq_true rfl) ?_
  intro p e s m below meth c A Q ls C hret hO hl
  obtain ⟨hx, hb, hml, hown, ht, hK, hA⟩ := id C
  have hl : lv_has ls 2 [(0, .ref (a 0)), (1, .int x1)] := hl
  refine lv_iload_n hx hb dX11_isPlea_0 rfl (lv_at hl 1 rfl) ?_
  refine lv_iconst (v := 0) hx hb dX11_isPlea_1 (by decide) ?_
  refine lv_aload_n hx hb dX11_isPlea_2 rfl (lv_at hl 0 rfl) ?_
  refine cVi (w := mW cy a) (As := []) (rest := [.int 0, .int x1]) C hO (T_X11_pleads l D cy a _ (by exact hA_5_0) (by exact hI_0_36)) (cwV 0 ht (gV wd_1745 wd_1747 wd_82 wd_121 wd_1748) rfl rfl rfl hd_yX11_pleads ⟨Nat.le_of_ble_eq_true rfl, Nat.le_of_ble_eq_true rfl⟩) 0 rfl mW_0 rfl rfl hl.1 (Nat.le_of_ble_eq_true rfl) dX11_isPlea_3 rfl ⟨Nat.zero_le _, Nat.zero_le _⟩ (fun r1 u2 H locs hp3 hO => ?_)
  obtain ⟨hr1, hu2⟩ := hp3
  subst hr1
  rw [hu2] at hO
  refine lv_iconst (v := 1) hx hb dX11_isPlea_6 (by decide) ?_
  refine lv_isub hx hb dX11_isPlea_7 ?_
  refine tE (y := (-1)) rfl ?_
  refine cSi (w := mW cy a) (As := [.int x1, .int 0, .int (-1)]) (rest := []) C hO (T_X11_isIn l D cy a _ (x1) (0) ((-1))) (va_cwS 3 ht (gSS wd_1722 wd_1723 wd_121 wd_1724) rfl rfl rfl hd_yX11_isIn ⟨Nat.le_of_ble_eq_true rfl, Nat.le_of_ble_eq_true rfl⟩)  rfl hl.1 (Nat.le_of_ble_eq_true rfl) dX11_isPlea_8 rfl ⟨Nat.zero_le _, Nat.zero_le _⟩ (fun r4 u5 H locs hp6 hO => ?_)
  obtain ⟨hr4, hu5⟩ := hp6
  rw [hu5] at hO
  have zz7 : (0 : Int32).toInt = 0 := rfl
  have zz8 : ((-1) : Int32).toInt = (-1) := rfl
  rcases hr4 with ⟨hcr4, hvr4⟩ | ⟨hcr4, hvr4⟩
  · exfalso
    omega
  · subst hvr4
    refine hret _ _ _ _ _ _ dX11_isPlea_11 rfl ?_ hO
    exact ⟨rfl, rfl⟩
theorem dX11_isKnot_0 : decode cX11_isKnot 0 = .ok (.iload_n 1, 1) := by decide +kernel
theorem dX11_isKnot_1 : decode cX11_isKnot 1 = .ok (.iconst 0, 1) := by decide +kernel
theorem dX11_isKnot_2 : decode cX11_isKnot 2 = .ok (.aload_n 0, 1) := by decide +kernel
theorem dX11_isKnot_3 : decode cX11_isKnot 3 = .ok (.invokevirtual 380, 3) := by decide +kernel
theorem dX11_isKnot_6 : decode cX11_isKnot 6 = .ok (.iconst 1, 1) := by decide +kernel
theorem dX11_isKnot_7 : decode cX11_isKnot 7 = .ok (.isub, 1) := by decide +kernel
theorem dX11_isKnot_8 : decode cX11_isKnot 8 = .ok (.invokestatic 374, 3) := by decide +kernel
theorem dX11_isKnot_11 : decode cX11_isKnot 11 = .ok (.ireturn, 1) := by decide +kernel
theorem wd_1721 : (Cond.code ⟨"WebCourtModel", "isKnot", "(I)Z"⟩ prog_13_method_51_code (2 : Nat) (Option.some FieldType.boolean)) ∈ gtb := gtb_c7 172 (by decide +kernel) rfl
theorem wd_1352 : (Cond.methodLink "WebCourtModel" (380 : Nat) ⟨"WebCourtModel", "spots", "()I"⟩) ∈ gtb := gtb_c6 43 (by decide +kernel) rfl
theorem wd_1354 : (Cond.instanceMethod ⟨"WebCourtModel", "spots", "()I"⟩) ∈ gtb := gtb_c6 45 (by decide +kernel) rfl
theorem wd_47 : (Cond.selects "WebCourtModel" ⟨"WebCourtModel", "spots", "()I"⟩ ⟨"WebCourtModel", "spots", "()I"⟩) ∈ gtb := gtb_p 47 (by decide +kernel) rfl
theorem hd_yX11_spots : yX11_spots.cls = RX11 ∧ yX11_spots.cls ≠ "java/lang/invoke/MethodHandle" ∧ yX11_spots.cls ≠ "java/lang/invoke/VarHandle" ∧ (parseMethodDescriptor yX11_spots.desc).map (fun d => d.parameters.length) = some 0 := by decide +kernel
set_option maxHeartbeats 4000000 in
set_option maxRecDepth 100000 in
theorem T_X11_isKnot (l : Launch) (D : va_G) (cy : Nat → ClassId) (a : Nat → Nat) (u : St) (hA_3_0 : fA u 3 0 = 0) (hI_0_36 : fI u 0 36 = 0) (x1 : Int32)  : Mi l D cy (mW cy a) yX11_isKnot (.code yX11_isKnot cX11_isKnot 2 (some .boolean)) (rmo 1 22) [.ref (a 0), .int x1] u (fun (r : Int32) (u' : St) => (r = 0) ∧ (u' = u)) := by
  refine Mi.of (own := RX11) rfl (by decide) (Nat.le_of_ble_eq_true rfl) ?_
  intro p e s m below meth c A Q ls C hret hO hl
  obtain ⟨hx, hb, hml, hown, ht, hK, hA⟩ := id C
  have hl : lv_has ls 2 [(0, .ref (a 0)), (1, .int x1)] := hl
  refine lv_iload_n hx hb dX11_isKnot_0 rfl (lv_at hl 1 rfl) ?_
  refine lv_iconst (v := 0) hx hb dX11_isKnot_1 (by decide) ?_
  refine lv_aload_n hx hb dX11_isKnot_2 rfl (lv_at hl 0 rfl) ?_
  refine cVi (w := mW cy a) (As := []) (rest := [.int 0, .int x1]) C hO (T_X11_spots l D cy a _ (by exact hA_3_0) (by exact hI_0_36)) (cwV 0 ht (gV wd_1352 wd_1354 wd_47 wd_121 wd_1355) rfl rfl rfl hd_yX11_spots ⟨Nat.le_of_ble_eq_true rfl, Nat.le_of_ble_eq_true rfl⟩) 0 rfl mW_0 rfl rfl hl.1 (Nat.le_of_ble_eq_true rfl) dX11_isKnot_3 rfl ⟨Nat.zero_le _, Nat.zero_le _⟩ (fun r1 u2 H locs hp3 hO => ?_)
  obtain ⟨hr1, hu2⟩ := hp3
  subst hr1
  rw [hu2] at hO
  refine lv_iconst (v := 1) hx hb dX11_isKnot_6 (by decide) ?_
  refine lv_isub hx hb dX11_isKnot_7 ?_
  refine tE (y := (-1)) rfl ?_
  refine cSi (w := mW cy a) (As := [.int x1, .int 0, .int (-1)]) (rest := []) C hO (T_X11_isIn l D cy a _ (x1) (0) ((-1))) (va_cwS 3 ht (gSS wd_1722 wd_1723 wd_121 wd_1724) rfl rfl rfl hd_yX11_isIn ⟨Nat.le_of_ble_eq_true rfl, Nat.le_of_ble_eq_true rfl⟩)  rfl hl.1 (Nat.le_of_ble_eq_true rfl) dX11_isKnot_8 rfl ⟨Nat.zero_le _, Nat.zero_le _⟩ (fun r4 u5 H locs hp6 hO => ?_)
  obtain ⟨hr4, hu5⟩ := hp6
  rw [hu5] at hO
  have zz7 : (0 : Int32).toInt = 0 := rfl
  have zz8 : ((-1) : Int32).toInt = (-1) := rfl
  rcases hr4 with ⟨hcr4, hvr4⟩ | ⟨hcr4, hvr4⟩
  · exfalso
    omega
  · subst hvr4
    refine hret _ _ _ _ _ _ dX11_isKnot_11 rfl ?_ hO
    exact ⟨rfl, rfl⟩
theorem dX11_isHeld_0 : decode cX11_isHeld 0 = .ok (.aload_n 0, 1) := by decide +kernel
theorem dX11_isHeld_1 : decode cX11_isHeld 1 = .ok (.iload_n 1, 1) := by decide +kernel
theorem dX11_isHeld_2 : decode cX11_isHeld 2 = .ok (.invokevirtual 383, 3) := by decide +kernel
theorem dX11_isHeld_5 : decode cX11_isHeld 5 = .ok (.ifCond .eq 18, 3) := by decide +kernel
theorem dX11_isHeld_8 : decode cX11_isHeld 8 = .ok (.aload_n 0, 1) := by decide +kernel
theorem dX11_isHeld_9 : decode cX11_isHeld 9 = .ok (.getfield 97, 3) := by decide +kernel
theorem dX11_isHeld_12 : decode cX11_isHeld 12 = .ok (.iconst 0, 1) := by decide +kernel
theorem dX11_isHeld_13 : decode cX11_isHeld 13 = .ok (.iload_n 1, 1) := by decide +kernel
theorem dX11_isHeld_14 : decode cX11_isHeld 14 = .ok (.iadd, 1) := by decide +kernel
theorem dX11_isHeld_15 : decode cX11_isHeld 15 = .ok (.iaload, 1) := by decide +kernel
theorem dX11_isHeld_16 : decode cX11_isHeld 16 = .ok (.ifCond .ne 7, 3) := by decide +kernel
theorem dX11_isHeld_19 : decode cX11_isHeld 19 = .ok (.iconst 1, 1) := by decide +kernel
theorem dX11_isHeld_20 : decode cX11_isHeld 20 = .ok (.goto 4, 3) := by decide +kernel
theorem dX11_isHeld_23 : decode cX11_isHeld 23 = .ok (.iconst 0, 1) := by decide +kernel
theorem dX11_isHeld_24 : decode cX11_isHeld 24 = .ok (.ireturn, 1) := by decide +kernel
theorem wd_1800 : (Cond.code ⟨"WebCourtModel", "isHeld", "(I)Z"⟩ prog_13_method_52_code (2 : Nat) (Option.some FieldType.boolean)) ∈ gtb := gtb_c8 11 (by decide +kernel) rfl
theorem wd_1753 : (Cond.methodLink "WebCourtModel" (383 : Nat) ⟨"WebCourtModel", "isCase", "(I)Z"⟩) ∈ gtb := gtb_c7 204 (by decide +kernel) rfl
theorem wd_1755 : (Cond.instanceMethod ⟨"WebCourtModel", "isCase", "(I)Z"⟩) ∈ gtb := gtb_c7 206 (by decide +kernel) rfl
theorem wd_83 : (Cond.selects "WebCourtModel" ⟨"WebCourtModel", "isCase", "(I)Z"⟩ ⟨"WebCourtModel", "isCase", "(I)Z"⟩) ∈ gtb := gtb_p 83 (by decide +kernel) rfl
theorem hd_yX11_isCase : yX11_isCase.cls = RX11 ∧ yX11_isCase.cls ≠ "java/lang/invoke/MethodHandle" ∧ yX11_isCase.cls ≠ "java/lang/invoke/VarHandle" ∧ (parseMethodDescriptor yX11_isCase.desc).map (fun d => d.parameters.length) = some 1 := by decide +kernel
set_option maxHeartbeats 4000000 in
set_option maxRecDepth 100000 in
theorem T_X11_isHeld (l : Launch) (D : va_G) (cy : Nat → ClassId) (a : Nat → Nat) (u : St) (hA_6_0 : fA u 6 0 = 0) (hI_0_36 : fI u 0 36 = 0) (x1 : Int32)  : Mi l D cy (mW cy a) yX11_isHeld (.code yX11_isHeld cX11_isHeld 2 (some .boolean)) (rmo 2 43) [.ref (a 0), .int x1] u (fun (r : Int32) (u' : St) => (r = 0) ∧ (u' = u)) := by
  refine Mi.of (own := RX11) rfl (by decide) (Nat.le_of_ble_eq_true rfl) ?_
  intro p e s m below meth c A Q ls C hret hO hl
  obtain ⟨hx, hb, hml, hown, ht, hK, hA⟩ := id C
  have hl : lv_has ls 2 [(0, .ref (a 0)), (1, .int x1)] := hl
  refine lv_aload_n hx hb dX11_isHeld_0 rfl (lv_at hl 0 rfl) ?_
  refine lv_iload_n hx hb dX11_isHeld_1 rfl (lv_at hl 1 rfl) ?_
  refine cVi (w := mW cy a) (As := [.int x1]) (rest := []) C hO (T_X11_isCase l D cy a _ (by exact hA_6_0) (by exact hI_0_36) (x1)) (cwV 1 ht (gV wd_1753 wd_1755 wd_83 wd_121 wd_1756) rfl rfl rfl hd_yX11_isCase ⟨Nat.le_of_ble_eq_true rfl, Nat.le_of_ble_eq_true rfl⟩) 0 rfl mW_0 rfl rfl hl.1 (Nat.le_of_ble_eq_true rfl) dX11_isHeld_2 rfl ⟨Nat.zero_le _, Nat.zero_le _⟩ (fun r1 u2 H locs hp3 hO => ?_)
  obtain ⟨hr1, hu2⟩ := hp3
  subst hr1
  rw [hu2] at hO
  refine bt_eq (tgt := 23) (X := 0) hx hb dX11_isHeld_5 (by decide) rfl (by omega) ?_
  refine lv_iconst (v := 0) hx hb dX11_isHeld_23 (by decide) ?_
  refine hret _ _ _ _ _ _ dX11_isHeld_24 rfl ?_ hO
  exact ⟨rfl, rfl⟩
theorem dX11_bitsOf_0 : decode cX11_bitsOf 0 = .ok (.iconst 0, 1) := by decide +kernel
theorem dX11_bitsOf_1 : decode cX11_bitsOf 1 = .ok (.istore_n 1, 1) := by decide +kernel
theorem dX11_bitsOf_2 : decode cX11_bitsOf 2 = .ok (.iload_n 0, 1) := by decide +kernel
theorem dX11_bitsOf_3 : decode cX11_bitsOf 3 = .ok (.istore_n 2, 1) := by decide +kernel
theorem dX11_bitsOf_4 : decode cX11_bitsOf 4 = .ok (.iload_n 2, 1) := by decide +kernel
theorem dX11_bitsOf_5 : decode cX11_bitsOf 5 = .ok (.ifCond .eq 15, 3) := by decide +kernel
theorem dX11_bitsOf_8 : decode cX11_bitsOf 8 = .ok (.iinc 1 1, 3) := by decide +kernel
theorem dX11_bitsOf_11 : decode cX11_bitsOf 11 = .ok (.iload_n 2, 1) := by decide +kernel
theorem dX11_bitsOf_12 : decode cX11_bitsOf 12 = .ok (.iload_n 2, 1) := by decide +kernel
theorem dX11_bitsOf_13 : decode cX11_bitsOf 13 = .ok (.iconst 1, 1) := by decide +kernel
theorem dX11_bitsOf_14 : decode cX11_bitsOf 14 = .ok (.isub, 1) := by decide +kernel
theorem dX11_bitsOf_15 : decode cX11_bitsOf 15 = .ok (.iand, 1) := by decide +kernel
theorem dX11_bitsOf_16 : decode cX11_bitsOf 16 = .ok (.istore_n 2, 1) := by decide +kernel
theorem dX11_bitsOf_17 : decode cX11_bitsOf 17 = .ok (.goto (-13), 3) := by decide +kernel
theorem dX11_bitsOf_20 : decode cX11_bitsOf 20 = .ok (.iload_n 1, 1) := by decide +kernel
theorem dX11_bitsOf_21 : decode cX11_bitsOf 21 = .ok (.ireturn, 1) := by decide +kernel
theorem wd_1665 : (Cond.code ⟨"WebCourtModel", "bitsOf", "(I)I"⟩ prog_13_method_43_code (3 : Nat) (Option.some FieldType.int)) ∈ gtb := gtb_c7 116 (by decide +kernel) rfl
set_option maxHeartbeats 4000000 in
set_option maxRecDepth 100000 in
theorem T_X11_bitsOf_0 (l : Launch) (D : va_G) (cy : Nat → ClassId) (a : Nat → Nat) (u : St)    : Mi l D cy (mW cy a) yX11_bitsOf (.code yX11_bitsOf cX11_bitsOf 3 (some .int)) (rmo 0 0) [.int 0] u (fun (r : Int32) (u' : St) => (r = 0) ∧ (u' = u)) := by
  refine Mi.of (own := RX11) rfl (by decide) (Nat.le_of_ble_eq_true rfl) ?_
  intro p e s m below meth c A Q ls C hret hO hl
  obtain ⟨hx, hb, hml, hown, ht, hK, hA⟩ := id C
  have hl : lv_has ls 3 [(0, .int 0)] := hl
  refine lv_iconst (v := 0) hx hb dX11_bitsOf_0 (by decide) ?_
  refine lv_istore_n (lv' := [(1, .int 0), (0, .int 0)]) hx hb dX11_bitsOf_1 rfl hl (by decide) rfl (fun ls hl => ?_)
  refine lv_iload_n hx hb dX11_bitsOf_2 rfl (lv_at hl 1 rfl) ?_
  refine lv_istore_n (lv' := [(2, .int 0), (1, .int 0), (0, .int 0)]) hx hb dX11_bitsOf_3 rfl hl (by decide) rfl (fun ls hl => ?_)
  refine lv_iload_n hx hb dX11_bitsOf_4 rfl (lv_at hl 0 rfl) ?_
  refine bt_eq (tgt := 20) (X := 0) hx hb dX11_bitsOf_5 (by decide) rfl (by omega) ?_
  refine lv_iload_n hx hb dX11_bitsOf_20 rfl (lv_at hl 1 rfl) ?_
  refine hret _ _ _ _ _ _ dX11_bitsOf_21 rfl ?_ hO
  exact ⟨rfl, rfl⟩
theorem dX11_knot_0 : decode cX11_knot 0 = .ok (.aload_n 0, 1) := by decide +kernel
theorem dX11_knot_1 : decode cX11_knot 1 = .ok (.iload_n 1, 1) := by decide +kernel
theorem dX11_knot_2 : decode cX11_knot 2 = .ok (.invokevirtual 419, 3) := by decide +kernel
theorem dX11_knot_5 : decode cX11_knot 5 = .ok (.ifCond .ne 5, 3) := by decide +kernel
theorem dX11_knot_8 : decode cX11_knot 8 = .ok (.iconst (-1), 1) := by decide +kernel
theorem dX11_knot_9 : decode cX11_knot 9 = .ok (.ireturn, 1) := by decide +kernel
theorem dX11_knot_10 : decode cX11_knot 10 = .ok (.iload_n 2, 1) := by decide +kernel
theorem dX11_knot_11 : decode cX11_knot 11 = .ok (.tableswitch 45 0 2 #[25, 32, 39], 25) := by decide +kernel
theorem dX11_knot_36 : decode cX11_knot 36 = .ok (.aload_n 0, 1) := by decide +kernel
theorem dX11_knot_37 : decode cX11_knot 37 = .ok (.iload_n 1, 1) := by decide +kernel
theorem dX11_knot_38 : decode cX11_knot 38 = .ok (.iconst 0, 1) := by decide +kernel
theorem dX11_knot_39 : decode cX11_knot 39 = .ok (.invokevirtual 422, 3) := by decide +kernel
theorem dX11_knot_42 : decode cX11_knot 42 = .ok (.ireturn, 1) := by decide +kernel
theorem dX11_knot_43 : decode cX11_knot 43 = .ok (.aload_n 0, 1) := by decide +kernel
theorem dX11_knot_44 : decode cX11_knot 44 = .ok (.iload_n 1, 1) := by decide +kernel
theorem dX11_knot_45 : decode cX11_knot 45 = .ok (.iconst 1, 1) := by decide +kernel
theorem dX11_knot_46 : decode cX11_knot 46 = .ok (.invokevirtual 422, 3) := by decide +kernel
theorem dX11_knot_49 : decode cX11_knot 49 = .ok (.ireturn, 1) := by decide +kernel
theorem dX11_knot_50 : decode cX11_knot 50 = .ok (.aload_n 0, 1) := by decide +kernel
theorem dX11_knot_51 : decode cX11_knot 51 = .ok (.iload_n 1, 1) := by decide +kernel
theorem dX11_knot_52 : decode cX11_knot 52 = .ok (.invokevirtual 404, 3) := by decide +kernel
theorem dX11_knot_55 : decode cX11_knot 55 = .ok (.ireturn, 1) := by decide +kernel
theorem dX11_knot_56 : decode cX11_knot 56 = .ok (.iconst (-1), 1) := by decide +kernel
theorem dX11_knot_57 : decode cX11_knot 57 = .ok (.ireturn, 1) := by decide +kernel
theorem wd_1717 : (Cond.code ⟨"WebCourtModel", "knot", "(II)I"⟩ prog_13_method_65_code (3 : Nat) (Option.some FieldType.int)) ∈ gtb := gtb_c7 168 (by decide +kernel) rfl
theorem wd_1718 : (Cond.methodLink "WebCourtModel" (419 : Nat) ⟨"WebCourtModel", "isKnot", "(I)Z"⟩) ∈ gtb := gtb_c7 169 (by decide +kernel) rfl
theorem wd_1720 : (Cond.instanceMethod ⟨"WebCourtModel", "isKnot", "(I)Z"⟩) ∈ gtb := gtb_c7 171 (by decide +kernel) rfl
theorem wd_77 : (Cond.selects "WebCourtModel" ⟨"WebCourtModel", "isKnot", "(I)Z"⟩ ⟨"WebCourtModel", "isKnot", "(I)Z"⟩) ∈ gtb := gtb_p 77 (by decide +kernel) rfl
theorem hd_yX11_isKnot : yX11_isKnot.cls = RX11 ∧ yX11_isKnot.cls ≠ "java/lang/invoke/MethodHandle" ∧ yX11_isKnot.cls ≠ "java/lang/invoke/VarHandle" ∧ (parseMethodDescriptor yX11_isKnot.desc).map (fun d => d.parameters.length) = some 1 := by decide +kernel
set_option maxHeartbeats 4000000 in
set_option maxRecDepth 100000 in
theorem T_X11_knot (l : Launch) (D : va_G) (cy : Nat → ClassId) (a : Nat → Nat) (u : St) (hA_3_0 : fA u 3 0 = 0) (hI_0_36 : fI u 0 36 = 0) (x1 : Int32) (x2 : Int32)  : Mi l D cy (mW cy a) yX11_knot (.code yX11_knot cX11_knot 3 (some .int)) (rmo 2 43) [.ref (a 0), .int x1, .int x2] u (fun (r : Int32) (u' : St) => (r = (-1)) ∧ (u' = u)) := by
  refine Mi.of (own := RX11) rfl (by decide) (Nat.le_of_ble_eq_true rfl) ?_
  intro p e s m below meth c A Q ls C hret hO hl
  obtain ⟨hx, hb, hml, hown, ht, hK, hA⟩ := id C
  have hl : lv_has ls 3 [(0, .ref (a 0)), (1, .int x1), (2, .int x2)] := hl
  refine lv_aload_n hx hb dX11_knot_0 rfl (lv_at hl 0 rfl) ?_
  refine lv_iload_n hx hb dX11_knot_1 rfl (lv_at hl 1 rfl) ?_
  refine cVi (w := mW cy a) (As := [.int x1]) (rest := []) C hO (T_X11_isKnot l D cy a _ (by exact hA_3_0) (by exact hI_0_36) (x1)) (cwV 1 ht (gV wd_1718 wd_1720 wd_77 wd_121 wd_1721) rfl rfl rfl hd_yX11_isKnot ⟨Nat.le_of_ble_eq_true rfl, Nat.le_of_ble_eq_true rfl⟩) 0 rfl mW_0 rfl rfl hl.1 (Nat.le_of_ble_eq_true rfl) dX11_knot_2 rfl ⟨Nat.zero_le _, Nat.zero_le _⟩ (fun r1 u2 H locs hp3 hO => ?_)
  obtain ⟨hr1, hu2⟩ := hp3
  subst hr1
  rw [hu2] at hO
  refine bn_ne (X := 0) hx hb dX11_knot_5 rfl (by omega) ?_ (tgt := 10) (by decide)
  refine lv_iconst (v := (-1)) hx hb dX11_knot_8 (by decide) ?_
  refine hret _ _ _ _ _ _ dX11_knot_9 rfl ?_ hO
  exact ⟨rfl, rfl⟩
theorem dX11_item_0 : decode cX11_item 0 = .ok (.aload_n 0, 1) := by decide +kernel
theorem dX11_item_1 : decode cX11_item 1 = .ok (.iload_n 1, 1) := by decide +kernel
theorem dX11_item_2 : decode cX11_item 2 = .ok (.invokevirtual 383, 3) := by decide +kernel
theorem dX11_item_5 : decode cX11_item 5 = .ok (.ifCond .ne 5, 3) := by decide +kernel
theorem dX11_item_8 : decode cX11_item 8 = .ok (.iconst (-1), 1) := by decide +kernel
theorem dX11_item_9 : decode cX11_item 9 = .ok (.ireturn, 1) := by decide +kernel
theorem dX11_item_10 : decode cX11_item 10 = .ok (.iload_n 2, 1) := by decide +kernel
theorem dX11_item_11 : decode cX11_item 11 = .ok (.tableswitch 97 0 5 #[37, 43, 52, 62, 77, 87], 37) := by decide +kernel
theorem dX11_item_48 : decode cX11_item 48 = .ok (.aload_n 0, 1) := by decide +kernel
theorem dX11_item_49 : decode cX11_item 49 = .ok (.iload_n 1, 1) := by decide +kernel
theorem dX11_item_50 : decode cX11_item 50 = .ok (.invokevirtual 401, 3) := by decide +kernel
theorem dX11_item_53 : decode cX11_item 53 = .ok (.ireturn, 1) := by decide +kernel
theorem dX11_item_54 : decode cX11_item 54 = .ok (.aload_n 0, 1) := by decide +kernel
theorem dX11_item_55 : decode cX11_item 55 = .ok (.getfield 97, 3) := by decide +kernel
theorem dX11_item_58 : decode cX11_item 58 = .ok (.iconst 0, 1) := by decide +kernel
theorem dX11_item_59 : decode cX11_item 59 = .ok (.iload_n 1, 1) := by decide +kernel
theorem dX11_item_60 : decode cX11_item 60 = .ok (.iadd, 1) := by decide +kernel
theorem dX11_item_61 : decode cX11_item 61 = .ok (.iaload, 1) := by decide +kernel
theorem dX11_item_62 : decode cX11_item 62 = .ok (.ireturn, 1) := by decide +kernel
theorem dX11_item_63 : decode cX11_item 63 = .ok (.aload_n 0, 1) := by decide +kernel
theorem dX11_item_64 : decode cX11_item 64 = .ok (.getfield 97, 3) := by decide +kernel
theorem dX11_item_67 : decode cX11_item 67 = .ok (.bipush 6, 2) := by decide +kernel
theorem dX11_item_69 : decode cX11_item 69 = .ok (.iload_n 1, 1) := by decide +kernel
theorem dX11_item_70 : decode cX11_item 70 = .ok (.iadd, 1) := by decide +kernel
theorem dX11_item_71 : decode cX11_item 71 = .ok (.iaload, 1) := by decide +kernel
theorem dX11_item_72 : decode cX11_item 72 = .ok (.ireturn, 1) := by decide +kernel
theorem dX11_item_73 : decode cX11_item 73 = .ok (.aload_n 0, 1) := by decide +kernel
theorem dX11_item_74 : decode cX11_item 74 = .ok (.getfield 63, 3) := by decide +kernel
theorem dX11_item_77 : decode cX11_item 77 = .ok (.bipush 6, 2) := by decide +kernel
theorem dX11_item_79 : decode cX11_item 79 = .ok (.aload_n 0, 1) := by decide +kernel
theorem dX11_item_80 : decode cX11_item 80 = .ok (.getfield 255, 3) := by decide +kernel
theorem dX11_item_83 : decode cX11_item 83 = .ok (.imul, 1) := by decide +kernel
theorem dX11_item_84 : decode cX11_item 84 = .ok (.iload_n 1, 1) := by decide +kernel
theorem dX11_item_85 : decode cX11_item 85 = .ok (.iadd, 1) := by decide +kernel
theorem dX11_item_86 : decode cX11_item 86 = .ok (.iaload, 1) := by decide +kernel
theorem dX11_item_87 : decode cX11_item 87 = .ok (.ireturn, 1) := by decide +kernel
theorem dX11_item_88 : decode cX11_item 88 = .ok (.aload_n 0, 1) := by decide +kernel
theorem dX11_item_89 : decode cX11_item 89 = .ok (.getfield 97, 3) := by decide +kernel
theorem dX11_item_92 : decode cX11_item 92 = .ok (.bipush 12, 2) := by decide +kernel
theorem dX11_item_94 : decode cX11_item 94 = .ok (.iload_n 1, 1) := by decide +kernel
theorem dX11_item_95 : decode cX11_item 95 = .ok (.iadd, 1) := by decide +kernel
theorem dX11_item_96 : decode cX11_item 96 = .ok (.iaload, 1) := by decide +kernel
theorem dX11_item_97 : decode cX11_item 97 = .ok (.ireturn, 1) := by decide +kernel
theorem dX11_item_98 : decode cX11_item 98 = .ok (.aload_n 0, 1) := by decide +kernel
theorem dX11_item_99 : decode cX11_item 99 = .ok (.getfield 97, 3) := by decide +kernel
theorem dX11_item_102 : decode cX11_item 102 = .ok (.bipush 18, 2) := by decide +kernel
theorem dX11_item_104 : decode cX11_item 104 = .ok (.iload_n 1, 1) := by decide +kernel
theorem dX11_item_105 : decode cX11_item 105 = .ok (.iadd, 1) := by decide +kernel
theorem dX11_item_106 : decode cX11_item 106 = .ok (.iaload, 1) := by decide +kernel
theorem dX11_item_107 : decode cX11_item 107 = .ok (.ireturn, 1) := by decide +kernel
theorem dX11_item_108 : decode cX11_item 108 = .ok (.iconst (-1), 1) := by decide +kernel
theorem dX11_item_109 : decode cX11_item 109 = .ok (.ireturn, 1) := by decide +kernel
theorem wd_1752 : (Cond.code ⟨"WebCourtModel", "item", "(II)I"⟩ prog_13_method_67_code (3 : Nat) (Option.some FieldType.int)) ∈ gtb := gtb_c7 203 (by decide +kernel) rfl
set_option maxHeartbeats 4000000 in
set_option maxRecDepth 100000 in
theorem T_X11_item (l : Launch) (D : va_G) (cy : Nat → ClassId) (a : Nat → Nat) (u : St) (hA_6_0 : fA u 6 0 = 0) (hI_0_36 : fI u 0 36 = 0) (x1 : Int32) (x2 : Int32)  : Mi l D cy (mW cy a) yX11_item (.code yX11_item cX11_item 3 (some .int)) (rmo 2 43) [.ref (a 0), .int x1, .int x2] u (fun (r : Int32) (u' : St) => (r = (-1)) ∧ (u' = u)) := by
  refine Mi.of (own := RX11) rfl (by decide) (Nat.le_of_ble_eq_true rfl) ?_
  intro p e s m below meth c A Q ls C hret hO hl
  obtain ⟨hx, hb, hml, hown, ht, hK, hA⟩ := id C
  have hl : lv_has ls 3 [(0, .ref (a 0)), (1, .int x1), (2, .int x2)] := hl
  refine lv_aload_n hx hb dX11_item_0 rfl (lv_at hl 0 rfl) ?_
  refine lv_iload_n hx hb dX11_item_1 rfl (lv_at hl 1 rfl) ?_
  refine cVi (w := mW cy a) (As := [.int x1]) (rest := []) C hO (T_X11_isCase l D cy a _ (by exact hA_6_0) (by exact hI_0_36) (x1)) (cwV 1 ht (gV wd_1753 wd_1755 wd_83 wd_121 wd_1756) rfl rfl rfl hd_yX11_isCase ⟨Nat.le_of_ble_eq_true rfl, Nat.le_of_ble_eq_true rfl⟩) 0 rfl mW_0 rfl rfl hl.1 (Nat.le_of_ble_eq_true rfl) dX11_item_2 rfl ⟨Nat.zero_le _, Nat.zero_le _⟩ (fun r1 u2 H locs hp3 hO => ?_)
  obtain ⟨hr1, hu2⟩ := hp3
  subst hr1
  rw [hu2] at hO
  refine bn_ne (X := 0) hx hb dX11_item_5 rfl (by omega) ?_ (tgt := 10) (by decide)
  refine lv_iconst (v := (-1)) hx hb dX11_item_8 (by decide) ?_
  refine hret _ _ _ _ _ _ dX11_item_9 rfl ?_ hO
  exact ⟨rfl, rfl⟩
theorem dX11_plead_0 : decode cX11_plead 0 = .ok (.aload_n 0, 1) := by decide +kernel
theorem dX11_plead_1 : decode cX11_plead 1 = .ok (.iload_n 1, 1) := by decide +kernel
theorem dX11_plead_2 : decode cX11_plead 2 = .ok (.invokevirtual 383, 3) := by decide +kernel
theorem dX11_plead_5 : decode cX11_plead 5 = .ok (.ifCond .eq 43, 3) := by decide +kernel
theorem dX11_plead_8 : decode cX11_plead 8 = .ok (.aload_n 0, 1) := by decide +kernel
theorem dX11_plead_9 : decode cX11_plead 9 = .ok (.iload_n 2, 1) := by decide +kernel
theorem dX11_plead_10 : decode cX11_plead 10 = .ok (.invokevirtual 426, 3) := by decide +kernel
theorem dX11_plead_13 : decode cX11_plead 13 = .ok (.ifCond .eq 35, 3) := by decide +kernel
theorem dX11_plead_16 : decode cX11_plead 16 = .ok (.aload_n 0, 1) := by decide +kernel
theorem dX11_plead_17 : decode cX11_plead 17 = .ok (.getfield 97, 3) := by decide +kernel
theorem dX11_plead_20 : decode cX11_plead 20 = .ok (.bipush 6, 2) := by decide +kernel
theorem dX11_plead_22 : decode cX11_plead 22 = .ok (.iload_n 1, 1) := by decide +kernel
theorem dX11_plead_23 : decode cX11_plead 23 = .ok (.iadd, 1) := by decide +kernel
theorem dX11_plead_24 : decode cX11_plead 24 = .ok (.iaload, 1) := by decide +kernel
theorem dX11_plead_25 : decode cX11_plead 25 = .ok (.iload_n 2, 1) := by decide +kernel
theorem dX11_plead_26 : decode cX11_plead 26 = .ok (.invokestatic 264, 3) := by decide +kernel
theorem dX11_plead_29 : decode cX11_plead 29 = .ok (.ifCond .ne 19, 3) := by decide +kernel
theorem dX11_plead_32 : decode cX11_plead 32 = .ok (.aload_n 0, 1) := by decide +kernel
theorem dX11_plead_33 : decode cX11_plead 33 = .ok (.getfield 97, 3) := by decide +kernel
theorem dX11_plead_36 : decode cX11_plead 36 = .ok (.bipush 6, 2) := by decide +kernel
theorem dX11_plead_38 : decode cX11_plead 38 = .ok (.iload_n 1, 1) := by decide +kernel
theorem dX11_plead_39 : decode cX11_plead 39 = .ok (.iadd, 1) := by decide +kernel
theorem dX11_plead_40 : decode cX11_plead 40 = .ok (.iaload, 1) := by decide +kernel
theorem dX11_plead_41 : decode cX11_plead 41 = .ok (.invokestatic 316, 3) := by decide +kernel
theorem dX11_plead_44 : decode cX11_plead 44 = .ok (.iconst 4, 1) := by decide +kernel
theorem dX11_plead_45 : decode cX11_plead 45 = .ok (.if_icmp .ne 7, 3) := by decide +kernel
theorem dX11_plead_48 : decode cX11_plead 48 = .ok (.ldc_w 429, 3) := by decide +kernel
theorem dX11_plead_51 : decode cX11_plead 51 = .ok (.ireturn, 1) := by decide +kernel
theorem dX11_plead_52 : decode cX11_plead 52 = .ok (.aload_n 0, 1) := by decide +kernel
theorem dX11_plead_53 : decode cX11_plead 53 = .ok (.invokevirtual 436, 3) := by decide +kernel
theorem dX11_plead_56 : decode cX11_plead 56 = .ok (.aload_n 0, 1) := by decide +kernel
theorem dX11_plead_57 : decode cX11_plead 57 = .ok (.getfield 97, 3) := by decide +kernel
theorem dX11_plead_60 : decode cX11_plead 60 = .ok (.bipush 6, 2) := by decide +kernel
theorem dX11_plead_62 : decode cX11_plead 62 = .ok (.iload_n 1, 1) := by decide +kernel
theorem dX11_plead_63 : decode cX11_plead 63 = .ok (.iadd, 1) := by decide +kernel
theorem dX11_plead_64 : decode cX11_plead 64 = .ok (.dup2, 1) := by decide +kernel
theorem dX11_plead_65 : decode cX11_plead 65 = .ok (.iaload, 1) := by decide +kernel
theorem dX11_plead_66 : decode cX11_plead 66 = .ok (.iconst 1, 1) := by decide +kernel
theorem dX11_plead_67 : decode cX11_plead 67 = .ok (.iload_n 2, 1) := by decide +kernel
theorem dX11_plead_68 : decode cX11_plead 68 = .ok (.ishl, 1) := by decide +kernel
theorem dX11_plead_69 : decode cX11_plead 69 = .ok (.ior, 1) := by decide +kernel
theorem dX11_plead_70 : decode cX11_plead 70 = .ok (.iastore, 1) := by decide +kernel
theorem dX11_plead_71 : decode cX11_plead 71 = .ok (.aload_n 0, 1) := by decide +kernel
theorem dX11_plead_72 : decode cX11_plead 72 = .ok (.iload_n 1, 1) := by decide +kernel
theorem dX11_plead_73 : decode cX11_plead 73 = .ok (.invokevirtual 416, 3) := by decide +kernel
theorem dX11_plead_76 : decode cX11_plead 76 = .ok (.ireturn, 1) := by decide +kernel
theorem wd_1831 : (Cond.code ⟨"WebCourtModel", "plead", "(II)I"⟩ prog_13_method_77_code (3 : Nat) (Option.some FieldType.int)) ∈ gtb := gtb_c8 42 (by decide +kernel) rfl
theorem wd_1788 : (Cond.constant "WebCourtModel" (429 : Nat) (-1000000000 : Int32)) ∈ gtb := gtb_c7 239 (by decide +kernel) rfl
set_option maxHeartbeats 4000000 in
set_option maxRecDepth 100000 in
theorem T_X11_plead (l : Launch) (D : va_G) (cy : Nat → ClassId) (a : Nat → Nat) (u : St) (hA_6_0 : fA u 6 0 = 0) (hI_0_36 : fI u 0 36 = 0) (x1 : Int32) (x2 : Int32)  : Mi l D cy (mW cy a) yX11_plead (.code yX11_plead cX11_plead 3 (some .int)) (rmo 2 43) [.ref (a 0), .int x1, .int x2] u (fun (r : Int32) (u' : St) => (r = (-1000000000)) ∧ (u' = u)) := by
  refine Mi.of (own := RX11) rfl (by decide) (Nat.le_of_ble_eq_true rfl) ?_
  intro p e s m below meth c A Q ls C hret hO hl
  obtain ⟨hx, hb, hml, hown, ht, hK, hA⟩ := id C
  have hl : lv_has ls 3 [(0, .ref (a 0)), (1, .int x1), (2, .int x2)] := hl
  refine lv_aload_n hx hb dX11_plead_0 rfl (lv_at hl 0 rfl) ?_
  refine lv_iload_n hx hb dX11_plead_1 rfl (lv_at hl 1 rfl) ?_
  refine cVi (w := mW cy a) (As := [.int x1]) (rest := []) C hO (T_X11_isCase l D cy a _ (by exact hA_6_0) (by exact hI_0_36) (x1)) (cwV 1 ht (gV wd_1753 wd_1755 wd_83 wd_121 wd_1756) rfl rfl rfl hd_yX11_isCase ⟨Nat.le_of_ble_eq_true rfl, Nat.le_of_ble_eq_true rfl⟩) 0 rfl mW_0 rfl rfl hl.1 (Nat.le_of_ble_eq_true rfl) dX11_plead_2 rfl ⟨Nat.zero_le _, Nat.zero_le _⟩ (fun r1 u2 H locs hp3 hO => ?_)
  obtain ⟨hr1, hu2⟩ := hp3
  subst hr1
  rw [hu2] at hO
  refine bt_eq (tgt := 48) (X := 0) hx hb dX11_plead_5 (by decide) rfl (by omega) ?_
  refine lv_ldcw (v := (-1000000000)) hx hb hown (ht _ wd_1788) dX11_plead_48 ?_
  refine hret _ _ _ _ _ _ dX11_plead_51 rfl ?_ hO
  exact ⟨rfl, rfl⟩
theorem dX11_drop_0 : decode cX11_drop 0 = .ok (.aload_n 0, 1) := by decide +kernel
theorem dX11_drop_1 : decode cX11_drop 1 = .ok (.iload_n 1, 1) := by decide +kernel
theorem dX11_drop_2 : decode cX11_drop 2 = .ok (.invokevirtual 383, 3) := by decide +kernel
theorem dX11_drop_5 : decode cX11_drop 5 = .ok (.ifCond .eq 43, 3) := by decide +kernel
theorem dX11_drop_8 : decode cX11_drop 8 = .ok (.aload_n 0, 1) := by decide +kernel
theorem dX11_drop_9 : decode cX11_drop 9 = .ok (.iload_n 2, 1) := by decide +kernel
theorem dX11_drop_10 : decode cX11_drop 10 = .ok (.invokevirtual 426, 3) := by decide +kernel
theorem dX11_drop_13 : decode cX11_drop 13 = .ok (.ifCond .eq 35, 3) := by decide +kernel
theorem dX11_drop_16 : decode cX11_drop 16 = .ok (.aload_n 0, 1) := by decide +kernel
theorem dX11_drop_17 : decode cX11_drop 17 = .ok (.getfield 97, 3) := by decide +kernel
theorem dX11_drop_20 : decode cX11_drop 20 = .ok (.bipush 6, 2) := by decide +kernel
theorem dX11_drop_22 : decode cX11_drop 22 = .ok (.iload_n 1, 1) := by decide +kernel
theorem dX11_drop_23 : decode cX11_drop 23 = .ok (.iadd, 1) := by decide +kernel
theorem dX11_drop_24 : decode cX11_drop 24 = .ok (.iaload, 1) := by decide +kernel
theorem dX11_drop_25 : decode cX11_drop 25 = .ok (.iload_n 2, 1) := by decide +kernel
theorem dX11_drop_26 : decode cX11_drop 26 = .ok (.invokestatic 264, 3) := by decide +kernel
theorem dX11_drop_29 : decode cX11_drop 29 = .ok (.ifCond .eq 19, 3) := by decide +kernel
theorem dX11_drop_32 : decode cX11_drop 32 = .ok (.aload_n 0, 1) := by decide +kernel
theorem dX11_drop_33 : decode cX11_drop 33 = .ok (.getfield 97, 3) := by decide +kernel
theorem dX11_drop_36 : decode cX11_drop 36 = .ok (.bipush 6, 2) := by decide +kernel
theorem dX11_drop_38 : decode cX11_drop 38 = .ok (.iload_n 1, 1) := by decide +kernel
theorem dX11_drop_39 : decode cX11_drop 39 = .ok (.iadd, 1) := by decide +kernel
theorem dX11_drop_40 : decode cX11_drop 40 = .ok (.iaload, 1) := by decide +kernel
theorem dX11_drop_41 : decode cX11_drop 41 = .ok (.invokestatic 316, 3) := by decide +kernel
theorem dX11_drop_44 : decode cX11_drop 44 = .ok (.iconst 1, 1) := by decide +kernel
theorem dX11_drop_45 : decode cX11_drop 45 = .ok (.if_icmp .ne 7, 3) := by decide +kernel
theorem dX11_drop_48 : decode cX11_drop 48 = .ok (.ldc_w 429, 3) := by decide +kernel
theorem dX11_drop_51 : decode cX11_drop 51 = .ok (.ireturn, 1) := by decide +kernel
theorem dX11_drop_52 : decode cX11_drop 52 = .ok (.aload_n 0, 1) := by decide +kernel
theorem dX11_drop_53 : decode cX11_drop 53 = .ok (.invokevirtual 436, 3) := by decide +kernel
theorem dX11_drop_56 : decode cX11_drop 56 = .ok (.aload_n 0, 1) := by decide +kernel
theorem dX11_drop_57 : decode cX11_drop 57 = .ok (.getfield 97, 3) := by decide +kernel
theorem dX11_drop_60 : decode cX11_drop 60 = .ok (.bipush 6, 2) := by decide +kernel
theorem dX11_drop_62 : decode cX11_drop 62 = .ok (.iload_n 1, 1) := by decide +kernel
theorem dX11_drop_63 : decode cX11_drop 63 = .ok (.iadd, 1) := by decide +kernel
theorem dX11_drop_64 : decode cX11_drop 64 = .ok (.dup2, 1) := by decide +kernel
theorem dX11_drop_65 : decode cX11_drop 65 = .ok (.iaload, 1) := by decide +kernel
theorem dX11_drop_66 : decode cX11_drop 66 = .ok (.iconst 1, 1) := by decide +kernel
theorem dX11_drop_67 : decode cX11_drop 67 = .ok (.iload_n 2, 1) := by decide +kernel
theorem dX11_drop_68 : decode cX11_drop 68 = .ok (.ishl, 1) := by decide +kernel
theorem dX11_drop_69 : decode cX11_drop 69 = .ok (.iconst (-1), 1) := by decide +kernel
theorem dX11_drop_70 : decode cX11_drop 70 = .ok (.ixor, 1) := by decide +kernel
theorem dX11_drop_71 : decode cX11_drop 71 = .ok (.iand, 1) := by decide +kernel
theorem dX11_drop_72 : decode cX11_drop 72 = .ok (.iastore, 1) := by decide +kernel
theorem dX11_drop_73 : decode cX11_drop 73 = .ok (.aload_n 0, 1) := by decide +kernel
theorem dX11_drop_74 : decode cX11_drop 74 = .ok (.iload_n 1, 1) := by decide +kernel
theorem dX11_drop_75 : decode cX11_drop 75 = .ok (.invokevirtual 416, 3) := by decide +kernel
theorem dX11_drop_78 : decode cX11_drop 78 = .ok (.ireturn, 1) := by decide +kernel
theorem wd_1835 : (Cond.code ⟨"WebCourtModel", "drop", "(II)I"⟩ prog_13_method_78_code (3 : Nat) (Option.some FieldType.int)) ∈ gtb := gtb_c8 46 (by decide +kernel) rfl
set_option maxHeartbeats 4000000 in
set_option maxRecDepth 100000 in
theorem T_X11_drop (l : Launch) (D : va_G) (cy : Nat → ClassId) (a : Nat → Nat) (u : St) (hA_6_0 : fA u 6 0 = 0) (hI_0_36 : fI u 0 36 = 0) (x1 : Int32) (x2 : Int32)  : Mi l D cy (mW cy a) yX11_drop (.code yX11_drop cX11_drop 3 (some .int)) (rmo 2 43) [.ref (a 0), .int x1, .int x2] u (fun (r : Int32) (u' : St) => (r = (-1000000000)) ∧ (u' = u)) := by
  refine Mi.of (own := RX11) rfl (by decide) (Nat.le_of_ble_eq_true rfl) ?_
  intro p e s m below meth c A Q ls C hret hO hl
  obtain ⟨hx, hb, hml, hown, ht, hK, hA⟩ := id C
  have hl : lv_has ls 3 [(0, .ref (a 0)), (1, .int x1), (2, .int x2)] := hl
  refine lv_aload_n hx hb dX11_drop_0 rfl (lv_at hl 0 rfl) ?_
  refine lv_iload_n hx hb dX11_drop_1 rfl (lv_at hl 1 rfl) ?_
  refine cVi (w := mW cy a) (As := [.int x1]) (rest := []) C hO (T_X11_isCase l D cy a _ (by exact hA_6_0) (by exact hI_0_36) (x1)) (cwV 1 ht (gV wd_1753 wd_1755 wd_83 wd_121 wd_1756) rfl rfl rfl hd_yX11_isCase ⟨Nat.le_of_ble_eq_true rfl, Nat.le_of_ble_eq_true rfl⟩) 0 rfl mW_0 rfl rfl hl.1 (Nat.le_of_ble_eq_true rfl) dX11_drop_2 rfl ⟨Nat.zero_le _, Nat.zero_le _⟩ (fun r1 u2 H locs hp3 hO => ?_)
  obtain ⟨hr1, hu2⟩ := hp3
  subst hr1
  rw [hu2] at hO
  refine bt_eq (tgt := 48) (X := 0) hx hb dX11_drop_5 (by decide) rfl (by omega) ?_
  refine lv_ldcw (v := (-1000000000)) hx hb hown (ht _ wd_1788) dX11_drop_48 ?_
  refine hret _ _ _ _ _ _ dX11_drop_51 rfl ?_ hO
  exact ⟨rfl, rfl⟩
theorem dX11_shortest_0 : decode cX11_shortest 0 = .ok (.aload_n 0, 1) := by decide +kernel
theorem dX11_shortest_1 : decode cX11_shortest 1 = .ok (.iload_n 1, 1) := by decide +kernel
theorem dX11_shortest_2 : decode cX11_shortest 2 = .ok (.invokevirtual 413, 3) := by decide +kernel
theorem dX11_shortest_5 : decode cX11_shortest 5 = .ok (.ifCond .eq 29, 3) := by decide +kernel
theorem dX11_shortest_8 : decode cX11_shortest 8 = .ok (.iload_n 2, 1) := by decide +kernel
theorem dX11_shortest_9 : decode cX11_shortest 9 = .ok (.iconst 0, 1) := by decide +kernel
theorem dX11_shortest_10 : decode cX11_shortest 10 = .ok (.iconst 1, 1) := by decide +kernel
theorem dX11_shortest_11 : decode cX11_shortest 11 = .ok (.invokestatic 374, 3) := by decide +kernel
theorem dX11_shortest_14 : decode cX11_shortest 14 = .ok (.ifCond .eq 20, 3) := by decide +kernel
theorem dX11_shortest_17 : decode cX11_shortest 17 = .ok (.aload_n 0, 1) := by decide +kernel
theorem dX11_shortest_18 : decode cX11_shortest 18 = .ok (.aload_n 0, 1) := by decide +kernel
theorem dX11_shortest_19 : decode cX11_shortest 19 = .ok (.iload_n 1, 1) := by decide +kernel
theorem dX11_shortest_20 : decode cX11_shortest 20 = .ok (.aload_n 0, 1) := by decide +kernel
theorem dX11_shortest_21 : decode cX11_shortest 21 = .ok (.invokevirtual 448, 3) := by decide +kernel
theorem dX11_shortest_24 : decode cX11_shortest 24 = .ok (.invokevirtual 451, 3) := by decide +kernel
theorem dX11_shortest_27 : decode cX11_shortest 27 = .ok (.iload_n 2, 1) := by decide +kernel
theorem dX11_shortest_28 : decode cX11_shortest 28 = .ok (.invokevirtual 454, 3) := by decide +kernel
theorem dX11_shortest_31 : decode cX11_shortest 31 = .ok (.goto 4, 3) := by decide +kernel
theorem dX11_shortest_34 : decode cX11_shortest 34 = .ok (.iconst (-1), 1) := by decide +kernel
theorem dX11_shortest_35 : decode cX11_shortest 35 = .ok (.ireturn, 1) := by decide +kernel
theorem wd_1867 : (Cond.code ⟨"WebCourtModel", "shortest", "(II)I"⟩ prog_13_method_87_code (3 : Nat) (Option.some FieldType.int)) ∈ gtb := gtb_c8 78 (by decide +kernel) rfl
theorem wd_1797 : (Cond.methodLink "WebCourtModel" (413 : Nat) ⟨"WebCourtModel", "isHeld", "(I)Z"⟩) ∈ gtb := gtb_c8 8 (by decide +kernel) rfl
theorem wd_1799 : (Cond.instanceMethod ⟨"WebCourtModel", "isHeld", "(I)Z"⟩) ∈ gtb := gtb_c8 10 (by decide +kernel) rfl
theorem wd_91 : (Cond.selects "WebCourtModel" ⟨"WebCourtModel", "isHeld", "(I)Z"⟩ ⟨"WebCourtModel", "isHeld", "(I)Z"⟩) ∈ gtb := gtb_p 91 (by decide +kernel) rfl
theorem hd_yX11_isHeld : yX11_isHeld.cls = RX11 ∧ yX11_isHeld.cls ≠ "java/lang/invoke/MethodHandle" ∧ yX11_isHeld.cls ≠ "java/lang/invoke/VarHandle" ∧ (parseMethodDescriptor yX11_isHeld.desc).map (fun d => d.parameters.length) = some 1 := by decide +kernel
set_option maxHeartbeats 4000000 in
set_option maxRecDepth 100000 in
theorem T_X11_shortest (l : Launch) (D : va_G) (cy : Nat → ClassId) (a : Nat → Nat) (u : St) (hA_6_0 : fA u 6 0 = 0) (hI_0_36 : fI u 0 36 = 0) (x1 : Int32) (x2 : Int32)  : Mi l D cy (mW cy a) yX11_shortest (.code yX11_shortest cX11_shortest 3 (some .int)) (rmo 3 64) [.ref (a 0), .int x1, .int x2] u (fun (r : Int32) (u' : St) => (r = (-1)) ∧ (u' = u)) := by
  refine Mi.of (own := RX11) rfl (by decide) (Nat.le_of_ble_eq_true rfl) ?_
  intro p e s m below meth c A Q ls C hret hO hl
  obtain ⟨hx, hb, hml, hown, ht, hK, hA⟩ := id C
  have hl : lv_has ls 3 [(0, .ref (a 0)), (1, .int x1), (2, .int x2)] := hl
  refine lv_aload_n hx hb dX11_shortest_0 rfl (lv_at hl 0 rfl) ?_
  refine lv_iload_n hx hb dX11_shortest_1 rfl (lv_at hl 1 rfl) ?_
  refine cVi (w := mW cy a) (As := [.int x1]) (rest := []) C hO (T_X11_isHeld l D cy a _ (by exact hA_6_0) (by exact hI_0_36) (x1)) (cwV 1 ht (gV wd_1797 wd_1799 wd_91 wd_121 wd_1800) rfl rfl rfl hd_yX11_isHeld ⟨Nat.le_of_ble_eq_true rfl, Nat.le_of_ble_eq_true rfl⟩) 0 rfl mW_0 rfl rfl hl.1 (Nat.le_of_ble_eq_true rfl) dX11_shortest_2 rfl ⟨Nat.zero_le _, Nat.zero_le _⟩ (fun r1 u2 H locs hp3 hO => ?_)
  obtain ⟨hr1, hu2⟩ := hp3
  subst hr1
  rw [hu2] at hO
  refine bt_eq (tgt := 34) (X := 0) hx hb dX11_shortest_5 (by decide) rfl (by omega) ?_
  refine lv_iconst (v := (-1)) hx hb dX11_shortest_34 (by decide) ?_
  refine hret _ _ _ _ _ _ dX11_shortest_35 rfl ?_ hO
  exact ⟨rfl, rfl⟩
theorem dX11_honest_0 : decode cX11_honest 0 = .ok (.aload_n 0, 1) := by decide +kernel
theorem dX11_honest_1 : decode cX11_honest 1 = .ok (.iload_n 1, 1) := by decide +kernel
theorem dX11_honest_2 : decode cX11_honest 2 = .ok (.invokevirtual 413, 3) := by decide +kernel
theorem dX11_honest_5 : decode cX11_honest 5 = .ok (.ifCond .eq 39, 3) := by decide +kernel
theorem dX11_honest_8 : decode cX11_honest 8 = .ok (.iload_n 2, 1) := by decide +kernel
theorem dX11_honest_9 : decode cX11_honest 9 = .ok (.iconst 0, 1) := by decide +kernel
theorem dX11_honest_10 : decode cX11_honest 10 = .ok (.iconst 1, 1) := by decide +kernel
theorem dX11_honest_11 : decode cX11_honest 11 = .ok (.invokestatic 374, 3) := by decide +kernel
theorem dX11_honest_14 : decode cX11_honest 14 = .ok (.ifCond .eq 30, 3) := by decide +kernel
theorem dX11_honest_17 : decode cX11_honest 17 = .ok (.aload_n 0, 1) := by decide +kernel
theorem dX11_honest_18 : decode cX11_honest 18 = .ok (.aload_n 0, 1) := by decide +kernel
theorem dX11_honest_19 : decode cX11_honest 19 = .ok (.iload_n 1, 1) := by decide +kernel
theorem dX11_honest_20 : decode cX11_honest 20 = .ok (.aload_n 0, 1) := by decide +kernel
theorem dX11_honest_21 : decode cX11_honest 21 = .ok (.getfield 63, 3) := by decide +kernel
theorem dX11_honest_24 : decode cX11_honest 24 = .ok (.bipush 6, 2) := by decide +kernel
theorem dX11_honest_26 : decode cX11_honest 26 = .ok (.aload_n 0, 1) := by decide +kernel
theorem dX11_honest_27 : decode cX11_honest 27 = .ok (.getfield 255, 3) := by decide +kernel
theorem dX11_honest_30 : decode cX11_honest 30 = .ok (.imul, 1) := by decide +kernel
theorem dX11_honest_31 : decode cX11_honest 31 = .ok (.iload_n 1, 1) := by decide +kernel
theorem dX11_honest_32 : decode cX11_honest 32 = .ok (.iadd, 1) := by decide +kernel
theorem dX11_honest_33 : decode cX11_honest 33 = .ok (.iaload, 1) := by decide +kernel
theorem dX11_honest_34 : decode cX11_honest 34 = .ok (.invokevirtual 451, 3) := by decide +kernel
theorem dX11_honest_37 : decode cX11_honest 37 = .ok (.iload_n 2, 1) := by decide +kernel
theorem dX11_honest_38 : decode cX11_honest 38 = .ok (.invokevirtual 454, 3) := by decide +kernel
theorem dX11_honest_41 : decode cX11_honest 41 = .ok (.goto 4, 3) := by decide +kernel
theorem dX11_honest_44 : decode cX11_honest 44 = .ok (.iconst (-1), 1) := by decide +kernel
theorem dX11_honest_45 : decode cX11_honest 45 = .ok (.ireturn, 1) := by decide +kernel
theorem wd_1883 : (Cond.code ⟨"WebCourtModel", "honest", "(II)I"⟩ prog_13_method_88_code (3 : Nat) (Option.some FieldType.int)) ∈ gtb := gtb_c8 94 (by decide +kernel) rfl
set_option maxHeartbeats 4000000 in
set_option maxRecDepth 100000 in
theorem T_X11_honest (l : Launch) (D : va_G) (cy : Nat → ClassId) (a : Nat → Nat) (u : St) (hA_6_0 : fA u 6 0 = 0) (hI_0_36 : fI u 0 36 = 0) (x1 : Int32) (x2 : Int32)  : Mi l D cy (mW cy a) yX11_honest (.code yX11_honest cX11_honest 3 (some .int)) (rmo 3 64) [.ref (a 0), .int x1, .int x2] u (fun (r : Int32) (u' : St) => (r = (-1)) ∧ (u' = u)) := by
  refine Mi.of (own := RX11) rfl (by decide) (Nat.le_of_ble_eq_true rfl) ?_
  intro p e s m below meth c A Q ls C hret hO hl
  obtain ⟨hx, hb, hml, hown, ht, hK, hA⟩ := id C
  have hl : lv_has ls 3 [(0, .ref (a 0)), (1, .int x1), (2, .int x2)] := hl
  refine lv_aload_n hx hb dX11_honest_0 rfl (lv_at hl 0 rfl) ?_
  refine lv_iload_n hx hb dX11_honest_1 rfl (lv_at hl 1 rfl) ?_
  refine cVi (w := mW cy a) (As := [.int x1]) (rest := []) C hO (T_X11_isHeld l D cy a _ (by exact hA_6_0) (by exact hI_0_36) (x1)) (cwV 1 ht (gV wd_1797 wd_1799 wd_91 wd_121 wd_1800) rfl rfl rfl hd_yX11_isHeld ⟨Nat.le_of_ble_eq_true rfl, Nat.le_of_ble_eq_true rfl⟩) 0 rfl mW_0 rfl rfl hl.1 (Nat.le_of_ble_eq_true rfl) dX11_honest_2 rfl ⟨Nat.zero_le _, Nat.zero_le _⟩ (fun r1 u2 H locs hp3 hO => ?_)
  obtain ⟨hr1, hu2⟩ := hp3
  subst hr1
  rw [hu2] at hO
  refine bt_eq (tgt := 44) (X := 0) hx hb dX11_honest_5 (by decide) rfl (by omega) ?_
  refine lv_iconst (v := (-1)) hx hb dX11_honest_44 (by decide) ?_
  refine hret _ _ _ _ _ _ dX11_honest_45 rfl ?_ hO
  exact ⟨rfl, rfl⟩
theorem dX11_advice_0 : decode cX11_advice 0 = .ok (.aload_n 0, 1) := by decide +kernel
theorem dX11_advice_1 : decode cX11_advice 1 = .ok (.iload_n 1, 1) := by decide +kernel
theorem dX11_advice_2 : decode cX11_advice 2 = .ok (.invokevirtual 413, 3) := by decide +kernel
theorem dX11_advice_5 : decode cX11_advice 5 = .ok (.ifCond .eq 28, 3) := by decide +kernel
theorem dX11_advice_8 : decode cX11_advice 8 = .ok (.iload_n 2, 1) := by decide +kernel
theorem dX11_advice_9 : decode cX11_advice 9 = .ok (.iconst 0, 1) := by decide +kernel
theorem dX11_advice_10 : decode cX11_advice 10 = .ok (.iconst 1, 1) := by decide +kernel
theorem dX11_advice_11 : decode cX11_advice 11 = .ok (.invokestatic 374, 3) := by decide +kernel
theorem dX11_advice_14 : decode cX11_advice 14 = .ok (.ifCond .eq 19, 3) := by decide +kernel
theorem dX11_advice_17 : decode cX11_advice 17 = .ok (.aload_n 0, 1) := by decide +kernel
theorem dX11_advice_18 : decode cX11_advice 18 = .ok (.getfield 97, 3) := by decide +kernel
theorem dX11_advice_21 : decode cX11_advice 21 = .ok (.bipush 6, 2) := by decide +kernel
theorem dX11_advice_23 : decode cX11_advice 23 = .ok (.iload_n 1, 1) := by decide +kernel
theorem dX11_advice_24 : decode cX11_advice 24 = .ok (.iadd, 1) := by decide +kernel
theorem dX11_advice_25 : decode cX11_advice 25 = .ok (.iaload, 1) := by decide +kernel
theorem dX11_advice_26 : decode cX11_advice 26 = .ok (.invokestatic 316, 3) := by decide +kernel
theorem dX11_advice_29 : decode cX11_advice 29 = .ok (.iconst 4, 1) := by decide +kernel
theorem dX11_advice_30 : decode cX11_advice 30 = .ok (.if_icmp .ne 7, 3) := by decide +kernel
theorem dX11_advice_33 : decode cX11_advice 33 = .ok (.ldc_w 429, 3) := by decide +kernel
theorem dX11_advice_36 : decode cX11_advice 36 = .ok (.ireturn, 1) := by decide +kernel
theorem dX11_advice_37 : decode cX11_advice 37 = .ok (.iconst (-1), 1) := by decide +kernel
theorem dX11_advice_38 : decode cX11_advice 38 = .ok (.istore_n 3, 1) := by decide +kernel
theorem dX11_advice_39 : decode cX11_advice 39 = .ok (.iconst 0, 1) := by decide +kernel
theorem dX11_advice_40 : decode cX11_advice 40 = .ok (.istore 4, 2) := by decide +kernel
theorem dX11_advice_42 : decode cX11_advice 42 = .ok (.iconst 0, 1) := by decide +kernel
theorem dX11_advice_43 : decode cX11_advice 43 = .ok (.istore 5, 2) := by decide +kernel
theorem dX11_advice_45 : decode cX11_advice 45 = .ok (.iload 5, 2) := by decide +kernel
theorem dX11_advice_47 : decode cX11_advice 47 = .ok (.aload_n 0, 1) := by decide +kernel
theorem dX11_advice_48 : decode cX11_advice 48 = .ok (.invokevirtual 377, 3) := by decide +kernel
theorem dX11_advice_51 : decode cX11_advice 51 = .ok (.if_icmp .ge 71, 3) := by decide +kernel
theorem dX11_advice_54 : decode cX11_advice 54 = .ok (.aload_n 0, 1) := by decide +kernel
theorem dX11_advice_55 : decode cX11_advice 55 = .ok (.getfield 97, 3) := by decide +kernel
theorem dX11_advice_58 : decode cX11_advice 58 = .ok (.bipush 6, 2) := by decide +kernel
theorem dX11_advice_60 : decode cX11_advice 60 = .ok (.iload_n 1, 1) := by decide +kernel
theorem dX11_advice_61 : decode cX11_advice 61 = .ok (.iadd, 1) := by decide +kernel
theorem dX11_advice_62 : decode cX11_advice 62 = .ok (.iaload, 1) := by decide +kernel
theorem dX11_advice_63 : decode cX11_advice 63 = .ok (.iload 5, 2) := by decide +kernel
theorem dX11_advice_65 : decode cX11_advice 65 = .ok (.invokestatic 264, 3) := by decide +kernel
theorem dX11_advice_68 : decode cX11_advice 68 = .ok (.ifCond .eq 6, 3) := by decide +kernel
theorem dX11_advice_71 : decode cX11_advice 71 = .ok (.goto 45, 3) := by decide +kernel
theorem dX11_advice_74 : decode cX11_advice 74 = .ok (.aload_n 0, 1) := by decide +kernel
theorem dX11_advice_75 : decode cX11_advice 75 = .ok (.iload_n 1, 1) := by decide +kernel
theorem dX11_advice_76 : decode cX11_advice 76 = .ok (.aload_n 0, 1) := by decide +kernel
theorem dX11_advice_77 : decode cX11_advice 77 = .ok (.getfield 97, 3) := by decide +kernel
theorem dX11_advice_80 : decode cX11_advice 80 = .ok (.bipush 6, 2) := by decide +kernel
theorem dX11_advice_82 : decode cX11_advice 82 = .ok (.iload_n 1, 1) := by decide +kernel
theorem dX11_advice_83 : decode cX11_advice 83 = .ok (.iadd, 1) := by decide +kernel
theorem dX11_advice_84 : decode cX11_advice 84 = .ok (.iaload, 1) := by decide +kernel
theorem dX11_advice_85 : decode cX11_advice 85 = .ok (.iconst 1, 1) := by decide +kernel
theorem dX11_advice_86 : decode cX11_advice 86 = .ok (.iload 5, 2) := by decide +kernel
theorem dX11_advice_88 : decode cX11_advice 88 = .ok (.ishl, 1) := by decide +kernel
theorem dX11_advice_89 : decode cX11_advice 89 = .ok (.ior, 1) := by decide +kernel
theorem dX11_advice_90 : decode cX11_advice 90 = .ok (.invokevirtual 410, 3) := by decide +kernel
theorem dX11_advice_93 : decode cX11_advice 93 = .ok (.istore 6, 2) := by decide +kernel
theorem dX11_advice_95 : decode cX11_advice 95 = .ok (.iload_n 3, 1) := by decide +kernel
theorem dX11_advice_96 : decode cX11_advice 96 = .ok (.ifCond .lt 13, 3) := by decide +kernel
theorem dX11_advice_99 : decode cX11_advice 99 = .ok (.iload 6, 2) := by decide +kernel
theorem dX11_advice_101 : decode cX11_advice 101 = .ok (.iload 4, 2) := by decide +kernel
theorem dX11_advice_103 : decode cX11_advice 103 = .ok (.if_icmp .gt 6, 3) := by decide +kernel
theorem dX11_advice_106 : decode cX11_advice 106 = .ok (.goto 10, 3) := by decide +kernel
theorem dX11_advice_109 : decode cX11_advice 109 = .ok (.iload 5, 2) := by decide +kernel
theorem dX11_advice_111 : decode cX11_advice 111 = .ok (.istore_n 3, 1) := by decide +kernel
theorem dX11_advice_112 : decode cX11_advice 112 = .ok (.iload 6, 2) := by decide +kernel
theorem dX11_advice_114 : decode cX11_advice 114 = .ok (.istore 4, 2) := by decide +kernel
theorem dX11_advice_116 : decode cX11_advice 116 = .ok (.iinc 5 1, 3) := by decide +kernel
theorem dX11_advice_119 : decode cX11_advice 119 = .ok (.goto (-74), 3) := by decide +kernel
theorem dX11_advice_122 : decode cX11_advice 122 = .ok (.iload_n 3, 1) := by decide +kernel
theorem dX11_advice_123 : decode cX11_advice 123 = .ok (.ifCond .ge 9, 3) := by decide +kernel
theorem dX11_advice_126 : decode cX11_advice 126 = .ok (.ldc_w 429, 3) := by decide +kernel
theorem dX11_advice_129 : decode cX11_advice 129 = .ok (.goto 13, 3) := by decide +kernel
theorem dX11_advice_132 : decode cX11_advice 132 = .ok (.iload_n 2, 1) := by decide +kernel
theorem dX11_advice_133 : decode cX11_advice 133 = .ok (.ifCond .ne 7, 3) := by decide +kernel
theorem dX11_advice_136 : decode cX11_advice 136 = .ok (.iload_n 3, 1) := by decide +kernel
theorem dX11_advice_137 : decode cX11_advice 137 = .ok (.goto 5, 3) := by decide +kernel
theorem dX11_advice_140 : decode cX11_advice 140 = .ok (.iload 4, 2) := by decide +kernel
theorem dX11_advice_142 : decode cX11_advice 142 = .ok (.ireturn, 1) := by decide +kernel
theorem wd_1891 : (Cond.code ⟨"WebCourtModel", "advice", "(II)I"⟩ prog_13_method_90_code (7 : Nat) (Option.some FieldType.int)) ∈ gtb := gtb_c8 102 (by decide +kernel) rfl
set_option maxHeartbeats 4000000 in
set_option maxRecDepth 100000 in
theorem T_X11_advice (l : Launch) (D : va_G) (cy : Nat → ClassId) (a : Nat → Nat) (u : St) (hA_6_0 : fA u 6 0 = 0) (hI_0_36 : fI u 0 36 = 0) (x1 : Int32) (x2 : Int32)  : Mi l D cy (mW cy a) yX11_advice (.code yX11_advice cX11_advice 7 (some .int)) (rmo 3 64) [.ref (a 0), .int x1, .int x2] u (fun (r : Int32) (u' : St) => (r = (-1000000000)) ∧ (u' = u)) := by
  refine Mi.of (own := RX11) rfl (by decide) (Nat.le_of_ble_eq_true rfl) ?_
  intro p e s m below meth c A Q ls C hret hO hl
  obtain ⟨hx, hb, hml, hown, ht, hK, hA⟩ := id C
  have hl : lv_has ls 7 [(0, .ref (a 0)), (1, .int x1), (2, .int x2)] := hl
  refine lv_aload_n hx hb dX11_advice_0 rfl (lv_at hl 0 rfl) ?_
  refine lv_iload_n hx hb dX11_advice_1 rfl (lv_at hl 1 rfl) ?_
  refine cVi (w := mW cy a) (As := [.int x1]) (rest := []) C hO (T_X11_isHeld l D cy a _ (by exact hA_6_0) (by exact hI_0_36) (x1)) (cwV 1 ht (gV wd_1797 wd_1799 wd_91 wd_121 wd_1800) rfl rfl rfl hd_yX11_isHeld ⟨Nat.le_of_ble_eq_true rfl, Nat.le_of_ble_eq_true rfl⟩) 0 rfl mW_0 rfl rfl hl.1 (Nat.le_of_ble_eq_true rfl) dX11_advice_2 rfl ⟨Nat.zero_le _, Nat.zero_le _⟩ (fun r1 u2 H locs hp3 hO => ?_)
  obtain ⟨hr1, hu2⟩ := hp3
  subst hr1
  rw [hu2] at hO
  refine bt_eq (tgt := 33) (X := 0) hx hb dX11_advice_5 (by decide) rfl (by omega) ?_
  refine lv_ldcw (v := (-1000000000)) hx hb hown (ht _ wd_1788) dX11_advice_33 ?_
  refine hret _ _ _ _ _ _ dX11_advice_36 rfl ?_ hO
  exact ⟨rfl, rfl⟩
theorem dX11_plea_0 : decode cX11_plea 0 = .ok (.aload_n 0, 1) := by decide +kernel
theorem dX11_plea_1 : decode cX11_plea 1 = .ok (.iload_n 1, 1) := by decide +kernel
theorem dX11_plea_2 : decode cX11_plea 2 = .ok (.invokevirtual 426, 3) := by decide +kernel
theorem dX11_plea_5 : decode cX11_plea 5 = .ok (.ifCond .eq 20, 3) := by decide +kernel
theorem dX11_plea_8 : decode cX11_plea 8 = .ok (.aload_n 0, 1) := by decide +kernel
theorem dX11_plea_9 : decode cX11_plea 9 = .ok (.getfield 57, 3) := by decide +kernel
theorem dX11_plea_12 : decode cX11_plea 12 = .ok (.bipush 8, 2) := by decide +kernel
theorem dX11_plea_14 : decode cX11_plea 14 = .ok (.aload_n 0, 1) := by decide +kernel
theorem dX11_plea_15 : decode cX11_plea 15 = .ok (.getfield 255, 3) := by decide +kernel
theorem dX11_plea_18 : decode cX11_plea 18 = .ok (.imul, 1) := by decide +kernel
theorem dX11_plea_19 : decode cX11_plea 19 = .ok (.iload_n 1, 1) := by decide +kernel
theorem dX11_plea_20 : decode cX11_plea 20 = .ok (.iadd, 1) := by decide +kernel
theorem dX11_plea_21 : decode cX11_plea 21 = .ok (.iaload, 1) := by decide +kernel
theorem dX11_plea_22 : decode cX11_plea 22 = .ok (.goto 4, 3) := by decide +kernel
theorem dX11_plea_25 : decode cX11_plea 25 = .ok (.iconst (-1), 1) := by decide +kernel
theorem dX11_plea_26 : decode cX11_plea 26 = .ok (.ireturn, 1) := by decide +kernel
theorem wd_1740 : (Cond.code ⟨"WebCourtModel", "plea", "(I)I"⟩ prog_13_method_66_code (2 : Nat) (Option.some FieldType.int)) ∈ gtb := gtb_c7 191 (by decide +kernel) rfl
theorem wd_1741 : (Cond.methodLink "WebCourtModel" (426 : Nat) ⟨"WebCourtModel", "isPlea", "(I)Z"⟩) ∈ gtb := gtb_c7 192 (by decide +kernel) rfl
theorem wd_1743 : (Cond.instanceMethod ⟨"WebCourtModel", "isPlea", "(I)Z"⟩) ∈ gtb := gtb_c7 194 (by decide +kernel) rfl
theorem wd_81 : (Cond.selects "WebCourtModel" ⟨"WebCourtModel", "isPlea", "(I)Z"⟩ ⟨"WebCourtModel", "isPlea", "(I)Z"⟩) ∈ gtb := gtb_p 81 (by decide +kernel) rfl
theorem hd_yX11_isPlea : yX11_isPlea.cls = RX11 ∧ yX11_isPlea.cls ≠ "java/lang/invoke/MethodHandle" ∧ yX11_isPlea.cls ≠ "java/lang/invoke/VarHandle" ∧ (parseMethodDescriptor yX11_isPlea.desc).map (fun d => d.parameters.length) = some 1 := by decide +kernel
set_option maxHeartbeats 4000000 in
set_option maxRecDepth 100000 in
theorem T_X11_plea (l : Launch) (D : va_G) (cy : Nat → ClassId) (a : Nat → Nat) (u : St) (hA_5_0 : fA u 5 0 = 0) (hI_0_36 : fI u 0 36 = 0) (x1 : Int32)  : Mi l D cy (mW cy a) yX11_plea (.code yX11_plea cX11_plea 2 (some .int)) (rmo 2 43) [.ref (a 0), .int x1] u (fun (r : Int32) (u' : St) => (r = (-1)) ∧ (u' = u)) := by
  refine Mi.of (own := RX11) rfl (by decide) (Nat.le_of_ble_eq_true rfl) ?_
  intro p e s m below meth c A Q ls C hret hO hl
  obtain ⟨hx, hb, hml, hown, ht, hK, hA⟩ := id C
  have hl : lv_has ls 2 [(0, .ref (a 0)), (1, .int x1)] := hl
  refine lv_aload_n hx hb dX11_plea_0 rfl (lv_at hl 0 rfl) ?_
  refine lv_iload_n hx hb dX11_plea_1 rfl (lv_at hl 1 rfl) ?_
  refine cVi (w := mW cy a) (As := [.int x1]) (rest := []) C hO (T_X11_isPlea l D cy a _ (by exact hA_5_0) (by exact hI_0_36) (x1)) (cwV 1 ht (gV wd_1741 wd_1743 wd_81 wd_121 wd_1744) rfl rfl rfl hd_yX11_isPlea ⟨Nat.le_of_ble_eq_true rfl, Nat.le_of_ble_eq_true rfl⟩) 0 rfl mW_0 rfl rfl hl.1 (Nat.le_of_ble_eq_true rfl) dX11_plea_2 rfl ⟨Nat.zero_le _, Nat.zero_le _⟩ (fun r1 u2 H locs hp3 hO => ?_)
  obtain ⟨hr1, hu2⟩ := hp3
  subst hr1
  rw [hu2] at hO
  refine bt_eq (tgt := 25) (X := 0) hx hb dX11_plea_5 (by decide) rfl (by omega) ?_
  refine lv_iconst (v := (-1)) hx hb dX11_plea_25 (by decide) ?_
  refine hret _ _ _ _ _ _ dX11_plea_26 rfl ?_ hO
  exact ⟨rfl, rfl⟩
theorem dX11_verdict_0 : decode cX11_verdict 0 = .ok (.aload_n 0, 1) := by decide +kernel
theorem dX11_verdict_1 : decode cX11_verdict 1 = .ok (.iload_n 1, 1) := by decide +kernel
theorem dX11_verdict_2 : decode cX11_verdict 2 = .ok (.invokevirtual 383, 3) := by decide +kernel
theorem dX11_verdict_5 : decode cX11_verdict 5 = .ok (.ifCond .eq 11, 3) := by decide +kernel
theorem dX11_verdict_8 : decode cX11_verdict 8 = .ok (.aload_n 0, 1) := by decide +kernel
theorem dX11_verdict_9 : decode cX11_verdict 9 = .ok (.iload_n 1, 1) := by decide +kernel
theorem dX11_verdict_10 : decode cX11_verdict 10 = .ok (.invokevirtual 416, 3) := by decide +kernel
theorem dX11_verdict_13 : decode cX11_verdict 13 = .ok (.goto 6, 3) := by decide +kernel
theorem dX11_verdict_16 : decode cX11_verdict 16 = .ok (.ldc_w 429, 3) := by decide +kernel
theorem dX11_verdict_19 : decode cX11_verdict 19 = .ok (.ireturn, 1) := by decide +kernel
theorem wd_1760 : (Cond.code ⟨"WebCourtModel", "verdict", "(I)I"⟩ prog_13_method_68_code (2 : Nat) (Option.some FieldType.int)) ∈ gtb := gtb_c7 211 (by decide +kernel) rfl
set_option maxHeartbeats 4000000 in
set_option maxRecDepth 100000 in
theorem T_X11_verdict (l : Launch) (D : va_G) (cy : Nat → ClassId) (a : Nat → Nat) (u : St) (hA_6_0 : fA u 6 0 = 0) (hI_0_36 : fI u 0 36 = 0) (x1 : Int32)  : Mi l D cy (mW cy a) yX11_verdict (.code yX11_verdict cX11_verdict 2 (some .int)) (rmo 2 43) [.ref (a 0), .int x1] u (fun (r : Int32) (u' : St) => (r = (-1000000000)) ∧ (u' = u)) := by
  refine Mi.of (own := RX11) rfl (by decide) (Nat.le_of_ble_eq_true rfl) ?_
  intro p e s m below meth c A Q ls C hret hO hl
  obtain ⟨hx, hb, hml, hown, ht, hK, hA⟩ := id C
  have hl : lv_has ls 2 [(0, .ref (a 0)), (1, .int x1)] := hl
  refine lv_aload_n hx hb dX11_verdict_0 rfl (lv_at hl 0 rfl) ?_
  refine lv_iload_n hx hb dX11_verdict_1 rfl (lv_at hl 1 rfl) ?_
  refine cVi (w := mW cy a) (As := [.int x1]) (rest := []) C hO (T_X11_isCase l D cy a _ (by exact hA_6_0) (by exact hI_0_36) (x1)) (cwV 1 ht (gV wd_1753 wd_1755 wd_83 wd_121 wd_1756) rfl rfl rfl hd_yX11_isCase ⟨Nat.le_of_ble_eq_true rfl, Nat.le_of_ble_eq_true rfl⟩) 0 rfl mW_0 rfl rfl hl.1 (Nat.le_of_ble_eq_true rfl) dX11_verdict_2 rfl ⟨Nat.zero_le _, Nat.zero_le _⟩ (fun r1 u2 H locs hp3 hO => ?_)
  obtain ⟨hr1, hu2⟩ := hp3
  subst hr1
  rw [hu2] at hO
  refine bt_eq (tgt := 16) (X := 0) hx hb dX11_verdict_5 (by decide) rfl (by omega) ?_
  refine lv_ldcw (v := (-1000000000)) hx hb hown (ht _ wd_1788) dX11_verdict_16 ?_
  refine hret _ _ _ _ _ _ dX11_verdict_19 rfl ?_ hO
  exact ⟨rfl, rfl⟩
theorem dX11_hour_0 : decode cX11_hour 0 = .ok (.aload_n 0, 1) := by decide +kernel
theorem dX11_hour_1 : decode cX11_hour 1 = .ok (.iload_n 1, 1) := by decide +kernel
theorem dX11_hour_2 : decode cX11_hour 2 = .ok (.invokevirtual 419, 3) := by decide +kernel
theorem dX11_hour_5 : decode cX11_hour 5 = .ok (.ifCond .eq 16, 3) := by decide +kernel
theorem dX11_hour_8 : decode cX11_hour 8 = .ok (.aload_n 0, 1) := by decide +kernel
theorem dX11_hour_9 : decode cX11_hour 9 = .ok (.getfield 97, 3) := by decide +kernel
theorem dX11_hour_12 : decode cX11_hour 12 = .ok (.bipush 25, 2) := by decide +kernel
theorem dX11_hour_14 : decode cX11_hour 14 = .ok (.iaload, 1) := by decide +kernel
theorem dX11_hour_15 : decode cX11_hour 15 = .ok (.sipush 999, 3) := by decide +kernel
theorem dX11_hour_18 : decode cX11_hour 18 = .ok (.if_icmp .ne 5, 3) := by decide +kernel
theorem dX11_hour_21 : decode cX11_hour 21 = .ok (.iconst (-1), 1) := by decide +kernel
theorem dX11_hour_22 : decode cX11_hour 22 = .ok (.ireturn, 1) := by decide +kernel
theorem dX11_hour_23 : decode cX11_hour 23 = .ok (.iload_n 1, 1) := by decide +kernel
theorem dX11_hour_24 : decode cX11_hour 24 = .ok (.aload_n 0, 1) := by decide +kernel
theorem dX11_hour_25 : decode cX11_hour 25 = .ok (.getfield 97, 3) := by decide +kernel
theorem dX11_hour_28 : decode cX11_hour 28 = .ok (.bipush 24, 2) := by decide +kernel
theorem dX11_hour_30 : decode cX11_hour 30 = .ok (.iaload, 1) := by decide +kernel
theorem dX11_hour_31 : decode cX11_hour 31 = .ok (.if_icmp .eq 24, 3) := by decide +kernel
theorem dX11_hour_34 : decode cX11_hour 34 = .ok (.aload_n 0, 1) := by decide +kernel
theorem dX11_hour_35 : decode cX11_hour 35 = .ok (.aload_n 0, 1) := by decide +kernel
theorem dX11_hour_36 : decode cX11_hour 36 = .ok (.getfield 97, 3) := by decide +kernel
theorem dX11_hour_39 : decode cX11_hour 39 = .ok (.bipush 24, 2) := by decide +kernel
theorem dX11_hour_41 : decode cX11_hour 41 = .ok (.iaload, 1) := by decide +kernel
theorem dX11_hour_42 : decode cX11_hour 42 = .ok (.iconst 0, 1) := by decide +kernel
theorem dX11_hour_43 : decode cX11_hour 43 = .ok (.invokevirtual 422, 3) := by decide +kernel
theorem dX11_hour_46 : decode cX11_hour 46 = .ok (.iload_n 1, 1) := by decide +kernel
theorem dX11_hour_47 : decode cX11_hour 47 = .ok (.invokestatic 264, 3) := by decide +kernel
theorem dX11_hour_50 : decode cX11_hour 50 = .ok (.ifCond .ne 5, 3) := by decide +kernel
theorem dX11_hour_53 : decode cX11_hour 53 = .ok (.iconst (-1), 1) := by decide +kernel
theorem dX11_hour_54 : decode cX11_hour 54 = .ok (.ireturn, 1) := by decide +kernel
theorem dX11_hour_55 : decode cX11_hour 55 = .ok (.aload_n 0, 1) := by decide +kernel
theorem dX11_hour_56 : decode cX11_hour 56 = .ok (.invokevirtual 436, 3) := by decide +kernel
theorem dX11_hour_59 : decode cX11_hour 59 = .ok (.aload_n 0, 1) := by decide +kernel
theorem dX11_hour_60 : decode cX11_hour 60 = .ok (.getfield 97, 3) := by decide +kernel
theorem dX11_hour_63 : decode cX11_hour 63 = .ok (.bipush 24, 2) := by decide +kernel
theorem dX11_hour_65 : decode cX11_hour 65 = .ok (.iload_n 1, 1) := by decide +kernel
theorem dX11_hour_66 : decode cX11_hour 66 = .ok (.iastore, 1) := by decide +kernel
theorem dX11_hour_67 : decode cX11_hour 67 = .ok (.aload_n 0, 1) := by decide +kernel
theorem dX11_hour_68 : decode cX11_hour 68 = .ok (.getfield 97, 3) := by decide +kernel
theorem dX11_hour_71 : decode cX11_hour 71 = .ok (.bipush 25, 2) := by decide +kernel
theorem dX11_hour_73 : decode cX11_hour 73 = .ok (.dup2, 1) := by decide +kernel
theorem dX11_hour_74 : decode cX11_hour 74 = .ok (.iaload, 1) := by decide +kernel
theorem dX11_hour_75 : decode cX11_hour 75 = .ok (.iconst 1, 1) := by decide +kernel
theorem dX11_hour_76 : decode cX11_hour 76 = .ok (.iadd, 1) := by decide +kernel
theorem dX11_hour_77 : decode cX11_hour 77 = .ok (.iastore, 1) := by decide +kernel
theorem dX11_hour_78 : decode cX11_hour 78 = .ok (.aload_n 0, 1) := by decide +kernel
theorem dX11_hour_79 : decode cX11_hour 79 = .ok (.getfield 97, 3) := by decide +kernel
theorem dX11_hour_82 : decode cX11_hour 82 = .ok (.bipush 26, 2) := by decide +kernel
theorem dX11_hour_84 : decode cX11_hour 84 = .ok (.iconst 0, 1) := by decide +kernel
theorem dX11_hour_85 : decode cX11_hour 85 = .ok (.iastore, 1) := by decide +kernel
theorem dX11_hour_86 : decode cX11_hour 86 = .ok (.iconst 0, 1) := by decide +kernel
theorem dX11_hour_87 : decode cX11_hour 87 = .ok (.istore_n 2, 1) := by decide +kernel
theorem dX11_hour_88 : decode cX11_hour 88 = .ok (.iconst 0, 1) := by decide +kernel
theorem dX11_hour_89 : decode cX11_hour 89 = .ok (.istore_n 3, 1) := by decide +kernel
theorem dX11_hour_90 : decode cX11_hour 90 = .ok (.iload_n 3, 1) := by decide +kernel
theorem dX11_hour_91 : decode cX11_hour 91 = .ok (.aload_n 0, 1) := by decide +kernel
theorem dX11_hour_92 : decode cX11_hour 92 = .ok (.invokevirtual 371, 3) := by decide +kernel
theorem dX11_hour_95 : decode cX11_hour 95 = .ok (.if_icmp .ge 89, 3) := by decide +kernel
theorem dX11_hour_98 : decode cX11_hour 98 = .ok (.aload_n 0, 1) := by decide +kernel
theorem dX11_hour_99 : decode cX11_hour 99 = .ok (.getfield 97, 3) := by decide +kernel
theorem dX11_hour_102 : decode cX11_hour 102 = .ok (.iconst 0, 1) := by decide +kernel
theorem dX11_hour_103 : decode cX11_hour 103 = .ok (.iload_n 3, 1) := by decide +kernel
theorem dX11_hour_104 : decode cX11_hour 104 = .ok (.iadd, 1) := by decide +kernel
theorem dX11_hour_105 : decode cX11_hour 105 = .ok (.iaload, 1) := by decide +kernel
theorem dX11_hour_106 : decode cX11_hour 106 = .ok (.iconst 1, 1) := by decide +kernel
theorem dX11_hour_107 : decode cX11_hour 107 = .ok (.if_icmp .eq 6, 3) := by decide +kernel
theorem dX11_hour_110 : decode cX11_hour 110 = .ok (.goto 68, 3) := by decide +kernel
theorem dX11_hour_113 : decode cX11_hour 113 = .ok (.aload_n 0, 1) := by decide +kernel
theorem dX11_hour_114 : decode cX11_hour 114 = .ok (.getfield 97, 3) := by decide +kernel
theorem dX11_hour_117 : decode cX11_hour 117 = .ok (.bipush 27, 2) := by decide +kernel
theorem dX11_hour_119 : decode cX11_hour 119 = .ok (.sipush 137, 3) := by decide +kernel
theorem dX11_hour_122 : decode cX11_hour 122 = .ok (.aload_n 0, 1) := by decide +kernel
theorem dX11_hour_123 : decode cX11_hour 123 = .ok (.getfield 97, 3) := by decide +kernel
theorem dX11_hour_126 : decode cX11_hour 126 = .ok (.bipush 27, 2) := by decide +kernel
theorem dX11_hour_128 : decode cX11_hour 128 = .ok (.iaload, 1) := by decide +kernel
theorem dX11_hour_129 : decode cX11_hour 129 = .ok (.imul, 1) := by decide +kernel
theorem dX11_hour_130 : decode cX11_hour 130 = .ok (.bipush 71, 2) := by decide +kernel
theorem dX11_hour_132 : decode cX11_hour 132 = .ok (.iadd, 1) := by decide +kernel
theorem dX11_hour_133 : decode cX11_hour 133 = .ok (.sipush 1000, 3) := by decide +kernel
theorem dX11_hour_136 : decode cX11_hour 136 = .ok (.irem, 1) := by decide +kernel
theorem dX11_hour_137 : decode cX11_hour 137 = .ok (.iastore, 1) := by decide +kernel
theorem dX11_hour_138 : decode cX11_hour 138 = .ok (.aload_n 0, 1) := by decide +kernel
theorem dX11_hour_139 : decode cX11_hour 139 = .ok (.getfield 97, 3) := by decide +kernel
theorem dX11_hour_142 : decode cX11_hour 142 = .ok (.bipush 27, 2) := by decide +kernel
theorem dX11_hour_144 : decode cX11_hour 144 = .ok (.iaload, 1) := by decide +kernel
theorem dX11_hour_145 : decode cX11_hour 145 = .ok (.bipush 100, 2) := by decide +kernel
theorem dX11_hour_147 : decode cX11_hour 147 = .ok (.irem, 1) := by decide +kernel
theorem dX11_hour_148 : decode cX11_hour 148 = .ok (.aload_n 0, 1) := by decide +kernel
theorem dX11_hour_149 : decode cX11_hour 149 = .ok (.getfield 39, 3) := by decide +kernel
theorem dX11_hour_152 : decode cX11_hour 152 = .ok (.aload_n 0, 1) := by decide +kernel
theorem dX11_hour_153 : decode cX11_hour 153 = .ok (.getfield 255, 3) := by decide +kernel
theorem dX11_hour_156 : decode cX11_hour 156 = .ok (.iaload, 1) := by decide +kernel
theorem dX11_hour_157 : decode cX11_hour 157 = .ok (.if_icmp .lt 6, 3) := by decide +kernel
theorem dX11_hour_160 : decode cX11_hour 160 = .ok (.goto 18, 3) := by decide +kernel
theorem dX11_hour_163 : decode cX11_hour 163 = .ok (.aload_n 0, 1) := by decide +kernel
theorem dX11_hour_164 : decode cX11_hour 164 = .ok (.getfield 97, 3) := by decide +kernel
theorem dX11_hour_167 : decode cX11_hour 167 = .ok (.iconst 0, 1) := by decide +kernel
theorem dX11_hour_168 : decode cX11_hour 168 = .ok (.iload_n 3, 1) := by decide +kernel
theorem dX11_hour_169 : decode cX11_hour 169 = .ok (.iadd, 1) := by decide +kernel
theorem dX11_hour_170 : decode cX11_hour 170 = .ok (.iconst 0, 1) := by decide +kernel
theorem dX11_hour_171 : decode cX11_hour 171 = .ok (.iastore, 1) := by decide +kernel
theorem dX11_hour_172 : decode cX11_hour 172 = .ok (.iload_n 2, 1) := by decide +kernel
theorem dX11_hour_173 : decode cX11_hour 173 = .ok (.iconst 1, 1) := by decide +kernel
theorem dX11_hour_174 : decode cX11_hour 174 = .ok (.iload_n 3, 1) := by decide +kernel
theorem dX11_hour_175 : decode cX11_hour 175 = .ok (.ishl, 1) := by decide +kernel
theorem dX11_hour_176 : decode cX11_hour 176 = .ok (.ior, 1) := by decide +kernel
theorem dX11_hour_177 : decode cX11_hour 177 = .ok (.istore_n 2, 1) := by decide +kernel
theorem dX11_hour_178 : decode cX11_hour 178 = .ok (.iinc 3 1, 3) := by decide +kernel
theorem dX11_hour_181 : decode cX11_hour 181 = .ok (.goto (-91), 3) := by decide +kernel
theorem dX11_hour_184 : decode cX11_hour 184 = .ok (.iload_n 2, 1) := by decide +kernel
theorem dX11_hour_185 : decode cX11_hour 185 = .ok (.ireturn, 1) := by decide +kernel
theorem wd_1816 : (Cond.code ⟨"WebCourtModel", "hour", "(I)I"⟩ prog_13_method_75_code (4 : Nat) (Option.some FieldType.int)) ∈ gtb := gtb_c8 27 (by decide +kernel) rfl
set_option maxHeartbeats 4000000 in
set_option maxRecDepth 100000 in
theorem T_X11_hour (l : Launch) (D : va_G) (cy : Nat → ClassId) (a : Nat → Nat) (u : St) (hA_3_0 : fA u 3 0 = 0) (hI_0_36 : fI u 0 36 = 0) (x1 : Int32)  : Mi l D cy (mW cy a) yX11_hour (.code yX11_hour cX11_hour 4 (some .int)) (rmo 2 43) [.ref (a 0), .int x1] u (fun (r : Int32) (u' : St) => (r = (-1)) ∧ (u' = u)) := by
  refine Mi.of (own := RX11) rfl (by decide) (Nat.le_of_ble_eq_true rfl) ?_
  intro p e s m below meth c A Q ls C hret hO hl
  obtain ⟨hx, hb, hml, hown, ht, hK, hA⟩ := id C
  have hl : lv_has ls 4 [(0, .ref (a 0)), (1, .int x1)] := hl
  refine lv_aload_n hx hb dX11_hour_0 rfl (lv_at hl 0 rfl) ?_
  refine lv_iload_n hx hb dX11_hour_1 rfl (lv_at hl 1 rfl) ?_
  refine cVi (w := mW cy a) (As := [.int x1]) (rest := []) C hO (T_X11_isKnot l D cy a _ (by exact hA_3_0) (by exact hI_0_36) (x1)) (cwV 1 ht (gV wd_1718 wd_1720 wd_77 wd_121 wd_1721) rfl rfl rfl hd_yX11_isKnot ⟨Nat.le_of_ble_eq_true rfl, Nat.le_of_ble_eq_true rfl⟩) 0 rfl mW_0 rfl rfl hl.1 (Nat.le_of_ble_eq_true rfl) dX11_hour_2 rfl ⟨Nat.zero_le _, Nat.zero_le _⟩ (fun r1 u2 H locs hp3 hO => ?_)
  obtain ⟨hr1, hu2⟩ := hp3
  subst hr1
  rw [hu2] at hO
  refine bt_eq (tgt := 21) (X := 0) hx hb dX11_hour_5 (by decide) rfl (by omega) ?_
  refine lv_iconst (v := (-1)) hx hb dX11_hour_21 (by decide) ?_
  refine hret _ _ _ _ _ _ dX11_hour_22 rfl ?_ hO
  exact ⟨rfl, rfl⟩
theorem dX11_hear_0 : decode cX11_hear 0 = .ok (.aload_n 0, 1) := by decide +kernel
theorem dX11_hear_1 : decode cX11_hear 1 = .ok (.iload_n 1, 1) := by decide +kernel
theorem dX11_hear_2 : decode cX11_hear 2 = .ok (.invokevirtual 413, 3) := by decide +kernel
theorem dX11_hear_5 : decode cX11_hear 5 = .ok (.ifCond .eq 29, 3) := by decide +kernel
theorem dX11_hear_8 : decode cX11_hear 8 = .ok (.aload_n 0, 1) := by decide +kernel
theorem dX11_hear_9 : decode cX11_hear 9 = .ok (.iload_n 1, 1) := by decide +kernel
theorem dX11_hear_10 : decode cX11_hear 10 = .ok (.invokevirtual 401, 3) := by decide +kernel
theorem dX11_hear_13 : decode cX11_hear 13 = .ok (.aload_n 0, 1) := by decide +kernel
theorem dX11_hear_14 : decode cX11_hear 14 = .ok (.getfield 97, 3) := by decide +kernel
theorem dX11_hear_17 : decode cX11_hear 17 = .ok (.bipush 24, 2) := by decide +kernel
theorem dX11_hear_19 : decode cX11_hear 19 = .ok (.iaload, 1) := by decide +kernel
theorem dX11_hear_20 : decode cX11_hear 20 = .ok (.if_icmp .ne 14, 3) := by decide +kernel
theorem dX11_hear_23 : decode cX11_hear 23 = .ok (.aload_n 0, 1) := by decide +kernel
theorem dX11_hear_24 : decode cX11_hear 24 = .ok (.getfield 97, 3) := by decide +kernel
theorem dX11_hear_27 : decode cX11_hear 27 = .ok (.bipush 26, 2) := by decide +kernel
theorem dX11_hear_29 : decode cX11_hear 29 = .ok (.iaload, 1) := by decide +kernel
theorem dX11_hear_30 : decode cX11_hear 30 = .ok (.iconst 1, 1) := by decide +kernel
theorem dX11_hear_31 : decode cX11_hear 31 = .ok (.if_icmp .ne 5, 3) := by decide +kernel
theorem dX11_hear_34 : decode cX11_hear 34 = .ok (.iconst (-1), 1) := by decide +kernel
theorem dX11_hear_35 : decode cX11_hear 35 = .ok (.ireturn, 1) := by decide +kernel
theorem dX11_hear_36 : decode cX11_hear 36 = .ok (.aload_n 0, 1) := by decide +kernel
theorem dX11_hear_37 : decode cX11_hear 37 = .ok (.invokevirtual 436, 3) := by decide +kernel
theorem dX11_hear_40 : decode cX11_hear 40 = .ok (.aload_n 0, 1) := by decide +kernel
theorem dX11_hear_41 : decode cX11_hear 41 = .ok (.iload_n 1, 1) := by decide +kernel
theorem dX11_hear_42 : decode cX11_hear 42 = .ok (.invokevirtual 416, 3) := by decide +kernel
theorem dX11_hear_45 : decode cX11_hear 45 = .ok (.invokestatic 439, 3) := by decide +kernel
theorem dX11_hear_48 : decode cX11_hear 48 = .ok (.istore_n 2, 1) := by decide +kernel
theorem dX11_hear_49 : decode cX11_hear 49 = .ok (.aload_n 0, 1) := by decide +kernel
theorem dX11_hear_50 : decode cX11_hear 50 = .ok (.getfield 97, 3) := by decide +kernel
theorem dX11_hear_53 : decode cX11_hear 53 = .ok (.iconst 0, 1) := by decide +kernel
theorem dX11_hear_54 : decode cX11_hear 54 = .ok (.iload_n 1, 1) := by decide +kernel
theorem dX11_hear_55 : decode cX11_hear 55 = .ok (.iadd, 1) := by decide +kernel
theorem dX11_hear_56 : decode cX11_hear 56 = .ok (.iload_n 2, 1) := by decide +kernel
theorem dX11_hear_57 : decode cX11_hear 57 = .ok (.iastore, 1) := by decide +kernel
theorem dX11_hear_58 : decode cX11_hear 58 = .ok (.aload_n 0, 1) := by decide +kernel
theorem dX11_hear_59 : decode cX11_hear 59 = .ok (.getfield 97, 3) := by decide +kernel
theorem dX11_hear_62 : decode cX11_hear 62 = .ok (.bipush 26, 2) := by decide +kernel
theorem dX11_hear_64 : decode cX11_hear 64 = .ok (.iconst 1, 1) := by decide +kernel
theorem dX11_hear_65 : decode cX11_hear 65 = .ok (.iastore, 1) := by decide +kernel
theorem dX11_hear_66 : decode cX11_hear 66 = .ok (.iload_n 2, 1) := by decide +kernel
theorem dX11_hear_67 : decode cX11_hear 67 = .ok (.iconst 1, 1) := by decide +kernel
theorem dX11_hear_68 : decode cX11_hear 68 = .ok (.if_icmp .ne 30, 3) := by decide +kernel
theorem dX11_hear_71 : decode cX11_hear 71 = .ok (.aload_n 0, 1) := by decide +kernel
theorem dX11_hear_72 : decode cX11_hear 72 = .ok (.getfield 97, 3) := by decide +kernel
theorem dX11_hear_75 : decode cX11_hear 75 = .ok (.bipush 12, 2) := by decide +kernel
theorem dX11_hear_77 : decode cX11_hear 77 = .ok (.iload_n 1, 1) := by decide +kernel
theorem dX11_hear_78 : decode cX11_hear 78 = .ok (.iadd, 1) := by decide +kernel
theorem dX11_hear_79 : decode cX11_hear 79 = .ok (.iaload, 1) := by decide +kernel
theorem dX11_hear_80 : decode cX11_hear 80 = .ok (.bipush 99, 2) := by decide +kernel
theorem dX11_hear_82 : decode cX11_hear 82 = .ok (.if_icmp .ge 16, 3) := by decide +kernel
theorem dX11_hear_85 : decode cX11_hear 85 = .ok (.aload_n 0, 1) := by decide +kernel
theorem dX11_hear_86 : decode cX11_hear 86 = .ok (.getfield 97, 3) := by decide +kernel
theorem dX11_hear_89 : decode cX11_hear 89 = .ok (.bipush 12, 2) := by decide +kernel
theorem dX11_hear_91 : decode cX11_hear 91 = .ok (.iload_n 1, 1) := by decide +kernel
theorem dX11_hear_92 : decode cX11_hear 92 = .ok (.iadd, 1) := by decide +kernel
theorem dX11_hear_93 : decode cX11_hear 93 = .ok (.dup2, 1) := by decide +kernel
theorem dX11_hear_94 : decode cX11_hear 94 = .ok (.iaload, 1) := by decide +kernel
theorem dX11_hear_95 : decode cX11_hear 95 = .ok (.iconst 1, 1) := by decide +kernel
theorem dX11_hear_96 : decode cX11_hear 96 = .ok (.iadd, 1) := by decide +kernel
theorem dX11_hear_97 : decode cX11_hear 97 = .ok (.iastore, 1) := by decide +kernel
theorem dX11_hear_98 : decode cX11_hear 98 = .ok (.iload_n 2, 1) := by decide +kernel
theorem dX11_hear_99 : decode cX11_hear 99 = .ok (.ifCond .ne 30, 3) := by decide +kernel
theorem dX11_hear_102 : decode cX11_hear 102 = .ok (.aload_n 0, 1) := by decide +kernel
theorem dX11_hear_103 : decode cX11_hear 103 = .ok (.getfield 97, 3) := by decide +kernel
theorem dX11_hear_106 : decode cX11_hear 106 = .ok (.bipush 18, 2) := by decide +kernel
theorem dX11_hear_108 : decode cX11_hear 108 = .ok (.iload_n 1, 1) := by decide +kernel
theorem dX11_hear_109 : decode cX11_hear 109 = .ok (.iadd, 1) := by decide +kernel
theorem dX11_hear_110 : decode cX11_hear 110 = .ok (.iaload, 1) := by decide +kernel
theorem dX11_hear_111 : decode cX11_hear 111 = .ok (.bipush 99, 2) := by decide +kernel
theorem dX11_hear_113 : decode cX11_hear 113 = .ok (.if_icmp .ge 16, 3) := by decide +kernel
theorem dX11_hear_116 : decode cX11_hear 116 = .ok (.aload_n 0, 1) := by decide +kernel
theorem dX11_hear_117 : decode cX11_hear 117 = .ok (.getfield 97, 3) := by decide +kernel
theorem dX11_hear_120 : decode cX11_hear 120 = .ok (.bipush 18, 2) := by decide +kernel
theorem dX11_hear_122 : decode cX11_hear 122 = .ok (.iload_n 1, 1) := by decide +kernel
theorem dX11_hear_123 : decode cX11_hear 123 = .ok (.iadd, 1) := by decide +kernel
theorem dX11_hear_124 : decode cX11_hear 124 = .ok (.dup2, 1) := by decide +kernel
theorem dX11_hear_125 : decode cX11_hear 125 = .ok (.iaload, 1) := by decide +kernel
theorem dX11_hear_126 : decode cX11_hear 126 = .ok (.iconst 1, 1) := by decide +kernel
theorem dX11_hear_127 : decode cX11_hear 127 = .ok (.iadd, 1) := by decide +kernel
theorem dX11_hear_128 : decode cX11_hear 128 = .ok (.iastore, 1) := by decide +kernel
theorem dX11_hear_129 : decode cX11_hear 129 = .ok (.iload_n 2, 1) := by decide +kernel
theorem dX11_hear_130 : decode cX11_hear 130 = .ok (.ireturn, 1) := by decide +kernel
theorem wd_1824 : (Cond.code ⟨"WebCourtModel", "hear", "(I)I"⟩ prog_13_method_76_code (3 : Nat) (Option.some FieldType.int)) ∈ gtb := gtb_c8 35 (by decide +kernel) rfl
set_option maxHeartbeats 4000000 in
set_option maxRecDepth 100000 in
theorem T_X11_hear (l : Launch) (D : va_G) (cy : Nat → ClassId) (a : Nat → Nat) (u : St) (hA_6_0 : fA u 6 0 = 0) (hI_0_36 : fI u 0 36 = 0) (x1 : Int32)  : Mi l D cy (mW cy a) yX11_hear (.code yX11_hear cX11_hear 3 (some .int)) (rmo 3 64) [.ref (a 0), .int x1] u (fun (r : Int32) (u' : St) => (r = (-1)) ∧ (u' = u)) := by
  refine Mi.of (own := RX11) rfl (by decide) (Nat.le_of_ble_eq_true rfl) ?_
  intro p e s m below meth c A Q ls C hret hO hl
  obtain ⟨hx, hb, hml, hown, ht, hK, hA⟩ := id C
  have hl : lv_has ls 3 [(0, .ref (a 0)), (1, .int x1)] := hl
  refine lv_aload_n hx hb dX11_hear_0 rfl (lv_at hl 0 rfl) ?_
  refine lv_iload_n hx hb dX11_hear_1 rfl (lv_at hl 1 rfl) ?_
  refine cVi (w := mW cy a) (As := [.int x1]) (rest := []) C hO (T_X11_isHeld l D cy a _ (by exact hA_6_0) (by exact hI_0_36) (x1)) (cwV 1 ht (gV wd_1797 wd_1799 wd_91 wd_121 wd_1800) rfl rfl rfl hd_yX11_isHeld ⟨Nat.le_of_ble_eq_true rfl, Nat.le_of_ble_eq_true rfl⟩) 0 rfl mW_0 rfl rfl hl.1 (Nat.le_of_ble_eq_true rfl) dX11_hear_2 rfl ⟨Nat.zero_le _, Nat.zero_le _⟩ (fun r1 u2 H locs hp3 hO => ?_)
  obtain ⟨hr1, hu2⟩ := hp3
  subst hr1
  rw [hu2] at hO
  refine bt_eq (tgt := 34) (X := 0) hx hb dX11_hear_5 (by decide) rfl (by omega) ?_
  refine lv_iconst (v := (-1)) hx hb dX11_hear_34 (by decide) ?_
  refine hret _ _ _ _ _ _ dX11_hear_35 rfl ?_ hO
  exact ⟨rfl, rfl⟩
theorem dX11_grab_0 : decode cX11_grab 0 = .ok (.aload_n 0, 1) := by decide +kernel
theorem dX11_grab_1 : decode cX11_grab 1 = .ok (.iload_n 1, 1) := by decide +kernel
theorem dX11_grab_2 : decode cX11_grab 2 = .ok (.invokevirtual 383, 3) := by decide +kernel
theorem dX11_grab_5 : decode cX11_grab 5 = .ok (.ifCond .eq 11, 3) := by decide +kernel
theorem dX11_grab_8 : decode cX11_grab 8 = .ok (.aload_n 0, 1) := by decide +kernel
theorem dX11_grab_9 : decode cX11_grab 9 = .ok (.iload_n 1, 1) := by decide +kernel
theorem dX11_grab_10 : decode cX11_grab 10 = .ok (.invokevirtual 413, 3) := by decide +kernel
theorem dX11_grab_13 : decode cX11_grab 13 = .ok (.ifCond .eq 5, 3) := by decide +kernel
theorem dX11_grab_16 : decode cX11_grab 16 = .ok (.iconst (-1), 1) := by decide +kernel
theorem dX11_grab_17 : decode cX11_grab 17 = .ok (.ireturn, 1) := by decide +kernel
theorem dX11_grab_18 : decode cX11_grab 18 = .ok (.aload_n 0, 1) := by decide +kernel
theorem dX11_grab_19 : decode cX11_grab 19 = .ok (.invokevirtual 436, 3) := by decide +kernel
theorem dX11_grab_22 : decode cX11_grab 22 = .ok (.aload_n 0, 1) := by decide +kernel
theorem dX11_grab_23 : decode cX11_grab 23 = .ok (.getfield 97, 3) := by decide +kernel
theorem dX11_grab_26 : decode cX11_grab 26 = .ok (.iconst 0, 1) := by decide +kernel
theorem dX11_grab_27 : decode cX11_grab 27 = .ok (.iload_n 1, 1) := by decide +kernel
theorem dX11_grab_28 : decode cX11_grab 28 = .ok (.iadd, 1) := by decide +kernel
theorem dX11_grab_29 : decode cX11_grab 29 = .ok (.iconst 0, 1) := by decide +kernel
theorem dX11_grab_30 : decode cX11_grab 30 = .ok (.iastore, 1) := by decide +kernel
theorem dX11_grab_31 : decode cX11_grab 31 = .ok (.aload_n 0, 1) := by decide +kernel
theorem dX11_grab_32 : decode cX11_grab 32 = .ok (.invokevirtual 442, 3) := by decide +kernel
theorem dX11_grab_35 : decode cX11_grab 35 = .ok (.invokestatic 316, 3) := by decide +kernel
theorem dX11_grab_38 : decode cX11_grab 38 = .ok (.ireturn, 1) := by decide +kernel
theorem wd_1839 : (Cond.code ⟨"WebCourtModel", "grab", "(I)I"⟩ prog_13_method_79_code (2 : Nat) (Option.some FieldType.int)) ∈ gtb := gtb_c8 50 (by decide +kernel) rfl
set_option maxHeartbeats 4000000 in
set_option maxRecDepth 100000 in
theorem T_X11_grab (l : Launch) (D : va_G) (cy : Nat → ClassId) (a : Nat → Nat) (u : St) (hA_6_0 : fA u 6 0 = 0) (hI_0_36 : fI u 0 36 = 0) (x1 : Int32)  : Mi l D cy (mW cy a) yX11_grab (.code yX11_grab cX11_grab 2 (some .int)) (rmo 2 43) [.ref (a 0), .int x1] u (fun (r : Int32) (u' : St) => (r = (-1)) ∧ (u' = u)) := by
  refine Mi.of (own := RX11) rfl (by decide) (Nat.le_of_ble_eq_true rfl) ?_
  intro p e s m below meth c A Q ls C hret hO hl
  obtain ⟨hx, hb, hml, hown, ht, hK, hA⟩ := id C
  have hl : lv_has ls 2 [(0, .ref (a 0)), (1, .int x1)] := hl
  refine lv_aload_n hx hb dX11_grab_0 rfl (lv_at hl 0 rfl) ?_
  refine lv_iload_n hx hb dX11_grab_1 rfl (lv_at hl 1 rfl) ?_
  refine cVi (w := mW cy a) (As := [.int x1]) (rest := []) C hO (T_X11_isCase l D cy a _ (by exact hA_6_0) (by exact hI_0_36) (x1)) (cwV 1 ht (gV wd_1753 wd_1755 wd_83 wd_121 wd_1756) rfl rfl rfl hd_yX11_isCase ⟨Nat.le_of_ble_eq_true rfl, Nat.le_of_ble_eq_true rfl⟩) 0 rfl mW_0 rfl rfl hl.1 (Nat.le_of_ble_eq_true rfl) dX11_grab_2 rfl ⟨Nat.zero_le _, Nat.zero_le _⟩ (fun r1 u2 H locs hp3 hO => ?_)
  obtain ⟨hr1, hu2⟩ := hp3
  subst hr1
  rw [hu2] at hO
  refine bt_eq (tgt := 16) (X := 0) hx hb dX11_grab_5 (by decide) rfl (by omega) ?_
  refine lv_iconst (v := (-1)) hx hb dX11_grab_16 (by decide) ?_
  refine hret _ _ _ _ _ _ dX11_grab_17 rfl ?_ hO
  exact ⟨rfl, rfl⟩
theorem dX11_spin_0 : decode cX11_spin 0 = .ok (.iload_n 1, 1) := by decide +kernel
theorem dX11_spin_1 : decode cX11_spin 1 = .ok (.iconst 0, 1) := by decide +kernel
theorem dX11_spin_2 : decode cX11_spin 2 = .ok (.aload_n 0, 1) := by decide +kernel
theorem dX11_spin_3 : decode cX11_spin 3 = .ok (.getfield 24, 3) := by decide +kernel
theorem dX11_spin_6 : decode cX11_spin 6 = .ok (.aload_n 0, 1) := by decide +kernel
theorem dX11_spin_7 : decode cX11_spin 7 = .ok (.getfield 255, 3) := by decide +kernel
theorem dX11_spin_10 : decode cX11_spin 10 = .ok (.iaload, 1) := by decide +kernel
theorem dX11_spin_11 : decode cX11_spin 11 = .ok (.iconst 1, 1) := by decide +kernel
theorem dX11_spin_12 : decode cX11_spin 12 = .ok (.isub, 1) := by decide +kernel
theorem dX11_spin_13 : decode cX11_spin 13 = .ok (.invokestatic 374, 3) := by decide +kernel
theorem dX11_spin_16 : decode cX11_spin 16 = .ok (.ifCond .ne 5, 3) := by decide +kernel
theorem dX11_spin_19 : decode cX11_spin 19 = .ok (.iconst (-1), 1) := by decide +kernel
theorem dX11_spin_20 : decode cX11_spin 20 = .ok (.ireturn, 1) := by decide +kernel
theorem dX11_spin_21 : decode cX11_spin 21 = .ok (.aload_n 0, 1) := by decide +kernel
theorem dX11_spin_22 : decode cX11_spin 22 = .ok (.invokevirtual 436, 3) := by decide +kernel
theorem dX11_spin_25 : decode cX11_spin 25 = .ok (.aload_n 0, 1) := by decide +kernel
theorem dX11_spin_26 : decode cX11_spin 26 = .ok (.getfield 97, 3) := by decide +kernel
theorem dX11_spin_29 : decode cX11_spin 29 = .ok (.bipush 28, 2) := by decide +kernel
theorem dX11_spin_31 : decode cX11_spin 31 = .ok (.dup2, 1) := by decide +kernel
theorem dX11_spin_32 : decode cX11_spin 32 = .ok (.iaload, 1) := by decide +kernel
theorem dX11_spin_33 : decode cX11_spin 33 = .ok (.iconst 1, 1) := by decide +kernel
theorem dX11_spin_34 : decode cX11_spin 34 = .ok (.iload_n 1, 1) := by decide +kernel
theorem dX11_spin_35 : decode cX11_spin 35 = .ok (.ishl, 1) := by decide +kernel
theorem dX11_spin_36 : decode cX11_spin 36 = .ok (.ixor, 1) := by decide +kernel
theorem dX11_spin_37 : decode cX11_spin 37 = .ok (.iastore, 1) := by decide +kernel
theorem dX11_spin_38 : decode cX11_spin 38 = .ok (.aload_n 0, 1) := by decide +kernel
theorem dX11_spin_39 : decode cX11_spin 39 = .ok (.getfield 97, 3) := by decide +kernel
theorem dX11_spin_42 : decode cX11_spin 42 = .ok (.bipush 28, 2) := by decide +kernel
theorem dX11_spin_44 : decode cX11_spin 44 = .ok (.iaload, 1) := by decide +kernel
theorem dX11_spin_45 : decode cX11_spin 45 = .ok (.iload_n 1, 1) := by decide +kernel
theorem dX11_spin_46 : decode cX11_spin 46 = .ok (.ishr, 1) := by decide +kernel
theorem dX11_spin_47 : decode cX11_spin 47 = .ok (.iconst 1, 1) := by decide +kernel
theorem dX11_spin_48 : decode cX11_spin 48 = .ok (.iand, 1) := by decide +kernel
theorem dX11_spin_49 : decode cX11_spin 49 = .ok (.ireturn, 1) := by decide +kernel
theorem wd_1847 : (Cond.code ⟨"WebCourtModel", "spin", "(I)I"⟩ prog_13_method_80_code (2 : Nat) (Option.some FieldType.int)) ∈ gtb := gtb_c8 58 (by decide +kernel) rfl
theorem wd_1368 : (Cond.fieldLink "WebCourtModel" (24 : Nat) "WebCourtModel" "lines" "[I") ∈ gtb := gtb_c6 59 (by decide +kernel) rfl
theorem gf_RX11_24 {p : Program} {l : Launch} {e : Env} {R : Room} {s : State} {m : MethodId} {args : Array Value} {below : List Frame} {meth : Method} {c : Code} {H : Heap} {locs : List Loc} {cells slots : Nat} {Q : State → Prop} {cc : ByteArray} {pc nL : Nat} {ls : Array Slot} {rest : List Value} {D : va_G} {cy : Nat → ClassId} {A : Nat → Prop} {ws : va_W} {b : Nat} {fs : List Value} {v : Value} (C : Cx p s m args c cc nL RX11 D cy A) (hO : Wo D A ws s.heap H locs) (q0 : Nat) (he : ws[q0]? = some (b, .inr (11, fs))) (hv : fs[12]? = some v) (hdg : decode cc pc = .ok (.getfield 24, 3)) (kk : W p l e R s m args below meth c H locs cells slots Q (F0 m (pc + 3) ls (v :: rest))) : W p l e R s m args below meth c H locs cells slots Q (F0 m pc ls (.ref b :: rest)) := gF (k := 12) C hO q0 he rfl inFX11 (by decide) wd_1368 rfl hv hdg kk
set_option maxHeartbeats 4000000 in
set_option maxRecDepth 100000 in
theorem T_X11_spin (l : Launch) (D : va_G) (cy : Nat → ClassId) (a : Nat → Nat) (u : St) (hA_4_0 : fA u 4 0 = 0) (hI_0_36 : fI u 0 36 = 0) (x1 : Int32)  : Mi l D cy (mW cy a) yX11_spin (.code yX11_spin cX11_spin 2 (some .int)) (rmo 1 22) [.ref (a 0), .int x1] u (fun (r : Int32) (u' : St) => (r = (-1)) ∧ (u' = u)) := by
  refine Mi.of (own := RX11) rfl (by decide) (Nat.le_of_ble_eq_true rfl) ?_
  intro p e s m below meth c A Q ls C hret hO hl
  obtain ⟨hx, hb, hml, hown, ht, hK, hA⟩ := id C
  have hl : lv_has ls 2 [(0, .ref (a 0)), (1, .int x1)] := hl
  refine lv_iload_n hx hb dX11_spin_0 rfl (lv_at hl 1 rfl) ?_
  refine lv_iconst (v := 0) hx hb dX11_spin_1 (by decide) ?_
  refine lv_aload_n hx hb dX11_spin_2 rfl (lv_at hl 0 rfl) ?_
  refine gf_RX11_24 (v := .ref (a 4)) C hO 0 mW_0 rfl dX11_spin_3 ?_
  refine lv_aload_n hx hb dX11_spin_6 rfl (lv_at hl 0 rfl) ?_
  refine gf_RX11_255 (v := .int 0) C hO 0 mW_0 (congrArg (fun z : Int32 => some (Value.int z)) hI_0_36) dX11_spin_7 ?_
  refine aI C hO 4 mW_4 (i_in (X := 0) rfl (by omega) (by omega)) dX11_spin_10 ?_
  refine tE (y := 0) hA_4_0 ?_
  refine lv_iconst (v := 1) hx hb dX11_spin_11 (by decide) ?_
  refine lv_isub hx hb dX11_spin_12 ?_
  refine tE (y := (-1)) rfl ?_
  refine cSi (w := mW cy a) (As := [.int x1, .int 0, .int (-1)]) (rest := []) C hO (T_X11_isIn l D cy a _ (x1) (0) ((-1))) (va_cwS 3 ht (gSS wd_1722 wd_1723 wd_121 wd_1724) rfl rfl rfl hd_yX11_isIn ⟨Nat.le_of_ble_eq_true rfl, Nat.le_of_ble_eq_true rfl⟩)  rfl hl.1 (Nat.le_of_ble_eq_true rfl) dX11_spin_13 rfl ⟨Nat.zero_le _, Nat.zero_le _⟩ (fun r1 u2 H locs hp3 hO => ?_)
  obtain ⟨hr1, hu2⟩ := hp3
  rw [hu2] at hO
  have zz4 : (0 : Int32).toInt = 0 := rfl
  have zz5 : ((-1) : Int32).toInt = (-1) := rfl
  rcases hr1 with ⟨hcr1, hvr1⟩ | ⟨hcr1, hvr1⟩
  · exfalso
    omega
  · subst hvr1
    refine bn_ne (X := 0) hx hb dX11_spin_16 rfl (by omega) ?_ (tgt := 21) (by decide)
    refine lv_iconst (v := (-1)) hx hb dX11_spin_19 (by decide) ?_
    refine hret _ _ _ _ _ _ dX11_spin_20 rfl ?_ hO
    exact ⟨rfl, rfl⟩
theorem dX11_lies_0 : decode cX11_lies 0 = .ok (.iload_n 1, 1) := by decide +kernel
theorem dX11_lies_1 : decode cX11_lies 1 = .ok (.iconst 0, 1) := by decide +kernel
theorem dX11_lies_2 : decode cX11_lies 2 = .ok (.aload_n 0, 1) := by decide +kernel
theorem dX11_lies_3 : decode cX11_lies 3 = .ok (.getfield 398, 3) := by decide +kernel
theorem dX11_lies_6 : decode cX11_lies 6 = .ok (.iconst 1, 1) := by decide +kernel
theorem dX11_lies_7 : decode cX11_lies 7 = .ok (.isub, 1) := by decide +kernel
theorem dX11_lies_8 : decode cX11_lies 8 = .ok (.invokestatic 374, 3) := by decide +kernel
theorem dX11_lies_11 : decode cX11_lies 11 = .ok (.ifCond .eq 12, 3) := by decide +kernel
theorem dX11_lies_14 : decode cX11_lies 14 = .ok (.aload_n 0, 1) := by decide +kernel
theorem dX11_lies_15 : decode cX11_lies 15 = .ok (.getfield 106, 3) := by decide +kernel
theorem dX11_lies_18 : decode cX11_lies 18 = .ok (.iload_n 1, 1) := by decide +kernel
theorem dX11_lies_19 : decode cX11_lies 19 = .ok (.iaload, 1) := by decide +kernel
theorem dX11_lies_20 : decode cX11_lies 20 = .ok (.goto 4, 3) := by decide +kernel
theorem dX11_lies_23 : decode cX11_lies 23 = .ok (.iconst (-1), 1) := by decide +kernel
theorem dX11_lies_24 : decode cX11_lies 24 = .ok (.ireturn, 1) := by decide +kernel
theorem wd_1863 : (Cond.code ⟨"WebCourtModel", "lies", "(I)I"⟩ prog_13_method_83_code (2 : Nat) (Option.some FieldType.int)) ∈ gtb := gtb_c8 74 (by decide +kernel) rfl
theorem wd_1406 : (Cond.fieldLink "WebCourtModel" (398 : Nat) "WebCourtModel" "laid" "I") ∈ gtb := gtb_c6 97 (by decide +kernel) rfl
theorem gf_RX11_398 {p : Program} {l : Launch} {e : Env} {R : Room} {s : State} {m : MethodId} {args : Array Value} {below : List Frame} {meth : Method} {c : Code} {H : Heap} {locs : List Loc} {cells slots : Nat} {Q : State → Prop} {cc : ByteArray} {pc nL : Nat} {ls : Array Slot} {rest : List Value} {D : va_G} {cy : Nat → ClassId} {A : Nat → Prop} {ws : va_W} {b : Nat} {fs : List Value} {v : Value} (C : Cx p s m args c cc nL RX11 D cy A) (hO : Wo D A ws s.heap H locs) (q0 : Nat) (he : ws[q0]? = some (b, .inr (11, fs))) (hv : fs[50]? = some v) (hdg : decode cc pc = .ok (.getfield 398, 3)) (kk : W p l e R s m args below meth c H locs cells slots Q (F0 m (pc + 3) ls (v :: rest))) : W p l e R s m args below meth c H locs cells slots Q (F0 m pc ls (.ref b :: rest)) := gF (k := 50) C hO q0 he rfl inFX11 (by decide) wd_1406 rfl hv hdg kk
set_option maxHeartbeats 4000000 in
set_option maxRecDepth 100000 in
theorem T_X11_lies (l : Launch) (D : va_G) (cy : Nat → ClassId) (a : Nat → Nat) (u : St) (hI_0_50 : fI u 0 50 = 0) (x1 : Int32)  : Mi l D cy (mW cy a) yX11_lies (.code yX11_lies cX11_lies 2 (some .int)) (rmo 1 22) [.ref (a 0), .int x1] u (fun (r : Int32) (u' : St) => (r = (-1)) ∧ (u' = u)) := by
  refine Mi.of (own := RX11) rfl (by decide) (Nat.le_of_ble_eq_true rfl) ?_
  intro p e s m below meth c A Q ls C hret hO hl
  obtain ⟨hx, hb, hml, hown, ht, hK, hA⟩ := id C
  have hl : lv_has ls 2 [(0, .ref (a 0)), (1, .int x1)] := hl
  refine lv_iload_n hx hb dX11_lies_0 rfl (lv_at hl 1 rfl) ?_
  refine lv_iconst (v := 0) hx hb dX11_lies_1 (by decide) ?_
  refine lv_aload_n hx hb dX11_lies_2 rfl (lv_at hl 0 rfl) ?_
  refine gf_RX11_398 (v := .int 0) C hO 0 mW_0 (congrArg (fun z : Int32 => some (Value.int z)) hI_0_50) dX11_lies_3 ?_
  refine lv_iconst (v := 1) hx hb dX11_lies_6 (by decide) ?_
  refine lv_isub hx hb dX11_lies_7 ?_
  refine tE (y := (-1)) rfl ?_
  refine cSi (w := mW cy a) (As := [.int x1, .int 0, .int (-1)]) (rest := []) C hO (T_X11_isIn l D cy a _ (x1) (0) ((-1))) (va_cwS 3 ht (gSS wd_1722 wd_1723 wd_121 wd_1724) rfl rfl rfl hd_yX11_isIn ⟨Nat.le_of_ble_eq_true rfl, Nat.le_of_ble_eq_true rfl⟩)  rfl hl.1 (Nat.le_of_ble_eq_true rfl) dX11_lies_8 rfl ⟨Nat.zero_le _, Nat.zero_le _⟩ (fun r1 u2 H locs hp3 hO => ?_)
  obtain ⟨hr1, hu2⟩ := hp3
  rw [hu2] at hO
  have zz4 : (0 : Int32).toInt = 0 := rfl
  have zz5 : ((-1) : Int32).toInt = (-1) := rfl
  rcases hr1 with ⟨hcr1, hvr1⟩ | ⟨hcr1, hvr1⟩
  · exfalso
    omega
  · subst hvr1
    refine bt_eq (tgt := 23) (X := 0) hx hb dX11_lies_11 (by decide) rfl (by omega) ?_
    refine lv_iconst (v := (-1)) hx hb dX11_lies_23 (by decide) ?_
    refine hret _ _ _ _ _ _ dX11_lies_24 rfl ?_ hO
    exact ⟨rfl, rfl⟩
theorem dX11_leave_0 : decode cX11_leave 0 = .ok (.aload_n 0, 1) := by decide +kernel
theorem dX11_leave_1 : decode cX11_leave 1 = .ok (.iload_n 1, 1) := by decide +kernel
theorem dX11_leave_2 : decode cX11_leave 2 = .ok (.invokevirtual 413, 3) := by decide +kernel
theorem dX11_leave_5 : decode cX11_leave 5 = .ok (.ifCond .ne 5, 3) := by decide +kernel
theorem dX11_leave_8 : decode cX11_leave 8 = .ok (.iconst (-1), 1) := by decide +kernel
theorem dX11_leave_9 : decode cX11_leave 9 = .ok (.ireturn, 1) := by decide +kernel
theorem dX11_leave_10 : decode cX11_leave 10 = .ok (.aload_n 0, 1) := by decide +kernel
theorem dX11_leave_11 : decode cX11_leave 11 = .ok (.getfield 97, 3) := by decide +kernel
theorem dX11_leave_14 : decode cX11_leave 14 = .ok (.bipush 25, 2) := by decide +kernel
theorem dX11_leave_16 : decode cX11_leave 16 = .ok (.iaload, 1) := by decide +kernel
theorem dX11_leave_17 : decode cX11_leave 17 = .ok (.istore_n 2, 1) := by decide +kernel
theorem dX11_leave_18 : decode cX11_leave 18 = .ok (.aload_n 0, 1) := by decide +kernel
theorem dX11_leave_19 : decode cX11_leave 19 = .ok (.getfield 97, 3) := by decide +kernel
theorem dX11_leave_22 : decode cX11_leave 22 = .ok (.bipush 18, 2) := by decide +kernel
theorem dX11_leave_24 : decode cX11_leave 24 = .ok (.iload_n 1, 1) := by decide +kernel
theorem dX11_leave_25 : decode cX11_leave 25 = .ok (.iadd, 1) := by decide +kernel
theorem dX11_leave_26 : decode cX11_leave 26 = .ok (.iaload, 1) := by decide +kernel
theorem dX11_leave_27 : decode cX11_leave 27 = .ok (.istore_n 3, 1) := by decide +kernel
theorem dX11_leave_28 : decode cX11_leave 28 = .ok (.iconst 0, 1) := by decide +kernel
theorem dX11_leave_29 : decode cX11_leave 29 = .ok (.istore 4, 2) := by decide +kernel
theorem dX11_leave_31 : decode cX11_leave 31 = .ok (.iconst 0, 1) := by decide +kernel
theorem dX11_leave_32 : decode cX11_leave 32 = .ok (.istore 5, 2) := by decide +kernel
theorem dX11_leave_34 : decode cX11_leave 34 = .ok (.iload 4, 2) := by decide +kernel
theorem dX11_leave_36 : decode cX11_leave 36 = .ok (.bipush 30, 2) := by decide +kernel
theorem dX11_leave_38 : decode cX11_leave 38 = .ok (.if_icmp .ge 62, 3) := by decide +kernel
theorem dX11_leave_41 : decode cX11_leave 41 = .ok (.iload 5, 2) := by decide +kernel
theorem dX11_leave_43 : decode cX11_leave 43 = .ok (.ifCond .ne 57, 3) := by decide +kernel
theorem dX11_leave_46 : decode cX11_leave 46 = .ok (.aload_n 0, 1) := by decide +kernel
theorem dX11_leave_47 : decode cX11_leave 47 = .ok (.iload_n 1, 1) := by decide +kernel
theorem dX11_leave_48 : decode cX11_leave 48 = .ok (.invokevirtual 416, 3) := by decide +kernel
theorem dX11_leave_51 : decode cX11_leave 51 = .ok (.invokestatic 439, 3) := by decide +kernel
theorem dX11_leave_54 : decode cX11_leave 54 = .ok (.istore 5, 2) := by decide +kernel
theorem dX11_leave_56 : decode cX11_leave 56 = .ok (.iinc 4 1, 3) := by decide +kernel
theorem dX11_leave_59 : decode cX11_leave 59 = .ok (.aload_n 0, 1) := by decide +kernel
theorem dX11_leave_60 : decode cX11_leave 60 = .ok (.getfield 97, 3) := by decide +kernel
theorem dX11_leave_63 : decode cX11_leave 63 = .ok (.bipush 25, 2) := by decide +kernel
theorem dX11_leave_65 : decode cX11_leave 65 = .ok (.dup2, 1) := by decide +kernel
theorem dX11_leave_66 : decode cX11_leave 66 = .ok (.iaload, 1) := by decide +kernel
theorem dX11_leave_67 : decode cX11_leave 67 = .ok (.iconst 1, 1) := by decide +kernel
theorem dX11_leave_68 : decode cX11_leave 68 = .ok (.iadd, 1) := by decide +kernel
theorem dX11_leave_69 : decode cX11_leave 69 = .ok (.iastore, 1) := by decide +kernel
theorem dX11_leave_70 : decode cX11_leave 70 = .ok (.aload_n 0, 1) := by decide +kernel
theorem dX11_leave_71 : decode cX11_leave 71 = .ok (.getfield 97, 3) := by decide +kernel
theorem dX11_leave_74 : decode cX11_leave 74 = .ok (.bipush 18, 2) := by decide +kernel
theorem dX11_leave_76 : decode cX11_leave 76 = .ok (.iload_n 1, 1) := by decide +kernel
theorem dX11_leave_77 : decode cX11_leave 77 = .ok (.iadd, 1) := by decide +kernel
theorem dX11_leave_78 : decode cX11_leave 78 = .ok (.iaload, 1) := by decide +kernel
theorem dX11_leave_79 : decode cX11_leave 79 = .ok (.bipush 99, 2) := by decide +kernel
theorem dX11_leave_81 : decode cX11_leave 81 = .ok (.if_icmp .ge (-47), 3) := by decide +kernel
theorem dX11_leave_84 : decode cX11_leave 84 = .ok (.aload_n 0, 1) := by decide +kernel
theorem dX11_leave_85 : decode cX11_leave 85 = .ok (.getfield 97, 3) := by decide +kernel
theorem dX11_leave_88 : decode cX11_leave 88 = .ok (.bipush 18, 2) := by decide +kernel
theorem dX11_leave_90 : decode cX11_leave 90 = .ok (.iload_n 1, 1) := by decide +kernel
theorem dX11_leave_91 : decode cX11_leave 91 = .ok (.iadd, 1) := by decide +kernel
theorem dX11_leave_92 : decode cX11_leave 92 = .ok (.dup2, 1) := by decide +kernel
theorem dX11_leave_93 : decode cX11_leave 93 = .ok (.iaload, 1) := by decide +kernel
theorem dX11_leave_94 : decode cX11_leave 94 = .ok (.iconst 1, 1) := by decide +kernel
theorem dX11_leave_95 : decode cX11_leave 95 = .ok (.iadd, 1) := by decide +kernel
theorem dX11_leave_96 : decode cX11_leave 96 = .ok (.iastore, 1) := by decide +kernel
theorem dX11_leave_97 : decode cX11_leave 97 = .ok (.goto (-63), 3) := by decide +kernel
theorem dX11_leave_100 : decode cX11_leave 100 = .ok (.aload_n 0, 1) := by decide +kernel
theorem dX11_leave_101 : decode cX11_leave 101 = .ok (.getfield 97, 3) := by decide +kernel
theorem dX11_leave_104 : decode cX11_leave 104 = .ok (.bipush 25, 2) := by decide +kernel
theorem dX11_leave_106 : decode cX11_leave 106 = .ok (.iload_n 2, 1) := by decide +kernel
theorem dX11_leave_107 : decode cX11_leave 107 = .ok (.iastore, 1) := by decide +kernel
theorem dX11_leave_108 : decode cX11_leave 108 = .ok (.aload_n 0, 1) := by decide +kernel
theorem dX11_leave_109 : decode cX11_leave 109 = .ok (.getfield 97, 3) := by decide +kernel
theorem dX11_leave_112 : decode cX11_leave 112 = .ok (.bipush 18, 2) := by decide +kernel
theorem dX11_leave_114 : decode cX11_leave 114 = .ok (.iload_n 1, 1) := by decide +kernel
theorem dX11_leave_115 : decode cX11_leave 115 = .ok (.iadd, 1) := by decide +kernel
theorem dX11_leave_116 : decode cX11_leave 116 = .ok (.iload_n 3, 1) := by decide +kernel
theorem dX11_leave_117 : decode cX11_leave 117 = .ok (.iastore, 1) := by decide +kernel
theorem dX11_leave_118 : decode cX11_leave 118 = .ok (.iload 5, 2) := by decide +kernel
theorem dX11_leave_120 : decode cX11_leave 120 = .ok (.iconst 1, 1) := by decide +kernel
theorem dX11_leave_121 : decode cX11_leave 121 = .ok (.if_icmp .ne 8, 3) := by decide +kernel
theorem dX11_leave_124 : decode cX11_leave 124 = .ok (.iload 4, 2) := by decide +kernel
theorem dX11_leave_126 : decode cX11_leave 126 = .ok (.goto 4, 3) := by decide +kernel
theorem dX11_leave_129 : decode cX11_leave 129 = .ok (.iconst (-1), 1) := by decide +kernel
theorem dX11_leave_130 : decode cX11_leave 130 = .ok (.ireturn, 1) := by decide +kernel
theorem wd_1911 : (Cond.code ⟨"WebCourtModel", "leave", "(I)I"⟩ prog_13_method_95_code (6 : Nat) (Option.some FieldType.int)) ∈ gtb := gtb_c8 122 (by decide +kernel) rfl
set_option maxHeartbeats 4000000 in
set_option maxRecDepth 100000 in
theorem T_X11_leave (l : Launch) (D : va_G) (cy : Nat → ClassId) (a : Nat → Nat) (u : St) (hA_6_0 : fA u 6 0 = 0) (hI_0_36 : fI u 0 36 = 0) (x1 : Int32)  : Mi l D cy (mW cy a) yX11_leave (.code yX11_leave cX11_leave 6 (some .int)) (rmo 3 64) [.ref (a 0), .int x1] u (fun (r : Int32) (u' : St) => (r = (-1)) ∧ (u' = u)) := by
  refine Mi.of (own := RX11) rfl (by decide) (Nat.le_of_ble_eq_true rfl) ?_
  intro p e s m below meth c A Q ls C hret hO hl
  obtain ⟨hx, hb, hml, hown, ht, hK, hA⟩ := id C
  have hl : lv_has ls 6 [(0, .ref (a 0)), (1, .int x1)] := hl
  refine lv_aload_n hx hb dX11_leave_0 rfl (lv_at hl 0 rfl) ?_
  refine lv_iload_n hx hb dX11_leave_1 rfl (lv_at hl 1 rfl) ?_
  refine cVi (w := mW cy a) (As := [.int x1]) (rest := []) C hO (T_X11_isHeld l D cy a _ (by exact hA_6_0) (by exact hI_0_36) (x1)) (cwV 1 ht (gV wd_1797 wd_1799 wd_91 wd_121 wd_1800) rfl rfl rfl hd_yX11_isHeld ⟨Nat.le_of_ble_eq_true rfl, Nat.le_of_ble_eq_true rfl⟩) 0 rfl mW_0 rfl rfl hl.1 (Nat.le_of_ble_eq_true rfl) dX11_leave_2 rfl ⟨Nat.zero_le _, Nat.zero_le _⟩ (fun r1 u2 H locs hp3 hO => ?_)
  obtain ⟨hr1, hu2⟩ := hp3
  subst hr1
  rw [hu2] at hO
  refine bn_ne (X := 0) hx hb dX11_leave_5 rfl (by omega) ?_ (tgt := 10) (by decide)
  refine lv_iconst (v := (-1)) hx hb dX11_leave_8 (by decide) ?_
  refine hret _ _ _ _ _ _ dX11_leave_9 rfl ?_ hO
  exact ⟨rfl, rfl⟩
theorem dX11_loophole_0 : decode cX11_loophole 0 = .ok (.aload_n 0, 1) := by decide +kernel
theorem dX11_loophole_1 : decode cX11_loophole 1 = .ok (.iload_n 1, 1) := by decide +kernel
theorem dX11_loophole_2 : decode cX11_loophole 2 = .ok (.invokevirtual 413, 3) := by decide +kernel
theorem dX11_loophole_5 : decode cX11_loophole 5 = .ok (.ifCond .ne 5, 3) := by decide +kernel
theorem dX11_loophole_8 : decode cX11_loophole 8 = .ok (.iconst (-1), 1) := by decide +kernel
theorem dX11_loophole_9 : decode cX11_loophole 9 = .ok (.ireturn, 1) := by decide +kernel
theorem dX11_loophole_10 : decode cX11_loophole 10 = .ok (.aload_n 0, 1) := by decide +kernel
theorem dX11_loophole_11 : decode cX11_loophole 11 = .ok (.getfield 97, 3) := by decide +kernel
theorem dX11_loophole_14 : decode cX11_loophole 14 = .ok (.bipush 25, 2) := by decide +kernel
theorem dX11_loophole_16 : decode cX11_loophole 16 = .ok (.iaload, 1) := by decide +kernel
theorem dX11_loophole_17 : decode cX11_loophole 17 = .ok (.istore_n 2, 1) := by decide +kernel
theorem dX11_loophole_18 : decode cX11_loophole 18 = .ok (.iconst (-1), 1) := by decide +kernel
theorem dX11_loophole_19 : decode cX11_loophole 19 = .ok (.istore_n 3, 1) := by decide +kernel
theorem dX11_loophole_20 : decode cX11_loophole 20 = .ok (.bipush 99, 2) := by decide +kernel
theorem dX11_loophole_22 : decode cX11_loophole 22 = .ok (.istore 4, 2) := by decide +kernel
theorem dX11_loophole_24 : decode cX11_loophole 24 = .ok (.iload 4, 2) := by decide +kernel
theorem dX11_loophole_26 : decode cX11_loophole 26 = .ok (.ifCond .lt 29, 3) := by decide +kernel
theorem dX11_loophole_29 : decode cX11_loophole 29 = .ok (.aload_n 0, 1) := by decide +kernel
theorem dX11_loophole_30 : decode cX11_loophole 30 = .ok (.getfield 97, 3) := by decide +kernel
theorem dX11_loophole_33 : decode cX11_loophole 33 = .ok (.bipush 25, 2) := by decide +kernel
theorem dX11_loophole_35 : decode cX11_loophole 35 = .ok (.iload 4, 2) := by decide +kernel
theorem dX11_loophole_37 : decode cX11_loophole 37 = .ok (.iastore, 1) := by decide +kernel
theorem dX11_loophole_38 : decode cX11_loophole 38 = .ok (.aload_n 0, 1) := by decide +kernel
theorem dX11_loophole_39 : decode cX11_loophole 39 = .ok (.iload_n 1, 1) := by decide +kernel
theorem dX11_loophole_40 : decode cX11_loophole 40 = .ok (.invokevirtual 416, 3) := by decide +kernel
theorem dX11_loophole_43 : decode cX11_loophole 43 = .ok (.ifCond .le 6, 3) := by decide +kernel
theorem dX11_loophole_46 : decode cX11_loophole 46 = .ok (.iload 4, 2) := by decide +kernel
theorem dX11_loophole_48 : decode cX11_loophole 48 = .ok (.istore_n 3, 1) := by decide +kernel
theorem dX11_loophole_49 : decode cX11_loophole 49 = .ok (.iinc 4 (-1), 3) := by decide +kernel
theorem dX11_loophole_52 : decode cX11_loophole 52 = .ok (.goto (-28), 3) := by decide +kernel
theorem dX11_loophole_55 : decode cX11_loophole 55 = .ok (.aload_n 0, 1) := by decide +kernel
theorem dX11_loophole_56 : decode cX11_loophole 56 = .ok (.getfield 97, 3) := by decide +kernel
theorem dX11_loophole_59 : decode cX11_loophole 59 = .ok (.bipush 25, 2) := by decide +kernel
theorem dX11_loophole_61 : decode cX11_loophole 61 = .ok (.iload_n 2, 1) := by decide +kernel
theorem dX11_loophole_62 : decode cX11_loophole 62 = .ok (.iastore, 1) := by decide +kernel
theorem dX11_loophole_63 : decode cX11_loophole 63 = .ok (.iload_n 3, 1) := by decide +kernel
theorem dX11_loophole_64 : decode cX11_loophole 64 = .ok (.ireturn, 1) := by decide +kernel
theorem wd_1915 : (Cond.code ⟨"WebCourtModel", "loophole", "(I)I"⟩ prog_13_method_96_code (5 : Nat) (Option.some FieldType.int)) ∈ gtb := gtb_c8 126 (by decide +kernel) rfl
set_option maxHeartbeats 4000000 in
set_option maxRecDepth 100000 in
theorem T_X11_loophole (l : Launch) (D : va_G) (cy : Nat → ClassId) (a : Nat → Nat) (u : St) (hA_6_0 : fA u 6 0 = 0) (hI_0_36 : fI u 0 36 = 0) (x1 : Int32)  : Mi l D cy (mW cy a) yX11_loophole (.code yX11_loophole cX11_loophole 5 (some .int)) (rmo 3 64) [.ref (a 0), .int x1] u (fun (r : Int32) (u' : St) => (r = (-1)) ∧ (u' = u)) := by
  refine Mi.of (own := RX11) rfl (by decide) (Nat.le_of_ble_eq_true rfl) ?_
  intro p e s m below meth c A Q ls C hret hO hl
  obtain ⟨hx, hb, hml, hown, ht, hK, hA⟩ := id C
  have hl : lv_has ls 5 [(0, .ref (a 0)), (1, .int x1)] := hl
  refine lv_aload_n hx hb dX11_loophole_0 rfl (lv_at hl 0 rfl) ?_
  refine lv_iload_n hx hb dX11_loophole_1 rfl (lv_at hl 1 rfl) ?_
  refine cVi (w := mW cy a) (As := [.int x1]) (rest := []) C hO (T_X11_isHeld l D cy a _ (by exact hA_6_0) (by exact hI_0_36) (x1)) (cwV 1 ht (gV wd_1797 wd_1799 wd_91 wd_121 wd_1800) rfl rfl rfl hd_yX11_isHeld ⟨Nat.le_of_ble_eq_true rfl, Nat.le_of_ble_eq_true rfl⟩) 0 rfl mW_0 rfl rfl hl.1 (Nat.le_of_ble_eq_true rfl) dX11_loophole_2 rfl ⟨Nat.zero_le _, Nat.zero_le _⟩ (fun r1 u2 H locs hp3 hO => ?_)
  obtain ⟨hr1, hu2⟩ := hp3
  subst hr1
  rw [hu2] at hO
  refine bn_ne (X := 0) hx hb dX11_loophole_5 rfl (by omega) ?_ (tgt := 10) (by decide)
  refine lv_iconst (v := (-1)) hx hb dX11_loophole_8 (by decide) ?_
  refine hret _ _ _ _ _ _ dX11_loophole_9 rfl ?_ hO
  exact ⟨rfl, rfl⟩
theorem dX11_way_0 : decode cX11_way 0 = .ok (.aload_n 0, 1) := by decide +kernel
theorem dX11_way_1 : decode cX11_way 1 = .ok (.iconst 0, 1) := by decide +kernel
theorem dX11_way_2 : decode cX11_way 2 = .ok (.putfield 398, 3) := by decide +kernel
theorem dX11_way_5 : decode cX11_way 5 = .ok (.aload_n 0, 1) := by decide +kernel
theorem dX11_way_6 : decode cX11_way 6 = .ok (.iload_n 1, 1) := by decide +kernel
theorem dX11_way_7 : decode cX11_way 7 = .ok (.invokevirtual 419, 3) := by decide +kernel
theorem dX11_way_10 : decode cX11_way 10 = .ok (.ifCond .ne 5, 3) := by decide +kernel
theorem dX11_way_13 : decode cX11_way 13 = .ok (.iconst (-1), 1) := by decide +kernel
theorem dX11_way_14 : decode cX11_way 14 = .ok (.ireturn, 1) := by decide +kernel
theorem dX11_way_15 : decode cX11_way 15 = .ok (.aload_n 0, 1) := by decide +kernel
theorem dX11_way_16 : decode cX11_way 16 = .ok (.invokevirtual 466, 3) := by decide +kernel
theorem dX11_way_19 : decode cX11_way 19 = .ok (.aload_n 0, 1) := by decide +kernel
theorem dX11_way_20 : decode cX11_way 20 = .ok (.getfield 97, 3) := by decide +kernel
theorem dX11_way_23 : decode cX11_way 23 = .ok (.bipush 24, 2) := by decide +kernel
theorem dX11_way_25 : decode cX11_way 25 = .ok (.iaload, 1) := by decide +kernel
theorem dX11_way_26 : decode cX11_way 26 = .ok (.istore_n 2, 1) := by decide +kernel
theorem dX11_way_27 : decode cX11_way 27 = .ok (.aload_n 0, 1) := by decide +kernel
theorem dX11_way_28 : decode cX11_way 28 = .ok (.getfield 112, 3) := by decide +kernel
theorem dX11_way_31 : decode cX11_way 31 = .ok (.bipush 8, 2) := by decide +kernel
theorem dX11_way_33 : decode cX11_way 33 = .ok (.iload_n 2, 1) := by decide +kernel
theorem dX11_way_34 : decode cX11_way 34 = .ok (.imul, 1) := by decide +kernel
theorem dX11_way_35 : decode cX11_way 35 = .ok (.iload_n 1, 1) := by decide +kernel
theorem dX11_way_36 : decode cX11_way 36 = .ok (.iadd, 1) := by decide +kernel
theorem dX11_way_37 : decode cX11_way 37 = .ok (.iaload, 1) := by decide +kernel
theorem dX11_way_38 : decode cX11_way 38 = .ok (.istore_n 3, 1) := by decide +kernel
theorem dX11_way_39 : decode cX11_way 39 = .ok (.iload_n 3, 1) := by decide +kernel
theorem dX11_way_40 : decode cX11_way 40 = .ok (.sipush 1000, 3) := by decide +kernel
theorem dX11_way_43 : decode cX11_way 43 = .ok (.if_icmp .ne 5, 3) := by decide +kernel
theorem dX11_way_46 : decode cX11_way 46 = .ok (.iconst (-1), 1) := by decide +kernel
theorem dX11_way_47 : decode cX11_way 47 = .ok (.ireturn, 1) := by decide +kernel
theorem dX11_way_48 : decode cX11_way 48 = .ok (.aload_n 0, 1) := by decide +kernel
theorem dX11_way_49 : decode cX11_way 49 = .ok (.getfield 106, 3) := by decide +kernel
theorem dX11_way_52 : decode cX11_way 52 = .ok (.iconst 0, 1) := by decide +kernel
theorem dX11_way_53 : decode cX11_way 53 = .ok (.iload_n 2, 1) := by decide +kernel
theorem dX11_way_54 : decode cX11_way 54 = .ok (.iastore, 1) := by decide +kernel
theorem dX11_way_55 : decode cX11_way 55 = .ok (.aload_n 0, 1) := by decide +kernel
theorem dX11_way_56 : decode cX11_way 56 = .ok (.iconst 1, 1) := by decide +kernel
theorem dX11_way_57 : decode cX11_way 57 = .ok (.putfield 398, 3) := by decide +kernel
theorem dX11_way_60 : decode cX11_way 60 = .ok (.iload_n 2, 1) := by decide +kernel
theorem dX11_way_61 : decode cX11_way 61 = .ok (.iload_n 1, 1) := by decide +kernel
theorem dX11_way_62 : decode cX11_way 62 = .ok (.if_icmp .eq 85, 3) := by decide +kernel
theorem dX11_way_65 : decode cX11_way 65 = .ok (.aload_n 0, 1) := by decide +kernel
theorem dX11_way_66 : decode cX11_way 66 = .ok (.iload_n 2, 1) := by decide +kernel
theorem dX11_way_67 : decode cX11_way 67 = .ok (.iconst 0, 1) := by decide +kernel
theorem dX11_way_68 : decode cX11_way 68 = .ok (.invokevirtual 422, 3) := by decide +kernel
theorem dX11_way_71 : decode cX11_way 71 = .ok (.istore 4, 2) := by decide +kernel
theorem dX11_way_73 : decode cX11_way 73 = .ok (.iconst 0, 1) := by decide +kernel
theorem dX11_way_74 : decode cX11_way 74 = .ok (.istore 5, 2) := by decide +kernel
theorem dX11_way_76 : decode cX11_way 76 = .ok (.iload 4, 2) := by decide +kernel
theorem dX11_way_78 : decode cX11_way 78 = .ok (.iload 5, 2) := by decide +kernel
theorem dX11_way_80 : decode cX11_way 80 = .ok (.invokestatic 264, 3) := by decide +kernel
theorem dX11_way_83 : decode cX11_way 83 = .ok (.ifCond .eq 31, 3) := by decide +kernel
theorem dX11_way_86 : decode cX11_way 86 = .ok (.aload_n 0, 1) := by decide +kernel
theorem dX11_way_87 : decode cX11_way 87 = .ok (.getfield 112, 3) := by decide +kernel
theorem dX11_way_90 : decode cX11_way 90 = .ok (.bipush 8, 2) := by decide +kernel
theorem dX11_way_92 : decode cX11_way 92 = .ok (.iload 5, 2) := by decide +kernel
theorem dX11_way_94 : decode cX11_way 94 = .ok (.imul, 1) := by decide +kernel
theorem dX11_way_95 : decode cX11_way 95 = .ok (.iload_n 1, 1) := by decide +kernel
theorem dX11_way_96 : decode cX11_way 96 = .ok (.iadd, 1) := by decide +kernel
theorem dX11_way_97 : decode cX11_way 97 = .ok (.iaload, 1) := by decide +kernel
theorem dX11_way_98 : decode cX11_way 98 = .ok (.aload_n 0, 1) := by decide +kernel
theorem dX11_way_99 : decode cX11_way 99 = .ok (.getfield 112, 3) := by decide +kernel
theorem dX11_way_102 : decode cX11_way 102 = .ok (.bipush 8, 2) := by decide +kernel
theorem dX11_way_104 : decode cX11_way 104 = .ok (.iload_n 2, 1) := by decide +kernel
theorem dX11_way_105 : decode cX11_way 105 = .ok (.imul, 1) := by decide +kernel
theorem dX11_way_106 : decode cX11_way 106 = .ok (.iload_n 1, 1) := by decide +kernel
theorem dX11_way_107 : decode cX11_way 107 = .ok (.iadd, 1) := by decide +kernel
theorem dX11_way_108 : decode cX11_way 108 = .ok (.iaload, 1) := by decide +kernel
theorem dX11_way_109 : decode cX11_way 109 = .ok (.iconst 1, 1) := by decide +kernel
theorem dX11_way_110 : decode cX11_way 110 = .ok (.isub, 1) := by decide +kernel
theorem dX11_way_111 : decode cX11_way 111 = .ok (.if_icmp .eq 9, 3) := by decide +kernel
theorem dX11_way_114 : decode cX11_way 114 = .ok (.iinc 5 1, 3) := by decide +kernel
theorem dX11_way_117 : decode cX11_way 117 = .ok (.goto (-41), 3) := by decide +kernel
theorem dX11_way_120 : decode cX11_way 120 = .ok (.iload 5, 2) := by decide +kernel
theorem dX11_way_122 : decode cX11_way 122 = .ok (.istore_n 2, 1) := by decide +kernel
theorem dX11_way_123 : decode cX11_way 123 = .ok (.aload_n 0, 1) := by decide +kernel
theorem dX11_way_124 : decode cX11_way 124 = .ok (.getfield 106, 3) := by decide +kernel
theorem dX11_way_127 : decode cX11_way 127 = .ok (.aload_n 0, 1) := by decide +kernel
theorem dX11_way_128 : decode cX11_way 128 = .ok (.getfield 398, 3) := by decide +kernel
theorem dX11_way_131 : decode cX11_way 131 = .ok (.iload 5, 2) := by decide +kernel
theorem dX11_way_133 : decode cX11_way 133 = .ok (.iastore, 1) := by decide +kernel
theorem dX11_way_134 : decode cX11_way 134 = .ok (.aload_n 0, 1) := by decide +kernel
theorem dX11_way_135 : decode cX11_way 135 = .ok (.dup, 1) := by decide +kernel
theorem dX11_way_136 : decode cX11_way 136 = .ok (.getfield 398, 3) := by decide +kernel
theorem dX11_way_139 : decode cX11_way 139 = .ok (.iconst 1, 1) := by decide +kernel
theorem dX11_way_140 : decode cX11_way 140 = .ok (.iadd, 1) := by decide +kernel
theorem dX11_way_141 : decode cX11_way 141 = .ok (.putfield 398, 3) := by decide +kernel
theorem dX11_way_144 : decode cX11_way 144 = .ok (.goto (-84), 3) := by decide +kernel
theorem dX11_way_147 : decode cX11_way 147 = .ok (.iload_n 3, 1) := by decide +kernel
theorem dX11_way_148 : decode cX11_way 148 = .ok (.ireturn, 1) := by decide +kernel
theorem wd_1935 : (Cond.code ⟨"WebCourtModel", "way", "(I)I"⟩ prog_13_method_102_code (6 : Nat) (Option.some FieldType.int)) ∈ gtb := gtb_c8 146 (by decide +kernel) rfl
theorem pf_RX11_398 {p : Program} {l : Launch} {e : Env} {R : Room} {s : State} {m : MethodId} {args : Array Value} {below : List Frame} {meth : Method} {c : Code} {H : Heap} {locs : List Loc} {cells slots : Nat} {Q : State → Prop} {cc : ByteArray} {pc nL : Nat} {ls : Array Slot} {rest : List Value} {D : va_G} {cy : Nat → ClassId} {A : Nat → Prop} {ws : va_W} {b : Nat} {fs : List Value} {v : Int32} {ws' : va_W} (C : Cx p s m args c cc nL RX11 D cy A) (hO : Wo D A ws s.heap H locs) (q0 : Nat) (he : ws[q0]? = some (b, .inr (11, fs))) (hlen : 50 < fs.length) (hw : ws.set q0 (b, .inr (11, fs.set 50 (.int v))) = ws') (hdg : decode cc pc = .ok (.putfield 398, 3)) (kk : ∀ (H : Heap) (locs : List Loc), Wo D A ws' s.heap H locs → W p l e R s m args below meth c H locs cells slots Q (F0 m (pc + 3) ls rest)) : W p l e R s m args below meth c H locs cells slots Q (F0 m pc ls (.int v :: .ref b :: rest)) := pF (k := 50) (ty := .int) C hO q0 he rfl inFX11 (by decide) wd_1406 rfl tyX11 tyX11_ok nmX11 rfl (by decide +kernel) rfl rfl hlen hw hdg kk
set_option maxHeartbeats 4000000 in
set_option maxRecDepth 100000 in
theorem T_X11_way (l : Launch) (D : va_G) (cy : Nat → ClassId) (a : Nat → Nat) (u : St) (hA_3_0 : fA u 3 0 = 0) (hI_0_36 : fI u 0 36 = 0) (x1 : Int32)  : Mi l D cy (mW cy a) yX11_way (.code yX11_way cX11_way 6 (some .int)) (rmo 2 43) [.ref (a 0), .int x1] u (fun (r : Int32) (u' : St) => (r = (-1)) ∧ (u' = (sI u 0 50 0))) := by
  refine Mi.of (own := RX11) rfl (by decide) (Nat.le_of_ble_eq_true rfl) ?_
  intro p e s m below meth c A Q ls C hret hO hl
  obtain ⟨hx, hb, hml, hown, ht, hK, hA⟩ := id C
  have hl : lv_has ls 6 [(0, .ref (a 0)), (1, .int x1)] := hl
  refine lv_aload_n hx hb dX11_way_0 rfl (lv_at hl 0 rfl) ?_
  refine lv_iconst (v := 0) hx hb dX11_way_1 (by decide) ?_
  refine pf_RX11_398 C hO 0 mW_0 (Nat.le_of_ble_eq_true rfl) mW_s0_50 dX11_way_2 (fun H locs hO => ?_)
  refine lv_aload_n hx hb dX11_way_5 rfl (lv_at hl 0 rfl) ?_
  refine lv_iload_n hx hb dX11_way_6 rfl (lv_at hl 1 rfl) ?_
  refine cVi (w := mW cy a) (As := [.int x1]) (rest := []) C hO (T_X11_isKnot l D cy a _ (by exact hA_3_0) (by exact hI_0_36) (x1)) (cwV 1 ht (gV wd_1718 wd_1720 wd_77 wd_121 wd_1721) rfl rfl rfl hd_yX11_isKnot ⟨Nat.le_of_ble_eq_true rfl, Nat.le_of_ble_eq_true rfl⟩) 0 rfl mW_0 rfl rfl hl.1 (Nat.le_of_ble_eq_true rfl) dX11_way_7 rfl ⟨Nat.zero_le _, Nat.zero_le _⟩ (fun r1 u2 H locs hp3 hO => ?_)
  obtain ⟨hr1, hu2⟩ := hp3
  subst hr1
  rw [hu2] at hO
  refine bn_ne (X := 0) hx hb dX11_way_10 rfl (by omega) ?_ (tgt := 15) (by decide)
  refine lv_iconst (v := (-1)) hx hb dX11_way_13 (by decide) ?_
  refine hret _ _ _ _ _ _ dX11_way_14 rfl ?_ hO
  exact ⟨rfl, rfl⟩
theorem dX11_undo_0 : decode cX11_undo 0 = .ok (.aload_n 0, 1) := by decide +kernel
theorem dX11_undo_1 : decode cX11_undo 1 = .ok (.getfield 389, 3) := by decide +kernel
theorem dX11_undo_4 : decode cX11_undo 4 = .ok (.ifCond .ne 5, 3) := by decide +kernel
theorem dX11_undo_7 : decode cX11_undo 7 = .ok (.iconst 0, 1) := by decide +kernel
theorem dX11_undo_8 : decode cX11_undo 8 = .ok (.ireturn, 1) := by decide +kernel
theorem dX11_undo_9 : decode cX11_undo 9 = .ok (.aload_n 0, 1) := by decide +kernel
theorem dX11_undo_10 : decode cX11_undo 10 = .ok (.dup, 1) := by decide +kernel
theorem dX11_undo_11 : decode cX11_undo 11 = .ok (.getfield 389, 3) := by decide +kernel
theorem dX11_undo_14 : decode cX11_undo 14 = .ok (.iconst 1, 1) := by decide +kernel
theorem dX11_undo_15 : decode cX11_undo 15 = .ok (.isub, 1) := by decide +kernel
theorem dX11_undo_16 : decode cX11_undo 16 = .ok (.putfield 389, 3) := by decide +kernel
theorem dX11_undo_19 : decode cX11_undo 19 = .ok (.aload_n 0, 1) := by decide +kernel
theorem dX11_undo_20 : decode cX11_undo 20 = .ok (.dup, 1) := by decide +kernel
theorem dX11_undo_21 : decode cX11_undo 21 = .ok (.getfield 392, 3) := by decide +kernel
theorem dX11_undo_24 : decode cX11_undo 24 = .ok (.iconst 1, 1) := by decide +kernel
theorem dX11_undo_25 : decode cX11_undo 25 = .ok (.iadd, 1) := by decide +kernel
theorem dX11_undo_26 : decode cX11_undo 26 = .ok (.putfield 392, 3) := by decide +kernel
theorem dX11_undo_29 : decode cX11_undo 29 = .ok (.aload_n 0, 1) := by decide +kernel
theorem dX11_undo_30 : decode cX11_undo 30 = .ok (.invokevirtual 445, 3) := by decide +kernel
theorem dX11_undo_33 : decode cX11_undo 33 = .ok (.iconst 1, 1) := by decide +kernel
theorem dX11_undo_34 : decode cX11_undo 34 = .ok (.ireturn, 1) := by decide +kernel
theorem wd_1851 : (Cond.code ⟨"WebCourtModel", "undo", "()Z"⟩ prog_13_method_81_code (1 : Nat) (Option.some FieldType.boolean)) ∈ gtb := gtb_c8 62 (by decide +kernel) rfl
theorem wd_1403 : (Cond.fieldLink "WebCourtModel" (389 : Nat) "WebCourtModel" "acts" "I") ∈ gtb := gtb_c6 94 (by decide +kernel) rfl
theorem gf_RX11_389 {p : Program} {l : Launch} {e : Env} {R : Room} {s : State} {m : MethodId} {args : Array Value} {below : List Frame} {meth : Method} {c : Code} {H : Heap} {locs : List Loc} {cells slots : Nat} {Q : State → Prop} {cc : ByteArray} {pc nL : Nat} {ls : Array Slot} {rest : List Value} {D : va_G} {cy : Nat → ClassId} {A : Nat → Prop} {ws : va_W} {b : Nat} {fs : List Value} {v : Value} (C : Cx p s m args c cc nL RX11 D cy A) (hO : Wo D A ws s.heap H locs) (q0 : Nat) (he : ws[q0]? = some (b, .inr (11, fs))) (hv : fs[47]? = some v) (hdg : decode cc pc = .ok (.getfield 389, 3)) (kk : W p l e R s m args below meth c H locs cells slots Q (F0 m (pc + 3) ls (v :: rest))) : W p l e R s m args below meth c H locs cells slots Q (F0 m pc ls (.ref b :: rest)) := gF (k := 47) C hO q0 he rfl inFX11 (by decide) wd_1403 rfl hv hdg kk
set_option maxHeartbeats 4000000 in
set_option maxRecDepth 100000 in
theorem T_X11_undo (l : Launch) (D : va_G) (cy : Nat → ClassId) (a : Nat → Nat) (u : St) (hI_0_47 : fI u 0 47 = 0)   : Mi l D cy (mW cy a) yX11_undo (.code yX11_undo cX11_undo 1 (some .boolean)) (rmo 0 0) [.ref (a 0)] u (fun (r : Int32) (u' : St) => (r = 0) ∧ (u' = u)) := by
  refine Mi.of (own := RX11) rfl (by decide) (Nat.le_of_ble_eq_true rfl) ?_
  intro p e s m below meth c A Q ls C hret hO hl
  obtain ⟨hx, hb, hml, hown, ht, hK, hA⟩ := id C
  have hl : lv_has ls 1 [(0, .ref (a 0))] := hl
  refine lv_aload_n hx hb dX11_undo_0 rfl (lv_at hl 0 rfl) ?_
  refine gf_RX11_389 (v := .int 0) C hO 0 mW_0 (congrArg (fun z : Int32 => some (Value.int z)) hI_0_47) dX11_undo_1 ?_
  refine bn_ne (X := 0) hx hb dX11_undo_4 rfl (by omega) ?_ (tgt := 9) (by decide)
  refine lv_iconst (v := 0) hx hb dX11_undo_7 (by decide) ?_
  refine hret _ _ _ _ _ _ dX11_undo_8 rfl ?_ hO
  exact ⟨rfl, rfl⟩
theorem dX11_redo_0 : decode cX11_redo 0 = .ok (.aload_n 0, 1) := by decide +kernel
theorem dX11_redo_1 : decode cX11_redo 1 = .ok (.getfield 392, 3) := by decide +kernel
theorem dX11_redo_4 : decode cX11_redo 4 = .ok (.ifCond .ne 5, 3) := by decide +kernel
theorem dX11_redo_7 : decode cX11_redo 7 = .ok (.iconst 0, 1) := by decide +kernel
theorem dX11_redo_8 : decode cX11_redo 8 = .ok (.ireturn, 1) := by decide +kernel
theorem dX11_redo_9 : decode cX11_redo 9 = .ok (.aload_n 0, 1) := by decide +kernel
theorem dX11_redo_10 : decode cX11_redo 10 = .ok (.invokevirtual 445, 3) := by decide +kernel
theorem dX11_redo_13 : decode cX11_redo 13 = .ok (.aload_n 0, 1) := by decide +kernel
theorem dX11_redo_14 : decode cX11_redo 14 = .ok (.dup, 1) := by decide +kernel
theorem dX11_redo_15 : decode cX11_redo 15 = .ok (.getfield 389, 3) := by decide +kernel
theorem dX11_redo_18 : decode cX11_redo 18 = .ok (.iconst 1, 1) := by decide +kernel
theorem dX11_redo_19 : decode cX11_redo 19 = .ok (.iadd, 1) := by decide +kernel
theorem dX11_redo_20 : decode cX11_redo 20 = .ok (.putfield 389, 3) := by decide +kernel
theorem dX11_redo_23 : decode cX11_redo 23 = .ok (.aload_n 0, 1) := by decide +kernel
theorem dX11_redo_24 : decode cX11_redo 24 = .ok (.dup, 1) := by decide +kernel
theorem dX11_redo_25 : decode cX11_redo 25 = .ok (.getfield 392, 3) := by decide +kernel
theorem dX11_redo_28 : decode cX11_redo 28 = .ok (.iconst 1, 1) := by decide +kernel
theorem dX11_redo_29 : decode cX11_redo 29 = .ok (.isub, 1) := by decide +kernel
theorem dX11_redo_30 : decode cX11_redo 30 = .ok (.putfield 392, 3) := by decide +kernel
theorem dX11_redo_33 : decode cX11_redo 33 = .ok (.iconst 1, 1) := by decide +kernel
theorem dX11_redo_34 : decode cX11_redo 34 = .ok (.ireturn, 1) := by decide +kernel
theorem wd_1859 : (Cond.code ⟨"WebCourtModel", "redo", "()Z"⟩ prog_13_method_82_code (1 : Nat) (Option.some FieldType.boolean)) ∈ gtb := gtb_c8 70 (by decide +kernel) rfl
theorem wd_1404 : (Cond.fieldLink "WebCourtModel" (392 : Nat) "WebCourtModel" "undone" "I") ∈ gtb := gtb_c6 95 (by decide +kernel) rfl
theorem gf_RX11_392 {p : Program} {l : Launch} {e : Env} {R : Room} {s : State} {m : MethodId} {args : Array Value} {below : List Frame} {meth : Method} {c : Code} {H : Heap} {locs : List Loc} {cells slots : Nat} {Q : State → Prop} {cc : ByteArray} {pc nL : Nat} {ls : Array Slot} {rest : List Value} {D : va_G} {cy : Nat → ClassId} {A : Nat → Prop} {ws : va_W} {b : Nat} {fs : List Value} {v : Value} (C : Cx p s m args c cc nL RX11 D cy A) (hO : Wo D A ws s.heap H locs) (q0 : Nat) (he : ws[q0]? = some (b, .inr (11, fs))) (hv : fs[48]? = some v) (hdg : decode cc pc = .ok (.getfield 392, 3)) (kk : W p l e R s m args below meth c H locs cells slots Q (F0 m (pc + 3) ls (v :: rest))) : W p l e R s m args below meth c H locs cells slots Q (F0 m pc ls (.ref b :: rest)) := gF (k := 48) C hO q0 he rfl inFX11 (by decide) wd_1404 rfl hv hdg kk
set_option maxHeartbeats 4000000 in
set_option maxRecDepth 100000 in
theorem T_X11_redo (l : Launch) (D : va_G) (cy : Nat → ClassId) (a : Nat → Nat) (u : St) (hI_0_48 : fI u 0 48 = 0)   : Mi l D cy (mW cy a) yX11_redo (.code yX11_redo cX11_redo 1 (some .boolean)) (rmo 0 0) [.ref (a 0)] u (fun (r : Int32) (u' : St) => (r = 0) ∧ (u' = u)) := by
  refine Mi.of (own := RX11) rfl (by decide) (Nat.le_of_ble_eq_true rfl) ?_
  intro p e s m below meth c A Q ls C hret hO hl
  obtain ⟨hx, hb, hml, hown, ht, hK, hA⟩ := id C
  have hl : lv_has ls 1 [(0, .ref (a 0))] := hl
  refine lv_aload_n hx hb dX11_redo_0 rfl (lv_at hl 0 rfl) ?_
  refine gf_RX11_392 (v := .int 0) C hO 0 mW_0 (congrArg (fun z : Int32 => some (Value.int z)) hI_0_48) dX11_redo_1 ?_
  refine bn_ne (X := 0) hx hb dX11_redo_4 rfl (by omega) ?_ (tgt := 9) (by decide)
  refine lv_iconst (v := 0) hx hb dX11_redo_7 (by decide) ?_
  refine hret _ _ _ _ _ _ dX11_redo_8 rfl ?_ hO
  exact ⟨rfl, rfl⟩
theorem dX11_hopeless_0 : decode cX11_hopeless 0 = .ok (.iconst 0, 1) := by decide +kernel
theorem dX11_hopeless_1 : decode cX11_hopeless 1 = .ok (.istore_n 1, 1) := by decide +kernel
theorem dX11_hopeless_2 : decode cX11_hopeless 2 = .ok (.iconst 0, 1) := by decide +kernel
theorem dX11_hopeless_3 : decode cX11_hopeless 3 = .ok (.istore_n 2, 1) := by decide +kernel
theorem dX11_hopeless_4 : decode cX11_hopeless 4 = .ok (.iload_n 2, 1) := by decide +kernel
theorem dX11_hopeless_5 : decode cX11_hopeless 5 = .ok (.aload_n 0, 1) := by decide +kernel
theorem dX11_hopeless_6 : decode cX11_hopeless 6 = .ok (.invokevirtual 371, 3) := by decide +kernel
theorem dX11_hopeless_9 : decode cX11_hopeless 9 = .ok (.if_icmp .ge 35, 3) := by decide +kernel
theorem dX11_hopeless_12 : decode cX11_hopeless 12 = .ok (.aload_n 0, 1) := by decide +kernel
theorem dX11_hopeless_13 : decode cX11_hopeless 13 = .ok (.iload_n 2, 1) := by decide +kernel
theorem dX11_hopeless_14 : decode cX11_hopeless 14 = .ok (.invokevirtual 413, 3) := by decide +kernel
theorem dX11_hopeless_17 : decode cX11_hopeless 17 = .ok (.ifCond .eq 21, 3) := by decide +kernel
theorem dX11_hopeless_20 : decode cX11_hopeless 20 = .ok (.aload_n 0, 1) := by decide +kernel
theorem dX11_hopeless_21 : decode cX11_hopeless 21 = .ok (.iload_n 2, 1) := by decide +kernel
theorem dX11_hopeless_22 : decode cX11_hopeless 22 = .ok (.aload_n 0, 1) := by decide +kernel
theorem dX11_hopeless_23 : decode cX11_hopeless 23 = .ok (.invokevirtual 448, 3) := by decide +kernel
theorem dX11_hopeless_26 : decode cX11_hopeless 26 = .ok (.invokevirtual 451, 3) := by decide +kernel
theorem dX11_hopeless_29 : decode cX11_hopeless 29 = .ok (.ifCond .ge 9, 3) := by decide +kernel
theorem dX11_hopeless_32 : decode cX11_hopeless 32 = .ok (.iload_n 1, 1) := by decide +kernel
theorem dX11_hopeless_33 : decode cX11_hopeless 33 = .ok (.iconst 1, 1) := by decide +kernel
theorem dX11_hopeless_34 : decode cX11_hopeless 34 = .ok (.iload_n 2, 1) := by decide +kernel
theorem dX11_hopeless_35 : decode cX11_hopeless 35 = .ok (.ishl, 1) := by decide +kernel
theorem dX11_hopeless_36 : decode cX11_hopeless 36 = .ok (.ior, 1) := by decide +kernel
theorem dX11_hopeless_37 : decode cX11_hopeless 37 = .ok (.istore_n 1, 1) := by decide +kernel
theorem dX11_hopeless_38 : decode cX11_hopeless 38 = .ok (.iinc 2 1, 3) := by decide +kernel
theorem dX11_hopeless_41 : decode cX11_hopeless 41 = .ok (.goto (-37), 3) := by decide +kernel
theorem dX11_hopeless_44 : decode cX11_hopeless 44 = .ok (.iload_n 1, 1) := by decide +kernel
theorem dX11_hopeless_45 : decode cX11_hopeless 45 = .ok (.ireturn, 1) := by decide +kernel
theorem wd_1887 : (Cond.code ⟨"WebCourtModel", "hopeless", "()I"⟩ prog_13_method_89_code (3 : Nat) (Option.some FieldType.int)) ∈ gtb := gtb_c8 98 (by decide +kernel) rfl
set_option maxHeartbeats 4000000 in
set_option maxRecDepth 100000 in
theorem T_X11_hopeless (l : Launch) (D : va_G) (cy : Nat → ClassId) (a : Nat → Nat) (u : St) (hA_6_0 : fA u 6 0 = 0) (hI_0_36 : fI u 0 36 = 0)   : Mi l D cy (mW cy a) yX11_hopeless (.code yX11_hopeless cX11_hopeless 3 (some .int)) (rmo 1 20) [.ref (a 0)] u (fun (r : Int32) (u' : St) => (r = 0) ∧ (u' = u)) := by
  refine Mi.of (own := RX11) rfl (by decide) (Nat.le_of_ble_eq_true rfl) ?_
  intro p e s m below meth c A Q ls C hret hO hl
  obtain ⟨hx, hb, hml, hown, ht, hK, hA⟩ := id C
  have hl : lv_has ls 3 [(0, .ref (a 0))] := hl
  refine lv_iconst (v := 0) hx hb dX11_hopeless_0 (by decide) ?_
  refine lv_istore_n (lv' := [(1, .int 0), (0, .ref (a 0))]) hx hb dX11_hopeless_1 rfl hl (by decide) rfl (fun ls hl => ?_)
  refine lv_iconst (v := 0) hx hb dX11_hopeless_2 (by decide) ?_
  refine lv_istore_n (lv' := [(2, .int 0), (1, .int 0), (0, .ref (a 0))]) hx hb dX11_hopeless_3 rfl hl (by decide) rfl (fun ls hl => ?_)
  refine lv_iload_n hx hb dX11_hopeless_4 rfl (lv_at hl 0 rfl) ?_
  refine lv_aload_n hx hb dX11_hopeless_5 rfl (lv_at hl 2 rfl) ?_
  refine cVi (w := mW cy a) (As := []) (rest := [.int 0]) C hO (T_X11_many l D cy a _ (by exact hA_6_0) (by exact hI_0_36)) (cwV 0 ht (gV wd_1348 wd_1350 wd_46 wd_121 wd_1351) rfl rfl rfl hd_yX11_many ⟨Nat.le_of_ble_eq_true rfl, Nat.le_of_ble_eq_true rfl⟩) 0 rfl mW_0 rfl rfl hl.1 (Nat.le_of_ble_eq_true rfl) dX11_hopeless_6 rfl ⟨Nat.zero_le _, Nat.zero_le _⟩ (fun r1 u2 H locs hp3 hO => ?_)
  obtain ⟨hr1, hu2⟩ := hp3
  subst hr1
  rw [hu2] at hO
  refine ct_ge (tgt := 44) (X := 0) (Y := 0) hx hb dX11_hopeless_9 (by decide) rfl rfl (by omega) ?_
  refine lv_iload_n hx hb dX11_hopeless_44 rfl (lv_at hl 1 rfl) ?_
  refine hret _ _ _ _ _ _ dX11_hopeless_45 rfl ?_ hO
  exact ⟨rfl, rfl⟩
theorem dX11_forbid_0 : decode cX11_forbid 0 = .ok (.iload_n 1, 1) := by decide +kernel
theorem dX11_forbid_1 : decode cX11_forbid 1 = .ok (.iconst 0, 1) := by decide +kernel
theorem dX11_forbid_2 : decode cX11_forbid 2 = .ok (.iconst 1, 1) := by decide +kernel
theorem dX11_forbid_3 : decode cX11_forbid 3 = .ok (.invokestatic 374, 3) := by decide +kernel
theorem dX11_forbid_6 : decode cX11_forbid 6 = .ok (.ifCond .ne 5, 3) := by decide +kernel
theorem dX11_forbid_9 : decode cX11_forbid 9 = .ok (.iconst (-1), 1) := by decide +kernel
theorem dX11_forbid_10 : decode cX11_forbid 10 = .ok (.ireturn, 1) := by decide +kernel
theorem dX11_forbid_11 : decode cX11_forbid 11 = .ok (.iconst (-1), 1) := by decide +kernel
theorem dX11_forbid_12 : decode cX11_forbid 12 = .ok (.istore_n 2, 1) := by decide +kernel
theorem dX11_forbid_13 : decode cX11_forbid 13 = .ok (.sipush 1000, 3) := by decide +kernel
theorem dX11_forbid_16 : decode cX11_forbid 16 = .ok (.istore_n 3, 1) := by decide +kernel
theorem dX11_forbid_17 : decode cX11_forbid 17 = .ok (.iconst 0, 1) := by decide +kernel
theorem dX11_forbid_18 : decode cX11_forbid 18 = .ok (.istore 4, 2) := by decide +kernel
theorem dX11_forbid_20 : decode cX11_forbid 20 = .ok (.iload 4, 2) := by decide +kernel
theorem dX11_forbid_22 : decode cX11_forbid 22 = .ok (.aload_n 0, 1) := by decide +kernel
theorem dX11_forbid_23 : decode cX11_forbid 23 = .ok (.invokevirtual 377, 3) := by decide +kernel
theorem dX11_forbid_26 : decode cX11_forbid 26 = .ok (.if_icmp .ge 90, 3) := by decide +kernel
theorem dX11_forbid_29 : decode cX11_forbid 29 = .ok (.iconst 0, 1) := by decide +kernel
theorem dX11_forbid_30 : decode cX11_forbid 30 = .ok (.istore 5, 2) := by decide +kernel
theorem dX11_forbid_32 : decode cX11_forbid 32 = .ok (.iconst 0, 1) := by decide +kernel
theorem dX11_forbid_33 : decode cX11_forbid 33 = .ok (.istore 6, 2) := by decide +kernel
theorem dX11_forbid_35 : decode cX11_forbid 35 = .ok (.iload 6, 2) := by decide +kernel
theorem dX11_forbid_37 : decode cX11_forbid 37 = .ok (.aload_n 0, 1) := by decide +kernel
theorem dX11_forbid_38 : decode cX11_forbid 38 = .ok (.invokevirtual 371, 3) := by decide +kernel
theorem dX11_forbid_41 : decode cX11_forbid 41 = .ok (.if_icmp .ge 54, 3) := by decide +kernel
theorem dX11_forbid_44 : decode cX11_forbid 44 = .ok (.iload 5, 2) := by decide +kernel
theorem dX11_forbid_46 : decode cX11_forbid 46 = .ok (.aload_n 0, 1) := by decide +kernel
theorem dX11_forbid_47 : decode cX11_forbid 47 = .ok (.iload 6, 2) := by decide +kernel
theorem dX11_forbid_49 : decode cX11_forbid 49 = .ok (.invokevirtual 413, 3) := by decide +kernel
theorem dX11_forbid_52 : decode cX11_forbid 52 = .ok (.ifCond .eq 33, 3) := by decide +kernel
theorem dX11_forbid_55 : decode cX11_forbid 55 = .ok (.aload_n 0, 1) := by decide +kernel
theorem dX11_forbid_56 : decode cX11_forbid 56 = .ok (.iload 6, 2) := by decide +kernel
theorem dX11_forbid_58 : decode cX11_forbid 58 = .ok (.aload_n 0, 1) := by decide +kernel
theorem dX11_forbid_59 : decode cX11_forbid 59 = .ok (.getfield 97, 3) := by decide +kernel
theorem dX11_forbid_62 : decode cX11_forbid 62 = .ok (.bipush 6, 2) := by decide +kernel
theorem dX11_forbid_64 : decode cX11_forbid 64 = .ok (.iload 6, 2) := by decide +kernel
theorem dX11_forbid_66 : decode cX11_forbid 66 = .ok (.iadd, 1) := by decide +kernel
theorem dX11_forbid_67 : decode cX11_forbid 67 = .ok (.iaload, 1) := by decide +kernel
theorem dX11_forbid_68 : decode cX11_forbid 68 = .ok (.iconst 1, 1) := by decide +kernel
theorem dX11_forbid_69 : decode cX11_forbid 69 = .ok (.iload 4, 2) := by decide +kernel
theorem dX11_forbid_71 : decode cX11_forbid 71 = .ok (.ishl, 1) := by decide +kernel
theorem dX11_forbid_72 : decode cX11_forbid 72 = .ok (.iconst (-1), 1) := by decide +kernel
theorem dX11_forbid_73 : decode cX11_forbid 73 = .ok (.ixor, 1) := by decide +kernel
theorem dX11_forbid_74 : decode cX11_forbid 74 = .ok (.iand, 1) := by decide +kernel
theorem dX11_forbid_75 : decode cX11_forbid 75 = .ok (.invokevirtual 410, 3) := by decide +kernel
theorem dX11_forbid_78 : decode cX11_forbid 78 = .ok (.ifCond .le 7, 3) := by decide +kernel
theorem dX11_forbid_81 : decode cX11_forbid 81 = .ok (.iconst 1, 1) := by decide +kernel
theorem dX11_forbid_82 : decode cX11_forbid 82 = .ok (.goto 4, 3) := by decide +kernel
theorem dX11_forbid_85 : decode cX11_forbid 85 = .ok (.iconst 0, 1) := by decide +kernel
theorem dX11_forbid_86 : decode cX11_forbid 86 = .ok (.iadd, 1) := by decide +kernel
theorem dX11_forbid_87 : decode cX11_forbid 87 = .ok (.istore 5, 2) := by decide +kernel
theorem dX11_forbid_89 : decode cX11_forbid 89 = .ok (.iinc 6 1, 3) := by decide +kernel
theorem dX11_forbid_92 : decode cX11_forbid 92 = .ok (.goto (-57), 3) := by decide +kernel
theorem dX11_forbid_95 : decode cX11_forbid 95 = .ok (.iload 5, 2) := by decide +kernel
theorem dX11_forbid_97 : decode cX11_forbid 97 = .ok (.iload_n 3, 1) := by decide +kernel
theorem dX11_forbid_98 : decode cX11_forbid 98 = .ok (.if_icmp .lt 6, 3) := by decide +kernel
theorem dX11_forbid_101 : decode cX11_forbid 101 = .ok (.goto 9, 3) := by decide +kernel
theorem dX11_forbid_104 : decode cX11_forbid 104 = .ok (.iload 4, 2) := by decide +kernel
theorem dX11_forbid_106 : decode cX11_forbid 106 = .ok (.istore_n 2, 1) := by decide +kernel
theorem dX11_forbid_107 : decode cX11_forbid 107 = .ok (.iload 5, 2) := by decide +kernel
theorem dX11_forbid_109 : decode cX11_forbid 109 = .ok (.istore_n 3, 1) := by decide +kernel
theorem dX11_forbid_110 : decode cX11_forbid 110 = .ok (.iinc 4 1, 3) := by decide +kernel
theorem dX11_forbid_113 : decode cX11_forbid 113 = .ok (.goto (-93), 3) := by decide +kernel
theorem dX11_forbid_116 : decode cX11_forbid 116 = .ok (.iload_n 2, 1) := by decide +kernel
theorem dX11_forbid_117 : decode cX11_forbid 117 = .ok (.ifCond .ge 7, 3) := by decide +kernel
theorem dX11_forbid_120 : decode cX11_forbid 120 = .ok (.iconst (-1), 1) := by decide +kernel
theorem dX11_forbid_121 : decode cX11_forbid 121 = .ok (.goto 12, 3) := by decide +kernel
theorem dX11_forbid_124 : decode cX11_forbid 124 = .ok (.iload_n 1, 1) := by decide +kernel
theorem dX11_forbid_125 : decode cX11_forbid 125 = .ok (.ifCond .ne 7, 3) := by decide +kernel
theorem dX11_forbid_128 : decode cX11_forbid 128 = .ok (.iload_n 2, 1) := by decide +kernel
theorem dX11_forbid_129 : decode cX11_forbid 129 = .ok (.goto 4, 3) := by decide +kernel
theorem dX11_forbid_132 : decode cX11_forbid 132 = .ok (.iload_n 3, 1) := by decide +kernel
theorem dX11_forbid_133 : decode cX11_forbid 133 = .ok (.ireturn, 1) := by decide +kernel
theorem wd_1895 : (Cond.code ⟨"WebCourtModel", "forbid", "(I)I"⟩ prog_13_method_91_code (7 : Nat) (Option.some FieldType.int)) ∈ gtb := gtb_c8 106 (by decide +kernel) rfl
set_option maxHeartbeats 4000000 in
set_option maxRecDepth 100000 in
theorem T_X11_forbid (l : Launch) (D : va_G) (cy : Nat → ClassId) (a : Nat → Nat) (u : St) (hA_5_0 : fA u 5 0 = 0) (hI_0_36 : fI u 0 36 = 0) (x1 : Int32)  : Mi l D cy (mW cy a) yX11_forbid (.code yX11_forbid cX11_forbid 7 (some .int)) (rmo 1 22) [.ref (a 0), .int x1] u (fun (r : Int32) (u' : St) => (r = (-1)) ∧ (u' = u)) := by
  refine Mi.of (own := RX11) rfl (by decide) (Nat.le_of_ble_eq_true rfl) ?_
  intro p e s m below meth c A Q ls C hret hO hl
  obtain ⟨hx, hb, hml, hown, ht, hK, hA⟩ := id C
  have hl : lv_has ls 7 [(0, .ref (a 0)), (1, .int x1)] := hl
  refine lv_iload_n hx hb dX11_forbid_0 rfl (lv_at hl 1 rfl) ?_
  refine lv_iconst (v := 0) hx hb dX11_forbid_1 (by decide) ?_
  refine lv_iconst (v := 1) hx hb dX11_forbid_2 (by decide) ?_
  refine cSi (w := mW cy a) (As := [.int x1, .int 0, .int 1]) (rest := []) C hO (T_X11_isIn l D cy a _ (x1) (0) (1)) (va_cwS 3 ht (gSS wd_1722 wd_1723 wd_121 wd_1724) rfl rfl rfl hd_yX11_isIn ⟨Nat.le_of_ble_eq_true rfl, Nat.le_of_ble_eq_true rfl⟩)  rfl hl.1 (Nat.le_of_ble_eq_true rfl) dX11_forbid_3 rfl ⟨Nat.zero_le _, Nat.zero_le _⟩ (fun r1 u2 H locs hp3 hO => ?_)
  obtain ⟨hr1, hu2⟩ := hp3
  rw [hu2] at hO
  have zz4 : (0 : Int32).toInt = 0 := rfl
  have zz5 : (1 : Int32).toInt = 1 := rfl
  rcases hr1 with ⟨hcr1, hvr1⟩ | ⟨hcr1, hvr1⟩
  · subst hvr1
    refine bt_ne (tgt := 11) (X := 1) hx hb dX11_forbid_6 (by decide) rfl (by omega) ?_
    refine lv_iconst (v := (-1)) hx hb dX11_forbid_11 (by decide) ?_
    refine lv_istore_n (lv' := [(2, .int (-1)), (0, .ref (a 0)), (1, .int x1)]) hx hb dX11_forbid_12 rfl hl (by decide) rfl (fun ls hl => ?_)
    refine lv_sipush (v := 1000) hx hb dX11_forbid_13 (by decide) ?_
    refine lv_istore_n (lv' := [(3, .int 1000), (2, .int (-1)), (0, .ref (a 0)), (1, .int x1)]) hx hb dX11_forbid_16 rfl hl (by decide) rfl (fun ls hl => ?_)
    refine lv_iconst (v := 0) hx hb dX11_forbid_17 (by decide) ?_
    refine lv_istore (lv' := [(4, .int 0), (3, .int 1000), (2, .int (-1)), (0, .ref (a 0)), (1, .int x1)]) hx hb dX11_forbid_18 hl (by decide) rfl (fun ls hl => ?_)
    refine lv_iload hx hb dX11_forbid_20 (lv_at hl 0 rfl) ?_
    refine lv_aload_n hx hb dX11_forbid_22 rfl (lv_at hl 3 rfl) ?_
    refine cVi (w := mW cy a) (As := []) (rest := [.int 0]) C hO (T_X11_pleads l D cy a _ (by exact hA_5_0) (by exact hI_0_36)) (cwV 0 ht (gV wd_1745 wd_1747 wd_82 wd_121 wd_1748) rfl rfl rfl hd_yX11_pleads ⟨Nat.le_of_ble_eq_true rfl, Nat.le_of_ble_eq_true rfl⟩) 0 rfl mW_0 rfl rfl hl.1 (Nat.le_of_ble_eq_true rfl) dX11_forbid_23 rfl ⟨Nat.zero_le _, Nat.zero_le _⟩ (fun r6 u7 H locs hp8 hO => ?_)
    obtain ⟨hr6, hu7⟩ := hp8
    subst hr6
    rw [hu7] at hO
    refine ct_ge (tgt := 116) (X := 0) (Y := 0) hx hb dX11_forbid_26 (by decide) rfl rfl (by omega) ?_
    refine lv_iload_n hx hb dX11_forbid_116 rfl (lv_at hl 2 rfl) ?_
    refine bn_ge (X := (-1)) hx hb dX11_forbid_117 rfl (by omega) ?_ (tgt := 124) (by decide)
    refine lv_iconst (v := (-1)) hx hb dX11_forbid_120 (by decide) ?_
    refine lv_goto (tgt := 133) hx hb dX11_forbid_121 (by decide) ?_
    refine hret _ _ _ _ _ _ dX11_forbid_133 rfl ?_ hO
    exact ⟨rfl, rfl⟩
  · subst hvr1
    refine bn_ne (X := 0) hx hb dX11_forbid_6 rfl (by omega) ?_ (tgt := 11) (by decide)
    refine lv_iconst (v := (-1)) hx hb dX11_forbid_9 (by decide) ?_
    refine hret _ _ _ _ _ _ dX11_forbid_10 rfl ?_ hO
    exact ⟨rfl, rfl⟩
