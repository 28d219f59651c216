theorem law_new {u ue : St} {c : Int32} {L : Nat} (e18 : fA ue 18 (fI u 0 37).toNatClampNeg = upd (fA u 18) (fI u 0 37).toNatClampNeg c (fI u 0 37).toNatClampNeg) (hc : c.toInt = 560 * (fI u 0 37).toInt) (e37 : fI ue 0 37 = fI u 0 37) (g1 : (fI ue 0 38).toInt = 560 * (fI ue 0 37).toInt + L) (g2 : L ≤ 560) (g3 : WFc (fA ue 23) (560 * (fI ue 0 37).toNatClampNeg) L) : LawOk (sA ue 19 (upd (fA ue 19) (fI u 0 37).toNatClampNeg (fI ue 0 38))) (fI u 0 37) := by
  refine Or.inr ⟨L, ?_, ?_, g2, ?_⟩
  · show (fA ue 18 (fI u 0 37).toNatClampNeg).toInt = _
    rw [e18, upd_at]
    exact hc
  · show (upd (fA ue 19) (fI u 0 37).toNatClampNeg (fI ue 0 38) (fI u 0 37).toNatClampNeg).toInt = _
    rw [upd_at, g1, e37]
  · rw [e37] at g3
    exact g3
theorem dX11_e_0 : decode cX11_e 0 = .ok (.aload_n 0, 1) := by decide +kernel
theorem dX11_e_1 : decode cX11_e 1 = .ok (.iconst 0, 1) := by decide +kernel
theorem dX11_e_2 : decode cX11_e 2 = .ok (.putfield 325, 3) := by decide +kernel
theorem dX11_e_5 : decode cX11_e 5 = .ok (.aload_n 0, 1) := by decide +kernel
theorem dX11_e_6 : decode cX11_e 6 = .ok (.iconst 0, 1) := by decide +kernel
theorem dX11_e_7 : decode cX11_e 7 = .ok (.putfield 328, 3) := by decide +kernel
theorem dX11_e_10 : decode cX11_e 10 = .ok (.aload_n 0, 1) := by decide +kernel
theorem dX11_e_11 : decode cX11_e 11 = .ok (.bipush 8, 2) := by decide +kernel
theorem dX11_e_13 : decode cX11_e 13 = .ok (.iconst 0, 1) := by decide +kernel
theorem dX11_e_14 : decode cX11_e 14 = .ok (.invokevirtual 331, 3) := by decide +kernel
theorem dX11_e_17 : decode cX11_e 17 = .ok (.iconst 1, 1) := by decide +kernel
theorem dX11_e_18 : decode cX11_e 18 = .ok (.istore_n 1, 1) := by decide +kernel
theorem dX11_e_19 : decode cX11_e 19 = .ok (.aload_n 0, 1) := by decide +kernel
theorem dX11_e_20 : decode cX11_e 20 = .ok (.invokevirtual 236, 3) := by decide +kernel
theorem dX11_e_23 : decode cX11_e 23 = .ok (.ifCond .eq 29, 3) := by decide +kernel
theorem dX11_e_26 : decode cX11_e 26 = .ok (.aload_n 0, 1) := by decide +kernel
theorem dX11_e_27 : decode cX11_e 27 = .ok (.getfield 325, 3) := by decide +kernel
theorem dX11_e_30 : decode cX11_e 30 = .ok (.ifCond .le 22, 3) := by decide +kernel
theorem dX11_e_33 : decode cX11_e 33 = .ok (.iload_n 1, 1) := by decide +kernel
theorem dX11_e_34 : decode cX11_e 34 = .ok (.ifCond .eq 10, 3) := by decide +kernel
theorem dX11_e_37 : decode cX11_e 37 = .ok (.aload_n 0, 1) := by decide +kernel
theorem dX11_e_38 : decode cX11_e 38 = .ok (.invokevirtual 334, 3) := by decide +kernel
theorem dX11_e_41 : decode cX11_e 41 = .ok (.goto 7, 3) := by decide +kernel
theorem dX11_e_44 : decode cX11_e 44 = .ok (.aload_n 0, 1) := by decide +kernel
theorem dX11_e_45 : decode cX11_e 45 = .ok (.invokevirtual 337, 3) := by decide +kernel
theorem dX11_e_48 : decode cX11_e 48 = .ok (.istore_n 1, 1) := by decide +kernel
theorem dX11_e_49 : decode cX11_e 49 = .ok (.goto (-30), 3) := by decide +kernel
theorem dX11_e_52 : decode cX11_e 52 = .ok (.return_, 1) := by decide +kernel
theorem wd_1673 : (Cond.code ⟨"WebCourtModel", "e", "()V"⟩ prog_13_method_31_code (2 : Nat) (Option.none : Option FieldType)) ∈ gtb := gtb_c7 124 (by decide +kernel) rfl
theorem Km33_wI40 {u v : St} {x : Int32} (h : Km33 u v) : Km33 u (sI v 0 40 x) := ⟨h.1, h.2.1, h.2.2.1, h.2.2.2.1, h.2.2.2.2.1, h.2.2.2.2.2.1, h.2.2.2.2.2.2.1, h.2.2.2.2.2.2.2.1, h.2.2.2.2.2.2.2.2.1, h.2.2.2.2.2.2.2.2.2.1, h.2.2.2.2.2.2.2.2.2.2.1, h.2.2.2.2.2.2.2.2.2.2.2.1, h.2.2.2.2.2.2.2.2.2.2.2.2.1, h.2.2.2.2.2.2.2.2.2.2.2.2.2.1, h.2.2.2.2.2.2.2.2.2.2.2.2.2.2.1, h.2.2.2.2.2.2.2.2.2.2.2.2.2.2.2.1, h.2.2.2.2.2.2.2.2.2.2.2.2.2.2.2.2.1, h.2.2.2.2.2.2.2.2.2.2.2.2.2.2.2.2.2.1, h.2.2.2.2.2.2.2.2.2.2.2.2.2.2.2.2.2.2.1, h.2.2.2.2.2.2.2.2.2.2.2.2.2.2.2.2.2.2.2.1, h.2.2.2.2.2.2.2.2.2.2.2.2.2.2.2.2.2.2.2.2.1, h.2.2.2.2.2.2.2.2.2.2.2.2.2.2.2.2.2.2.2.2.2.1, h.2.2.2.2.2.2.2.2.2.2.2.2.2.2.2.2.2.2.2.2.2.2.1, h.2.2.2.2.2.2.2.2.2.2.2.2.2.2.2.2.2.2.2.2.2.2.2.1, h.2.2.2.2.2.2.2.2.2.2.2.2.2.2.2.2.2.2.2.2.2.2.2.2.1, h.2.2.2.2.2.2.2.2.2.2.2.2.2.2.2.2.2.2.2.2.2.2.2.2.2.1, h.2.2.2.2.2.2.2.2.2.2.2.2.2.2.2.2.2.2.2.2.2.2.2.2.2.2.1, h.2.2.2.2.2.2.2.2.2.2.2.2.2.2.2.2.2.2.2.2.2.2.2.2.2.2.2.1, h.2.2.2.2.2.2.2.2.2.2.2.2.2.2.2.2.2.2.2.2.2.2.2.2.2.2.2.2.1, h.2.2.2.2.2.2.2.2.2.2.2.2.2.2.2.2.2.2.2.2.2.2.2.2.2.2.2.2.2.1, h.2.2.2.2.2.2.2.2.2.2.2.2.2.2.2.2.2.2.2.2.2.2.2.2.2.2.2.2.2.2.1, h.2.2.2.2.2.2.2.2.2.2.2.2.2.2.2.2.2.2.2.2.2.2.2.2.2.2.2.2.2.2.2.1, h.2.2.2.2.2.2.2.2.2.2.2.2.2.2.2.2.2.2.2.2.2.2.2.2.2.2.2.2.2.2.2.2.1, h.2.2.2.2.2.2.2.2.2.2.2.2.2.2.2.2.2.2.2.2.2.2.2.2.2.2.2.2.2.2.2.2.2.1, h.2.2.2.2.2.2.2.2.2.2.2.2.2.2.2.2.2.2.2.2.2.2.2.2.2.2.2.2.2.2.2.2.2.2.1, h.2.2.2.2.2.2.2.2.2.2.2.2.2.2.2.2.2.2.2.2.2.2.2.2.2.2.2.2.2.2.2.2.2.2.2.1, h.2.2.2.2.2.2.2.2.2.2.2.2.2.2.2.2.2.2.2.2.2.2.2.2.2.2.2.2.2.2.2.2.2.2.2.2.1, h.2.2.2.2.2.2.2.2.2.2.2.2.2.2.2.2.2.2.2.2.2.2.2.2.2.2.2.2.2.2.2.2.2.2.2.2.2.1, h.2.2.2.2.2.2.2.2.2.2.2.2.2.2.2.2.2.2.2.2.2.2.2.2.2.2.2.2.2.2.2.2.2.2.2.2.2.2.1, h.2.2.2.2.2.2.2.2.2.2.2.2.2.2.2.2.2.2.2.2.2.2.2.2.2.2.2.2.2.2.2.2.2.2.2.2.2.2.2.1, h.2.2.2.2.2.2.2.2.2.2.2.2.2.2.2.2.2.2.2.2.2.2.2.2.2.2.2.2.2.2.2.2.2.2.2.2.2.2.2.2.1, h.2.2.2.2.2.2.2.2.2.2.2.2.2.2.2.2.2.2.2.2.2.2.2.2.2.2.2.2.2.2.2.2.2.2.2.2.2.2.2.2.2.1, h.2.2.2.2.2.2.2.2.2.2.2.2.2.2.2.2.2.2.2.2.2.2.2.2.2.2.2.2.2.2.2.2.2.2.2.2.2.2.2.2.2.2.1, h.2.2.2.2.2.2.2.2.2.2.2.2.2.2.2.2.2.2.2.2.2.2.2.2.2.2.2.2.2.2.2.2.2.2.2.2.2.2.2.2.2.2.2.1, h.2.2.2.2.2.2.2.2.2.2.2.2.2.2.2.2.2.2.2.2.2.2.2.2.2.2.2.2.2.2.2.2.2.2.2.2.2.2.2.2.2.2.2.2.1, h.2.2.2.2.2.2.2.2.2.2.2.2.2.2.2.2.2.2.2.2.2.2.2.2.2.2.2.2.2.2.2.2.2.2.2.2.2.2.2.2.2.2.2.2.2.1, h.2.2.2.2.2.2.2.2.2.2.2.2.2.2.2.2.2.2.2.2.2.2.2.2.2.2.2.2.2.2.2.2.2.2.2.2.2.2.2.2.2.2.2.2.2.2.1, h.2.2.2.2.2.2.2.2.2.2.2.2.2.2.2.2.2.2.2.2.2.2.2.2.2.2.2.2.2.2.2.2.2.2.2.2.2.2.2.2.2.2.2.2.2.2.2.1, h.2.2.2.2.2.2.2.2.2.2.2.2.2.2.2.2.2.2.2.2.2.2.2.2.2.2.2.2.2.2.2.2.2.2.2.2.2.2.2.2.2.2.2.2.2.2.2.2⟩
theorem wd_1694 : (Cond.methodLink "WebCourtModel" (337 : Nat) ⟨"WebCourtModel", "behindUnit", "()Z"⟩) ∈ gtb := gtb_c7 145 (by decide +kernel) rfl
theorem wd_1696 : (Cond.instanceMethod ⟨"WebCourtModel", "behindUnit", "()Z"⟩) ∈ gtb := gtb_c7 147 (by decide +kernel) rfl
theorem wd_73 : (Cond.selects "WebCourtModel" ⟨"WebCourtModel", "behindUnit", "()Z"⟩ ⟨"WebCourtModel", "behindUnit", "()Z"⟩) ∈ gtb := gtb_p 73 (by decide +kernel) rfl
theorem hd_yX11_behindUnit : yX11_behindUnit.cls = RX11 ∧ yX11_behindUnit.cls ≠ "java/lang/invoke/MethodHandle" ∧ yX11_behindUnit.cls ≠ "java/lang/invoke/VarHandle" ∧ (parseMethodDescriptor yX11_behindUnit.desc).map (fun d => d.parameters.length) = some 0 := by decide +kernel
theorem Km34_to_Km33 {u v : St} (h : Km34 u v) : Km33 u v := ⟨h.1, h.2.1, h.2.2.1, h.2.2.2.1, h.2.2.2.2.2.1, h.2.2.2.2.2.2.1, h.2.2.2.2.2.2.2.1, h.2.2.2.2.2.2.2.2.1, h.2.2.2.2.2.2.2.2.2.1, h.2.2.2.2.2.2.2.2.2.2.1, h.2.2.2.2.2.2.2.2.2.2.2.1, h.2.2.2.2.2.2.2.2.2.2.2.2.1, h.2.2.2.2.2.2.2.2.2.2.2.2.2.1, h.2.2.2.2.2.2.2.2.2.2.2.2.2.2.1, h.2.2.2.2.2.2.2.2.2.2.2.2.2.2.2.1, h.2.2.2.2.2.2.2.2.2.2.2.2.2.2.2.2.1, h.2.2.2.2.2.2.2.2.2.2.2.2.2.2.2.2.2.1, h.2.2.2.2.2.2.2.2.2.2.2.2.2.2.2.2.2.2.1, h.2.2.2.2.2.2.2.2.2.2.2.2.2.2.2.2.2.2.2.2.1, h.2.2.2.2.2.2.2.2.2.2.2.2.2.2.2.2.2.2.2.2.2.1, h.2.2.2.2.2.2.2.2.2.2.2.2.2.2.2.2.2.2.2.2.2.2.1, h.2.2.2.2.2.2.2.2.2.2.2.2.2.2.2.2.2.2.2.2.2.2.2.1, h.2.2.2.2.2.2.2.2.2.2.2.2.2.2.2.2.2.2.2.2.2.2.2.2.1, h.2.2.2.2.2.2.2.2.2.2.2.2.2.2.2.2.2.2.2.2.2.2.2.2.2.1, h.2.2.2.2.2.2.2.2.2.2.2.2.2.2.2.2.2.2.2.2.2.2.2.2.2.2.1, h.2.2.2.2.2.2.2.2.2.2.2.2.2.2.2.2.2.2.2.2.2.2.2.2.2.2.2.1, h.2.2.2.2.2.2.2.2.2.2.2.2.2.2.2.2.2.2.2.2.2.2.2.2.2.2.2.2.1, h.2.2.2.2.2.2.2.2.2.2.2.2.2.2.2.2.2.2.2.2.2.2.2.2.2.2.2.2.2.1, h.2.2.2.2.2.2.2.2.2.2.2.2.2.2.2.2.2.2.2.2.2.2.2.2.2.2.2.2.2.2.1, h.2.2.2.2.2.2.2.2.2.2.2.2.2.2.2.2.2.2.2.2.2.2.2.2.2.2.2.2.2.2.2.1, h.2.2.2.2.2.2.2.2.2.2.2.2.2.2.2.2.2.2.2.2.2.2.2.2.2.2.2.2.2.2.2.2.1, h.2.2.2.2.2.2.2.2.2.2.2.2.2.2.2.2.2.2.2.2.2.2.2.2.2.2.2.2.2.2.2.2.2.1, h.2.2.2.2.2.2.2.2.2.2.2.2.2.2.2.2.2.2.2.2.2.2.2.2.2.2.2.2.2.2.2.2.2.2.1, h.2.2.2.2.2.2.2.2.2.2.2.2.2.2.2.2.2.2.2.2.2.2.2.2.2.2.2.2.2.2.2.2.2.2.2.1, h.2.2.2.2.2.2.2.2.2.2.2.2.2.2.2.2.2.2.2.2.2.2.2.2.2.2.2.2.2.2.2.2.2.2.2.2.1, h.2.2.2.2.2.2.2.2.2.2.2.2.2.2.2.2.2.2.2.2.2.2.2.2.2.2.2.2.2.2.2.2.2.2.2.2.2.1, h.2.2.2.2.2.2.2.2.2.2.2.2.2.2.2.2.2.2.2.2.2.2.2.2.2.2.2.2.2.2.2.2.2.2.2.2.2.2.1, h.2.2.2.2.2.2.2.2.2.2.2.2.2.2.2.2.2.2.2.2.2.2.2.2.2.2.2.2.2.2.2.2.2.2.2.2.2.2.2.1, h.2.2.2.2.2.2.2.2.2.2.2.2.2.2.2.2.2.2.2.2.2.2.2.2.2.2.2.2.2.2.2.2.2.2.2.2.2.2.2.2.1, h.2.2.2.2.2.2.2.2.2.2.2.2.2.2.2.2.2.2.2.2.2.2.2.2.2.2.2.2.2.2.2.2.2.2.2.2.2.2.2.2.2.1, h.2.2.2.2.2.2.2.2.2.2.2.2.2.2.2.2.2.2.2.2.2.2.2.2.2.2.2.2.2.2.2.2.2.2.2.2.2.2.2.2.2.2.1, h.2.2.2.2.2.2.2.2.2.2.2.2.2.2.2.2.2.2.2.2.2.2.2.2.2.2.2.2.2.2.2.2.2.2.2.2.2.2.2.2.2.2.2.1, h.2.2.2.2.2.2.2.2.2.2.2.2.2.2.2.2.2.2.2.2.2.2.2.2.2.2.2.2.2.2.2.2.2.2.2.2.2.2.2.2.2.2.2.2.1, h.2.2.2.2.2.2.2.2.2.2.2.2.2.2.2.2.2.2.2.2.2.2.2.2.2.2.2.2.2.2.2.2.2.2.2.2.2.2.2.2.2.2.2.2.2.1, h.2.2.2.2.2.2.2.2.2.2.2.2.2.2.2.2.2.2.2.2.2.2.2.2.2.2.2.2.2.2.2.2.2.2.2.2.2.2.2.2.2.2.2.2.2.2.1, h.2.2.2.2.2.2.2.2.2.2.2.2.2.2.2.2.2.2.2.2.2.2.2.2.2.2.2.2.2.2.2.2.2.2.2.2.2.2.2.2.2.2.2.2.2.2.2.1, h.2.2.2.2.2.2.2.2.2.2.2.2.2.2.2.2.2.2.2.2.2.2.2.2.2.2.2.2.2.2.2.2.2.2.2.2.2.2.2.2.2.2.2.2.2.2.2.2.1, h.2.2.2.2.2.2.2.2.2.2.2.2.2.2.2.2.2.2.2.2.2.2.2.2.2.2.2.2.2.2.2.2.2.2.2.2.2.2.2.2.2.2.2.2.2.2.2.2.2.1, h.2.2.2.2.2.2.2.2.2.2.2.2.2.2.2.2.2.2.2.2.2.2.2.2.2.2.2.2.2.2.2.2.2.2.2.2.2.2.2.2.2.2.2.2.2.2.2.2.2.2⟩
theorem wd_1678 : (Cond.methodLink "WebCourtModel" (334 : Nat) ⟨"WebCourtModel", "unit", "()Z"⟩) ∈ gtb := gtb_c7 129 (by decide +kernel) rfl
theorem wd_1680 : (Cond.instanceMethod ⟨"WebCourtModel", "unit", "()Z"⟩) ∈ gtb := gtb_c7 131 (by decide +kernel) rfl
theorem wd_69 : (Cond.selects "WebCourtModel" ⟨"WebCourtModel", "unit", "()Z"⟩ ⟨"WebCourtModel", "unit", "()Z"⟩) ∈ gtb := gtb_p 69 (by decide +kernel) rfl
theorem hd_yX11_unit : yX11_unit.cls = RX11 ∧ yX11_unit.cls ≠ "java/lang/invoke/MethodHandle" ∧ yX11_unit.cls ≠ "java/lang/invoke/VarHandle" ∧ (parseMethodDescriptor yX11_unit.desc).map (fun d => d.parameters.length) = some 0 := by decide +kernel
set_option maxHeartbeats 4000000 in
set_option maxRecDepth 100000 in
theorem T_X11_e (l : Launch) (D : va_G) (cy : Nat → ClassId) (a : Nat → Nat) (u : St) (hJ : MI a u) (hp0 : (fI u 0 7).toInt ≤ (fI u 0 3).toInt) (hp1 : (fI u 0 6).toInt ≤ (fI u 0 7).toInt) (hp2 : (fI u 0 8).toInt = 0 ∨ (fI u 0 6).toInt < (fI u 0 7).toInt) (hp3 : (fI u 0 4).toInt = 0) (hp4 : (fI u 0 36).toInt + (fI u 0 37).toInt = 1) (hp5 : (fI u 0 38).toInt = 560 * (fI u 0 37).toInt) (hp6 : (fI u 0 41).toInt = 0)   : Mv l D cy (mW cy a) yX11_e (.code yX11_e cX11_e 2 none) (rmo 4 86) [.ref (a 0)] u (fun (u' : St) => (MI a u') ∧ (Km33 u u') ∧ ((fI u' 0 7).toInt ≤ (fI u' 0 3).toInt) ∧ ((fI u' 0 6).toInt ≤ (fI u' 0 7).toInt) ∧ ((fI u' 0 8).toInt = 0 ∨ (fI u' 0 6).toInt < (fI u' 0 7).toInt) ∧ ((fI u 0 6).toInt ≤ (fI u' 0 6).toInt) ∧ (¬ (fI u' 0 4).toInt = 0 ∨ ∃ L : Nat, (fI u' 0 38).toInt = 560 * (fI u' 0 37).toInt + L ∧ L ≤ 560 ∧ WFc (fA u' 23) (560 * (fI u' 0 37).toNatClampNeg) L)) := by
  refine Mv.of (own := RX11) rfl (by decide) (Nat.le_of_ble_eq_true rfl) ?_
  have hT : Km33 u u := Km33.rf
  have hJ0 := hJ
  intro p e s m below meth c A Q ls C hret hO hl
  obtain ⟨hx, hb, hml, hown, ht, hK, hA⟩ := id C
  have hl : lv_has ls 2 [(0, .ref (a 0))] := hl
  have g1 : 0 ≤ (fI u 0 3).toInt ∧ (fI u 0 3).toInt ≤ 1600 := by have h := MI_3 hJ0; exact h
  have g2 : 0 ≤ (fI u 0 4).toInt ∧ (fI u 0 4).toInt ≤ 5 := by have h := MI_4 hJ0; exact h
  have g3 : 0 ≤ (fI u 0 6).toInt ∧ (fI u 0 6).toInt ≤ 1600 := by have h := MI_6 hJ0; exact h
  have g4 : 0 ≤ (fI u 0 7).toInt ∧ (fI u 0 7).toInt ≤ 1601 := by have h := MI_7 hJ0; exact h
  have g5 : 0 ≤ (fI u 0 8).toInt ∧ (fI u 0 8).toInt ≤ 5 := by have h := MI_8 hJ0; exact h
  have g6 : 0 ≤ (fI u 0 36).toInt ∧ (fI u 0 36).toInt ≤ 1 := by have h := MI_36 hJ0; exact h
  have g7 : 0 ≤ (fI u 0 37).toInt ∧ (fI u 0 37).toInt ≤ 1 := by have h := MI_37 hJ0; exact h
  refine lv_aload_n hx hb dX11_e_0 rfl (lv_at hl 0 rfl) ?_
  refine lv_iconst (v := 0) hx hb dX11_e_1 (by decide) ?_
  refine pf_RX11_325 C hO 0 mW_0 (Nat.le_of_ble_eq_true rfl) mW_s0_40 dX11_e_2 (fun H locs hO => ?_)
  have hT := Km33_wI40 (x := 0) hT
  have hJ := MIs_40 (v := 0) hJ
  refine lv_aload_n hx hb dX11_e_5 rfl (lv_at hl 0 rfl) ?_
  refine lv_iconst (v := 0) hx hb dX11_e_6 (by decide) ?_
  refine pf_RX11_328 C hO 0 mW_0 (Nat.le_of_ble_eq_true rfl) mW_s0_39 dX11_e_7 (fun H locs hO => ?_)
  have hT := Km33_wI39 (x := 0) hT
  have hJ := MIs_39 (v := 0) hJ
  refine lv_aload_n hx hb dX11_e_10 rfl (lv_at hl 0 rfl) ?_
  refine lv_bipush (v := 8) hx hb dX11_e_11 (by decide) ?_
  refine lv_iconst (v := 0) hx hb dX11_e_13 (by decide) ?_
  refine cVv (w := mW cy a) (As := [.int 8, .int 0]) (rest := []) C hO (T_X11_pushE l D cy a _ (by exact hJ) (by exact (show 0 ≤ (0 : Int32).toInt from by first | omega | decide)) (by exact (show (0 : Int32).toInt ≤ 89 from by first | omega | decide)) (8) (0)) (cwV 2 ht (gV wd_1674 wd_1676 wd_68 wd_121 wd_1677) rfl rfl rfl hd_yX11_pushE ⟨Nat.le_of_ble_eq_true rfl, Nat.le_of_ble_eq_true rfl⟩) 0 rfl mW_0 rfl rfl hl.1 (Nat.le_of_ble_eq_true rfl) dX11_e_14 rfl ⟨Nat.zero_le _, Nat.zero_le _⟩ (fun u9 H locs hp10 hO => ?_)
  obtain ⟨hJ, hTu9, hx0u9, hx1u9, hx2u9⟩ := hp10
  have hT : Km33 u u9 := Km33.tr (by exact hT) (Km32_to_Km33 hTu9)
  have y2u9 : ((fI u9 0 40) : Int32).toInt = (0 : Int32).toInt + 1 := by exact hx2u9
  have hPS : PE u9 1 := PE_start (by exact hx0u9) (by exact hx1u9) (by rw [show fI u9 0 38 = fI u 0 38 from (Km32_I38 hTu9), show fI u9 0 37 = fI u 0 37 from (Km33_I37 hT)]; omega) (by rw [show fI u9 0 37 = fI u 0 37 from (Km33_I37 hT)]; omega) (by have h := hx2u9; have z0 : (0 : Int32).toInt = 0 := rfl; exact h.trans (by first | omega | (show (0 : Int32).toInt + 1 = 1; omega))) (by rw [show fI u9 0 39 = 0 from (Km32_I39 hTu9)]; rfl) (by rw [show fI u9 0 41 = fI u 0 41 from (Km32_I41 hTu9)]; omega)
  refine lv_iconst (v := 1) hx hb dX11_e_17 (by decide) ?_
  refine lv_istore_n (lv' := [(1, .int 1), (0, .ref (a 0))]) hx hb dX11_e_18 rfl hl (by decide) rfl (fun ls hl => ?_)
  have LP_19_k12 : ∀ (n : Nat) (u11 : St) (H : Heap) (locs : List Loc) (ls : Array Slot) (w_k12 : Int32) (at_k12 : Int32) (en_k12 : Int32) (tk_k12 : Int32) (fa_k12 : Int32) (pl_k12 : Int32), Wo D A (mW cy a u11) s.heap H locs → lv_has ls 2 [(1, .int w_k12), (0, .ref (a 0))] → MI a u11 → Km33 u u11 → fI u11 0 6 = at_k12 → fI u11 0 7 = en_k12 → fI u11 0 8 = tk_k12 → fI u11 0 4 = fa_k12 → fI u11 0 40 = pl_k12 → en_k12.toInt ≤ (fI u 0 3).toInt → at_k12.toInt ≤ en_k12.toInt → (tk_k12.toInt = 0 ∨ at_k12.toInt < en_k12.toInt) → (fI u 0 6).toInt ≤ at_k12.toInt → 0 ≤ pl_k12.toInt → 0 ≤ w_k12.toInt ∧ w_k12.toInt ≤ 1 → 0 ≤ at_k12.toInt ∧ at_k12.toInt ≤ 1600 → 0 ≤ en_k12.toInt ∧ en_k12.toInt ≤ 1601 → 0 ≤ tk_k12.toInt ∧ tk_k12.toInt ≤ 5 → 0 ≤ fa_k12.toInt ∧ fa_k12.toInt ≤ 5 → (¬ fa_k12.toInt = 0 ∨ PE u11 w_k12.toInt) → 10000 * (5 - fa_k12.toInt) + 2 * (1601 - at_k12.toInt) + pl_k12.toInt < (n : Int) → W p l e (rmo 4 86) s m [.ref (a 0)].toArray below meth c H locs 0 0 Q (F0 m 19 ls []) := by
    intro n
    induction n with
    | zero =>
      intro u11 H locs ls w_k12 at_k12 en_k12 tk_k12 fa_k12 pl_k12 hO hl hJ hT hat_k12 hen_k12 htk_k12 hfa_k12 hpl_k12 iv0_k12 iv1_k12 iv2_k12 iv3_k12 iv4_k12 iv5_k12 iv6_k12 iv7_k12 iv8_k12 iv9_k12 cv0_k12 hm_k12
      exact absurd hm_k12 (by omega)
    | succ n ih_k12 =>
      intro u11 H locs ls w_k12 at_k12 en_k12 tk_k12 fa_k12 pl_k12 hO hl hJ hT hat_k12 hen_k12 htk_k12 hfa_k12 hpl_k12 iv0_k12 iv1_k12 iv2_k12 iv3_k12 iv4_k12 iv5_k12 iv6_k12 iv7_k12 iv8_k12 iv9_k12 cv0_k12 hm_k12
      refine lv_aload_n hx hb dX11_e_19 rfl (lv_at hl 1 rfl) ?_
      refine cVi (w := mW cy a) (As := []) (rest := []) C hO (T_X11_isGood l D cy a _ (by exact hJ) (fa_k12) (by exact hfa_k12)) (cwV 0 ht (gV wd_1596 wd_1598 wd_50 wd_121 wd_1599) rfl rfl rfl hd_yX11_isGood ⟨Nat.le_of_ble_eq_true rfl, Nat.le_of_ble_eq_true rfl⟩) 0 rfl mW_0 rfl rfl hl.1 (Nat.le_of_ble_eq_true rfl) dX11_e_20 rfl ⟨Nat.zero_le _, Nat.zero_le _⟩ (fun r13 u14 H locs hp15 hO => ?_)
      obtain ⟨hr13, hu14⟩ := hp15
      rw [hu14] at hO
      rcases hr13 with ⟨hcr13, hvr13⟩ | ⟨hcr13, hvr13⟩
      · subst hvr13
        refine bn_eq (X := 1) hx hb dX11_e_23 rfl (by omega) ?_ (tgt := 52) (by decide)
        have hPN : PE u11 w_k12.toInt := by rcases cv0_k12 with h | h; exact absurd h (by omega); exact h
        have hbn := PE_b hPN
        rw [hpl_k12] at hbn
        refine lv_aload_n hx hb dX11_e_26 rfl (lv_at hl 1 rfl) ?_
        refine gf_RX11_325 (v := .int pl_k12) C hO 0 mW_0 (congrArg (fun z : Int32 => some (Value.int z)) hpl_k12) dX11_e_27 ?_
        refine bs_le (tgt := 52) (X := (pl_k12).toInt) hx hb dX11_e_30 (by decide) rfl (fun c16 => ?_) (fun c16 => ?_)
        · have g17 : 0 ≤ (fI u 0 3).toInt ∧ (fI u 0 3).toInt ≤ 1600 := by have h := MI_3 hJ0; exact h
          have q18 : (en_k12 : Int32).toInt ≤ ((fI u 0 3) : Int32).toInt := by first | omega | decide
          have q19 : (at_k12 : Int32).toInt ≤ (en_k12 : Int32).toInt := by first | omega | decide
          have q20 : (tk_k12 : Int32).toInt = 0 ∨ (at_k12 : Int32).toInt < (en_k12 : Int32).toInt := by first | omega | decide
          have g21 : 0 ≤ (fI u 0 6).toInt ∧ (fI u 0 6).toInt ≤ 1600 := by have h := MI_6 hJ0; exact h
          have q22 : ((fI u 0 6) : Int32).toInt ≤ (at_k12 : Int32).toInt := by first | omega | decide
          refine hret _ _ _ _ _ dX11_e_52 ?_ hO
          exact ⟨hJ, hT, q18, q19, q20, q22, Or.inr (PE_done hPN (by rw [hpl_k12]; omega))⟩
        · refine lv_iload_n hx hb dX11_e_33 rfl (lv_at hl 0 rfl) ?_
          refine bs_eq (tgt := 44) (X := (w_k12).toInt) hx hb dX11_e_34 (by decide) rfl (fun c23 => ?_) (fun c23 => ?_)
          · refine lv_aload_n hx hb dX11_e_44 rfl (lv_at hl 1 rfl) ?_
            have g24 : 0 ≤ (fI u 0 3).toInt ∧ (fI u 0 3).toInt ≤ 1600 := by have h := MI_3 hJ0; exact h
            have g25 : 0 ≤ (fI u 0 36).toInt ∧ (fI u 0 36).toInt ≤ 1 := by have h := MI_36 hJ0; exact h
            have g26 : 0 ≤ (fI u 0 37).toInt ∧ (fI u 0 37).toInt ≤ 1 := by have h := MI_37 hJ0; exact h
            refine cVi (w := mW cy a) (As := []) (rest := []) C hO (T_X11_behindUnit l D cy a _ (by exact hJ) (by exact (show (en_k12 : Int32).toInt ≤ ((fI u 0 3) : Int32).toInt from by first | omega | decide)) (by exact (show (at_k12 : Int32).toInt ≤ (en_k12 : Int32).toInt from by first | omega | decide)) (by exact (show (tk_k12 : Int32).toInt = 0 ∨ (at_k12 : Int32).toInt < (en_k12 : Int32).toInt from by first | omega | decide)) (by exact (show (fa_k12 : Int32).toInt = 0 from by first | omega | decide)) (by exact (show ((fI u 0 36) : Int32).toInt + ((fI u 0 37) : Int32).toInt = 1 from by first | omega | decide)) (by exact (show 1 ≤ (pl_k12 : Int32).toInt from by first | omega | decide)) (by have h := hPN; rw [show w_k12.toInt = 0 by omega] at h; exact h)) (cwV 0 ht (gV wd_1694 wd_1696 wd_73 wd_121 wd_1697) rfl rfl rfl hd_yX11_behindUnit ⟨Nat.le_of_ble_eq_true rfl, Nat.le_of_ble_eq_true rfl⟩) 0 rfl mW_0 rfl rfl hl.1 (Nat.le_of_ble_eq_true rfl) dX11_e_45 rfl ⟨Nat.zero_le _, Nat.zero_le _⟩ (fun r27 u28 H locs hp29 hO => ?_)
            obtain ⟨hr27, hJ, hTu28, hx0u28, hx1u28, hx2u28, hx3u28, hx4u28, hx5u28, hx6u28, hx7u28⟩ := hp29
            have gr27 : 0 ≤ r27.toInt ∧ r27.toInt ≤ 1 := by rcases hr27 with h | h <;> rw [h] <;> decide
            have hT : Km33 u u28 := Km33.tr (by exact hT) (Km34_to_Km33 hTu28)
            have g30 : 0 ≤ (fI u28 0 7).toInt ∧ (fI u28 0 7).toInt ≤ 1601 := by have h := MI_7 hJ; exact h
            have y0u28 : ((fI u28 0 7) : Int32).toInt ≤ ((fI u 0 3) : Int32).toInt := by have h := hx0u28; simp only [(Km33_I3 hT)] at h; exact h
            have g31 : 0 ≤ (fI u28 0 6).toInt ∧ (fI u28 0 6).toInt ≤ 1600 := by have h := MI_6 hJ; exact h
            have y1u28 : ((fI u28 0 6) : Int32).toInt ≤ ((fI u28 0 7) : Int32).toInt := by exact hx1u28
            have g32 : 0 ≤ (fI u28 0 8).toInt ∧ (fI u28 0 8).toInt ≤ 5 := by have h := MI_8 hJ; exact h
            have y2u28 : ((fI u28 0 8) : Int32).toInt = 0 ∨ ((fI u28 0 6) : Int32).toInt < ((fI u28 0 7) : Int32).toInt := by exact hx2u28
            have y3u28 : (at_k12 : Int32).toInt ≤ ((fI u28 0 6) : Int32).toInt := by exact hx3u28
            have y4u28 : 0 ≤ ((fI u28 0 40) : Int32).toInt := by exact hx4u28
            have y5u28 : ((fI u28 0 40) : Int32).toInt ≤ (pl_k12 : Int32).toInt + 1 := by exact hx5u28
            have g33 : 0 ≤ (fI u28 0 4).toInt ∧ (fI u28 0 4).toInt ≤ 5 := by have h := MI_4 hJ; exact h
            have y6u28 : ¬ ((fI u28 0 4) : Int32).toInt = 0 ∨ ((at_k12 : Int32).toInt < ((fI u28 0 6) : Int32).toInt ∧ ((fI u28 0 40) : Int32).toInt ≤ (pl_k12 : Int32).toInt + 1) ∨ ((at_k12 : Int32).toInt ≤ ((fI u28 0 6) : Int32).toInt ∧ ((fI u28 0 40) : Int32).toInt < (pl_k12 : Int32).toInt) := by exact hx6u28
            refine lv_istore_n (lv' := [(1, .int r27), (0, .ref (a 0))]) hx hb dX11_e_48 rfl hl (by decide) rfl (fun ls hl => ?_)
            refine lv_goto (tgt := 19) hx hb dX11_e_49 (by decide) ?_
            exact ih_k12 _ _ _ _ (r27) ((fI u28 0 6)) ((fI u28 0 7)) ((fI u28 0 8)) ((fI u28 0 4)) ((fI u28 0 40)) hO (lv_sub hl [0, 1] rfl) (by exact hJ) (by exact hT) (by exact rfl) (by exact rfl) (by exact rfl) (by exact rfl) (by exact rfl) (by first | decide | omega) (by first | decide | omega) (by first | decide | omega) (by first | decide | omega) (by first | decide | omega) (by first | decide | omega) (by first | decide | omega) (by first | decide | omega) (by first | decide | omega) (by first | decide | omega) (by exact hx7u28) (by first | decide | omega)
          · refine lv_aload_n hx hb dX11_e_37 rfl (lv_at hl 1 rfl) ?_
            have g34 : 0 ≤ (fI u 0 3).toInt ∧ (fI u 0 3).toInt ≤ 1600 := by have h := MI_3 hJ0; exact h
            have g35 : 0 ≤ (fI u 0 36).toInt ∧ (fI u 0 36).toInt ≤ 1 := by have h := MI_36 hJ0; exact h
            have g36 : 0 ≤ (fI u 0 37).toInt ∧ (fI u 0 37).toInt ≤ 1 := by have h := MI_37 hJ0; exact h
            refine cVi (w := mW cy a) (As := []) (rest := []) C hO (T_X11_unit l D cy a _ (by exact hJ) (by exact (show (en_k12 : Int32).toInt ≤ ((fI u 0 3) : Int32).toInt from by first | omega | decide)) (by exact (show (at_k12 : Int32).toInt ≤ (en_k12 : Int32).toInt from by first | omega | decide)) (by exact (show (tk_k12 : Int32).toInt = 0 ∨ (at_k12 : Int32).toInt < (en_k12 : Int32).toInt from by first | omega | decide)) (by exact (show (fa_k12 : Int32).toInt = 0 from by first | omega | decide)) (by exact (show ((fI u 0 36) : Int32).toInt + ((fI u 0 37) : Int32).toInt = 1 from by first | omega | decide)) (by have h := hPN; rw [show w_k12.toInt = 1 by omega] at h; exact h)) (cwV 0 ht (gV wd_1678 wd_1680 wd_69 wd_121 wd_1681) rfl rfl rfl hd_yX11_unit ⟨Nat.le_of_ble_eq_true rfl, Nat.le_of_ble_eq_true rfl⟩) 0 rfl mW_0 rfl rfl hl.1 (Nat.le_of_ble_eq_true rfl) dX11_e_38 rfl ⟨Nat.zero_le _, Nat.zero_le _⟩ (fun r37 u38 H locs hp39 hO => ?_)
            obtain ⟨hr37, hJ, hTu38, hx0u38, hx1u38, hx2u38, hx3u38, hx4u38, hx5u38, hx6u38, hx7u38⟩ := hp39
            have gr37 : 0 ≤ r37.toInt ∧ r37.toInt ≤ 1 := by rcases hr37 with h | h <;> rw [h] <;> decide
            have hT : Km33 u u38 := Km33.tr (by exact hT) hTu38
            have g40 : 0 ≤ (fI u38 0 7).toInt ∧ (fI u38 0 7).toInt ≤ 1601 := by have h := MI_7 hJ; exact h
            have y0u38 : ((fI u38 0 7) : Int32).toInt ≤ ((fI u 0 3) : Int32).toInt := by have h := hx0u38; simp only [(Km33_I3 hT)] at h; exact h
            have g41 : 0 ≤ (fI u38 0 6).toInt ∧ (fI u38 0 6).toInt ≤ 1600 := by have h := MI_6 hJ; exact h
            have y1u38 : ((fI u38 0 6) : Int32).toInt ≤ ((fI u38 0 7) : Int32).toInt := by exact hx1u38
            have g42 : 0 ≤ (fI u38 0 8).toInt ∧ (fI u38 0 8).toInt ≤ 5 := by have h := MI_8 hJ; exact h
            have y2u38 : ((fI u38 0 8) : Int32).toInt = 0 ∨ ((fI u38 0 6) : Int32).toInt < ((fI u38 0 7) : Int32).toInt := by exact hx2u38
            have y3u38 : (at_k12 : Int32).toInt ≤ ((fI u38 0 6) : Int32).toInt := by exact hx3u38
            have y4u38 : 0 ≤ ((fI u38 0 40) : Int32).toInt := by exact hx4u38
            have y5u38 : ((fI u38 0 40) : Int32).toInt ≤ (pl_k12 : Int32).toInt + 1 := by exact hx5u38
            have g43 : 0 ≤ (fI u38 0 4).toInt ∧ (fI u38 0 4).toInt ≤ 5 := by have h := MI_4 hJ; exact h
            have y6u38 : ¬ ((fI u38 0 4) : Int32).toInt = 0 ∨ ((at_k12 : Int32).toInt < ((fI u38 0 6) : Int32).toInt ∧ ((fI u38 0 40) : Int32).toInt ≤ (pl_k12 : Int32).toInt + 1) := by exact hx6u38
            refine lv_goto (tgt := 48) hx hb dX11_e_41 (by decide) ?_
            refine lv_istore_n (lv' := [(1, .int r37), (0, .ref (a 0))]) hx hb dX11_e_48 rfl hl (by decide) rfl (fun ls hl => ?_)
            refine lv_goto (tgt := 19) hx hb dX11_e_49 (by decide) ?_
            exact ih_k12 _ _ _ _ (r37) ((fI u38 0 6)) ((fI u38 0 7)) ((fI u38 0 8)) ((fI u38 0 4)) ((fI u38 0 40)) hO (lv_sub hl [0, 1] rfl) (by exact hJ) (by exact hT) (by exact rfl) (by exact rfl) (by exact rfl) (by exact rfl) (by exact rfl) (by first | decide | omega) (by first | decide | omega) (by first | decide | omega) (by first | decide | omega) (by first | decide | omega) (by first | decide | omega) (by first | decide | omega) (by first | decide | omega) (by first | decide | omega) (by first | decide | omega) (by exact hx7u38) (by first | decide | omega)
      · subst hvr13
        refine bt_eq (tgt := 52) (X := 0) hx hb dX11_e_23 (by decide) rfl (by omega) ?_
        have g44 : 0 ≤ (fI u 0 3).toInt ∧ (fI u 0 3).toInt ≤ 1600 := by have h := MI_3 hJ0; exact h
        have q45 : (en_k12 : Int32).toInt ≤ ((fI u 0 3) : Int32).toInt := by first | omega | decide
        have q46 : (at_k12 : Int32).toInt ≤ (en_k12 : Int32).toInt := by first | omega | decide
        have q47 : (tk_k12 : Int32).toInt = 0 ∨ (at_k12 : Int32).toInt < (en_k12 : Int32).toInt := by first | omega | decide
        have g48 : 0 ≤ (fI u 0 6).toInt ∧ (fI u 0 6).toInt ≤ 1600 := by have h := MI_6 hJ0; exact h
        have q49 : ((fI u 0 6) : Int32).toInt ≤ (at_k12 : Int32).toInt := by first | omega | decide
        refine hret _ _ _ _ _ dX11_e_52 ?_ hO
        exact ⟨hJ, hT, q45, q46, q47, q49, Or.inl (by rw [show fI _ 0 4 = fa_k12 from hfa_k12]; omega)⟩
  have zc50 : (1 : Int32).toInt = 1 := rfl
  exact LP_19_k12 60000 _ _ _ _ (1) ((fI u 0 6)) ((fI u 0 7)) ((fI u 0 8)) ((fI u 0 4)) ((fI u9 0 40)) hO (lv_sub hl [0, 1] rfl) (by exact hJ) (by exact hT) (by exact (Km32_I6 hTu9)) (by exact (Km32_I7 hTu9)) (by exact (Km32_I8 hTu9)) (by exact (Km32_I4 hTu9)) (by exact rfl) (by first | decide | omega) (by first | decide | omega) (by first | decide | omega) (by first | decide | omega) (by first | decide | omega) (by first | decide | omega) (by first | decide | omega) (by first | decide | omega) (by first | decide | omega) (by first | decide | omega) (by exact Or.inr (by exact hPS)) (by first | decide | omega)
def Km35 (u v : St) : Prop := fI v 0 2 = fI u 0 2 ∧ fI v 0 3 = fI u 0 3 ∧ fI v 0 36 = fI u 0 36 ∧ fI v 0 37 = fI u 0 37 ∧ fI v 0 42 = fI u 0 42 ∧ fI v 0 43 = fI u 0 43 ∧ fI v 0 45 = fI u 0 45 ∧ fI v 0 47 = fI u 0 47 ∧ fI v 0 48 = fI u 0 48 ∧ fI v 0 50 = fI u 0 50 ∧ fI v 0 61 = fI u 0 61 ∧ fI v 0 62 = fI u 0 62 ∧ fA v 1 = fA u 1 ∧ fA v 2 = fA u 2 ∧ fA v 3 = fA u 3 ∧ fA v 4 = fA u 4 ∧ fA v 5 = fA u 5 ∧ fA v 6 = fA u 6 ∧ fA v 8 = fA u 8 ∧ fA v 9 = fA u 9 ∧ fA v 10 = fA u 10 ∧ fA v 12 = fA u 12 ∧ fA v 13 = fA u 13 ∧ fA v 14 = fA u 14 ∧ fA v 15 = fA u 15 ∧ fA v 16 = fA u 16 ∧ fA v 17 = fA u 17 ∧ fJ v 20 = fJ u 20 ∧ fJ v 21 = fJ u 21 ∧ fJ v 22 = fJ u 22 ∧ fA v 27 = fA u 27 ∧ fA v 28 = fA u 28 ∧ fA v 29 = fA u 29 ∧ fA v 30 = fA u 30 ∧ fA v 31 = fA u 31 ∧ fA v 32 = fA u 32 ∧ fA v 33 = fA u 33 ∧ fA v 34 = fA u 34 ∧ fA v 35 = fA u 35 ∧ fA v 36 = fA u 36 ∧ fA v 37 = fA u 37 ∧ fA v 38 = fA u 38 ∧ fA v 39 = fA u 39 ∧ fA v 40 = fA u 40 ∧ fA v 41 = fA u 41 ∧ fA v 42 = fA u 42
theorem Km35.rf {u : St} : Km35 u u := ⟨rfl, rfl, rfl, rfl, rfl, rfl, rfl, rfl, rfl, rfl, rfl, rfl, rfl, rfl, rfl, rfl, rfl, rfl, rfl, rfl, rfl, rfl, rfl, rfl, rfl, rfl, rfl, rfl, rfl, rfl, rfl, rfl, rfl, rfl, rfl, rfl, rfl, rfl, rfl, rfl, rfl, rfl, rfl, rfl, rfl, rfl⟩
theorem Km35.tr {u v w : St} (h1 : Km35 u v) (h2 : Km35 v w) : Km35 u w := ⟨(h2.1).trans h1.1, (h2.2.1).trans h1.2.1, (h2.2.2.1).trans h1.2.2.1, (h2.2.2.2.1).trans h1.2.2.2.1, (h2.2.2.2.2.1).trans h1.2.2.2.2.1, (h2.2.2.2.2.2.1).trans h1.2.2.2.2.2.1, (h2.2.2.2.2.2.2.1).trans h1.2.2.2.2.2.2.1, (h2.2.2.2.2.2.2.2.1).trans h1.2.2.2.2.2.2.2.1, (h2.2.2.2.2.2.2.2.2.1).trans h1.2.2.2.2.2.2.2.2.1, (h2.2.2.2.2.2.2.2.2.2.1).trans h1.2.2.2.2.2.2.2.2.2.1, (h2.2.2.2.2.2.2.2.2.2.2.1).trans h1.2.2.2.2.2.2.2.2.2.2.1, (h2.2.2.2.2.2.2.2.2.2.2.2.1).trans h1.2.2.2.2.2.2.2.2.2.2.2.1, (h2.2.2.2.2.2.2.2.2.2.2.2.2.1).trans h1.2.2.2.2.2.2.2.2.2.2.2.2.1, (h2.2.2.2.2.2.2.2.2.2.2.2.2.2.1).trans h1.2.2.2.2.2.2.2.2.2.2.2.2.2.1, (h2.2.2.2.2.2.2.2.2.2.2.2.2.2.2.1).trans h1.2.2.2.2.2.2.2.2.2.2.2.2.2.2.1, (h2.2.2.2.2.2.2.2.2.2.2.2.2.2.2.2.1).trans h1.2.2.2.2.2.2.2.2.2.2.2.2.2.2.2.1, (h2.2.2.2.2.2.2.2.2.2.2.2.2.2.2.2.2.1).trans h1.2.2.2.2.2.2.2.2.2.2.2.2.2.2.2.2.1, (h2.2.2.2.2.2.2.2.2.2.2.2.2.2.2.2.2.2.1).trans h1.2.2.2.2.2.2.2.2.2.2.2.2.2.2.2.2.2.1, (h2.2.2.2.2.2.2.2.2.2.2.2.2.2.2.2.2.2.2.1).trans h1.2.2.2.2.2.2.2.2.2.2.2.2.2.2.2.2.2.2.1, (h2.2.2.2.2.2.2.2.2.2.2.2.2.2.2.2.2.2.2.2.1).trans h1.2.2.2.2.2.2.2.2.2.2.2.2.2.2.2.2.2.2.2.1, (h2.2.2.2.2.2.2.2.2.2.2.2.2.2.2.2.2.2.2.2.2.1).trans h1.2.2.2.2.2.2.2.2.2.2.2.2.2.2.2.2.2.2.2.2.1, (h2.2.2.2.2.2.2.2.2.2.2.2.2.2.2.2.2.2.2.2.2.2.1).trans h1.2.2.2.2.2.2.2.2.2.2.2.2.2.2.2.2.2.2.2.2.2.1, (h2.2.2.2.2.2.2.2.2.2.2.2.2.2.2.2.2.2.2.2.2.2.2.1).trans h1.2.2.2.2.2.2.2.2.2.2.2.2.2.2.2.2.2.2.2.2.2.2.1, (h2.2.2.2.2.2.2.2.2.2.2.2.2.2.2.2.2.2.2.2.2.2.2.2.1).trans h1.2.2.2.2.2.2.2.2.2.2.2.2.2.2.2.2.2.2.2.2.2.2.2.1, (h2.2.2.2.2.2.2.2.2.2.2.2.2.2.2.2.2.2.2.2.2.2.2.2.2.1).trans h1.2.2.2.2.2.2.2.2.2.2.2.2.2.2.2.2.2.2.2.2.2.2.2.2.1, (h2.2.2.2.2.2.2.2.2.2.2.2.2.2.2.2.2.2.2.2.2.2.2.2.2.2.1).trans h1.2.2.2.2.2.2.2.2.2.2.2.2.2.2.2.2.2.2.2.2.2.2.2.2.2.1, (h2.2.2.2.2.2.2.2.2.2.2.2.2.2.2.2.2.2.2.2.2.2.2.2.2.2.2.1).trans h1.2.2.2.2.2.2.2.2.2.2.2.2.2.2.2.2.2.2.2.2.2.2.2.2.2.2.1, (h2.2.2.2.2.2.2.2.2.2.2.2.2.2.2.2.2.2.2.2.2.2.2.2.2.2.2.2.1).trans h1.2.2.2.2.2.2.2.2.2.2.2.2.2.2.2.2.2.2.2.2.2.2.2.2.2.2.2.1, (h2.2.2.2.2.2.2.2.2.2.2.2.2.2.2.2.2.2.2.2.2.2.2.2.2.2.2.2.2.1).trans h1.2.2.2.2.2.2.2.2.2.2.2.2.2.2.2.2.2.2.2.2.2.2.2.2.2.2.2.2.1, (h2.2.2.2.2.2.2.2.2.2.2.2.2.2.2.2.2.2.2.2.2.2.2.2.2.2.2.2.2.2.1).trans h1.2.2.2.2.2.2.2.2.2.2.2.2.2.2.2.2.2.2.2.2.2.2.2.2.2.2.2.2.2.1, (h2.2.2.2.2.2.2.2.2.2.2.2.2.2.2.2.2.2.2.2.2.2.2.2.2.2.2.2.2.2.2.1).trans h1.2.2.2.2.2.2.2.2.2.2.2.2.2.2.2.2.2.2.2.2.2.2.2.2.2.2.2.2.2.2.1, (h2.2.2.2.2.2.2.2.2.2.2.2.2.2.2.2.2.2.2.2.2.2.2.2.2.2.2.2.2.2.2.2.1).trans h1.2.2.2.2.2.2.2.2.2.2.2.2.2.2.2.2.2.2.2.2.2.2.2.2.2.2.2.2.2.2.2.1, (h2.2.2.2.2.2.2.2.2.2.2.2.2.2.2.2.2.2.2.2.2.2.2.2.2.2.2.2.2.2.2.2.2.1).trans h1.2.2.2.2.2.2.2.2.2.2.2.2.2.2.2.2.2.2.2.2.2.2.2.2.2.2.2.2.2.2.2.2.1, (h2.2.2.2.2.2.2.2.2.2.2.2.2.2.2.2.2.2.2.2.2.2.2.2.2.2.2.2.2.2.2.2.2.2.1).trans h1.2.2.2.2.2.2.2.2.2.2.2.2.2.2.2.2.2.2.2.2.2.2.2.2.2.2.2.2.2.2.2.2.2.1, (h2.2.2.2.2.2.2.2.2.2.2.2.2.2.2.2.2.2.2.2.2.2.2.2.2.2.2.2.2.2.2.2.2.2.2.1).trans h1.2.2.2.2.2.2.2.2.2.2.2.2.2.2.2.2.2.2.2.2.2.2.2.2.2.2.2.2.2.2.2.2.2.2.1, (h2.2.2.2.2.2.2.2.2.2.2.2.2.2.2.2.2.2.2.2.2.2.2.2.2.2.2.2.2.2.2.2.2.2.2.2.1).trans h1.2.2.2.2.2.2.2.2.2.2.2.2.2.2.2.2.2.2.2.2.2.2.2.2.2.2.2.2.2.2.2.2.2.2.2.1, (h2.2.2.2.2.2.2.2.2.2.2.2.2.2.2.2.2.2.2.2.2.2.2.2.2.2.2.2.2.2.2.2.2.2.2.2.2.1).trans h1.2.2.2.2.2.2.2.2.2.2.2.2.2.2.2.2.2.2.2.2.2.2.2.2.2.2.2.2.2.2.2.2.2.2.2.2.1, (h2.2.2.2.2.2.2.2.2.2.2.2.2.2.2.2.2.2.2.2.2.2.2.2.2.2.2.2.2.2.2.2.2.2.2.2.2.2.1).trans h1.2.2.2.2.2.2.2.2.2.2.2.2.2.2.2.2.2.2.2.2.2.2.2.2.2.2.2.2.2.2.2.2.2.2.2.2.2.1, (h2.2.2.2.2.2.2.2.2.2.2.2.2.2.2.2.2.2.2.2.2.2.2.2.2.2.2.2.2.2.2.2.2.2.2.2.2.2.2.1).trans h1.2.2.2.2.2.2.2.2.2.2.2.2.2.2.2.2.2.2.2.2.2.2.2.2.2.2.2.2.2.2.2.2.2.2.2.2.2.2.1, (h2.2.2.2.2.2.2.2.2.2.2.2.2.2.2.2.2.2.2.2.2.2.2.2.2.2.2.2.2.2.2.2.2.2.2.2.2.2.2.2.1).trans h1.2.2.2.2.2.2.2.2.2.2.2.2.2.2.2.2.2.2.2.2.2.2.2.2.2.2.2.2.2.2.2.2.2.2.2.2.2.2.2.1, (h2.2.2.2.2.2.2.2.2.2.2.2.2.2.2.2.2.2.2.2.2.2.2.2.2.2.2.2.2.2.2.2.2.2.2.2.2.2.2.2.2.1).trans h1.2.2.2.2.2.2.2.2.2.2.2.2.2.2.2.2.2.2.2.2.2.2.2.2.2.2.2.2.2.2.2.2.2.2.2.2.2.2.2.2.1, (h2.2.2.2.2.2.2.2.2.2.2.2.2.2.2.2.2.2.2.2.2.2.2.2.2.2.2.2.2.2.2.2.2.2.2.2.2.2.2.2.2.2.1).trans h1.2.2.2.2.2.2.2.2.2.2.2.2.2.2.2.2.2.2.2.2.2.2.2.2.2.2.2.2.2.2.2.2.2.2.2.2.2.2.2.2.2.1, (h2.2.2.2.2.2.2.2.2.2.2.2.2.2.2.2.2.2.2.2.2.2.2.2.2.2.2.2.2.2.2.2.2.2.2.2.2.2.2.2.2.2.2.1).trans h1.2.2.2.2.2.2.2.2.2.2.2.2.2.2.2.2.2.2.2.2.2.2.2.2.2.2.2.2.2.2.2.2.2.2.2.2.2.2.2.2.2.2.1, (h2.2.2.2.2.2.2.2.2.2.2.2.2.2.2.2.2.2.2.2.2.2.2.2.2.2.2.2.2.2.2.2.2.2.2.2.2.2.2.2.2.2.2.2.1).trans h1.2.2.2.2.2.2.2.2.2.2.2.2.2.2.2.2.2.2.2.2.2.2.2.2.2.2.2.2.2.2.2.2.2.2.2.2.2.2.2.2.2.2.2.1, (h2.2.2.2.2.2.2.2.2.2.2.2.2.2.2.2.2.2.2.2.2.2.2.2.2.2.2.2.2.2.2.2.2.2.2.2.2.2.2.2.2.2.2.2.2.1).trans h1.2.2.2.2.2.2.2.2.2.2.2.2.2.2.2.2.2.2.2.2.2.2.2.2.2.2.2.2.2.2.2.2.2.2.2.2.2.2.2.2.2.2.2.2.1, (h2.2.2.2.2.2.2.2.2.2.2.2.2.2.2.2.2.2.2.2.2.2.2.2.2.2.2.2.2.2.2.2.2.2.2.2.2.2.2.2.2.2.2.2.2.2).trans h1.2.2.2.2.2.2.2.2.2.2.2.2.2.2.2.2.2.2.2.2.2.2.2.2.2.2.2.2.2.2.2.2.2.2.2.2.2.2.2.2.2.2.2.2.2⟩
theorem dX11_readRule_0 : decode cX11_readRule 0 = .ok (.aload_n 0, 1) := by decide +kernel
theorem dX11_readRule_1 : decode cX11_readRule 1 = .ok (.getfield 45, 3) := by decide +kernel
theorem dX11_readRule_4 : decode cX11_readRule 4 = .ok (.aload_n 0, 1) := by decide +kernel
theorem dX11_readRule_5 : decode cX11_readRule 5 = .ok (.getfield 246, 3) := by decide +kernel
theorem dX11_readRule_8 : decode cX11_readRule 8 = .ok (.dup2, 1) := by decide +kernel
theorem dX11_readRule_9 : decode cX11_readRule 9 = .ok (.iaload, 1) := by decide +kernel
theorem dX11_readRule_10 : decode cX11_readRule 10 = .ok (.iconst 1, 1) := by decide +kernel
theorem dX11_readRule_11 : decode cX11_readRule 11 = .ok (.ior, 1) := by decide +kernel
theorem dX11_readRule_12 : decode cX11_readRule 12 = .ok (.iastore, 1) := by decide +kernel
theorem dX11_readRule_13 : decode cX11_readRule 13 = .ok (.aload_n 0, 1) := by decide +kernel
theorem dX11_readRule_14 : decode cX11_readRule 14 = .ok (.iconst 0, 1) := by decide +kernel
theorem dX11_readRule_15 : decode cX11_readRule 15 = .ok (.putfield 319, 3) := by decide +kernel
theorem dX11_readRule_18 : decode cX11_readRule 18 = .ok (.aload_n 0, 1) := by decide +kernel
theorem dX11_readRule_19 : decode cX11_readRule 19 = .ok (.getfield 66, 3) := by decide +kernel
theorem dX11_readRule_22 : decode cX11_readRule 22 = .ok (.aload_n 0, 1) := by decide +kernel
theorem dX11_readRule_23 : decode cX11_readRule 23 = .ok (.getfield 246, 3) := by decide +kernel
theorem dX11_readRule_26 : decode cX11_readRule 26 = .ok (.aload_n 0, 1) := by decide +kernel
theorem dX11_readRule_27 : decode cX11_readRule 27 = .ok (.getfield 249, 3) := by decide +kernel
theorem dX11_readRule_30 : decode cX11_readRule 30 = .ok (.iastore, 1) := by decide +kernel
theorem dX11_readRule_31 : decode cX11_readRule 31 = .ok (.aload_n 0, 1) := by decide +kernel
theorem dX11_readRule_32 : decode cX11_readRule 32 = .ok (.invokevirtual 322, 3) := by decide +kernel
theorem dX11_readRule_35 : decode cX11_readRule 35 = .ok (.aload_n 0, 1) := by decide +kernel
theorem dX11_readRule_36 : decode cX11_readRule 36 = .ok (.getfield 69, 3) := by decide +kernel
theorem dX11_readRule_39 : decode cX11_readRule 39 = .ok (.aload_n 0, 1) := by decide +kernel
theorem dX11_readRule_40 : decode cX11_readRule 40 = .ok (.getfield 246, 3) := by decide +kernel
theorem dX11_readRule_43 : decode cX11_readRule 43 = .ok (.aload_n 0, 1) := by decide +kernel
theorem dX11_readRule_44 : decode cX11_readRule 44 = .ok (.getfield 249, 3) := by decide +kernel
theorem dX11_readRule_47 : decode cX11_readRule 47 = .ok (.iastore, 1) := by decide +kernel
theorem dX11_readRule_48 : decode cX11_readRule 48 = .ok (.return_, 1) := by decide +kernel
theorem wd_1669 : (Cond.code ⟨"WebCourtModel", "readRule", "()V"⟩ prog_13_method_28_code (1 : Nat) (Option.none : Option FieldType)) ∈ gtb := gtb_c7 120 (by decide +kernel) rfl
theorem Km35_wA11 {u v : St} {D : va_G} {A : Nat → Prop} {cy : Nat → ClassId} {a : Nat → Nat} {hp H : Heap} {locs : List Loc} {f : Nat → Int32} (_ : Wo D A (mW cy a (sA v 11 f)) hp H locs) (h : Km35 u v) : Km35 u (sA v 11 f) := ⟨h.1, h.2.1, h.2.2.1, h.2.2.2.1, h.2.2.2.2.1, h.2.2.2.2.2.1, h.2.2.2.2.2.2.1, h.2.2.2.2.2.2.2.1, h.2.2.2.2.2.2.2.2.1, h.2.2.2.2.2.2.2.2.2.1, h.2.2.2.2.2.2.2.2.2.2.1, h.2.2.2.2.2.2.2.2.2.2.2.1, h.2.2.2.2.2.2.2.2.2.2.2.2.1, h.2.2.2.2.2.2.2.2.2.2.2.2.2.1, h.2.2.2.2.2.2.2.2.2.2.2.2.2.2.1, h.2.2.2.2.2.2.2.2.2.2.2.2.2.2.2.1, h.2.2.2.2.2.2.2.2.2.2.2.2.2.2.2.2.1, h.2.2.2.2.2.2.2.2.2.2.2.2.2.2.2.2.2.1, h.2.2.2.2.2.2.2.2.2.2.2.2.2.2.2.2.2.2.1, h.2.2.2.2.2.2.2.2.2.2.2.2.2.2.2.2.2.2.2.1, h.2.2.2.2.2.2.2.2.2.2.2.2.2.2.2.2.2.2.2.2.1, h.2.2.2.2.2.2.2.2.2.2.2.2.2.2.2.2.2.2.2.2.2.1, h.2.2.2.2.2.2.2.2.2.2.2.2.2.2.2.2.2.2.2.2.2.2.1, h.2.2.2.2.2.2.2.2.2.2.2.2.2.2.2.2.2.2.2.2.2.2.2.1, h.2.2.2.2.2.2.2.2.2.2.2.2.2.2.2.2.2.2.2.2.2.2.2.2.1, h.2.2.2.2.2.2.2.2.2.2.2.2.2.2.2.2.2.2.2.2.2.2.2.2.2.1, h.2.2.2.2.2.2.2.2.2.2.2.2.2.2.2.2.2.2.2.2.2.2.2.2.2.2.1, h.2.2.2.2.2.2.2.2.2.2.2.2.2.2.2.2.2.2.2.2.2.2.2.2.2.2.2.1, h.2.2.2.2.2.2.2.2.2.2.2.2.2.2.2.2.2.2.2.2.2.2.2.2.2.2.2.2.1, h.2.2.2.2.2.2.2.2.2.2.2.2.2.2.2.2.2.2.2.2.2.2.2.2.2.2.2.2.2.1, h.2.2.2.2.2.2.2.2.2.2.2.2.2.2.2.2.2.2.2.2.2.2.2.2.2.2.2.2.2.2.1, h.2.2.2.2.2.2.2.2.2.2.2.2.2.2.2.2.2.2.2.2.2.2.2.2.2.2.2.2.2.2.2.1, h.2.2.2.2.2.2.2.2.2.2.2.2.2.2.2.2.2.2.2.2.2.2.2.2.2.2.2.2.2.2.2.2.1, h.2.2.2.2.2.2.2.2.2.2.2.2.2.2.2.2.2.2.2.2.2.2.2.2.2.2.2.2.2.2.2.2.2.1, h.2.2.2.2.2.2.2.2.2.2.2.2.2.2.2.2.2.2.2.2.2.2.2.2.2.2.2.2.2.2.2.2.2.2.1, h.2.2.2.2.2.2.2.2.2.2.2.2.2.2.2.2.2.2.2.2.2.2.2.2.2.2.2.2.2.2.2.2.2.2.2.1, h.2.2.2.2.2.2.2.2.2.2.2.2.2.2.2.2.2.2.2.2.2.2.2.2.2.2.2.2.2.2.2.2.2.2.2.2.1, h.2.2.2.2.2.2.2.2.2.2.2.2.2.2.2.2.2.2.2.2.2.2.2.2.2.2.2.2.2.2.2.2.2.2.2.2.2.1, h.2.2.2.2.2.2.2.2.2.2.2.2.2.2.2.2.2.2.2.2.2.2.2.2.2.2.2.2.2.2.2.2.2.2.2.2.2.2.1, h.2.2.2.2.2.2.2.2.2.2.2.2.2.2.2.2.2.2.2.2.2.2.2.2.2.2.2.2.2.2.2.2.2.2.2.2.2.2.2.1, h.2.2.2.2.2.2.2.2.2.2.2.2.2.2.2.2.2.2.2.2.2.2.2.2.2.2.2.2.2.2.2.2.2.2.2.2.2.2.2.2.1, h.2.2.2.2.2.2.2.2.2.2.2.2.2.2.2.2.2.2.2.2.2.2.2.2.2.2.2.2.2.2.2.2.2.2.2.2.2.2.2.2.2.1, h.2.2.2.2.2.2.2.2.2.2.2.2.2.2.2.2.2.2.2.2.2.2.2.2.2.2.2.2.2.2.2.2.2.2.2.2.2.2.2.2.2.2.1, h.2.2.2.2.2.2.2.2.2.2.2.2.2.2.2.2.2.2.2.2.2.2.2.2.2.2.2.2.2.2.2.2.2.2.2.2.2.2.2.2.2.2.2.1, h.2.2.2.2.2.2.2.2.2.2.2.2.2.2.2.2.2.2.2.2.2.2.2.2.2.2.2.2.2.2.2.2.2.2.2.2.2.2.2.2.2.2.2.2.1, h.2.2.2.2.2.2.2.2.2.2.2.2.2.2.2.2.2.2.2.2.2.2.2.2.2.2.2.2.2.2.2.2.2.2.2.2.2.2.2.2.2.2.2.2.2⟩
theorem Km35_wI41 {u v : St} {x : Int32} (h : Km35 u v) : Km35 u (sI v 0 41 x) := ⟨h.1, h.2.1, h.2.2.1, h.2.2.2.1, h.2.2.2.2.1, h.2.2.2.2.2.1, h.2.2.2.2.2.2.1, h.2.2.2.2.2.2.2.1, h.2.2.2.2.2.2.2.2.1, h.2.2.2.2.2.2.2.2.2.1, h.2.2.2.2.2.2.2.2.2.2.1, h.2.2.2.2.2.2.2.2.2.2.2.1, h.2.2.2.2.2.2.2.2.2.2.2.2.1, h.2.2.2.2.2.2.2.2.2.2.2.2.2.1, h.2.2.2.2.2.2.2.2.2.2.2.2.2.2.1, h.2.2.2.2.2.2.2.2.2.2.2.2.2.2.2.1, h.2.2.2.2.2.2.2.2.2.2.2.2.2.2.2.2.1, h.2.2.2.2.2.2.2.2.2.2.2.2.2.2.2.2.2.1, h.2.2.2.2.2.2.2.2.2.2.2.2.2.2.2.2.2.2.1, h.2.2.2.2.2.2.2.2.2.2.2.2.2.2.2.2.2.2.2.1, h.2.2.2.2.2.2.2.2.2.2.2.2.2.2.2.2.2.2.2.2.1, h.2.2.2.2.2.2.2.2.2.2.2.2.2.2.2.2.2.2.2.2.2.1, h.2.2.2.2.2.2.2.2.2.2.2.2.2.2.2.2.2.2.2.2.2.2.1, h.2.2.2.2.2.2.2.2.2.2.2.2.2.2.2.2.2.2.2.2.2.2.2.1, h.2.2.2.2.2.2.2.2.2.2.2.2.2.2.2.2.2.2.2.2.2.2.2.2.1, h.2.2.2.2.2.2.2.2.2.2.2.2.2.2.2.2.2.2.2.2.2.2.2.2.2.1, h.2.2.2.2.2.2.2.2.2.2.2.2.2.2.2.2.2.2.2.2.2.2.2.2.2.2.1, h.2.2.2.2.2.2.2.2.2.2.2.2.2.2.2.2.2.2.2.2.2.2.2.2.2.2.2.1, h.2.2.2.2.2.2.2.2.2.2.2.2.2.2.2.2.2.2.2.2.2.2.2.2.2.2.2.2.1, h.2.2.2.2.2.2.2.2.2.2.2.2.2.2.2.2.2.2.2.2.2.2.2.2.2.2.2.2.2.1, h.2.2.2.2.2.2.2.2.2.2.2.2.2.2.2.2.2.2.2.2.2.2.2.2.2.2.2.2.2.2.1, h.2.2.2.2.2.2.2.2.2.2.2.2.2.2.2.2.2.2.2.2.2.2.2.2.2.2.2.2.2.2.2.1, h.2.2.2.2.2.2.2.2.2.2.2.2.2.2.2.2.2.2.2.2.2.2.2.2.2.2.2.2.2.2.2.2.1, h.2.2.2.2.2.2.2.2.2.2.2.2.2.2.2.2.2.2.2.2.2.2.2.2.2.2.2.2.2.2.2.2.2.1, h.2.2.2.2.2.2.2.2.2.2.2.2.2.2.2.2.2.2.2.2.2.2.2.2.2.2.2.2.2.2.2.2.2.2.1, h.2.2.2.2.2.2.2.2.2.2.2.2.2.2.2.2.2.2.2.2.2.2.2.2.2.2.2.2.2.2.2.2.2.2.2.1, h.2.2.2.2.2.2.2.2.2.2.2.2.2.2.2.2.2.2.2.2.2.2.2.2.2.2.2.2.2.2.2.2.2.2.2.2.1, h.2.2.2.2.2.2.2.2.2.2.2.2.2.2.2.2.2.2.2.2.2.2.2.2.2.2.2.2.2.2.2.2.2.2.2.2.2.1, h.2.2.2.2.2.2.2.2.2.2.2.2.2.2.2.2.2.2.2.2.2.2.2.2.2.2.2.2.2.2.2.2.2.2.2.2.2.2.1, h.2.2.2.2.2.2.2.2.2.2.2.2.2.2.2.2.2.2.2.2.2.2.2.2.2.2.2.2.2.2.2.2.2.2.2.2.2.2.2.1, h.2.2.2.2.2.2.2.2.2.2.2.2.2.2.2.2.2.2.2.2.2.2.2.2.2.2.2.2.2.2.2.2.2.2.2.2.2.2.2.2.1, h.2.2.2.2.2.2.2.2.2.2.2.2.2.2.2.2.2.2.2.2.2.2.2.2.2.2.2.2.2.2.2.2.2.2.2.2.2.2.2.2.2.1, h.2.2.2.2.2.2.2.2.2.2.2.2.2.2.2.2.2.2.2.2.2.2.2.2.2.2.2.2.2.2.2.2.2.2.2.2.2.2.2.2.2.2.1, h.2.2.2.2.2.2.2.2.2.2.2.2.2.2.2.2.2.2.2.2.2.2.2.2.2.2.2.2.2.2.2.2.2.2.2.2.2.2.2.2.2.2.2.1, h.2.2.2.2.2.2.2.2.2.2.2.2.2.2.2.2.2.2.2.2.2.2.2.2.2.2.2.2.2.2.2.2.2.2.2.2.2.2.2.2.2.2.2.2.1, h.2.2.2.2.2.2.2.2.2.2.2.2.2.2.2.2.2.2.2.2.2.2.2.2.2.2.2.2.2.2.2.2.2.2.2.2.2.2.2.2.2.2.2.2.2⟩
theorem Km35_wA18 {u v : St} {D : va_G} {A : Nat → Prop} {cy : Nat → ClassId} {a : Nat → Nat} {hp H : Heap} {locs : List Loc} {f : Nat → Int32} (_ : Wo D A (mW cy a (sA v 18 f)) hp H locs) (h : Km35 u v) : Km35 u (sA v 18 f) := ⟨h.1, h.2.1, h.2.2.1, h.2.2.2.1, h.2.2.2.2.1, h.2.2.2.2.2.1, h.2.2.2.2.2.2.1, h.2.2.2.2.2.2.2.1, h.2.2.2.2.2.2.2.2.1, h.2.2.2.2.2.2.2.2.2.1, h.2.2.2.2.2.2.2.2.2.2.1, h.2.2.2.2.2.2.2.2.2.2.2.1, h.2.2.2.2.2.2.2.2.2.2.2.2.1, h.2.2.2.2.2.2.2.2.2.2.2.2.2.1, h.2.2.2.2.2.2.2.2.2.2.2.2.2.2.1, h.2.2.2.2.2.2.2.2.2.2.2.2.2.2.2.1, h.2.2.2.2.2.2.2.2.2.2.2.2.2.2.2.2.1, h.2.2.2.2.2.2.2.2.2.2.2.2.2.2.2.2.2.1, h.2.2.2.2.2.2.2.2.2.2.2.2.2.2.2.2.2.2.1, h.2.2.2.2.2.2.2.2.2.2.2.2.2.2.2.2.2.2.2.1, h.2.2.2.2.2.2.2.2.2.2.2.2.2.2.2.2.2.2.2.2.1, h.2.2.2.2.2.2.2.2.2.2.2.2.2.2.2.2.2.2.2.2.2.1, h.2.2.2.2.2.2.2.2.2.2.2.2.2.2.2.2.2.2.2.2.2.2.1, h.2.2.2.2.2.2.2.2.2.2.2.2.2.2.2.2.2.2.2.2.2.2.2.1, h.2.2.2.2.2.2.2.2.2.2.2.2.2.2.2.2.2.2.2.2.2.2.2.2.1, h.2.2.2.2.2.2.2.2.2.2.2.2.2.2.2.2.2.2.2.2.2.2.2.2.2.1, h.2.2.2.2.2.2.2.2.2.2.2.2.2.2.2.2.2.2.2.2.2.2.2.2.2.2.1, h.2.2.2.2.2.2.2.2.2.2.2.2.2.2.2.2.2.2.2.2.2.2.2.2.2.2.2.1, h.2.2.2.2.2.2.2.2.2.2.2.2.2.2.2.2.2.2.2.2.2.2.2.2.2.2.2.2.1, h.2.2.2.2.2.2.2.2.2.2.2.2.2.2.2.2.2.2.2.2.2.2.2.2.2.2.2.2.2.1, h.2.2.2.2.2.2.2.2.2.2.2.2.2.2.2.2.2.2.2.2.2.2.2.2.2.2.2.2.2.2.1, h.2.2.2.2.2.2.2.2.2.2.2.2.2.2.2.2.2.2.2.2.2.2.2.2.2.2.2.2.2.2.2.1, h.2.2.2.2.2.2.2.2.2.2.2.2.2.2.2.2.2.2.2.2.2.2.2.2.2.2.2.2.2.2.2.2.1, h.2.2.2.2.2.2.2.2.2.2.2.2.2.2.2.2.2.2.2.2.2.2.2.2.2.2.2.2.2.2.2.2.2.1, h.2.2.2.2.2.2.2.2.2.2.2.2.2.2.2.2.2.2.2.2.2.2.2.2.2.2.2.2.2.2.2.2.2.2.1, h.2.2.2.2.2.2.2.2.2.2.2.2.2.2.2.2.2.2.2.2.2.2.2.2.2.2.2.2.2.2.2.2.2.2.2.1, h.2.2.2.2.2.2.2.2.2.2.2.2.2.2.2.2.2.2.2.2.2.2.2.2.2.2.2.2.2.2.2.2.2.2.2.2.1, h.2.2.2.2.2.2.2.2.2.2.2.2.2.2.2.2.2.2.2.2.2.2.2.2.2.2.2.2.2.2.2.2.2.2.2.2.2.1, h.2.2.2.2.2.2.2.2.2.2.2.2.2.2.2.2.2.2.2.2.2.2.2.2.2.2.2.2.2.2.2.2.2.2.2.2.2.2.1, h.2.2.2.2.2.2.2.2.2.2.2.2.2.2.2.2.2.2.2.2.2.2.2.2.2.2.2.2.2.2.2.2.2.2.2.2.2.2.2.1, h.2.2.2.2.2.2.2.2.2.2.2.2.2.2.2.2.2.2.2.2.2.2.2.2.2.2.2.2.2.2.2.2.2.2.2.2.2.2.2.2.1, h.2.2.2.2.2.2.2.2.2.2.2.2.2.2.2.2.2.2.2.2.2.2.2.2.2.2.2.2.2.2.2.2.2.2.2.2.2.2.2.2.2.1, h.2.2.2.2.2.2.2.2.2.2.2.2.2.2.2.2.2.2.2.2.2.2.2.2.2.2.2.2.2.2.2.2.2.2.2.2.2.2.2.2.2.2.1, h.2.2.2.2.2.2.2.2.2.2.2.2.2.2.2.2.2.2.2.2.2.2.2.2.2.2.2.2.2.2.2.2.2.2.2.2.2.2.2.2.2.2.2.1, h.2.2.2.2.2.2.2.2.2.2.2.2.2.2.2.2.2.2.2.2.2.2.2.2.2.2.2.2.2.2.2.2.2.2.2.2.2.2.2.2.2.2.2.2.1, h.2.2.2.2.2.2.2.2.2.2.2.2.2.2.2.2.2.2.2.2.2.2.2.2.2.2.2.2.2.2.2.2.2.2.2.2.2.2.2.2.2.2.2.2.2⟩
theorem wd_1670 : (Cond.methodLink "WebCourtModel" (322 : Nat) ⟨"WebCourtModel", "e", "()V"⟩) ∈ gtb := gtb_c7 121 (by decide +kernel) rfl
theorem wd_1672 : (Cond.instanceMethod ⟨"WebCourtModel", "e", "()V"⟩) ∈ gtb := gtb_c7 123 (by decide +kernel) rfl
theorem wd_67 : (Cond.selects "WebCourtModel" ⟨"WebCourtModel", "e", "()V"⟩ ⟨"WebCourtModel", "e", "()V"⟩) ∈ gtb := gtb_p 67 (by decide +kernel) rfl
theorem hd_yX11_e : yX11_e.cls = RX11 ∧ yX11_e.cls ≠ "java/lang/invoke/MethodHandle" ∧ yX11_e.cls ≠ "java/lang/invoke/VarHandle" ∧ (parseMethodDescriptor yX11_e.desc).map (fun d => d.parameters.length) = some 0 := by decide +kernel
theorem Km33_to_Km35 {u v : St} (h : Km33 u v) : Km35 u v := ⟨h.1, h.2.1, h.2.2.1, h.2.2.2.1, h.2.2.2.2.1, h.2.2.2.2.2.1, h.2.2.2.2.2.2.1, h.2.2.2.2.2.2.2.1, h.2.2.2.2.2.2.2.2.1, h.2.2.2.2.2.2.2.2.2.1, h.2.2.2.2.2.2.2.2.2.2.1, h.2.2.2.2.2.2.2.2.2.2.2.1, h.2.2.2.2.2.2.2.2.2.2.2.2.1, h.2.2.2.2.2.2.2.2.2.2.2.2.2.1, h.2.2.2.2.2.2.2.2.2.2.2.2.2.2.1, h.2.2.2.2.2.2.2.2.2.2.2.2.2.2.2.1, h.2.2.2.2.2.2.2.2.2.2.2.2.2.2.2.2.1, h.2.2.2.2.2.2.2.2.2.2.2.2.2.2.2.2.2.1, h.2.2.2.2.2.2.2.2.2.2.2.2.2.2.2.2.2.2.1, h.2.2.2.2.2.2.2.2.2.2.2.2.2.2.2.2.2.2.2.1, h.2.2.2.2.2.2.2.2.2.2.2.2.2.2.2.2.2.2.2.2.1, h.2.2.2.2.2.2.2.2.2.2.2.2.2.2.2.2.2.2.2.2.2.2.1, h.2.2.2.2.2.2.2.2.2.2.2.2.2.2.2.2.2.2.2.2.2.2.2.1, h.2.2.2.2.2.2.2.2.2.2.2.2.2.2.2.2.2.2.2.2.2.2.2.2.1, h.2.2.2.2.2.2.2.2.2.2.2.2.2.2.2.2.2.2.2.2.2.2.2.2.2.1, h.2.2.2.2.2.2.2.2.2.2.2.2.2.2.2.2.2.2.2.2.2.2.2.2.2.2.1, h.2.2.2.2.2.2.2.2.2.2.2.2.2.2.2.2.2.2.2.2.2.2.2.2.2.2.2.1, h.2.2.2.2.2.2.2.2.2.2.2.2.2.2.2.2.2.2.2.2.2.2.2.2.2.2.2.2.2.2.1, h.2.2.2.2.2.2.2.2.2.2.2.2.2.2.2.2.2.2.2.2.2.2.2.2.2.2.2.2.2.2.2.1, h.2.2.2.2.2.2.2.2.2.2.2.2.2.2.2.2.2.2.2.2.2.2.2.2.2.2.2.2.2.2.2.2.1, h.2.2.2.2.2.2.2.2.2.2.2.2.2.2.2.2.2.2.2.2.2.2.2.2.2.2.2.2.2.2.2.2.2.1, h.2.2.2.2.2.2.2.2.2.2.2.2.2.2.2.2.2.2.2.2.2.2.2.2.2.2.2.2.2.2.2.2.2.2.1, h.2.2.2.2.2.2.2.2.2.2.2.2.2.2.2.2.2.2.2.2.2.2.2.2.2.2.2.2.2.2.2.2.2.2.2.1, h.2.2.2.2.2.2.2.2.2.2.2.2.2.2.2.2.2.2.2.2.2.2.2.2.2.2.2.2.2.2.2.2.2.2.2.2.1, h.2.2.2.2.2.2.2.2.2.2.2.2.2.2.2.2.2.2.2.2.2.2.2.2.2.2.2.2.2.2.2.2.2.2.2.2.2.1, h.2.2.2.2.2.2.2.2.2.2.2.2.2.2.2.2.2.2.2.2.2.2.2.2.2.2.2.2.2.2.2.2.2.2.2.2.2.2.1, h.2.2.2.2.2.2.2.2.2.2.2.2.2.2.2.2.2.2.2.2.2.2.2.2.2.2.2.2.2.2.2.2.2.2.2.2.2.2.2.1, h.2.2.2.2.2.2.2.2.2.2.2.2.2.2.2.2.2.2.2.2.2.2.2.2.2.2.2.2.2.2.2.2.2.2.2.2.2.2.2.2.1, h.2.2.2.2.2.2.2.2.2.2.2.2.2.2.2.2.2.2.2.2.2.2.2.2.2.2.2.2.2.2.2.2.2.2.2.2.2.2.2.2.2.1, h.2.2.2.2.2.2.2.2.2.2.2.2.2.2.2.2.2.2.2.2.2.2.2.2.2.2.2.2.2.2.2.2.2.2.2.2.2.2.2.2.2.2.1, h.2.2.2.2.2.2.2.2.2.2.2.2.2.2.2.2.2.2.2.2.2.2.2.2.2.2.2.2.2.2.2.2.2.2.2.2.2.2.2.2.2.2.2.1, h.2.2.2.2.2.2.2.2.2.2.2.2.2.2.2.2.2.2.2.2.2.2.2.2.2.2.2.2.2.2.2.2.2.2.2.2.2.2.2.2.2.2.2.2.1, h.2.2.2.2.2.2.2.2.2.2.2.2.2.2.2.2.2.2.2.2.2.2.2.2.2.2.2.2.2.2.2.2.2.2.2.2.2.2.2.2.2.2.2.2.2.1, h.2.2.2.2.2.2.2.2.2.2.2.2.2.2.2.2.2.2.2.2.2.2.2.2.2.2.2.2.2.2.2.2.2.2.2.2.2.2.2.2.2.2.2.2.2.2.1, h.2.2.2.2.2.2.2.2.2.2.2.2.2.2.2.2.2.2.2.2.2.2.2.2.2.2.2.2.2.2.2.2.2.2.2.2.2.2.2.2.2.2.2.2.2.2.2.1, h.2.2.2.2.2.2.2.2.2.2.2.2.2.2.2.2.2.2.2.2.2.2.2.2.2.2.2.2.2.2.2.2.2.2.2.2.2.2.2.2.2.2.2.2.2.2.2.2⟩
theorem Km35_I3 {u v : St} (h : Km35 u v) : fI v 0 3 = fI u 0 3 := h.2.1
theorem Km35_I37 {u v : St} (h : Km35 u v) : fI v 0 37 = fI u 0 37 := h.2.2.2.1
theorem Km35_wA19 {u v : St} {D : va_G} {A : Nat → Prop} {cy : Nat → ClassId} {a : Nat → Nat} {hp H : Heap} {locs : List Loc} {f : Nat → Int32} (_ : Wo D A (mW cy a (sA v 19 f)) hp H locs) (h : Km35 u v) : Km35 u (sA v 19 f) := ⟨h.1, h.2.1, h.2.2.1, h.2.2.2.1, h.2.2.2.2.1, h.2.2.2.2.2.1, h.2.2.2.2.2.2.1, h.2.2.2.2.2.2.2.1, h.2.2.2.2.2.2.2.2.1, h.2.2.2.2.2.2.2.2.2.1, h.2.2.2.2.2.2.2.2.2.2.1, h.2.2.2.2.2.2.2.2.2.2.2.1, h.2.2.2.2.2.2.2.2.2.2.2.2.1, h.2.2.2.2.2.2.2.2.2.2.2.2.2.1, h.2.2.2.2.2.2.2.2.2.2.2.2.2.2.1, h.2.2.2.2.2.2.2.2.2.2.2.2.2.2.2.1, h.2.2.2.2.2.2.2.2.2.2.2.2.2.2.2.2.1, h.2.2.2.2.2.2.2.2.2.2.2.2.2.2.2.2.2.1, h.2.2.2.2.2.2.2.2.2.2.2.2.2.2.2.2.2.2.1, h.2.2.2.2.2.2.2.2.2.2.2.2.2.2.2.2.2.2.2.1, h.2.2.2.2.2.2.2.2.2.2.2.2.2.2.2.2.2.2.2.2.1, h.2.2.2.2.2.2.2.2.2.2.2.2.2.2.2.2.2.2.2.2.2.1, h.2.2.2.2.2.2.2.2.2.2.2.2.2.2.2.2.2.2.2.2.2.2.1, h.2.2.2.2.2.2.2.2.2.2.2.2.2.2.2.2.2.2.2.2.2.2.2.1, h.2.2.2.2.2.2.2.2.2.2.2.2.2.2.2.2.2.2.2.2.2.2.2.2.1, h.2.2.2.2.2.2.2.2.2.2.2.2.2.2.2.2.2.2.2.2.2.2.2.2.2.1, h.2.2.2.2.2.2.2.2.2.2.2.2.2.2.2.2.2.2.2.2.2.2.2.2.2.2.1, h.2.2.2.2.2.2.2.2.2.2.2.2.2.2.2.2.2.2.2.2.2.2.2.2.2.2.2.1, h.2.2.2.2.2.2.2.2.2.2.2.2.2.2.2.2.2.2.2.2.2.2.2.2.2.2.2.2.1, h.2.2.2.2.2.2.2.2.2.2.2.2.2.2.2.2.2.2.2.2.2.2.2.2.2.2.2.2.2.1, h.2.2.2.2.2.2.2.2.2.2.2.2.2.2.2.2.2.2.2.2.2.2.2.2.2.2.2.2.2.2.1, h.2.2.2.2.2.2.2.2.2.2.2.2.2.2.2.2.2.2.2.2.2.2.2.2.2.2.2.2.2.2.2.1, h.2.2.2.2.2.2.2.2.2.2.2.2.2.2.2.2.2.2.2.2.2.2.2.2.2.2.2.2.2.2.2.2.1, h.2.2.2.2.2.2.2.2.2.2.2.2.2.2.2.2.2.2.2.2.2.2.2.2.2.2.2.2.2.2.2.2.2.1, h.2.2.2.2.2.2.2.2.2.2.2.2.2.2.2.2.2.2.2.2.2.2.2.2.2.2.2.2.2.2.2.2.2.2.1, h.2.2.2.2.2.2.2.2.2.2.2.2.2.2.2.2.2.2.2.2.2.2.2.2.2.2.2.2.2.2.2.2.2.2.2.1, h.2.2.2.2.2.2.2.2.2.2.2.2.2.2.2.2.2.2.2.2.2.2.2.2.2.2.2.2.2.2.2.2.2.2.2.2.1, h.2.2.2.2.2.2.2.2.2.2.2.2.2.2.2.2.2.2.2.2.2.2.2.2.2.2.2.2.2.2.2.2.2.2.2.2.2.1, h.2.2.2.2.2.2.2.2.2.2.2.2.2.2.2.2.2.2.2.2.2.2.2.2.2.2.2.2.2.2.2.2.2.2.2.2.2.2.1, h.2.2.2.2.2.2.2.2.2.2.2.2.2.2.2.2.2.2.2.2.2.2.2.2.2.2.2.2.2.2.2.2.2.2.2.2.2.2.2.1, h.2.2.2.2.2.2.2.2.2.2.2.2.2.2.2.2.2.2.2.2.2.2.2.2.2.2.2.2.2.2.2.2.2.2.2.2.2.2.2.2.1, h.2.2.2.2.2.2.2.2.2.2.2.2.2.2.2.2.2.2.2.2.2.2.2.2.2.2.2.2.2.2.2.2.2.2.2.2.2.2.2.2.2.1, h.2.2.2.2.2.2.2.2.2.2.2.2.2.2.2.2.2.2.2.2.2.2.2.2.2.2.2.2.2.2.2.2.2.2.2.2.2.2.2.2.2.2.1, h.2.2.2.2.2.2.2.2.2.2.2.2.2.2.2.2.2.2.2.2.2.2.2.2.2.2.2.2.2.2.2.2.2.2.2.2.2.2.2.2.2.2.2.1, h.2.2.2.2.2.2.2.2.2.2.2.2.2.2.2.2.2.2.2.2.2.2.2.2.2.2.2.2.2.2.2.2.2.2.2.2.2.2.2.2.2.2.2.2.1, h.2.2.2.2.2.2.2.2.2.2.2.2.2.2.2.2.2.2.2.2.2.2.2.2.2.2.2.2.2.2.2.2.2.2.2.2.2.2.2.2.2.2.2.2.2⟩
theorem Km35_I36 {u v : St} (h : Km35 u v) : fI v 0 36 = fI u 0 36 := h.2.2.1
theorem Km33_A18 {u v : St} (h : Km33 u v) : fA v 18 = fA u 18 := h.2.2.2.2.2.2.2.2.2.2.2.2.2.2.2.2.2.2.2.2.2.2.2.2.2.2.2.2.1
theorem Km33_A11 {u v : St} (h : Km33 u v) : fA v 11 = fA u 11 := h.2.2.2.2.2.2.2.2.2.2.2.2.2.2.2.2.2.2.2.2.2.1
set_option maxHeartbeats 4000000 in
set_option maxRecDepth 100000 in
theorem T_X11_readRule (l : Launch) (D : va_G) (cy : Nat → ClassId) (a : Nat → Nat) (u : St) (hJ : MI a u) (hp0 : (fI u 0 7).toInt ≤ (fI u 0 3).toInt) (hp1 : (fI u 0 6).toInt ≤ (fI u 0 7).toInt) (hp2 : (fI u 0 8).toInt = 0 ∨ (fI u 0 6).toInt < (fI u 0 7).toInt) (hp3 : (fI u 0 4).toInt = 0) (hp4 : (fI u 0 36).toInt + (fI u 0 37).toInt = 1) (hp5 : (fI u 0 38).toInt = 560 * (fI u 0 37).toInt)   : Mv l D cy (mW cy a) yX11_readRule (.code yX11_readRule cX11_readRule 1 none) (rmo 5 107) [.ref (a 0)] u (fun (u' : St) => (MI a u') ∧ (Km35 u u') ∧ ((fI u' 0 7).toInt ≤ (fI u' 0 3).toInt) ∧ ((fI u' 0 6).toInt ≤ (fI u' 0 7).toInt) ∧ ((fI u' 0 8).toInt = 0 ∨ (fI u' 0 6).toInt < (fI u' 0 7).toInt) ∧ ((fI u 0 6).toInt ≤ (fI u' 0 6).toInt) ∧ (¬ (fI u' 0 4).toInt = 0 ∨ LawOk u' (fI u 0 37)) ∧ (bitF (fA u' 11 (fI u 0 37).toNatClampNeg) 0 = 1)) := by
  refine Mv.of (own := RX11) rfl (by decide) (Nat.le_of_ble_eq_true rfl) ?_
  have hT : Km35 u u := Km35.rf
  have hJ0 := hJ
  intro p e s m below meth c A Q ls C hret hO hl
  obtain ⟨hx, hb, hml, hown, ht, hK, hA⟩ := id C
  have hl : lv_has ls 1 [(0, .ref (a 0))] := hl
  have g1 : 0 ≤ (fI u 0 3).toInt ∧ (fI u 0 3).toInt ≤ 1600 := by have h := MI_3 hJ0; exact h
  have g2 : 0 ≤ (fI u 0 4).toInt ∧ (fI u 0 4).toInt ≤ 5 := by have h := MI_4 hJ0; exact h
  have g3 : 0 ≤ (fI u 0 6).toInt ∧ (fI u 0 6).toInt ≤ 1600 := by have h := MI_6 hJ0; exact h
  have g4 : 0 ≤ (fI u 0 7).toInt ∧ (fI u 0 7).toInt ≤ 1601 := by have h := MI_7 hJ0; exact h
  have g5 : 0 ≤ (fI u 0 8).toInt ∧ (fI u 0 8).toInt ≤ 5 := by have h := MI_8 hJ0; exact h
  have g6 : 0 ≤ (fI u 0 36).toInt ∧ (fI u 0 36).toInt ≤ 1 := by have h := MI_36 hJ0; exact h
  have g7 : 0 ≤ (fI u 0 37).toInt ∧ (fI u 0 37).toInt ≤ 1 := by have h := MI_37 hJ0; exact h
  refine lv_aload_n hx hb dX11_readRule_0 rfl (lv_at hl 0 rfl) ?_
  refine gf_RX11_45 (v := .ref (a 11)) C hO 0 mW_0 rfl dX11_readRule_1 ?_
  refine lv_aload_n hx hb dX11_readRule_4 rfl (lv_at hl 0 rfl) ?_
  refine gf_RX11_246 (v := .int (fI u 0 37)) C hO 0 mW_0 rfl dX11_readRule_5 ?_
  refine lv_dup2_11 hx hb dX11_readRule_8 rfl rfl ?_
  refine aI C hO 11 mW_11 (i_in (X := ((fI u 0 37)).toInt) rfl (by omega) (by omega)) dX11_readRule_9 ?_
  refine tE (y := (fA u 11 ((fI u 0 37)).toNatClampNeg)) (by exact rfl) ?_
  refine lv_iconst (v := 1) hx hb dX11_readRule_10 (by decide) ?_
  refine lv_ior hx hb dX11_readRule_11 ?_
  refine lv_topi (fun z8 ez8 => ?_)
  refine aIs C hO 11 mW_11 (i_in (X := ((fI u 0 37)).toInt) rfl (by omega) (by omega)) mW_s11 dX11_readRule_12 (fun H locs hO => ?_)
  have hT := Km35_wA11 hO hT
  have hJ := MIsA_11 hO hJ (rb_ne (b := fI u 0 36) (r := fI u 0 37) (by omega) (by omega) (by omega))
  refine lv_aload_n hx hb dX11_readRule_13 rfl (lv_at hl 0 rfl) ?_
  refine lv_iconst (v := 0) hx hb dX11_readRule_14 (by decide) ?_
  refine pf_RX11_319 C hO 0 mW_0 (Nat.le_of_ble_eq_true rfl) mW_s0_41 dX11_readRule_15 (fun H locs hO => ?_)
  have hT := Km35_wI41 (x := 0) hT
  have hJ := MIs_41 (v := 0) hJ
  refine lv_aload_n hx hb dX11_readRule_18 rfl (lv_at hl 0 rfl) ?_
  refine gf_RX11_66 (v := .ref (a 18)) C hO 0 mW_0 rfl dX11_readRule_19 ?_
  refine lv_aload_n hx hb dX11_readRule_22 rfl (lv_at hl 0 rfl) ?_
  refine gf_RX11_246 (v := .int (fI u 0 37)) C hO 0 mW_0 rfl dX11_readRule_23 ?_
  refine lv_aload_n hx hb dX11_readRule_26 rfl (lv_at hl 0 rfl) ?_
  refine gf_RX11_249 (v := .int (fI u 0 38)) C hO 0 mW_0 rfl dX11_readRule_27 ?_
  refine aIs C hO 18 mW_18 (i_in (X := ((fI u 0 37)).toInt) rfl (by omega) (by omega)) mW_s18 dX11_readRule_30 (fun H locs hO => ?_)
  have hT := Km35_wA18 hO hT
  have hJ := MIsA_18 hO hJ (rb_ne (b := fI u 0 36) (r := fI u 0 37) (by omega) (by omega) (by omega))
  refine lv_aload_n hx hb dX11_readRule_31 rfl (lv_at hl 0 rfl) ?_
  refine cVv (w := mW cy a) (As := []) (rest := []) C hO (T_X11_e l D cy a _ (by exact hJ) (by exact (show ((fI u 0 7) : Int32).toInt ≤ ((fI u 0 3) : Int32).toInt from by first | omega | decide)) (by exact (show ((fI u 0 6) : Int32).toInt ≤ ((fI u 0 7) : Int32).toInt from by first | omega | decide)) (by exact (show ((fI u 0 8) : Int32).toInt = 0 ∨ ((fI u 0 6) : Int32).toInt < ((fI u 0 7) : Int32).toInt from by first | omega | decide)) (by exact (show ((fI u 0 4) : Int32).toInt = 0 from by first | omega | decide)) (by exact (show ((fI u 0 36) : Int32).toInt + ((fI u 0 37) : Int32).toInt = 1 from by first | omega | decide)) (by exact (show ((fI u 0 38) : Int32).toInt = 560 * ((fI u 0 37) : Int32).toInt from by first | omega | decide)) (by exact (show (0 : Int32).toInt = 0 from by first | omega | decide))) (cwV 0 ht (gV wd_1670 wd_1672 wd_67 wd_121 wd_1673) rfl rfl rfl hd_yX11_e ⟨Nat.le_of_ble_eq_true rfl, Nat.le_of_ble_eq_true rfl⟩) 0 rfl mW_0 rfl rfl hl.1 (Nat.le_of_ble_eq_true rfl) dX11_readRule_32 rfl ⟨Nat.zero_le _, Nat.zero_le _⟩ (fun u10 H locs hp11 hO => ?_)
  obtain ⟨hJ, hTu10, hx0u10, hx1u10, hx2u10, hx3u10, hx4u10⟩ := hp11
  have hT : Km35 u u10 := Km35.tr (by exact hT) (Km33_to_Km35 hTu10)
  have g12 : 0 ≤ (fI u10 0 7).toInt ∧ (fI u10 0 7).toInt ≤ 1601 := by have h := MI_7 hJ; exact h
  have y0u10 : ((fI u10 0 7) : Int32).toInt ≤ ((fI u 0 3) : Int32).toInt := by have h := hx0u10; simp only [(Km35_I3 hT)] at h; exact h
  have g13 : 0 ≤ (fI u10 0 6).toInt ∧ (fI u10 0 6).toInt ≤ 1600 := by have h := MI_6 hJ; exact h
  have y1u10 : ((fI u10 0 6) : Int32).toInt ≤ ((fI u10 0 7) : Int32).toInt := by exact hx1u10
  have g14 : 0 ≤ (fI u10 0 8).toInt ∧ (fI u10 0 8).toInt ≤ 5 := by have h := MI_8 hJ; exact h
  have y2u10 : ((fI u10 0 8) : Int32).toInt = 0 ∨ ((fI u10 0 6) : Int32).toInt < ((fI u10 0 7) : Int32).toInt := by exact hx2u10
  have y3u10 : ((fI u 0 6) : Int32).toInt ≤ ((fI u10 0 6) : Int32).toInt := by exact hx3u10
  refine lv_aload_n hx hb dX11_readRule_35 rfl (lv_at hl 0 rfl) ?_
  refine gf_RX11_69 (v := .ref (a 19)) C hO 0 mW_0 rfl dX11_readRule_36 ?_
  refine lv_aload_n hx hb dX11_readRule_39 rfl (lv_at hl 0 rfl) ?_
  refine gf_RX11_246 (v := .int (fI u 0 37)) C hO 0 mW_0 (congrArg (fun z : Int32 => some (Value.int z)) (Km35_I37 hT)) dX11_readRule_40 ?_
  refine lv_aload_n hx hb dX11_readRule_43 rfl (lv_at hl 0 rfl) ?_
  refine gf_RX11_249 (v := .int (fI u10 0 38)) C hO 0 mW_0 rfl dX11_readRule_44 ?_
  refine aIs C hO 19 mW_19 (i_in (X := ((fI u 0 37)).toInt) rfl (by omega) (by omega)) mW_s19 dX11_readRule_47 (fun H locs hO => ?_)
  have hT := Km35_wA19 hO hT
  have hJ := MIsA_19 hO hJ (by rw [show fI _ 0 36 = fI u 0 36 from (Km35_I36 hT)]; exact (rb_ne (b := fI u 0 36) (r := fI u 0 37) (by omega) (by omega) (by omega)))
  have q15 : ((fI u10 0 7) : Int32).toInt ≤ ((fI u 0 3) : Int32).toInt := by first | omega | decide
  have q16 : ((fI u10 0 6) : Int32).toInt ≤ ((fI u10 0 7) : Int32).toInt := by first | omega | decide
  have q17 : ((fI u10 0 8) : Int32).toInt = 0 ∨ ((fI u10 0 6) : Int32).toInt < ((fI u10 0 7) : Int32).toInt := by first | omega | decide
  have q18 : ((fI u 0 6) : Int32).toInt ≤ ((fI u10 0 6) : Int32).toInt := by first | omega | decide
  refine hret _ _ _ _ _ dX11_readRule_48 ?_ hO
  exact ⟨hJ, hT, q15, q16, q17, q18, (by rcases hx4u10 with h | ⟨L, g1, g2, g3⟩; exact Or.inl h; exact Or.inr (law_new (L := L) (ue := u10) (u := u) (c := fI u 0 38) (by exact congrFun (Km33_A18 hTu10) _) (by omega) (by exact (Km35_I37 hT)) g1 g2 g3)), (by show bitF (fA u10 11 (fI u 0 37).toNatClampNeg) 0 = 1; rw [show fA u10 11 = upd (fA u 11) (fI u 0 37).toNatClampNeg z8 from (Km33_A11 hTu10), upd_at, ez8]; exact bit0_set)⟩
