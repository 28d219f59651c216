def Km38 (u v : St) : Prop := fI v 0 42 = fI u 0 42 ∧ fI v 0 43 = fI u 0 43 ∧ fI v 0 45 = fI u 0 45 ∧ fI v 0 62 = fI u 0 62 ∧ fA v 1 = fA u 1 ∧ fA v 27 = fA u 27 ∧ fA v 29 = fA u 29 ∧ fA v 30 = fA u 30 ∧ fA v 31 = fA u 31 ∧ fA v 32 = fA u 32 ∧ fA v 33 = fA u 33 ∧ fA v 34 = fA u 34 ∧ fA v 35 = fA u 35 ∧ fA v 36 = fA u 36 ∧ fA v 37 = fA u 37 ∧ fA v 38 = fA u 38 ∧ fA v 39 = fA u 39 ∧ fA v 40 = fA u 40 ∧ fA v 41 = fA u 41
theorem Km38.rf {u : St} : Km38 u u := ⟨rfl, rfl, rfl, rfl, rfl, rfl, rfl, rfl, rfl, rfl, rfl, rfl, rfl, rfl, rfl, rfl, rfl, rfl, rfl⟩
theorem Km38.tr {u v w : St} (h1 : Km38 u v) (h2 : Km38 v w) : Km38 u w := ⟨(h2.1).trans h1.1, (h2.2.1).trans h1.2.1, (h2.2.2.1).trans h1.2.2.1, (h2.2.2.2.1).trans h1.2.2.2.1, (h2.2.2.2.2.1).trans h1.2.2.2.2.1, (h2.2.2.2.2.2.1).trans h1.2.2.2.2.2.1, (h2.2.2.2.2.2.2.1).trans h1.2.2.2.2.2.2.1, (h2.2.2.2.2.2.2.2.1).trans h1.2.2.2.2.2.2.2.1, (h2.2.2.2.2.2.2.2.2.1).trans h1.2.2.2.2.2.2.2.2.1, (h2.2.2.2.2.2.2.2.2.2.1).trans h1.2.2.2.2.2.2.2.2.2.1, (h2.2.2.2.2.2.2.2.2.2.2.1).trans h1.2.2.2.2.2.2.2.2.2.2.1, (h2.2.2.2.2.2.2.2.2.2.2.2.1).trans h1.2.2.2.2.2.2.2.2.2.2.2.1, (h2.2.2.2.2.2.2.2.2.2.2.2.2.1).trans h1.2.2.2.2.2.2.2.2.2.2.2.2.1, (h2.2.2.2.2.2.2.2.2.2.2.2.2.2.1).trans h1.2.2.2.2.2.2.2.2.2.2.2.2.2.1, (h2.2.2.2.2.2.2.2.2.2.2.2.2.2.2.1).trans h1.2.2.2.2.2.2.2.2.2.2.2.2.2.2.1, (h2.2.2.2.2.2.2.2.2.2.2.2.2.2.2.2.1).trans h1.2.2.2.2.2.2.2.2.2.2.2.2.2.2.2.1, (h2.2.2.2.2.2.2.2.2.2.2.2.2.2.2.2.2.1).trans h1.2.2.2.2.2.2.2.2.2.2.2.2.2.2.2.2.1, (h2.2.2.2.2.2.2.2.2.2.2.2.2.2.2.2.2.2.1).trans h1.2.2.2.2.2.2.2.2.2.2.2.2.2.2.2.2.2.1, (h2.2.2.2.2.2.2.2.2.2.2.2.2.2.2.2.2.2.2).trans h1.2.2.2.2.2.2.2.2.2.2.2.2.2.2.2.2.2.2⟩
theorem dX11_web_0 : decode cX11_web 0 = .ok (.aload_n 0, 1) := by decide +kernel
theorem dX11_web_1 : decode cX11_web 1 = .ok (.iconst 0, 1) := by decide +kernel
theorem dX11_web_2 : decode cX11_web 2 = .ok (.putfield 155, 3) := by decide +kernel
theorem dX11_web_5 : decode cX11_web 5 = .ok (.aload_n 0, 1) := by decide +kernel
theorem dX11_web_6 : decode cX11_web 6 = .ok (.iconst (-1), 1) := by decide +kernel
theorem dX11_web_7 : decode cX11_web 7 = .ok (.putfield 16, 3) := by decide +kernel
theorem dX11_web_10 : decode cX11_web 10 = .ok (.aload_n 0, 1) := by decide +kernel
theorem dX11_web_11 : decode cX11_web 11 = .ok (.aload_n 0, 1) := by decide +kernel
theorem dX11_web_12 : decode cX11_web 12 = .ok (.getfield 252, 3) := by decide +kernel
theorem dX11_web_15 : decode cX11_web 15 = .ok (.putfield 152, 3) := by decide +kernel
theorem dX11_web_18 : decode cX11_web 18 = .ok (.iconst 0, 1) := by decide +kernel
theorem dX11_web_19 : decode cX11_web 19 = .ok (.istore_n 1, 1) := by decide +kernel
theorem dX11_web_20 : decode cX11_web 20 = .ok (.iload_n 1, 1) := by decide +kernel
theorem dX11_web_21 : decode cX11_web 21 = .ok (.aload_n 0, 1) := by decide +kernel
theorem dX11_web_22 : decode cX11_web 22 = .ok (.getfield 152, 3) := by decide +kernel
theorem dX11_web_25 : decode cX11_web 25 = .ok (.if_icmp .ge 21, 3) := by decide +kernel
theorem dX11_web_28 : decode cX11_web 28 = .ok (.aload_n 0, 1) := by decide +kernel
theorem dX11_web_29 : decode cX11_web 29 = .ok (.getfield 13, 3) := by decide +kernel
theorem dX11_web_32 : decode cX11_web 32 = .ok (.iload_n 1, 1) := by decide +kernel
theorem dX11_web_33 : decode cX11_web 33 = .ok (.aload_n 0, 1) := by decide +kernel
theorem dX11_web_34 : decode cX11_web 34 = .ok (.getfield 7, 3) := by decide +kernel
theorem dX11_web_37 : decode cX11_web 37 = .ok (.iload_n 1, 1) := by decide +kernel
theorem dX11_web_38 : decode cX11_web 38 = .ok (.baload, 1) := by decide +kernel
theorem dX11_web_39 : decode cX11_web 39 = .ok (.bastore, 1) := by decide +kernel
theorem dX11_web_40 : decode cX11_web 40 = .ok (.iinc 1 1, 3) := by decide +kernel
theorem dX11_web_43 : decode cX11_web 43 = .ok (.goto (-23), 3) := by decide +kernel
theorem dX11_web_46 : decode cX11_web 46 = .ok (.aload_n 0, 1) := by decide +kernel
theorem dX11_web_47 : decode cX11_web 47 = .ok (.iconst 0, 1) := by decide +kernel
theorem dX11_web_48 : decode cX11_web 48 = .ok (.putfield 252, 3) := by decide +kernel
theorem dX11_web_51 : decode cX11_web 51 = .ok (.aload_n 0, 1) := by decide +kernel
theorem dX11_web_52 : decode cX11_web 52 = .ok (.iconst 0, 1) := by decide +kernel
theorem dX11_web_53 : decode cX11_web 53 = .ok (.putfield 198, 3) := by decide +kernel
theorem dX11_web_56 : decode cX11_web 56 = .ok (.aload_n 0, 1) := by decide +kernel
theorem dX11_web_57 : decode cX11_web 57 = .ok (.iconst 1, 1) := by decide +kernel
theorem dX11_web_58 : decode cX11_web 58 = .ok (.aload_n 0, 1) := by decide +kernel
theorem dX11_web_59 : decode cX11_web 59 = .ok (.getfield 255, 3) := by decide +kernel
theorem dX11_web_62 : decode cX11_web 62 = .ok (.isub, 1) := by decide +kernel
theorem dX11_web_63 : decode cX11_web 63 = .ok (.putfield 246, 3) := by decide +kernel
theorem dX11_web_66 : decode cX11_web 66 = .ok (.aload_n 0, 1) := by decide +kernel
theorem dX11_web_67 : decode cX11_web 67 = .ok (.invokevirtual 146, 3) := by decide +kernel
theorem dX11_web_70 : decode cX11_web 70 = .ok (.aload_n 0, 1) := by decide +kernel
theorem dX11_web_71 : decode cX11_web 71 = .ok (.invokevirtual 240, 3) := by decide +kernel
theorem dX11_web_74 : decode cX11_web 74 = .ok (.aload_n 0, 1) := by decide +kernel
theorem dX11_web_75 : decode cX11_web 75 = .ok (.invokevirtual 236, 3) := by decide +kernel
theorem dX11_web_78 : decode cX11_web 78 = .ok (.ifCond .eq 17, 3) := by decide +kernel
theorem dX11_web_81 : decode cX11_web 81 = .ok (.aload_n 0, 1) := by decide +kernel
theorem dX11_web_82 : decode cX11_web 82 = .ok (.getfield 208, 3) := by decide +kernel
theorem dX11_web_85 : decode cX11_web 85 = .ok (.ifCond .eq 10, 3) := by decide +kernel
theorem dX11_web_88 : decode cX11_web 88 = .ok (.aload_n 0, 1) := by decide +kernel
theorem dX11_web_89 : decode cX11_web 89 = .ok (.invokevirtual 258, 3) := by decide +kernel
theorem dX11_web_92 : decode cX11_web 92 = .ok (.goto (-18), 3) := by decide +kernel
theorem dX11_web_95 : decode cX11_web 95 = .ok (.aload_n 0, 1) := by decide +kernel
theorem dX11_web_96 : decode cX11_web 96 = .ok (.invokevirtual 236, 3) := by decide +kernel
theorem dX11_web_99 : decode cX11_web 99 = .ok (.ifCond .ne 5, 3) := by decide +kernel
theorem dX11_web_102 : decode cX11_web 102 = .ok (.iconst (-1), 1) := by decide +kernel
theorem dX11_web_103 : decode cX11_web 103 = .ok (.ireturn, 1) := by decide +kernel
theorem dX11_web_104 : decode cX11_web 104 = .ok (.aload_n 0, 1) := by decide +kernel
theorem dX11_web_105 : decode cX11_web 105 = .ok (.aload_n 0, 1) := by decide +kernel
theorem dX11_web_106 : decode cX11_web 106 = .ok (.getfield 246, 3) := by decide +kernel
theorem dX11_web_109 : decode cX11_web 109 = .ok (.putfield 255, 3) := by decide +kernel
theorem dX11_web_112 : decode cX11_web 112 = .ok (.aload_n 0, 1) := by decide +kernel
theorem dX11_web_113 : decode cX11_web 113 = .ok (.invokevirtual 149, 3) := by decide +kernel
theorem dX11_web_116 : decode cX11_web 116 = .ok (.aload_n 0, 1) := by decide +kernel
theorem dX11_web_117 : decode cX11_web 117 = .ok (.getfield 30, 3) := by decide +kernel
theorem dX11_web_120 : decode cX11_web 120 = .ok (.aload_n 0, 1) := by decide +kernel
theorem dX11_web_121 : decode cX11_web 121 = .ok (.getfield 255, 3) := by decide +kernel
theorem dX11_web_124 : decode cX11_web 124 = .ok (.iaload, 1) := by decide +kernel
theorem dX11_web_125 : decode cX11_web 125 = .ok (.ireturn, 1) := by decide +kernel
theorem wd_1555 : (Cond.code ⟨"WebCourtModel", "web", "()I"⟩ prog_13_method_16_code (2 : Nat) (Option.some FieldType.int)) ∈ gtb := gtb_c7 6 (by decide +kernel) rfl
theorem Km38_wI4 {u v : St} {x : Int32} (h : Km38 u v) : Km38 u (sI v 0 4 x) := ⟨h.1, h.2.1, h.2.2.1, h.2.2.2.1, h.2.2.2.2.1, h.2.2.2.2.2.1, h.2.2.2.2.2.2.1, h.2.2.2.2.2.2.2.1, h.2.2.2.2.2.2.2.2.1, h.2.2.2.2.2.2.2.2.2.1, h.2.2.2.2.2.2.2.2.2.2.1, h.2.2.2.2.2.2.2.2.2.2.2.1, h.2.2.2.2.2.2.2.2.2.2.2.2.1, h.2.2.2.2.2.2.2.2.2.2.2.2.2.1, h.2.2.2.2.2.2.2.2.2.2.2.2.2.2.1, h.2.2.2.2.2.2.2.2.2.2.2.2.2.2.2.1, h.2.2.2.2.2.2.2.2.2.2.2.2.2.2.2.2.1, h.2.2.2.2.2.2.2.2.2.2.2.2.2.2.2.2.2.1, h.2.2.2.2.2.2.2.2.2.2.2.2.2.2.2.2.2.2⟩
theorem Km38_wI5 {u v : St} {x : Int32} (h : Km38 u v) : Km38 u (sI v 0 5 x) := ⟨h.1, h.2.1, h.2.2.1, h.2.2.2.1, h.2.2.2.2.1, h.2.2.2.2.2.1, h.2.2.2.2.2.2.1, h.2.2.2.2.2.2.2.1, h.2.2.2.2.2.2.2.2.1, h.2.2.2.2.2.2.2.2.2.1, h.2.2.2.2.2.2.2.2.2.2.1, h.2.2.2.2.2.2.2.2.2.2.2.1, h.2.2.2.2.2.2.2.2.2.2.2.2.1, h.2.2.2.2.2.2.2.2.2.2.2.2.2.1, h.2.2.2.2.2.2.2.2.2.2.2.2.2.2.1, h.2.2.2.2.2.2.2.2.2.2.2.2.2.2.2.1, h.2.2.2.2.2.2.2.2.2.2.2.2.2.2.2.2.1, h.2.2.2.2.2.2.2.2.2.2.2.2.2.2.2.2.2.1, h.2.2.2.2.2.2.2.2.2.2.2.2.2.2.2.2.2.2⟩
theorem pf_RX11_152 {p : Program} {l : Launch} {e : Env} {R : Room} {s : State} {m : MethodId} {args : Array Value} {below : List Frame} {meth : Method} {c : Code} {H : Heap} {locs : List Loc} {cells slots : Nat} {Q : State → Prop} {cc : ByteArray} {pc nL : Nat} {ls : Array Slot} {rest : List Value} {D : va_G} {cy : Nat → ClassId} {A : Nat → Prop} {ws : va_W} {b : Nat} {fs : List Value} {v : Int32} {ws' : va_W} (C : Cx p s m args c cc nL RX11 D cy A) (hO : Wo D A ws s.heap H locs) (q0 : Nat) (he : ws[q0]? = some (b, .inr (11, fs))) (hlen : 3 < fs.length) (hw : ws.set q0 (b, .inr (11, fs.set 3 (.int v))) = ws') (hdg : decode cc pc = .ok (.putfield 152, 3)) (kk : ∀ (H : Heap) (locs : List Loc), Wo D A ws' s.heap H locs → W p l e R s m args below meth c H locs cells slots Q (F0 m (pc + 3) ls rest)) : W p l e R s m args below meth c H locs cells slots Q (F0 m pc ls (.int v :: .ref b :: rest)) := pF (k := 3) (ty := .int) C hO q0 he rfl inFX11 (by decide) wd_1359 rfl tyX11 tyX11_ok nmX11 rfl (by decide +kernel) rfl rfl hlen hw hdg kk
theorem Km38_wI3 {u v : St} {x : Int32} (h : Km38 u v) : Km38 u (sI v 0 3 x) := ⟨h.1, h.2.1, h.2.2.1, h.2.2.2.1, h.2.2.2.2.1, h.2.2.2.2.2.1, h.2.2.2.2.2.2.1, h.2.2.2.2.2.2.2.1, h.2.2.2.2.2.2.2.2.1, h.2.2.2.2.2.2.2.2.2.1, h.2.2.2.2.2.2.2.2.2.2.1, h.2.2.2.2.2.2.2.2.2.2.2.1, h.2.2.2.2.2.2.2.2.2.2.2.2.1, h.2.2.2.2.2.2.2.2.2.2.2.2.2.1, h.2.2.2.2.2.2.2.2.2.2.2.2.2.2.1, h.2.2.2.2.2.2.2.2.2.2.2.2.2.2.2.1, h.2.2.2.2.2.2.2.2.2.2.2.2.2.2.2.2.1, h.2.2.2.2.2.2.2.2.2.2.2.2.2.2.2.2.2.1, h.2.2.2.2.2.2.2.2.2.2.2.2.2.2.2.2.2.2⟩
theorem Km38_wI2 {u v : St} {x : Int32} (h : Km38 u v) : Km38 u (sI v 0 2 x) := ⟨h.1, h.2.1, h.2.2.1, h.2.2.2.1, h.2.2.2.2.1, h.2.2.2.2.2.1, h.2.2.2.2.2.2.1, h.2.2.2.2.2.2.2.1, h.2.2.2.2.2.2.2.2.1, h.2.2.2.2.2.2.2.2.2.1, h.2.2.2.2.2.2.2.2.2.2.1, h.2.2.2.2.2.2.2.2.2.2.2.1, h.2.2.2.2.2.2.2.2.2.2.2.2.1, h.2.2.2.2.2.2.2.2.2.2.2.2.2.1, h.2.2.2.2.2.2.2.2.2.2.2.2.2.2.1, h.2.2.2.2.2.2.2.2.2.2.2.2.2.2.2.1, h.2.2.2.2.2.2.2.2.2.2.2.2.2.2.2.2.1, h.2.2.2.2.2.2.2.2.2.2.2.2.2.2.2.2.2.1, h.2.2.2.2.2.2.2.2.2.2.2.2.2.2.2.2.2.2⟩
theorem Km38_wI7 {u v : St} {x : Int32} (h : Km38 u v) : Km38 u (sI v 0 7 x) := ⟨h.1, h.2.1, h.2.2.1, h.2.2.2.1, h.2.2.2.2.1, h.2.2.2.2.2.1, h.2.2.2.2.2.2.1, h.2.2.2.2.2.2.2.1, h.2.2.2.2.2.2.2.2.1, h.2.2.2.2.2.2.2.2.2.1, h.2.2.2.2.2.2.2.2.2.2.1, h.2.2.2.2.2.2.2.2.2.2.2.1, h.2.2.2.2.2.2.2.2.2.2.2.2.1, h.2.2.2.2.2.2.2.2.2.2.2.2.2.1, h.2.2.2.2.2.2.2.2.2.2.2.2.2.2.1, h.2.2.2.2.2.2.2.2.2.2.2.2.2.2.2.1, h.2.2.2.2.2.2.2.2.2.2.2.2.2.2.2.2.1, h.2.2.2.2.2.2.2.2.2.2.2.2.2.2.2.2.2.1, h.2.2.2.2.2.2.2.2.2.2.2.2.2.2.2.2.2.2⟩
theorem pf_RX11_246 {p : Program} {l : Launch} {e : Env} {R : Room} {s : State} {m : MethodId} {args : Array Value} {below : List Frame} {meth : Method} {c : Code} {H : Heap} {locs : List Loc} {cells slots : Nat} {Q : State → Prop} {cc : ByteArray} {pc nL : Nat} {ls : Array Slot} {rest : List Value} {D : va_G} {cy : Nat → ClassId} {A : Nat → Prop} {ws : va_W} {b : Nat} {fs : List Value} {v : Int32} {ws' : va_W} (C : Cx p s m args c cc nL RX11 D cy A) (hO : Wo D A ws s.heap H locs) (q0 : Nat) (he : ws[q0]? = some (b, .inr (11, fs))) (hlen : 37 < fs.length) (hw : ws.set q0 (b, .inr (11, fs.set 37 (.int v))) = ws') (hdg : decode cc pc = .ok (.putfield 246, 3)) (kk : ∀ (H : Heap) (locs : List Loc), Wo D A ws' s.heap H locs → W p l e R s m args below meth c H locs cells slots Q (F0 m (pc + 3) ls rest)) : W p l e R s m args below meth c H locs cells slots Q (F0 m pc ls (.int v :: .ref b :: rest)) := pF (k := 37) (ty := .int) C hO q0 he rfl inFX11 (by decide) wd_1393 rfl tyX11 tyX11_ok nmX11 rfl (by decide +kernel) rfl rfl hlen hw hdg kk
theorem Km38_wI37 {u v : St} {x : Int32} (h : Km38 u v) : Km38 u (sI v 0 37 x) := ⟨h.1, h.2.1, h.2.2.1, h.2.2.2.1, h.2.2.2.2.1, h.2.2.2.2.2.1, h.2.2.2.2.2.2.1, h.2.2.2.2.2.2.2.1, h.2.2.2.2.2.2.2.2.1, h.2.2.2.2.2.2.2.2.2.1, h.2.2.2.2.2.2.2.2.2.2.1, h.2.2.2.2.2.2.2.2.2.2.2.1, h.2.2.2.2.2.2.2.2.2.2.2.2.1, h.2.2.2.2.2.2.2.2.2.2.2.2.2.1, h.2.2.2.2.2.2.2.2.2.2.2.2.2.2.1, h.2.2.2.2.2.2.2.2.2.2.2.2.2.2.2.1, h.2.2.2.2.2.2.2.2.2.2.2.2.2.2.2.2.1, h.2.2.2.2.2.2.2.2.2.2.2.2.2.2.2.2.2.1, h.2.2.2.2.2.2.2.2.2.2.2.2.2.2.2.2.2.2⟩
theorem wd_1336 : (Cond.methodLink "WebCourtModel" (146 : Nat) ⟨"WebCourtModel", "clearBank", "()V"⟩) ∈ gtb := gtb_c6 27 (by decide +kernel) rfl
theorem wd_1338 : (Cond.instanceMethod ⟨"WebCourtModel", "clearBank", "()V"⟩) ∈ gtb := gtb_c6 29 (by decide +kernel) rfl
theorem wd_43 : (Cond.selects "WebCourtModel" ⟨"WebCourtModel", "clearBank", "()V"⟩ ⟨"WebCourtModel", "clearBank", "()V"⟩) ∈ gtb := gtb_p 43 (by decide +kernel) rfl
theorem hd_yX11_clearBank : yX11_clearBank.cls = RX11 ∧ yX11_clearBank.cls ≠ "java/lang/invoke/MethodHandle" ∧ yX11_clearBank.cls ≠ "java/lang/invoke/VarHandle" ∧ (parseMethodDescriptor yX11_clearBank.desc).map (fun d => d.parameters.length) = some 0 := by decide +kernel
theorem Km36_to_Km38 {u v : St} (h : Km36 u v) : Km38 u v := ⟨h.2.2.2.2.2.2.2.2.2.2.2.2.2.2.1, h.2.2.2.2.2.2.2.2.2.2.2.2.2.2.2.1, h.2.2.2.2.2.2.2.2.2.2.2.2.2.2.2.2.1, h.2.2.2.2.2.2.2.2.2.2.2.2.2.2.2.2.2.2.2.2.2.1, h.2.2.2.2.2.2.2.2.2.2.2.2.2.2.2.2.2.2.2.2.2.2.1, h.2.2.2.2.2.2.2.2.2.2.2.2.2.2.2.2.2.2.2.2.2.2.2.2.2.2.2.2.2.2.2.2.2.2.2.2.2.2.1, h.2.2.2.2.2.2.2.2.2.2.2.2.2.2.2.2.2.2.2.2.2.2.2.2.2.2.2.2.2.2.2.2.2.2.2.2.2.2.2.2.1, h.2.2.2.2.2.2.2.2.2.2.2.2.2.2.2.2.2.2.2.2.2.2.2.2.2.2.2.2.2.2.2.2.2.2.2.2.2.2.2.2.2.1, h.2.2.2.2.2.2.2.2.2.2.2.2.2.2.2.2.2.2.2.2.2.2.2.2.2.2.2.2.2.2.2.2.2.2.2.2.2.2.2.2.2.2.1, h.2.2.2.2.2.2.2.2.2.2.2.2.2.2.2.2.2.2.2.2.2.2.2.2.2.2.2.2.2.2.2.2.2.2.2.2.2.2.2.2.2.2.2.1, h.2.2.2.2.2.2.2.2.2.2.2.2.2.2.2.2.2.2.2.2.2.2.2.2.2.2.2.2.2.2.2.2.2.2.2.2.2.2.2.2.2.2.2.2.1, h.2.2.2.2.2.2.2.2.2.2.2.2.2.2.2.2.2.2.2.2.2.2.2.2.2.2.2.2.2.2.2.2.2.2.2.2.2.2.2.2.2.2.2.2.2.1, h.2.2.2.2.2.2.2.2.2.2.2.2.2.2.2.2.2.2.2.2.2.2.2.2.2.2.2.2.2.2.2.2.2.2.2.2.2.2.2.2.2.2.2.2.2.2.1, h.2.2.2.2.2.2.2.2.2.2.2.2.2.2.2.2.2.2.2.2.2.2.2.2.2.2.2.2.2.2.2.2.2.2.2.2.2.2.2.2.2.2.2.2.2.2.2.1, h.2.2.2.2.2.2.2.2.2.2.2.2.2.2.2.2.2.2.2.2.2.2.2.2.2.2.2.2.2.2.2.2.2.2.2.2.2.2.2.2.2.2.2.2.2.2.2.2.1, h.2.2.2.2.2.2.2.2.2.2.2.2.2.2.2.2.2.2.2.2.2.2.2.2.2.2.2.2.2.2.2.2.2.2.2.2.2.2.2.2.2.2.2.2.2.2.2.2.2.1, h.2.2.2.2.2.2.2.2.2.2.2.2.2.2.2.2.2.2.2.2.2.2.2.2.2.2.2.2.2.2.2.2.2.2.2.2.2.2.2.2.2.2.2.2.2.2.2.2.2.2.1, h.2.2.2.2.2.2.2.2.2.2.2.2.2.2.2.2.2.2.2.2.2.2.2.2.2.2.2.2.2.2.2.2.2.2.2.2.2.2.2.2.2.2.2.2.2.2.2.2.2.2.2.1, h.2.2.2.2.2.2.2.2.2.2.2.2.2.2.2.2.2.2.2.2.2.2.2.2.2.2.2.2.2.2.2.2.2.2.2.2.2.2.2.2.2.2.2.2.2.2.2.2.2.2.2.2.1⟩
theorem Km36_I4 {u v : St} (h : Km36 u v) : fI v 0 4 = fI u 0 4 := h.2.2.1
theorem Km36_I7 {u v : St} (h : Km36 u v) : fI v 0 7 = fI u 0 7 := h.2.2.2.2.2.1
theorem Km36_I3 {u v : St} (h : Km36 u v) : fI v 0 3 = fI u 0 3 := h.2.1
theorem Km26_to_Km38 {u v : St} (h : Km26 u v) : Km38 u v := ⟨h.2.2.2.2.2.2.2.2.2.2.1, h.2.2.2.2.2.2.2.2.2.2.2.1, h.2.2.2.2.2.2.2.2.2.2.2.2.1, h.2.2.2.2.2.2.2.2.2.2.2.2.2.2.2.2.2.1, h.2.2.2.2.2.2.2.2.2.2.2.2.2.2.2.2.2.2.1, h.2.2.2.2.2.2.2.2.2.2.2.2.2.2.2.2.2.2.2.2.2.2.2.2.2.2.2.2.2.2.2.2.2.2.2.2.2.2.2.2.2.2.2.2.1, h.2.2.2.2.2.2.2.2.2.2.2.2.2.2.2.2.2.2.2.2.2.2.2.2.2.2.2.2.2.2.2.2.2.2.2.2.2.2.2.2.2.2.2.2.2.2.1, h.2.2.2.2.2.2.2.2.2.2.2.2.2.2.2.2.2.2.2.2.2.2.2.2.2.2.2.2.2.2.2.2.2.2.2.2.2.2.2.2.2.2.2.2.2.2.2.1, h.2.2.2.2.2.2.2.2.2.2.2.2.2.2.2.2.2.2.2.2.2.2.2.2.2.2.2.2.2.2.2.2.2.2.2.2.2.2.2.2.2.2.2.2.2.2.2.2.1, h.2.2.2.2.2.2.2.2.2.2.2.2.2.2.2.2.2.2.2.2.2.2.2.2.2.2.2.2.2.2.2.2.2.2.2.2.2.2.2.2.2.2.2.2.2.2.2.2.2.1, h.2.2.2.2.2.2.2.2.2.2.2.2.2.2.2.2.2.2.2.2.2.2.2.2.2.2.2.2.2.2.2.2.2.2.2.2.2.2.2.2.2.2.2.2.2.2.2.2.2.2.1, h.2.2.2.2.2.2.2.2.2.2.2.2.2.2.2.2.2.2.2.2.2.2.2.2.2.2.2.2.2.2.2.2.2.2.2.2.2.2.2.2.2.2.2.2.2.2.2.2.2.2.2.1, h.2.2.2.2.2.2.2.2.2.2.2.2.2.2.2.2.2.2.2.2.2.2.2.2.2.2.2.2.2.2.2.2.2.2.2.2.2.2.2.2.2.2.2.2.2.2.2.2.2.2.2.2.1, h.2.2.2.2.2.2.2.2.2.2.2.2.2.2.2.2.2.2.2.2.2.2.2.2.2.2.2.2.2.2.2.2.2.2.2.2.2.2.2.2.2.2.2.2.2.2.2.2.2.2.2.2.2.1, h.2.2.2.2.2.2.2.2.2.2.2.2.2.2.2.2.2.2.2.2.2.2.2.2.2.2.2.2.2.2.2.2.2.2.2.2.2.2.2.2.2.2.2.2.2.2.2.2.2.2.2.2.2.2.1, h.2.2.2.2.2.2.2.2.2.2.2.2.2.2.2.2.2.2.2.2.2.2.2.2.2.2.2.2.2.2.2.2.2.2.2.2.2.2.2.2.2.2.2.2.2.2.2.2.2.2.2.2.2.2.2.1, h.2.2.2.2.2.2.2.2.2.2.2.2.2.2.2.2.2.2.2.2.2.2.2.2.2.2.2.2.2.2.2.2.2.2.2.2.2.2.2.2.2.2.2.2.2.2.2.2.2.2.2.2.2.2.2.2.1, h.2.2.2.2.2.2.2.2.2.2.2.2.2.2.2.2.2.2.2.2.2.2.2.2.2.2.2.2.2.2.2.2.2.2.2.2.2.2.2.2.2.2.2.2.2.2.2.2.2.2.2.2.2.2.2.2.2.1, h.2.2.2.2.2.2.2.2.2.2.2.2.2.2.2.2.2.2.2.2.2.2.2.2.2.2.2.2.2.2.2.2.2.2.2.2.2.2.2.2.2.2.2.2.2.2.2.2.2.2.2.2.2.2.2.2.2.2.1⟩
theorem pf_RX11_255 {p : Program} {l : Launch} {e : Env} {R : Room} {s : State} {m : MethodId} {args : Array Value} {below : List Frame} {meth : Method} {c : Code} {H : Heap} {locs : List Loc} {cells slots : Nat} {Q : State → Prop} {cc : ByteArray} {pc nL : Nat} {ls : Array Slot} {rest : List Value} {D : va_G} {cy : Nat → ClassId} {A : Nat → Prop} {ws : va_W} {b : Nat} {fs : List Value} {v : Int32} {ws' : va_W} (C : Cx p s m args c cc nL RX11 D cy A) (hO : Wo D A ws s.heap H locs) (q0 : Nat) (he : ws[q0]? = some (b, .inr (11, fs))) (hlen : 36 < fs.length) (hw : ws.set q0 (b, .inr (11, fs.set 36 (.int v))) = ws') (hdg : decode cc pc = .ok (.putfield 255, 3)) (kk : ∀ (H : Heap) (locs : List Loc), Wo D A ws' s.heap H locs → W p l e R s m args below meth c H locs cells slots Q (F0 m (pc + 3) ls rest)) : W p l e R s m args below meth c H locs cells slots Q (F0 m pc ls (.int v :: .ref b :: rest)) := pF (k := 36) (ty := .int) C hO q0 he rfl inFX11 (by decide) wd_1392 rfl tyX11 tyX11_ok nmX11 rfl (by decide +kernel) rfl rfl hlen hw hdg kk
theorem Km38_wI36 {u v : St} {x : Int32} (h : Km38 u v) : Km38 u (sI v 0 36 x) := ⟨h.1, h.2.1, h.2.2.1, h.2.2.2.1, h.2.2.2.2.1, h.2.2.2.2.2.1, h.2.2.2.2.2.2.1, h.2.2.2.2.2.2.2.1, h.2.2.2.2.2.2.2.2.1, h.2.2.2.2.2.2.2.2.2.1, h.2.2.2.2.2.2.2.2.2.2.1, h.2.2.2.2.2.2.2.2.2.2.2.1, h.2.2.2.2.2.2.2.2.2.2.2.2.1, h.2.2.2.2.2.2.2.2.2.2.2.2.2.1, h.2.2.2.2.2.2.2.2.2.2.2.2.2.2.1, h.2.2.2.2.2.2.2.2.2.2.2.2.2.2.2.1, h.2.2.2.2.2.2.2.2.2.2.2.2.2.2.2.2.1, h.2.2.2.2.2.2.2.2.2.2.2.2.2.2.2.2.2.1, h.2.2.2.2.2.2.2.2.2.2.2.2.2.2.2.2.2.2⟩
theorem wd_1340 : (Cond.methodLink "WebCourtModel" (149 : Nat) ⟨"WebCourtModel", "startAnew", "()V"⟩) ∈ gtb := gtb_c6 31 (by decide +kernel) rfl
theorem wd_1342 : (Cond.instanceMethod ⟨"WebCourtModel", "startAnew", "()V"⟩) ∈ gtb := gtb_c6 33 (by decide +kernel) rfl
theorem wd_44 : (Cond.selects "WebCourtModel" ⟨"WebCourtModel", "startAnew", "()V"⟩ ⟨"WebCourtModel", "startAnew", "()V"⟩) ∈ gtb := gtb_p 44 (by decide +kernel) rfl
theorem hd_yX11_startAnew : yX11_startAnew.cls = RX11 ∧ yX11_startAnew.cls ≠ "java/lang/invoke/MethodHandle" ∧ yX11_startAnew.cls ≠ "java/lang/invoke/VarHandle" ∧ (parseMethodDescriptor yX11_startAnew.desc).map (fun d => d.parameters.length) = some 0 := by decide +kernel
theorem Km15_to_Km38 {u v : St} (h : Km15 u v) : Km38 u v := ⟨h.2.2.2.2.2.2.2.2.2.2.2.2.2.2.2.1, h.2.2.2.2.2.2.2.2.2.2.2.2.2.2.2.2.1, h.2.2.2.2.2.2.2.2.2.2.2.2.2.2.2.2.2.1, h.2.2.2.2.2.2.2.2.2.2.2.2.2.2.2.2.2.2.1, h.2.2.2.2.2.2.2.2.2.2.2.2.2.2.2.2.2.2.2.1, h.2.2.2.2.2.2.2.2.2.2.2.2.2.2.2.2.2.2.2.2.2.2.2.2.2.2.2.2.2.2.2.2.2.2.2.2.2.2.2.2.2.2.2.2.2.1, h.2.2.2.2.2.2.2.2.2.2.2.2.2.2.2.2.2.2.2.2.2.2.2.2.2.2.2.2.2.2.2.2.2.2.2.2.2.2.2.2.2.2.2.2.2.2.1, h.2.2.2.2.2.2.2.2.2.2.2.2.2.2.2.2.2.2.2.2.2.2.2.2.2.2.2.2.2.2.2.2.2.2.2.2.2.2.2.2.2.2.2.2.2.2.2.1, h.2.2.2.2.2.2.2.2.2.2.2.2.2.2.2.2.2.2.2.2.2.2.2.2.2.2.2.2.2.2.2.2.2.2.2.2.2.2.2.2.2.2.2.2.2.2.2.2.1, h.2.2.2.2.2.2.2.2.2.2.2.2.2.2.2.2.2.2.2.2.2.2.2.2.2.2.2.2.2.2.2.2.2.2.2.2.2.2.2.2.2.2.2.2.2.2.2.2.2.1, h.2.2.2.2.2.2.2.2.2.2.2.2.2.2.2.2.2.2.2.2.2.2.2.2.2.2.2.2.2.2.2.2.2.2.2.2.2.2.2.2.2.2.2.2.2.2.2.2.2.2.1, h.2.2.2.2.2.2.2.2.2.2.2.2.2.2.2.2.2.2.2.2.2.2.2.2.2.2.2.2.2.2.2.2.2.2.2.2.2.2.2.2.2.2.2.2.2.2.2.2.2.2.2.1, h.2.2.2.2.2.2.2.2.2.2.2.2.2.2.2.2.2.2.2.2.2.2.2.2.2.2.2.2.2.2.2.2.2.2.2.2.2.2.2.2.2.2.2.2.2.2.2.2.2.2.2.2.1, h.2.2.2.2.2.2.2.2.2.2.2.2.2.2.2.2.2.2.2.2.2.2.2.2.2.2.2.2.2.2.2.2.2.2.2.2.2.2.2.2.2.2.2.2.2.2.2.2.2.2.2.2.2.1, h.2.2.2.2.2.2.2.2.2.2.2.2.2.2.2.2.2.2.2.2.2.2.2.2.2.2.2.2.2.2.2.2.2.2.2.2.2.2.2.2.2.2.2.2.2.2.2.2.2.2.2.2.2.2.1, h.2.2.2.2.2.2.2.2.2.2.2.2.2.2.2.2.2.2.2.2.2.2.2.2.2.2.2.2.2.2.2.2.2.2.2.2.2.2.2.2.2.2.2.2.2.2.2.2.2.2.2.2.2.2.2.1, h.2.2.2.2.2.2.2.2.2.2.2.2.2.2.2.2.2.2.2.2.2.2.2.2.2.2.2.2.2.2.2.2.2.2.2.2.2.2.2.2.2.2.2.2.2.2.2.2.2.2.2.2.2.2.2.2.1, h.2.2.2.2.2.2.2.2.2.2.2.2.2.2.2.2.2.2.2.2.2.2.2.2.2.2.2.2.2.2.2.2.2.2.2.2.2.2.2.2.2.2.2.2.2.2.2.2.2.2.2.2.2.2.2.2.2.1, h.2.2.2.2.2.2.2.2.2.2.2.2.2.2.2.2.2.2.2.2.2.2.2.2.2.2.2.2.2.2.2.2.2.2.2.2.2.2.2.2.2.2.2.2.2.2.2.2.2.2.2.2.2.2.2.2.2.2⟩
theorem Km15_A6 {u v : St} (h : Km15 u v) : fA v 6 = fA u 6 := h.2.2.2.2.2.2.2.2.2.2.2.2.2.2.2.2.2.2.2.2.2.2.2.2.1
theorem wd_1600 : (Cond.methodLink "WebCourtModel" (258 : Nat) ⟨"WebCourtModel", "readLine", "()V"⟩) ∈ gtb := gtb_c7 51 (by decide +kernel) rfl
theorem wd_1602 : (Cond.instanceMethod ⟨"WebCourtModel", "readLine", "()V"⟩) ∈ gtb := gtb_c7 53 (by decide +kernel) rfl
theorem wd_51 : (Cond.selects "WebCourtModel" ⟨"WebCourtModel", "readLine", "()V"⟩ ⟨"WebCourtModel", "readLine", "()V"⟩) ∈ gtb := gtb_p 51 (by decide +kernel) rfl
theorem hd_yX11_readLine : yX11_readLine.cls = RX11 ∧ yX11_readLine.cls ≠ "java/lang/invoke/MethodHandle" ∧ yX11_readLine.cls ≠ "java/lang/invoke/VarHandle" ∧ (parseMethodDescriptor yX11_readLine.desc).map (fun d => d.parameters.length) = some 0 := by decide +kernel
theorem Km37_to_Km38 {u v : St} (h : Km37 u v) : Km38 u v := ⟨h.2.2.2.2.1, h.2.2.2.2.2.1, h.2.2.2.2.2.2.1, h.2.2.2.2.2.2.2.2.2.2.2.1, h.2.2.2.2.2.2.2.2.2.2.2.2.1, h.2.2.2.2.2.2.2.2.2.2.2.2.2.2.1, h.2.2.2.2.2.2.2.2.2.2.2.2.2.2.2.2.1, h.2.2.2.2.2.2.2.2.2.2.2.2.2.2.2.2.2.1, h.2.2.2.2.2.2.2.2.2.2.2.2.2.2.2.2.2.2.1, h.2.2.2.2.2.2.2.2.2.2.2.2.2.2.2.2.2.2.2.1, h.2.2.2.2.2.2.2.2.2.2.2.2.2.2.2.2.2.2.2.2.1, h.2.2.2.2.2.2.2.2.2.2.2.2.2.2.2.2.2.2.2.2.2.1, h.2.2.2.2.2.2.2.2.2.2.2.2.2.2.2.2.2.2.2.2.2.2.1, h.2.2.2.2.2.2.2.2.2.2.2.2.2.2.2.2.2.2.2.2.2.2.2.1, h.2.2.2.2.2.2.2.2.2.2.2.2.2.2.2.2.2.2.2.2.2.2.2.2.1, h.2.2.2.2.2.2.2.2.2.2.2.2.2.2.2.2.2.2.2.2.2.2.2.2.2.1, h.2.2.2.2.2.2.2.2.2.2.2.2.2.2.2.2.2.2.2.2.2.2.2.2.2.2.1, h.2.2.2.2.2.2.2.2.2.2.2.2.2.2.2.2.2.2.2.2.2.2.2.2.2.2.2.1, h.2.2.2.2.2.2.2.2.2.2.2.2.2.2.2.2.2.2.2.2.2.2.2.2.2.2.2.2.1⟩
theorem Km26_I36 {u v : St} (h : Km26 u v) : fI v 0 36 = fI u 0 36 := h.2.2.2.2.1
theorem Km38_wA2 {u v : St} {D : va_G} {A : Nat → Prop} {cy : Nat → ClassId} {a : Nat → Nat} {hp H : Heap} {locs : List Loc} {f : Nat → Int32} (_ : Wo D A (mW cy a (sA v 2 f)) hp H locs) (h : Km38 u v) : Km38 u (sA v 2 f) := ⟨h.1, h.2.1, h.2.2.1, h.2.2.2.1, h.2.2.2.2.1, h.2.2.2.2.2.1, h.2.2.2.2.2.2.1, h.2.2.2.2.2.2.2.1, h.2.2.2.2.2.2.2.2.1, h.2.2.2.2.2.2.2.2.2.1, h.2.2.2.2.2.2.2.2.2.2.1, h.2.2.2.2.2.2.2.2.2.2.2.1, h.2.2.2.2.2.2.2.2.2.2.2.2.1, h.2.2.2.2.2.2.2.2.2.2.2.2.2.1, h.2.2.2.2.2.2.2.2.2.2.2.2.2.2.1, h.2.2.2.2.2.2.2.2.2.2.2.2.2.2.2.1, h.2.2.2.2.2.2.2.2.2.2.2.2.2.2.2.2.1, h.2.2.2.2.2.2.2.2.2.2.2.2.2.2.2.2.2.1, h.2.2.2.2.2.2.2.2.2.2.2.2.2.2.2.2.2.2⟩
set_option maxHeartbeats 4000000 in
set_option maxRecDepth 100000 in
theorem T_X11_web (l : Launch) (D : va_G) (cy : Nat → ClassId) (a : Nat → Nat) (u : St) (hJ : MI a u)   : Mi l D cy (mW cy a) yX11_web (.code yX11_web cX11_web 2 (some .int)) (rmo 7 149) [.ref (a 0)] u (fun (r : Int32) (u' : St) => (MI a u') ∧ (Km38 u u')) := by
  refine Mi.of (own := RX11) rfl (by decide) (Nat.le_of_ble_eq_true rfl) ?_
  have hT : Km38 u u := Km38.rf
  have hJ0 := hJ
  intro p e s m below meth c A Q ls C hret hO hl
  obtain ⟨hx, hb, hml, hown, ht, hK, hA⟩ := id C
  have hl : lv_has ls 2 [(0, .ref (a 0))] := hl
  have z0 : (0 : Int32).toInt = 0 := rfl
  refine lv_aload_n hx hb dX11_web_0 rfl (lv_at hl 0 rfl) ?_
  refine lv_iconst (v := 0) hx hb dX11_web_1 (by decide) ?_
  refine pf_RX11_155 C hO 0 mW_0 (Nat.le_of_ble_eq_true rfl) mW_s0_4 dX11_web_2 (fun H locs hO => ?_)
  have hT := Km38_wI4 (x := 0) hT
  have hJ := MIs_4 (v := 0) hJ (by first | decide | omega)
  refine lv_aload_n hx hb dX11_web_5 rfl (lv_at hl 0 rfl) ?_
  refine lv_iconst (v := (-1)) hx hb dX11_web_6 (by decide) ?_
  refine pf_RX11_16 C hO 0 mW_0 (Nat.le_of_ble_eq_true rfl) mW_s0_5 dX11_web_7 (fun H locs hO => ?_)
  have hT := Km38_wI5 (x := (-1)) hT
  have hJ := MIs_5 (v := (-1)) hJ
  refine lv_aload_n hx hb dX11_web_10 rfl (lv_at hl 0 rfl) ?_
  refine lv_aload_n hx hb dX11_web_11 rfl (lv_at hl 0 rfl) ?_
  have g1 : 0 ≤ (fI u 0 2).toInt ∧ (fI u 0 2).toInt ≤ 1600 := by have h := MI_2 hJ0; exact h
  refine gf_RX11_252 (v := .int (fI u 0 2)) C hO 0 mW_0 rfl dX11_web_12 ?_
  refine pf_RX11_152 C hO 0 mW_0 (Nat.le_of_ble_eq_true rfl) mW_s0_3 dX11_web_15 (fun H locs hO => ?_)
  have hT := Km38_wI3 (x := (fI u 0 2)) hT
  have hJ := MIs_3 (v := (fI u 0 2)) hJ (by first | decide | omega)
  refine lv_iconst (v := 0) hx hb dX11_web_18 (by decide) ?_
  refine lv_istore_n (lv' := [(1, .int 0), (0, .ref (a 0))]) hx hb dX11_web_19 rfl hl (by decide) rfl (fun ls hl => ?_)
  have LP_20_k3 : ∀ (n : Nat) (u2 : St) (H : Heap) (locs : List Loc) (ls : Array Slot) (k_k3 : Int32) (sz_k3 : Int32) (fa_k3 : Int32), Wo D A (mW cy a u2) s.heap H locs → lv_has ls 2 [(1, .int k_k3), (0, .ref (a 0))] → MI a u2 → Km38 u u2 → fI u2 0 3 = sz_k3 → fI u2 0 4 = fa_k3 → fa_k3.toInt = 0 → 0 ≤ k_k3.toInt ∧ k_k3.toInt ≤ 1600 → 0 ≤ sz_k3.toInt ∧ sz_k3.toInt ≤ 1600 → 0 ≤ fa_k3.toInt ∧ fa_k3.toInt ≤ 5 → 1601 - k_k3.toInt < (n : Int) → W p l e (rmo 7 149) s m [.ref (a 0)].toArray below meth c H locs 0 0 Q (F0 m 20 ls []) := by
    intro n
    induction n with
    | zero =>
      intro u2 H locs ls k_k3 sz_k3 fa_k3 hO hl hJ hT hsz_k3 hfa_k3 iv0_k3 iv1_k3 iv2_k3 iv3_k3 hm_k3
      exact absurd hm_k3 (by omega)
    | succ n ih_k3 =>
      intro u2 H locs ls k_k3 sz_k3 fa_k3 hO hl hJ hT hsz_k3 hfa_k3 iv0_k3 iv1_k3 iv2_k3 iv3_k3 hm_k3
      refine lv_iload_n hx hb dX11_web_20 rfl (lv_at hl 0 rfl) ?_
      refine lv_aload_n hx hb dX11_web_21 rfl (lv_at hl 1 rfl) ?_
      refine gf_RX11_152 (v := .int sz_k3) C hO 0 mW_0 (congrArg (fun z : Int32 => some (Value.int z)) hsz_k3) dX11_web_22 ?_
      refine cs_ge (tgt := 46) (X := (k_k3).toInt) (Y := (sz_k3).toInt) hx hb dX11_web_25 (by decide) rfl rfl (fun c4 => ?_) (fun c4 => ?_)
      · refine lv_aload_n hx hb dX11_web_46 rfl (lv_at hl 1 rfl) ?_
        refine lv_iconst (v := 0) hx hb dX11_web_47 (by decide) ?_
        refine pf_RX11_252 C hO 0 mW_0 (Nat.le_of_ble_eq_true rfl) mW_s0_2 dX11_web_48 (fun H locs hO => ?_)
        have hT := Km38_wI2 (x := 0) hT
        have hJ := MIs_2 (v := 0) hJ (by first | decide | omega)
        refine lv_aload_n hx hb dX11_web_51 rfl (lv_at hl 1 rfl) ?_
        refine lv_iconst (v := 0) hx hb dX11_web_52 (by decide) ?_
        refine pf_RX11_198 C hO 0 mW_0 (Nat.le_of_ble_eq_true rfl) mW_s0_7 dX11_web_53 (fun H locs hO => ?_)
        have hT := Km38_wI7 (x := 0) hT
        have hJ := MIs_7 (v := 0) hJ (by first | decide | omega)
        refine lv_aload_n hx hb dX11_web_56 rfl (lv_at hl 1 rfl) ?_
        refine lv_iconst (v := 1) hx hb dX11_web_57 (by decide) ?_
        refine lv_aload_n hx hb dX11_web_58 rfl (lv_at hl 1 rfl) ?_
        have g5 : 0 ≤ (fI u2 0 36).toInt ∧ (fI u2 0 36).toInt ≤ 1 := by have h := MI_36 hJ; exact h
        refine gf_RX11_255 (v := .int (fI u2 0 36)) C hO 0 mW_0 rfl dX11_web_59 ?_
        refine lv_isub hx hb dX11_web_62 ?_
        refine lv_topi (fun z6 ez6 => ?_)
        have e7 : z6.toInt = 1 - ((fI u2 0 36)).toInt := by rw [ez6]; exact i_sub rfl rfl (by omega)
        refine pf_RX11_246 C hO 0 mW_0 (Nat.le_of_ble_eq_true rfl) mW_s0_37 dX11_web_63 (fun H locs hO => ?_)
        have hT := Km38_wI37 (x := z6) hT
        have hJ := MIs_37 (v := z6) hJ (by first | decide | omega)
        refine lv_aload_n hx hb dX11_web_66 rfl (lv_at hl 1 rfl) ?_
        refine cVv (w := mW cy a) (As := []) (rest := []) C hO (T_X11_clearBank l D cy a _ (by exact hJ) (by exact (show ((fI u2 0 36) : Int32).toInt + (z6 : Int32).toInt = 1 from by first | assumption | omega | decide))) (cwV 0 ht (gV wd_1336 wd_1338 wd_43 wd_121 wd_1339) rfl rfl rfl hd_yX11_clearBank ⟨Nat.le_of_ble_eq_true rfl, Nat.le_of_ble_eq_true rfl⟩) 0 rfl mW_0 rfl rfl hl.1 (Nat.le_of_ble_eq_true rfl) dX11_web_67 rfl ⟨Nat.zero_le _, Nat.zero_le _⟩ (fun u9 H locs hp10 hO => ?_)
        obtain ⟨hJ, hTu9, hx0u9⟩ := hp10
        have hT : Km38 u u9 := Km38.tr (by exact hT) (Km36_to_Km38 hTu9)
        refine lv_aload_n hx hb dX11_web_70 rfl (lv_at hl 1 rfl) ?_
        refine cVv (w := mW cy a) (As := []) (rest := []) C hO (T_X11_goOn l D cy a _ (by exact hJ) (by exact (show (fI u9 0 7 : Int32).toInt ≤ (fI u9 0 3 : Int32).toInt from by rw [show fI u9 0 7 = 0 from (by have h9 := (Km36_I7 hTu9); exact h9), show fI u9 0 3 = sz_k3 from (Eq.trans (by have h9 := (Km36_I3 hTu9); exact h9) hsz_k3)]; first | done | assumption | omega | decide))) (cwV 0 ht (gV wd_1556 wd_1558 wd_48 wd_121 wd_1559) rfl rfl rfl hd_yX11_goOn ⟨Nat.le_of_ble_eq_true rfl, Nat.le_of_ble_eq_true rfl⟩) 0 rfl mW_0 rfl rfl hl.1 (Nat.le_of_ble_eq_true rfl) dX11_web_71 rfl ⟨Nat.zero_le _, Nat.zero_le _⟩ (fun u12 H locs hp13 hO => ?_)
        obtain ⟨hJ, hTu12, hx0u12, hx1u12, hx2u12, hx3u12⟩ := hp13
        have hT : Km38 u u12 := Km38.tr (by exact hT) (Km26_to_Km38 hTu12)
        have g14 : 0 ≤ (fI u12 0 7).toInt ∧ (fI u12 0 7).toInt ≤ 1601 := by have h := MI_7 hJ; exact h
        have y0u12 : ((fI u12 0 7) : Int32).toInt ≤ (sz_k3 : Int32).toInt := by have h : ((fI u12 0 7) : Int32).toInt ≤ (fI u12 0 3 : Int32).toInt := hx0u12; rw [show fI u12 0 3 = sz_k3 from (Eq.trans (Km26_I3 hTu12) (Eq.trans (by have h9 := (Km36_I3 hTu9); exact h9) hsz_k3))] at h; exact h
        have g15 : 0 ≤ (fI u12 0 6).toInt ∧ (fI u12 0 6).toInt ≤ 1600 := by have h := MI_6 hJ; exact h
        have y1u12 : ((fI u12 0 6) : Int32).toInt ≤ ((fI u12 0 7) : Int32).toInt := by exact hx1u12
        have g16 : 0 ≤ (fI u12 0 8).toInt ∧ (fI u12 0 8).toInt ≤ 5 := by have h := MI_8 hJ; exact h
        have y2u12 : ((fI u12 0 8) : Int32).toInt = 0 ∨ ((fI u12 0 6) : Int32).toInt < ((fI u12 0 7) : Int32).toInt := by exact hx2u12
        have y3u12 : (0 : Int32).toInt ≤ ((fI u12 0 6) : Int32).toInt := by have h : (fI u9 0 7 : Int32).toInt ≤ ((fI u12 0 6) : Int32).toInt := hx3u12; rw [show fI u9 0 7 = 0 from (by have h9 := (Km36_I7 hTu9); exact h9)] at h; exact h
        have LP_74_k18 : ∀ (n : Nat) (u17 : St) (H : Heap) (locs : List Loc) (ls : Array Slot) (at_k18 : Int32) (en_k18 : Int32) (tk_k18 : Int32) (fa_k18 : Int32) (sz_k18 : Int32), Wo D A (mW cy a u17) s.heap H locs → lv_has ls 2 [(1, .int k_k3), (0, .ref (a 0))] → MI a u17 → Km38 u u17 → fI u17 0 6 = at_k18 → fI u17 0 7 = en_k18 → fI u17 0 8 = tk_k18 → fI u17 0 4 = fa_k18 → fI u17 0 3 = sz_k18 → en_k18.toInt ≤ sz_k18.toInt → at_k18.toInt ≤ en_k18.toInt → (tk_k18.toInt = 0 ∨ at_k18.toInt < en_k18.toInt) → 0 ≤ at_k18.toInt ∧ at_k18.toInt ≤ 1600 → 0 ≤ en_k18.toInt ∧ en_k18.toInt ≤ 1601 → 0 ≤ tk_k18.toInt ∧ tk_k18.toInt ≤ 5 → 0 ≤ fa_k18.toInt ∧ fa_k18.toInt ≤ 5 → 0 ≤ sz_k18.toInt ∧ sz_k18.toInt ≤ 1600 → (PQ u17) → 10000 * (5 - fa_k18.toInt) + (1601 - at_k18.toInt) < (n : Int) → W p l e (rmo 7 149) s m [.ref (a 0)].toArray below meth c H locs 0 0 Q (F0 m 74 ls []) := by
          intro n
          induction n with
          | zero =>
            intro u17 H locs ls at_k18 en_k18 tk_k18 fa_k18 sz_k18 hO hl hJ hT hat_k18 hen_k18 htk_k18 hfa_k18 hsz_k18 iv0_k18 iv1_k18 iv2_k18 iv3_k18 iv4_k18 iv5_k18 iv6_k18 iv7_k18 cv0_k18 hm_k18
            exact absurd hm_k18 (by omega)
          | succ n ih_k18 =>
            intro u17 H locs ls at_k18 en_k18 tk_k18 fa_k18 sz_k18 hO hl hJ hT hat_k18 hen_k18 htk_k18 hfa_k18 hsz_k18 iv0_k18 iv1_k18 iv2_k18 iv3_k18 iv4_k18 iv5_k18 iv6_k18 iv7_k18 cv0_k18 hm_k18
            refine lv_aload_n hx hb dX11_web_74 rfl (lv_at hl 1 rfl) ?_
            refine cVi (w := mW cy a) (As := []) (rest := []) C hO (T_X11_isGood l D cy a _ (by exact hJ) (fa_k18) (by exact hfa_k18)) (cwV 0 ht (gV wd_1596 wd_1598 wd_50 wd_121 wd_1599) rfl rfl rfl hd_yX11_isGood ⟨Nat.le_of_ble_eq_true rfl, Nat.le_of_ble_eq_true rfl⟩) 0 rfl mW_0 rfl rfl hl.1 (Nat.le_of_ble_eq_true rfl) dX11_web_75 rfl ⟨Nat.zero_le _, Nat.zero_le _⟩ (fun r19 u20 H locs hp21 hO => ?_)
            obtain ⟨hr19, hu20⟩ := hp21
            rw [hu20] at hO
            rcases hr19 with ⟨hcr19, hvr19⟩ | ⟨hcr19, hvr19⟩
            · subst hvr19
              refine bn_eq (X := 1) hx hb dX11_web_78 rfl (by omega) ?_ (tgt := 95) (by decide)
              refine lv_aload_n hx hb dX11_web_81 rfl (lv_at hl 1 rfl) ?_
              refine gf_RX11_208 (v := .int tk_k18) C hO 0 mW_0 (congrArg (fun z : Int32 => some (Value.int z)) htk_k18) dX11_web_82 ?_
              refine bs_eq (tgt := 95) (X := (tk_k18).toInt) hx hb dX11_web_85 (by decide) rfl (fun c22 => ?_) (fun c22 => ?_)
              · refine lv_aload_n hx hb dX11_web_95 rfl (lv_at hl 1 rfl) ?_
                refine cVi (w := mW cy a) (As := []) (rest := []) C hO (T_X11_isGood l D cy a _ (by exact hJ) (fa_k18) (by exact hfa_k18)) (cwV 0 ht (gV wd_1596 wd_1598 wd_50 wd_121 wd_1599) rfl rfl rfl hd_yX11_isGood ⟨Nat.le_of_ble_eq_true rfl, Nat.le_of_ble_eq_true rfl⟩) 0 rfl mW_0 rfl rfl hl.1 (Nat.le_of_ble_eq_true rfl) dX11_web_96 rfl ⟨Nat.zero_le _, Nat.zero_le _⟩ (fun r23 u24 H locs hp25 hO => ?_)
                obtain ⟨hr23, hu24⟩ := hp25
                rw [hu24] at hO
                rcases hr23 with ⟨hcr23, hvr23⟩ | ⟨hcr23, hvr23⟩
                · subst hvr23
                  refine bt_ne (tgt := 104) (X := 1) hx hb dX11_web_99 (by decide) rfl (by omega) ?_
                  refine lv_aload_n hx hb dX11_web_104 rfl (lv_at hl 1 rfl) ?_
                  refine lv_aload_n hx hb dX11_web_105 rfl (lv_at hl 1 rfl) ?_
                  have g26 : 0 ≤ (fI u17 0 37).toInt ∧ (fI u17 0 37).toInt ≤ 1 := by have h := MI_37 hJ; exact h
                  refine gf_RX11_246 (v := .int (fI u17 0 37)) C hO 0 mW_0 rfl dX11_web_106 ?_
                  refine pf_RX11_255 C hO 0 mW_0 (Nat.le_of_ble_eq_true rfl) mW_s0_36 dX11_web_109 (fun H locs hO => ?_)
                  have hT := Km38_wI36 (x := (fI u17 0 37)) hT
                  have hJ := MBs_36 (v := (fI u17 0 37)) hJ (by omega) (by rcases (cv0_k18).2.2.1 with h | h; exact absurd (by rw [hfa_k18]; omega) h; exact h) (by rcases (cv0_k18).2.2.2 with h | h; exact absurd (by rw [hfa_k18]; omega) h; exact h)
                  refine lv_aload_n hx hb dX11_web_112 rfl (lv_at hl 1 rfl) ?_
                  have g27 : 0 ≤ (fA u17 3 ((fI u17 0 37)).toNatClampNeg).toInt ∧ (fA u17 3 ((fI u17 0 37)).toNatClampNeg).toInt ≤ 8 := by have h := MB_A3 hJ ((fI u17 0 37)).toNatClampNeg; exact h
                  refine cVv (w := mW cy a) (As := []) (rest := []) C hO (T_X11_startAnew l D cy a _ (by exact hJ) ((fA u17 3 ((fI u17 0 37)).toNatClampNeg)) (by exact rfl)) (cwV 0 ht (gV wd_1340 wd_1342 wd_44 wd_121 wd_1343) rfl rfl rfl hd_yX11_startAnew ⟨Nat.le_of_ble_eq_true rfl, Nat.le_of_ble_eq_true rfl⟩) 0 rfl mW_0 rfl rfl hl.1 (Nat.le_of_ble_eq_true rfl) dX11_web_113 rfl ⟨Nat.zero_le _, Nat.zero_le _⟩ (fun u29 H locs hp30 hO => ?_)
                  obtain ⟨hJ, hTu29⟩ := hp30
                  have hT : Km38 u u29 := Km38.tr (by exact hT) (Km15_to_Km38 hTu29)
                  refine lv_aload_n hx hb dX11_web_116 rfl (lv_at hl 1 rfl) ?_
                  refine gf_RX11_30 (v := .ref (a 6)) C hO 0 mW_0 rfl dX11_web_117 ?_
                  refine lv_aload_n hx hb dX11_web_120 rfl (lv_at hl 1 rfl) ?_
                  refine gf_RX11_255 (v := .int (fI u17 0 37)) C hO 0 mW_0 (congrArg (fun z : Int32 => some (Value.int z)) (by have h9 := (Km15_I36 hTu29); exact h9)) dX11_web_121 ?_
                  refine aI C hO 6 mW_6 (i_in (X := ((fI u17 0 37)).toInt) rfl (by omega) (by omega)) dX11_web_124 ?_
                  have g31 : 0 ≤ (fA u17 6 ((fI u17 0 37)).toNatClampNeg).toInt ∧ (fA u17 6 ((fI u17 0 37)).toNatClampNeg).toInt ≤ 6 := by have h := MI_A6 hJ ((fI u17 0 37)).toNatClampNeg; rw [show fA u29 6 = fA u17 6 from (by have h9 := (Km15_A6 hTu29); exact h9)] at h; exact h
                  refine tE (y := (fA u17 6 ((fI u17 0 37)).toNatClampNeg)) (by exact (congrFun (by have h9 := (Km15_A6 hTu29); exact h9) _)) ?_
                  refine hret _ _ _ _ _ _ dX11_web_125 rfl ?_ hO
                  exact ⟨hJ, hT⟩
                · exfalso
                  omega
              · have g32 : 0 ≤ (fI u17 0 36).toInt ∧ (fI u17 0 36).toInt ≤ 1 := by have h := MI_36 hJ; exact h
                have g33 : 0 ≤ (fI u17 0 37).toInt ∧ (fI u17 0 37).toInt ≤ 1 := by have h := MI_37 hJ; exact h
                have hpq1 : ((fI u17 0 36)).toInt + ((fI u17 0 37)).toInt = 1 := (cv0_k18).1
                refine lv_aload_n hx hb dX11_web_88 rfl (lv_at hl 1 rfl) ?_
                refine cVv (w := mW cy a) (As := []) (rest := []) C hO (T_X11_readLine l D cy a _ (by exact hJ) (by exact (show (fI u17 0 7 : Int32).toInt ≤ (fI u17 0 3 : Int32).toInt from by rw [show fI u17 0 7 = en_k18 from hen_k18, show fI u17 0 3 = sz_k18 from hsz_k18]; first | done | assumption | omega | decide)) (by exact (show (fI u17 0 6 : Int32).toInt ≤ (fI u17 0 7 : Int32).toInt from by rw [show fI u17 0 6 = at_k18 from hat_k18, show fI u17 0 7 = en_k18 from hen_k18]; first | done | assumption | omega | decide)) (by exact (show (fI u17 0 8 : Int32).toInt = 0 ∨ (fI u17 0 6 : Int32).toInt < (fI u17 0 7 : Int32).toInt from by rw [show fI u17 0 8 = tk_k18 from htk_k18, show fI u17 0 6 = at_k18 from hat_k18, show fI u17 0 7 = en_k18 from hen_k18]; first | done | assumption | omega | decide)) (by exact (show (fI u17 0 4 : Int32).toInt = 0 from by rw [show fI u17 0 4 = fa_k18 from hfa_k18]; first | done | assumption | omega | decide)) (by exact (show ((fI u17 0 36) : Int32).toInt + ((fI u17 0 37) : Int32).toInt = 1 from by first | assumption | omega | decide)) (by exact (show ¬ (fI u17 0 8 : Int32).toInt = 0 from by rw [show fI u17 0 8 = tk_k18 from htk_k18]; first | done | assumption | omega | decide)) (by exact cv0_k18)) (cwV 0 ht (gV wd_1600 wd_1602 wd_51 wd_121 wd_1603) rfl rfl rfl hd_yX11_readLine ⟨Nat.le_of_ble_eq_true rfl, Nat.le_of_ble_eq_true rfl⟩) 0 rfl mW_0 rfl rfl hl.1 (Nat.le_of_ble_eq_true rfl) dX11_web_89 rfl ⟨Nat.zero_le _, Nat.zero_le _⟩ (fun u35 H locs hp36 hO => ?_)
                obtain ⟨hJ, hTu35, hx0u35, hx1u35, hx2u35, hx3u35, hx4u35⟩ := hp36
                have hT : Km38 u u35 := Km38.tr (by exact hT) (Km37_to_Km38 hTu35)
                have g37 : 0 ≤ (fI u35 0 7).toInt ∧ (fI u35 0 7).toInt ≤ 1601 := by have h := MI_7 hJ; exact h
                have y0u35 : ((fI u35 0 7) : Int32).toInt ≤ (sz_k18 : Int32).toInt := by have h : ((fI u35 0 7) : Int32).toInt ≤ (fI u35 0 3 : Int32).toInt := hx0u35; rw [show fI u35 0 3 = sz_k18 from (Eq.trans (Km37_I3 hTu35) hsz_k18)] at h; exact h
                have g38 : 0 ≤ (fI u35 0 6).toInt ∧ (fI u35 0 6).toInt ≤ 1600 := by have h := MI_6 hJ; exact h
                have y1u35 : ((fI u35 0 6) : Int32).toInt ≤ ((fI u35 0 7) : Int32).toInt := by exact hx1u35
                have g39 : 0 ≤ (fI u35 0 8).toInt ∧ (fI u35 0 8).toInt ≤ 5 := by have h := MI_8 hJ; exact h
                have y2u35 : ((fI u35 0 8) : Int32).toInt = 0 ∨ ((fI u35 0 6) : Int32).toInt < ((fI u35 0 7) : Int32).toInt := by exact hx2u35
                have g40 : 0 ≤ (fI u35 0 4).toInt ∧ (fI u35 0 4).toInt ≤ 5 := by have h := MI_4 hJ; exact h
                have y3u35 : ¬ ((fI u35 0 4) : Int32).toInt = 0 ∨ (at_k18 : Int32).toInt < ((fI u35 0 6) : Int32).toInt := by have h : ¬ ((fI u35 0 4) : Int32).toInt = 0 ∨ (fI u17 0 6 : Int32).toInt < ((fI u35 0 6) : Int32).toInt := hx3u35; rw [show fI u17 0 6 = at_k18 from hat_k18] at h; exact h
                refine lv_goto (tgt := 74) hx hb dX11_web_92 (by decide) ?_
                exact ih_k18 _ _ _ _ ((fI u35 0 6)) ((fI u35 0 7)) ((fI u35 0 8)) ((fI u35 0 4)) (sz_k18) hO (lv_sub hl [0, 1] rfl) (by exact hJ) (by exact hT) (by exact rfl) (by exact rfl) (by exact rfl) (by exact rfl) (by exact (Eq.trans (Km37_I3 hTu35) hsz_k18)) (by first | decide | omega) (by first | decide | omega) (by first | decide | omega) (by first | decide | omega) (by first | decide | omega) (by first | decide | omega) (by first | decide | omega) (by first | decide | omega) (by exact hx4u35) (by first | decide | omega)
            · subst hvr19
              refine bt_eq (tgt := 95) (X := 0) hx hb dX11_web_78 (by decide) rfl (by omega) ?_
              refine lv_aload_n hx hb dX11_web_95 rfl (lv_at hl 1 rfl) ?_
              refine cVi (w := mW cy a) (As := []) (rest := []) C hO (T_X11_isGood l D cy a _ (by exact hJ) (fa_k18) (by exact hfa_k18)) (cwV 0 ht (gV wd_1596 wd_1598 wd_50 wd_121 wd_1599) rfl rfl rfl hd_yX11_isGood ⟨Nat.le_of_ble_eq_true rfl, Nat.le_of_ble_eq_true rfl⟩) 0 rfl mW_0 rfl rfl hl.1 (Nat.le_of_ble_eq_true rfl) dX11_web_96 rfl ⟨Nat.zero_le _, Nat.zero_le _⟩ (fun r41 u42 H locs hp43 hO => ?_)
              obtain ⟨hr41, hu42⟩ := hp43
              rw [hu42] at hO
              rcases hr41 with ⟨hcr41, hvr41⟩ | ⟨hcr41, hvr41⟩
              · exfalso
                omega
              · subst hvr41
                refine bn_ne (X := 0) hx hb dX11_web_99 rfl (by omega) ?_ (tgt := 104) (by decide)
                refine lv_iconst (v := (-1)) hx hb dX11_web_102 (by decide) ?_
                refine hret _ _ _ _ _ _ dX11_web_103 rfl ?_ hO
                exact ⟨hJ, hT⟩
        exact LP_74_k18 60000 _ _ _ _ ((fI u12 0 6)) ((fI u12 0 7)) ((fI u12 0 8)) (fa_k3) (sz_k3) hO (lv_sub hl [0, 1] rfl) (by exact hJ) (by exact hT) (by exact rfl) (by exact rfl) (by exact rfl) (by exact (Eq.trans (Km26_I4 hTu12) (Eq.trans (by have h9 := (Km36_I4 hTu9); exact h9) hfa_k3))) (by exact (Eq.trans (Km26_I3 hTu12) (Eq.trans (by have h9 := (Km36_I3 hTu9); exact h9) hsz_k3))) (by first | decide | omega) (by first | decide | omega) (by first | decide | omega) (by first | decide | omega) (by first | decide | omega) (by first | decide | omega) (by first | decide | omega) (by first | decide | omega) (by exact PQ.lex hx0u9 (by exact (Km26_I36 hTu12)) (by exact (Km26_I37 hTu12)) (by exact (Km26_I38 hTu12)) (by exact (Km26_A11 hTu12)) (by exact (Km26_A18 hTu12)) (by exact (Km26_A19 hTu12)) (by exact (Km26_A23 hTu12)) (by exact (Km26_A3 hTu12)) (by exact (Km26_A6 hTu12)) (Or.inl (by rw [show fI u9 0 4 = fa_k3 from (Eq.trans (by have h9 := (Km36_I4 hTu9); exact h9) hfa_k3)]; omega))) (by first | decide | omega)
      · refine lv_aload_n hx hb dX11_web_28 rfl (lv_at hl 1 rfl) ?_
        refine gf_RX11_13 (v := .ref (a 2)) C hO 0 mW_0 rfl dX11_web_29 ?_
        refine lv_iload_n hx hb dX11_web_32 rfl (lv_at hl 0 rfl) ?_
        refine lv_aload_n hx hb dX11_web_33 rfl (lv_at hl 1 rfl) ?_
        refine gf_RX11_7 (v := .ref (a 1)) C hO 0 mW_0 rfl dX11_web_34 ?_
        refine lv_iload_n hx hb dX11_web_37 rfl (lv_at hl 0 rfl) ?_
        refine aB C hO 1 mW_1 (i_in (X := (k_k3).toInt) rfl (by omega) (by omega)) dX11_web_38 ?_
        refine lv_topi (fun w44 ew44 => ?_)
        refine aBs C hO 2 mW_2 (i_in (X := (k_k3).toInt) rfl (by omega) (by omega)) mW_s2 dX11_web_39 (fun H locs hO => ?_)
        have hT := Km38_wA2 hO hT
        have hJ := MIsA_2 hO hJ
        obtain ⟨z45, ez45⟩ : ∃ z : Int32, z = k_k3 + Int32.ofInt 1 := ⟨_, rfl⟩
        have e46 : z45.toInt = (k_k3).toInt + 1 := by rw [ez45]; exact i_add rfl rfl (by omega)
        refine lv_iinc (v := z45) (lv' := [(1, .int z45), (0, .ref (a 0))]) hx hb dX11_web_40 hl (k := 0) rfl ez45.symm (by decide) rfl (fun ls hl => ?_)
        refine lv_goto (tgt := 20) hx hb dX11_web_43 (by decide) ?_
        exact ih_k3 _ _ _ _ (z45) (sz_k3) (fa_k3) hO (lv_sub hl [0, 1] rfl) (by exact hJ) (by exact hT) (by exact hsz_k3) (by exact hfa_k3) (by first | decide | omega) (by first | decide | omega) (by first | decide | omega) (by first | decide | omega) (by first | decide | omega)
  have zc47 : (0 : Int32).toInt = 0 := rfl
  exact LP_20_k3 4000 _ _ _ _ (0) ((fI u 0 2)) (0) hO (lv_sub hl [0, 1] rfl) (by exact hJ) (by exact hT) (by exact rfl) (by exact rfl) (by first | decide | omega) (by first | decide | omega) (by first | decide | omega) (by first | decide | omega) (by first | decide | omega)
