theorem dX11_hour_0 : decode cX11_hour 0 = .ok (.aload_n 0, 1) := by decide +kernel
theorem dX11_hour_1 : decode cX11_hour 1 = .ok (.iload_n 1, 1) := by decide +kernel
theorem dX11_hour_2 : decode cX11_hour 2 = .ok (.invokevirtual 419, 3) := by decide +kernel
theorem dX11_hour_5 : decode cX11_hour 5 = .ok (.ifCond .eq 16, 3) := by decide +kernel
theorem dX11_hour_8 : decode cX11_hour 8 = .ok (.aload_n 0, 1) := by decide +kernel
theorem dX11_hour_9 : decode cX11_hour 9 = .ok (.getfield 97, 3) := by decide +kernel
theorem dX11_hour_12 : decode cX11_hour 12 = .ok (.bipush 25, 2) := by decide +kernel
theorem dX11_hour_14 : decode cX11_hour 14 = .ok (.iaload, 1) := by decide +kernel
theorem dX11_hour_15 : decode cX11_hour 15 = .ok (.sipush 999, 3) := by decide +kernel
theorem dX11_hour_18 : decode cX11_hour 18 = .ok (.if_icmp .ne 5, 3) := by decide +kernel
theorem dX11_hour_21 : decode cX11_hour 21 = .ok (.iconst (-1), 1) := by decide +kernel
theorem dX11_hour_22 : decode cX11_hour 22 = .ok (.ireturn, 1) := by decide +kernel
theorem dX11_hour_23 : decode cX11_hour 23 = .ok (.iload_n 1, 1) := by decide +kernel
theorem dX11_hour_24 : decode cX11_hour 24 = .ok (.aload_n 0, 1) := by decide +kernel
theorem dX11_hour_25 : decode cX11_hour 25 = .ok (.getfield 97, 3) := by decide +kernel
theorem dX11_hour_28 : decode cX11_hour 28 = .ok (.bipush 24, 2) := by decide +kernel
theorem dX11_hour_30 : decode cX11_hour 30 = .ok (.iaload, 1) := by decide +kernel
theorem dX11_hour_31 : decode cX11_hour 31 = .ok (.if_icmp .eq 24, 3) := by decide +kernel
theorem dX11_hour_34 : decode cX11_hour 34 = .ok (.aload_n 0, 1) := by decide +kernel
theorem dX11_hour_35 : decode cX11_hour 35 = .ok (.aload_n 0, 1) := by decide +kernel
theorem dX11_hour_36 : decode cX11_hour 36 = .ok (.getfield 97, 3) := by decide +kernel
theorem dX11_hour_39 : decode cX11_hour 39 = .ok (.bipush 24, 2) := by decide +kernel
theorem dX11_hour_41 : decode cX11_hour 41 = .ok (.iaload, 1) := by decide +kernel
theorem dX11_hour_42 : decode cX11_hour 42 = .ok (.iconst 0, 1) := by decide +kernel
theorem dX11_hour_43 : decode cX11_hour 43 = .ok (.invokevirtual 422, 3) := by decide +kernel
theorem dX11_hour_46 : decode cX11_hour 46 = .ok (.iload_n 1, 1) := by decide +kernel
theorem dX11_hour_47 : decode cX11_hour 47 = .ok (.invokestatic 264, 3) := by decide +kernel
theorem dX11_hour_50 : decode cX11_hour 50 = .ok (.ifCond .ne 5, 3) := by decide +kernel
theorem dX11_hour_53 : decode cX11_hour 53 = .ok (.iconst (-1), 1) := by decide +kernel
theorem dX11_hour_54 : decode cX11_hour 54 = .ok (.ireturn, 1) := by decide +kernel
theorem dX11_hour_55 : decode cX11_hour 55 = .ok (.aload_n 0, 1) := by decide +kernel
theorem dX11_hour_56 : decode cX11_hour 56 = .ok (.invokevirtual 436, 3) := by decide +kernel
theorem dX11_hour_59 : decode cX11_hour 59 = .ok (.aload_n 0, 1) := by decide +kernel
theorem dX11_hour_60 : decode cX11_hour 60 = .ok (.getfield 97, 3) := by decide +kernel
theorem dX11_hour_63 : decode cX11_hour 63 = .ok (.bipush 24, 2) := by decide +kernel
theorem dX11_hour_65 : decode cX11_hour 65 = .ok (.iload_n 1, 1) := by decide +kernel
theorem dX11_hour_66 : decode cX11_hour 66 = .ok (.iastore, 1) := by decide +kernel
theorem dX11_hour_67 : decode cX11_hour 67 = .ok (.aload_n 0, 1) := by decide +kernel
theorem dX11_hour_68 : decode cX11_hour 68 = .ok (.getfield 97, 3) := by decide +kernel
theorem dX11_hour_71 : decode cX11_hour 71 = .ok (.bipush 25, 2) := by decide +kernel
theorem dX11_hour_73 : decode cX11_hour 73 = .ok (.dup2, 1) := by decide +kernel
theorem dX11_hour_74 : decode cX11_hour 74 = .ok (.iaload, 1) := by decide +kernel
theorem dX11_hour_75 : decode cX11_hour 75 = .ok (.iconst 1, 1) := by decide +kernel
theorem dX11_hour_76 : decode cX11_hour 76 = .ok (.iadd, 1) := by decide +kernel
theorem dX11_hour_77 : decode cX11_hour 77 = .ok (.iastore, 1) := by decide +kernel
theorem dX11_hour_78 : decode cX11_hour 78 = .ok (.aload_n 0, 1) := by decide +kernel
theorem dX11_hour_79 : decode cX11_hour 79 = .ok (.getfield 97, 3) := by decide +kernel
theorem dX11_hour_82 : decode cX11_hour 82 = .ok (.bipush 26, 2) := by decide +kernel
theorem dX11_hour_84 : decode cX11_hour 84 = .ok (.iconst 0, 1) := by decide +kernel
theorem dX11_hour_85 : decode cX11_hour 85 = .ok (.iastore, 1) := by decide +kernel
theorem dX11_hour_86 : decode cX11_hour 86 = .ok (.iconst 0, 1) := by decide +kernel
theorem dX11_hour_87 : decode cX11_hour 87 = .ok (.istore_n 2, 1) := by decide +kernel
theorem dX11_hour_88 : decode cX11_hour 88 = .ok (.iconst 0, 1) := by decide +kernel
theorem dX11_hour_89 : decode cX11_hour 89 = .ok (.istore_n 3, 1) := by decide +kernel
theorem dX11_hour_90 : decode cX11_hour 90 = .ok (.iload_n 3, 1) := by decide +kernel
theorem dX11_hour_91 : decode cX11_hour 91 = .ok (.aload_n 0, 1) := by decide +kernel
theorem dX11_hour_92 : decode cX11_hour 92 = .ok (.invokevirtual 371, 3) := by decide +kernel
theorem dX11_hour_95 : decode cX11_hour 95 = .ok (.if_icmp .ge 89, 3) := by decide +kernel
theorem dX11_hour_98 : decode cX11_hour 98 = .ok (.aload_n 0, 1) := by decide +kernel
theorem dX11_hour_99 : decode cX11_hour 99 = .ok (.getfield 97, 3) := by decide +kernel
theorem dX11_hour_102 : decode cX11_hour 102 = .ok (.iconst 0, 1) := by decide +kernel
theorem dX11_hour_103 : decode cX11_hour 103 = .ok (.iload_n 3, 1) := by decide +kernel
theorem dX11_hour_104 : decode cX11_hour 104 = .ok (.iadd, 1) := by decide +kernel
theorem dX11_hour_105 : decode cX11_hour 105 = .ok (.iaload, 1) := by decide +kernel
theorem dX11_hour_106 : decode cX11_hour 106 = .ok (.iconst 1, 1) := by decide +kernel
theorem dX11_hour_107 : decode cX11_hour 107 = .ok (.if_icmp .eq 6, 3) := by decide +kernel
theorem dX11_hour_110 : decode cX11_hour 110 = .ok (.goto 68, 3) := by decide +kernel
theorem dX11_hour_113 : decode cX11_hour 113 = .ok (.aload_n 0, 1) := by decide +kernel
theorem dX11_hour_114 : decode cX11_hour 114 = .ok (.getfield 97, 3) := by decide +kernel
theorem dX11_hour_117 : decode cX11_hour 117 = .ok (.bipush 27, 2) := by decide +kernel
theorem dX11_hour_119 : decode cX11_hour 119 = .ok (.sipush 137, 3) := by decide +kernel
theorem dX11_hour_122 : decode cX11_hour 122 = .ok (.aload_n 0, 1) := by decide +kernel
theorem dX11_hour_123 : decode cX11_hour 123 = .ok (.getfield 97, 3) := by decide +kernel
theorem dX11_hour_126 : decode cX11_hour 126 = .ok (.bipush 27, 2) := by decide +kernel
theorem dX11_hour_128 : decode cX11_hour 128 = .ok (.iaload, 1) := by decide +kernel
theorem dX11_hour_129 : decode cX11_hour 129 = .ok (.imul, 1) := by decide +kernel
theorem dX11_hour_130 : decode cX11_hour 130 = .ok (.bipush 71, 2) := by decide +kernel
theorem dX11_hour_132 : decode cX11_hour 132 = .ok (.iadd, 1) := by decide +kernel
theorem dX11_hour_133 : decode cX11_hour 133 = .ok (.sipush 1000, 3) := by decide +kernel
theorem dX11_hour_136 : decode cX11_hour 136 = .ok (.irem, 1) := by decide +kernel
theorem dX11_hour_137 : decode cX11_hour 137 = .ok (.iastore, 1) := by decide +kernel
theorem dX11_hour_138 : decode cX11_hour 138 = .ok (.aload_n 0, 1) := by decide +kernel
theorem dX11_hour_139 : decode cX11_hour 139 = .ok (.getfield 97, 3) := by decide +kernel
theorem dX11_hour_142 : decode cX11_hour 142 = .ok (.bipush 27, 2) := by decide +kernel
theorem dX11_hour_144 : decode cX11_hour 144 = .ok (.iaload, 1) := by decide +kernel
theorem dX11_hour_145 : decode cX11_hour 145 = .ok (.bipush 100, 2) := by decide +kernel
theorem dX11_hour_147 : decode cX11_hour 147 = .ok (.irem, 1) := by decide +kernel
theorem dX11_hour_148 : decode cX11_hour 148 = .ok (.aload_n 0, 1) := by decide +kernel
theorem dX11_hour_149 : decode cX11_hour 149 = .ok (.getfield 39, 3) := by decide +kernel
theorem dX11_hour_152 : decode cX11_hour 152 = .ok (.aload_n 0, 1) := by decide +kernel
theorem dX11_hour_153 : decode cX11_hour 153 = .ok (.getfield 255, 3) := by decide +kernel
theorem dX11_hour_156 : decode cX11_hour 156 = .ok (.iaload, 1) := by decide +kernel
theorem dX11_hour_157 : decode cX11_hour 157 = .ok (.if_icmp .lt 6, 3) := by decide +kernel
theorem dX11_hour_160 : decode cX11_hour 160 = .ok (.goto 18, 3) := by decide +kernel
theorem dX11_hour_163 : decode cX11_hour 163 = .ok (.aload_n 0, 1) := by decide +kernel
theorem dX11_hour_164 : decode cX11_hour 164 = .ok (.getfield 97, 3) := by decide +kernel
theorem dX11_hour_167 : decode cX11_hour 167 = .ok (.iconst 0, 1) := by decide +kernel
theorem dX11_hour_168 : decode cX11_hour 168 = .ok (.iload_n 3, 1) := by decide +kernel
theorem dX11_hour_169 : decode cX11_hour 169 = .ok (.iadd, 1) := by decide +kernel
theorem dX11_hour_170 : decode cX11_hour 170 = .ok (.iconst 0, 1) := by decide +kernel
theorem dX11_hour_171 : decode cX11_hour 171 = .ok (.iastore, 1) := by decide +kernel
theorem dX11_hour_172 : decode cX11_hour 172 = .ok (.iload_n 2, 1) := by decide +kernel
theorem dX11_hour_173 : decode cX11_hour 173 = .ok (.iconst 1, 1) := by decide +kernel
theorem dX11_hour_174 : decode cX11_hour 174 = .ok (.iload_n 3, 1) := by decide +kernel
theorem dX11_hour_175 : decode cX11_hour 175 = .ok (.ishl, 1) := by decide +kernel
theorem dX11_hour_176 : decode cX11_hour 176 = .ok (.ior, 1) := by decide +kernel
theorem dX11_hour_177 : decode cX11_hour 177 = .ok (.istore_n 2, 1) := by decide +kernel
theorem dX11_hour_178 : decode cX11_hour 178 = .ok (.iinc 3 1, 3) := by decide +kernel
theorem dX11_hour_181 : decode cX11_hour 181 = .ok (.goto (-91), 3) := by decide +kernel
theorem dX11_hour_184 : decode cX11_hour 184 = .ok (.iload_n 2, 1) := by decide +kernel
theorem dX11_hour_185 : decode cX11_hour 185 = .ok (.ireturn, 1) := by decide +kernel
theorem wd_1816 : (Cond.code ⟨"WebCourtModel", "hour", "(I)I"⟩ prog_13_method_75_code (4 : Nat) (Option.some FieldType.int)) ∈ gtb := gtb_c8 27 (by decide +kernel) rfl
theorem wd_1817 : (Cond.methodLink "WebCourtModel" (436 : Nat) ⟨"WebCourtModel", "keepAct", "()V"⟩) ∈ gtb := gtb_c8 28 (by decide +kernel) rfl
theorem wd_1819 : (Cond.instanceMethod ⟨"WebCourtModel", "keepAct", "()V"⟩) ∈ gtb := gtb_c8 30 (by decide +kernel) rfl
theorem wd_93 : (Cond.selects "WebCourtModel" ⟨"WebCourtModel", "keepAct", "()V"⟩ ⟨"WebCourtModel", "keepAct", "()V"⟩) ∈ gtb := gtb_p 93 (by decide +kernel) rfl
theorem hd_yX11_keepAct : yX11_keepAct.cls = RX11 ∧ yX11_keepAct.cls ≠ "java/lang/invoke/MethodHandle" ∧ yX11_keepAct.cls ≠ "java/lang/invoke/VarHandle" ∧ (parseMethodDescriptor yX11_keepAct.desc).map (fun d => d.parameters.length) = some 0 := by decide +kernel
theorem Km9_to_Km11 {u v : St} (h : Km9 u v) : Km11 u v := ⟨h.1, h.2.1, h.2.2.1, h.2.2.2.1, h.2.2.2.2.1, h.2.2.2.2.2.1, h.2.2.2.2.2.2.1, h.2.2.2.2.2.2.2.1, h.2.2.2.2.2.2.2.2.1, h.2.2.2.2.2.2.2.2.2.1, h.2.2.2.2.2.2.2.2.2.2.1, h.2.2.2.2.2.2.2.2.2.2.2.1, h.2.2.2.2.2.2.2.2.2.2.2.2.1, h.2.2.2.2.2.2.2.2.2.2.2.2.2.1, h.2.2.2.2.2.2.2.2.2.2.2.2.2.2.1, h.2.2.2.2.2.2.2.2.2.2.2.2.2.2.2.1, h.2.2.2.2.2.2.2.2.2.2.2.2.2.2.2.2.1, h.2.2.2.2.2.2.2.2.2.2.2.2.2.2.2.2.2.1, h.2.2.2.2.2.2.2.2.2.2.2.2.2.2.2.2.2.2.1, h.2.2.2.2.2.2.2.2.2.2.2.2.2.2.2.2.2.2.2.1, h.2.2.2.2.2.2.2.2.2.2.2.2.2.2.2.2.2.2.2.2.1, h.2.2.2.2.2.2.2.2.2.2.2.2.2.2.2.2.2.2.2.2.2.1, h.2.2.2.2.2.2.2.2.2.2.2.2.2.2.2.2.2.2.2.2.2.2.1, h.2.2.2.2.2.2.2.2.2.2.2.2.2.2.2.2.2.2.2.2.2.2.2.1, h.2.2.2.2.2.2.2.2.2.2.2.2.2.2.2.2.2.2.2.2.2.2.2.2.1, h.2.2.2.2.2.2.2.2.2.2.2.2.2.2.2.2.2.2.2.2.2.2.2.2.2.1, h.2.2.2.2.2.2.2.2.2.2.2.2.2.2.2.2.2.2.2.2.2.2.2.2.2.2.1, h.2.2.2.2.2.2.2.2.2.2.2.2.2.2.2.2.2.2.2.2.2.2.2.2.2.2.2.1, h.2.2.2.2.2.2.2.2.2.2.2.2.2.2.2.2.2.2.2.2.2.2.2.2.2.2.2.2.1, h.2.2.2.2.2.2.2.2.2.2.2.2.2.2.2.2.2.2.2.2.2.2.2.2.2.2.2.2.2.1, h.2.2.2.2.2.2.2.2.2.2.2.2.2.2.2.2.2.2.2.2.2.2.2.2.2.2.2.2.2.2.1, h.2.2.2.2.2.2.2.2.2.2.2.2.2.2.2.2.2.2.2.2.2.2.2.2.2.2.2.2.2.2.2.1, h.2.2.2.2.2.2.2.2.2.2.2.2.2.2.2.2.2.2.2.2.2.2.2.2.2.2.2.2.2.2.2.2.1, h.2.2.2.2.2.2.2.2.2.2.2.2.2.2.2.2.2.2.2.2.2.2.2.2.2.2.2.2.2.2.2.2.2.1, h.2.2.2.2.2.2.2.2.2.2.2.2.2.2.2.2.2.2.2.2.2.2.2.2.2.2.2.2.2.2.2.2.2.2.1, h.2.2.2.2.2.2.2.2.2.2.2.2.2.2.2.2.2.2.2.2.2.2.2.2.2.2.2.2.2.2.2.2.2.2.2.1, h.2.2.2.2.2.2.2.2.2.2.2.2.2.2.2.2.2.2.2.2.2.2.2.2.2.2.2.2.2.2.2.2.2.2.2.2.1, h.2.2.2.2.2.2.2.2.2.2.2.2.2.2.2.2.2.2.2.2.2.2.2.2.2.2.2.2.2.2.2.2.2.2.2.2.2.1, h.2.2.2.2.2.2.2.2.2.2.2.2.2.2.2.2.2.2.2.2.2.2.2.2.2.2.2.2.2.2.2.2.2.2.2.2.2.2.1, h.2.2.2.2.2.2.2.2.2.2.2.2.2.2.2.2.2.2.2.2.2.2.2.2.2.2.2.2.2.2.2.2.2.2.2.2.2.2.2.1, h.2.2.2.2.2.2.2.2.2.2.2.2.2.2.2.2.2.2.2.2.2.2.2.2.2.2.2.2.2.2.2.2.2.2.2.2.2.2.2.2.1, h.2.2.2.2.2.2.2.2.2.2.2.2.2.2.2.2.2.2.2.2.2.2.2.2.2.2.2.2.2.2.2.2.2.2.2.2.2.2.2.2.2.1, h.2.2.2.2.2.2.2.2.2.2.2.2.2.2.2.2.2.2.2.2.2.2.2.2.2.2.2.2.2.2.2.2.2.2.2.2.2.2.2.2.2.2.1, h.2.2.2.2.2.2.2.2.2.2.2.2.2.2.2.2.2.2.2.2.2.2.2.2.2.2.2.2.2.2.2.2.2.2.2.2.2.2.2.2.2.2.2.1, h.2.2.2.2.2.2.2.2.2.2.2.2.2.2.2.2.2.2.2.2.2.2.2.2.2.2.2.2.2.2.2.2.2.2.2.2.2.2.2.2.2.2.2.2.1, h.2.2.2.2.2.2.2.2.2.2.2.2.2.2.2.2.2.2.2.2.2.2.2.2.2.2.2.2.2.2.2.2.2.2.2.2.2.2.2.2.2.2.2.2.2.1, h.2.2.2.2.2.2.2.2.2.2.2.2.2.2.2.2.2.2.2.2.2.2.2.2.2.2.2.2.2.2.2.2.2.2.2.2.2.2.2.2.2.2.2.2.2.2.1, h.2.2.2.2.2.2.2.2.2.2.2.2.2.2.2.2.2.2.2.2.2.2.2.2.2.2.2.2.2.2.2.2.2.2.2.2.2.2.2.2.2.2.2.2.2.2.2.1, h.2.2.2.2.2.2.2.2.2.2.2.2.2.2.2.2.2.2.2.2.2.2.2.2.2.2.2.2.2.2.2.2.2.2.2.2.2.2.2.2.2.2.2.2.2.2.2.2.2.1, h.2.2.2.2.2.2.2.2.2.2.2.2.2.2.2.2.2.2.2.2.2.2.2.2.2.2.2.2.2.2.2.2.2.2.2.2.2.2.2.2.2.2.2.2.2.2.2.2.2.2.1, h.2.2.2.2.2.2.2.2.2.2.2.2.2.2.2.2.2.2.2.2.2.2.2.2.2.2.2.2.2.2.2.2.2.2.2.2.2.2.2.2.2.2.2.2.2.2.2.2.2.2.2.1, h.2.2.2.2.2.2.2.2.2.2.2.2.2.2.2.2.2.2.2.2.2.2.2.2.2.2.2.2.2.2.2.2.2.2.2.2.2.2.2.2.2.2.2.2.2.2.2.2.2.2.2.2.1, h.2.2.2.2.2.2.2.2.2.2.2.2.2.2.2.2.2.2.2.2.2.2.2.2.2.2.2.2.2.2.2.2.2.2.2.2.2.2.2.2.2.2.2.2.2.2.2.2.2.2.2.2.2.1, h.2.2.2.2.2.2.2.2.2.2.2.2.2.2.2.2.2.2.2.2.2.2.2.2.2.2.2.2.2.2.2.2.2.2.2.2.2.2.2.2.2.2.2.2.2.2.2.2.2.2.2.2.2.2.1, h.2.2.2.2.2.2.2.2.2.2.2.2.2.2.2.2.2.2.2.2.2.2.2.2.2.2.2.2.2.2.2.2.2.2.2.2.2.2.2.2.2.2.2.2.2.2.2.2.2.2.2.2.2.2.2.1, h.2.2.2.2.2.2.2.2.2.2.2.2.2.2.2.2.2.2.2.2.2.2.2.2.2.2.2.2.2.2.2.2.2.2.2.2.2.2.2.2.2.2.2.2.2.2.2.2.2.2.2.2.2.2.2.2.1, h.2.2.2.2.2.2.2.2.2.2.2.2.2.2.2.2.2.2.2.2.2.2.2.2.2.2.2.2.2.2.2.2.2.2.2.2.2.2.2.2.2.2.2.2.2.2.2.2.2.2.2.2.2.2.2.2.2.1, h.2.2.2.2.2.2.2.2.2.2.2.2.2.2.2.2.2.2.2.2.2.2.2.2.2.2.2.2.2.2.2.2.2.2.2.2.2.2.2.2.2.2.2.2.2.2.2.2.2.2.2.2.2.2.2.2.2.2.1, h.2.2.2.2.2.2.2.2.2.2.2.2.2.2.2.2.2.2.2.2.2.2.2.2.2.2.2.2.2.2.2.2.2.2.2.2.2.2.2.2.2.2.2.2.2.2.2.2.2.2.2.2.2.2.2.2.2.2.2.1, h.2.2.2.2.2.2.2.2.2.2.2.2.2.2.2.2.2.2.2.2.2.2.2.2.2.2.2.2.2.2.2.2.2.2.2.2.2.2.2.2.2.2.2.2.2.2.2.2.2.2.2.2.2.2.2.2.2.2.2.2.1, h.2.2.2.2.2.2.2.2.2.2.2.2.2.2.2.2.2.2.2.2.2.2.2.2.2.2.2.2.2.2.2.2.2.2.2.2.2.2.2.2.2.2.2.2.2.2.2.2.2.2.2.2.2.2.2.2.2.2.2.2.2⟩
theorem Km11_wA28 {u v : St} {D : va_G} {A : Nat → Prop} {cy : Nat → ClassId} {a : Nat → Nat} {hp H : Heap} {locs : List Loc} {f : Nat → Int32} (_ : Wo D A (mW cy a (sA v 28 f)) hp H locs) (h : Km11 u v) : Km11 u (sA v 28 f) := ⟨h.1, h.2.1, h.2.2.1, h.2.2.2.1, h.2.2.2.2.1, h.2.2.2.2.2.1, h.2.2.2.2.2.2.1, h.2.2.2.2.2.2.2.1, h.2.2.2.2.2.2.2.2.1, h.2.2.2.2.2.2.2.2.2.1, h.2.2.2.2.2.2.2.2.2.2.1, h.2.2.2.2.2.2.2.2.2.2.2.1, h.2.2.2.2.2.2.2.2.2.2.2.2.1, h.2.2.2.2.2.2.2.2.2.2.2.2.2.1, h.2.2.2.2.2.2.2.2.2.2.2.2.2.2.1, h.2.2.2.2.2.2.2.2.2.2.2.2.2.2.2.1, h.2.2.2.2.2.2.2.2.2.2.2.2.2.2.2.2.1, h.2.2.2.2.2.2.2.2.2.2.2.2.2.2.2.2.2.1, h.2.2.2.2.2.2.2.2.2.2.2.2.2.2.2.2.2.2.1, h.2.2.2.2.2.2.2.2.2.2.2.2.2.2.2.2.2.2.2.1, h.2.2.2.2.2.2.2.2.2.2.2.2.2.2.2.2.2.2.2.2.1, h.2.2.2.2.2.2.2.2.2.2.2.2.2.2.2.2.2.2.2.2.2.1, h.2.2.2.2.2.2.2.2.2.2.2.2.2.2.2.2.2.2.2.2.2.2.1, h.2.2.2.2.2.2.2.2.2.2.2.2.2.2.2.2.2.2.2.2.2.2.2.1, h.2.2.2.2.2.2.2.2.2.2.2.2.2.2.2.2.2.2.2.2.2.2.2.2.1, h.2.2.2.2.2.2.2.2.2.2.2.2.2.2.2.2.2.2.2.2.2.2.2.2.2.1, h.2.2.2.2.2.2.2.2.2.2.2.2.2.2.2.2.2.2.2.2.2.2.2.2.2.2.1, h.2.2.2.2.2.2.2.2.2.2.2.2.2.2.2.2.2.2.2.2.2.2.2.2.2.2.2.1, h.2.2.2.2.2.2.2.2.2.2.2.2.2.2.2.2.2.2.2.2.2.2.2.2.2.2.2.2.1, h.2.2.2.2.2.2.2.2.2.2.2.2.2.2.2.2.2.2.2.2.2.2.2.2.2.2.2.2.2.1, h.2.2.2.2.2.2.2.2.2.2.2.2.2.2.2.2.2.2.2.2.2.2.2.2.2.2.2.2.2.2.1, h.2.2.2.2.2.2.2.2.2.2.2.2.2.2.2.2.2.2.2.2.2.2.2.2.2.2.2.2.2.2.2.1, h.2.2.2.2.2.2.2.2.2.2.2.2.2.2.2.2.2.2.2.2.2.2.2.2.2.2.2.2.2.2.2.2.1, h.2.2.2.2.2.2.2.2.2.2.2.2.2.2.2.2.2.2.2.2.2.2.2.2.2.2.2.2.2.2.2.2.2.1, h.2.2.2.2.2.2.2.2.2.2.2.2.2.2.2.2.2.2.2.2.2.2.2.2.2.2.2.2.2.2.2.2.2.2.1, h.2.2.2.2.2.2.2.2.2.2.2.2.2.2.2.2.2.2.2.2.2.2.2.2.2.2.2.2.2.2.2.2.2.2.2.1, h.2.2.2.2.2.2.2.2.2.2.2.2.2.2.2.2.2.2.2.2.2.2.2.2.2.2.2.2.2.2.2.2.2.2.2.2.1, h.2.2.2.2.2.2.2.2.2.2.2.2.2.2.2.2.2.2.2.2.2.2.2.2.2.2.2.2.2.2.2.2.2.2.2.2.2.1, h.2.2.2.2.2.2.2.2.2.2.2.2.2.2.2.2.2.2.2.2.2.2.2.2.2.2.2.2.2.2.2.2.2.2.2.2.2.2.1, h.2.2.2.2.2.2.2.2.2.2.2.2.2.2.2.2.2.2.2.2.2.2.2.2.2.2.2.2.2.2.2.2.2.2.2.2.2.2.2.1, h.2.2.2.2.2.2.2.2.2.2.2.2.2.2.2.2.2.2.2.2.2.2.2.2.2.2.2.2.2.2.2.2.2.2.2.2.2.2.2.2.1, h.2.2.2.2.2.2.2.2.2.2.2.2.2.2.2.2.2.2.2.2.2.2.2.2.2.2.2.2.2.2.2.2.2.2.2.2.2.2.2.2.2.1, h.2.2.2.2.2.2.2.2.2.2.2.2.2.2.2.2.2.2.2.2.2.2.2.2.2.2.2.2.2.2.2.2.2.2.2.2.2.2.2.2.2.2.1, h.2.2.2.2.2.2.2.2.2.2.2.2.2.2.2.2.2.2.2.2.2.2.2.2.2.2.2.2.2.2.2.2.2.2.2.2.2.2.2.2.2.2.2.1, h.2.2.2.2.2.2.2.2.2.2.2.2.2.2.2.2.2.2.2.2.2.2.2.2.2.2.2.2.2.2.2.2.2.2.2.2.2.2.2.2.2.2.2.2.1, h.2.2.2.2.2.2.2.2.2.2.2.2.2.2.2.2.2.2.2.2.2.2.2.2.2.2.2.2.2.2.2.2.2.2.2.2.2.2.2.2.2.2.2.2.2.1, h.2.2.2.2.2.2.2.2.2.2.2.2.2.2.2.2.2.2.2.2.2.2.2.2.2.2.2.2.2.2.2.2.2.2.2.2.2.2.2.2.2.2.2.2.2.2.1, h.2.2.2.2.2.2.2.2.2.2.2.2.2.2.2.2.2.2.2.2.2.2.2.2.2.2.2.2.2.2.2.2.2.2.2.2.2.2.2.2.2.2.2.2.2.2.2.1, h.2.2.2.2.2.2.2.2.2.2.2.2.2.2.2.2.2.2.2.2.2.2.2.2.2.2.2.2.2.2.2.2.2.2.2.2.2.2.2.2.2.2.2.2.2.2.2.2.1, h.2.2.2.2.2.2.2.2.2.2.2.2.2.2.2.2.2.2.2.2.2.2.2.2.2.2.2.2.2.2.2.2.2.2.2.2.2.2.2.2.2.2.2.2.2.2.2.2.2.1, h.2.2.2.2.2.2.2.2.2.2.2.2.2.2.2.2.2.2.2.2.2.2.2.2.2.2.2.2.2.2.2.2.2.2.2.2.2.2.2.2.2.2.2.2.2.2.2.2.2.2.1, h.2.2.2.2.2.2.2.2.2.2.2.2.2.2.2.2.2.2.2.2.2.2.2.2.2.2.2.2.2.2.2.2.2.2.2.2.2.2.2.2.2.2.2.2.2.2.2.2.2.2.2.1, h.2.2.2.2.2.2.2.2.2.2.2.2.2.2.2.2.2.2.2.2.2.2.2.2.2.2.2.2.2.2.2.2.2.2.2.2.2.2.2.2.2.2.2.2.2.2.2.2.2.2.2.2.1, h.2.2.2.2.2.2.2.2.2.2.2.2.2.2.2.2.2.2.2.2.2.2.2.2.2.2.2.2.2.2.2.2.2.2.2.2.2.2.2.2.2.2.2.2.2.2.2.2.2.2.2.2.2.1, h.2.2.2.2.2.2.2.2.2.2.2.2.2.2.2.2.2.2.2.2.2.2.2.2.2.2.2.2.2.2.2.2.2.2.2.2.2.2.2.2.2.2.2.2.2.2.2.2.2.2.2.2.2.2.1, h.2.2.2.2.2.2.2.2.2.2.2.2.2.2.2.2.2.2.2.2.2.2.2.2.2.2.2.2.2.2.2.2.2.2.2.2.2.2.2.2.2.2.2.2.2.2.2.2.2.2.2.2.2.2.2.1, h.2.2.2.2.2.2.2.2.2.2.2.2.2.2.2.2.2.2.2.2.2.2.2.2.2.2.2.2.2.2.2.2.2.2.2.2.2.2.2.2.2.2.2.2.2.2.2.2.2.2.2.2.2.2.2.2.1, h.2.2.2.2.2.2.2.2.2.2.2.2.2.2.2.2.2.2.2.2.2.2.2.2.2.2.2.2.2.2.2.2.2.2.2.2.2.2.2.2.2.2.2.2.2.2.2.2.2.2.2.2.2.2.2.2.2.1, h.2.2.2.2.2.2.2.2.2.2.2.2.2.2.2.2.2.2.2.2.2.2.2.2.2.2.2.2.2.2.2.2.2.2.2.2.2.2.2.2.2.2.2.2.2.2.2.2.2.2.2.2.2.2.2.2.2.2.1, h.2.2.2.2.2.2.2.2.2.2.2.2.2.2.2.2.2.2.2.2.2.2.2.2.2.2.2.2.2.2.2.2.2.2.2.2.2.2.2.2.2.2.2.2.2.2.2.2.2.2.2.2.2.2.2.2.2.2.2.1, h.2.2.2.2.2.2.2.2.2.2.2.2.2.2.2.2.2.2.2.2.2.2.2.2.2.2.2.2.2.2.2.2.2.2.2.2.2.2.2.2.2.2.2.2.2.2.2.2.2.2.2.2.2.2.2.2.2.2.2.2⟩
theorem Km11_I36 {u v : St} (h : Km11 u v) : fI v 0 36 = fI u 0 36 := h.2.2.2.2.2.2.2.2.2.1
theorem Km11_A6 {u v : St} (h : Km11 u v) : fA v 6 = fA u 6 := h.2.2.2.2.2.2.2.2.2.2.2.2.2.2.2.2.2.2.2.2.2.2.2.2.2.2.1
theorem Km11_A9 {u v : St} (h : Km11 u v) : fA v 9 = fA u 9 := h.2.2.2.2.2.2.2.2.2.2.2.2.2.2.2.2.2.2.2.2.2.2.2.2.2.2.2.2.2.1
set_option maxHeartbeats 4000000 in
set_option maxRecDepth 100000 in
theorem T_X11_hour (l : Launch) (D : va_G) (cy : Nat → ClassId) (a : Nat → Nat) (u : St) (hJ : MI a u) (x1 : Int32)  : Mi l D cy (mW cy a) yX11_hour (.code yX11_hour cX11_hour 4 (some .int)) (rmo 2 46) [.ref (a 0), .int x1] u (fun (r : Int32) (u' : St) => (MI a u') ∧ (Km11 u u')) := by
  refine Mi.of (own := RX11) rfl (by decide) (Nat.le_of_ble_eq_true rfl) ?_
  have hT : Km11 u u := Km11.rf
  have hJ0 := hJ
  intro p e s m below meth c A Q ls C hret hO hl
  obtain ⟨hx, hb, hml, hown, ht, hK, hA⟩ := id C
  have hl : lv_has ls 4 [(0, .ref (a 0)), (1, .int x1)] := hl
  refine lv_aload_n hx hb dX11_hour_0 rfl (lv_at hl 0 rfl) ?_
  refine lv_iload_n hx hb dX11_hour_1 rfl (lv_at hl 1 rfl) ?_
  have g1 : 0 ≤ (fI u 0 36).toInt ∧ (fI u 0 36).toInt ≤ 1 := by have h := MI_36 hJ0; exact h
  have g2 : 0 ≤ (fA u 3 ((fI u 0 36)).toNatClampNeg).toInt ∧ (fA u 3 ((fI u 0 36)).toNatClampNeg).toInt ≤ 8 := by have h := MI_A3 hJ0 ((fI u 0 36)).toNatClampNeg; exact h
  refine cVi (w := mW cy a) (As := [.int x1]) (rest := []) C hO (T_X11_isKnot l D cy a _ (by exact hJ) ((fA u 3 ((fI u 0 36)).toNatClampNeg)) (by exact rfl) (x1)) (cwV 1 ht (gV wd_1718 wd_1720 wd_77 wd_121 wd_1721) rfl rfl rfl hd_yX11_isKnot ⟨Nat.le_of_ble_eq_true rfl, Nat.le_of_ble_eq_true rfl⟩) 0 rfl mW_0 rfl rfl hl.1 (Nat.le_of_ble_eq_true rfl) dX11_hour_2 rfl ⟨Nat.zero_le _, Nat.zero_le _⟩ (fun r3 u4 H locs hp5 hO => ?_)
  obtain ⟨hr3, hu4⟩ := hp5
  rw [hu4] at hO
  rcases hr3 with ⟨hcr3, hvr3⟩ | ⟨hcr3, hvr3⟩
  · subst hvr3
    refine bn_eq (X := 1) hx hb dX11_hour_5 rfl (by omega) ?_ (tgt := 21) (by decide)
    refine lv_aload_n hx hb dX11_hour_8 rfl (lv_at hl 0 rfl) ?_
    refine gf_RX11_97 (v := .ref (a 28)) C hO 0 mW_0 rfl dX11_hour_9 ?_
    refine lv_bipush (v := 25) hx hb dX11_hour_12 (by decide) ?_
    refine aI C hO 28 mW_28 (i_in (X := 25) rfl (by omega) (by omega)) dX11_hour_14 ?_
    refine tE (y := (fA u 28 25)) (by exact rfl) ?_
    refine lv_sipush (v := 999) hx hb dX11_hour_15 (by decide) ?_
    refine cs_ne (tgt := 23) (X := ((fA u 28 25)).toInt) (Y := 999) hx hb dX11_hour_18 (by decide) rfl rfl (fun c6 => ?_) (fun c6 => ?_)
    · refine lv_iload_n hx hb dX11_hour_23 rfl (lv_at hl 1 rfl) ?_
      refine lv_aload_n hx hb dX11_hour_24 rfl (lv_at hl 0 rfl) ?_
      refine gf_RX11_97 (v := .ref (a 28)) C hO 0 mW_0 rfl dX11_hour_25 ?_
      refine lv_bipush (v := 24) hx hb dX11_hour_28 (by decide) ?_
      refine aI C hO 28 mW_28 (i_in (X := 24) rfl (by omega) (by omega)) dX11_hour_30 ?_
      refine tE (y := (fA u 28 24)) (by exact rfl) ?_
      have g7 : 0 ≤ (fA u 28 24).toInt ∧ (fA u 28 24).toInt ≤ 7 := by have h := MI_sheK hJ (K := (fA u 3 ((fI u 0 36)).toNatClampNeg)) (by exact rfl) (by omega); exact h
      refine cs_eq (tgt := 55) (X := (x1).toInt) (Y := ((fA u 28 24)).toInt) hx hb dX11_hour_31 (by decide) rfl rfl (fun c8 => ?_) (fun c8 => ?_)
      · refine lv_aload_n hx hb dX11_hour_55 rfl (lv_at hl 0 rfl) ?_
        refine cVv (w := mW cy a) (As := []) (rest := []) C hO (T_X11_keepAct l D cy a _ (by exact hJ)) (cwV 0 ht (gV wd_1817 wd_1819 wd_93 wd_121 wd_1820) rfl rfl rfl hd_yX11_keepAct ⟨Nat.le_of_ble_eq_true rfl, Nat.le_of_ble_eq_true rfl⟩) 0 rfl mW_0 rfl rfl hl.1 (Nat.le_of_ble_eq_true rfl) dX11_hour_56 rfl ⟨Nat.zero_le _, Nat.zero_le _⟩ (fun u10 H locs hp11 hO => ?_)
        obtain ⟨hJ, hTu10⟩ := hp11
        have hT : Km11 u u10 := Km11.tr (by exact hT) (Km9_to_Km11 hTu10)
        refine lv_aload_n hx hb dX11_hour_59 rfl (lv_at hl 0 rfl) ?_
        refine gf_RX11_97 (v := .ref (a 28)) C hO 0 mW_0 rfl dX11_hour_60 ?_
        refine lv_bipush (v := 24) hx hb dX11_hour_63 (by decide) ?_
        refine lv_iload_n hx hb dX11_hour_65 rfl (lv_at hl 1 rfl) ?_
        refine aIs C hO 28 mW_28 (i_in (X := 24) rfl (by omega) (by omega)) mW_s28 dX11_hour_66 (fun H locs hO => ?_)
        have hT := Km11_wA28 hO hT
        have hJ := MIsA_28 hO hJ (Or.inr (Sh.ok (by omega) (by omega)))
        refine lv_aload_n hx hb dX11_hour_67 rfl (lv_at hl 0 rfl) ?_
        refine gf_RX11_97 (v := .ref (a 28)) C hO 0 mW_0 rfl dX11_hour_68 ?_
        refine lv_bipush (v := 25) hx hb dX11_hour_71 (by decide) ?_
        refine lv_dup2_11 hx hb dX11_hour_73 rfl rfl ?_
        refine aI C hO 28 mW_28 (i_in (X := 25) rfl (by omega) (by omega)) dX11_hour_74 ?_
        refine lv_topi (fun w12 ew12 => ?_)
        refine lv_iconst (v := 1) hx hb dX11_hour_75 (by decide) ?_
        refine lv_iadd hx hb dX11_hour_76 ?_
        refine lv_topi (fun z13 ez13 => ?_)
        refine aIs C hO 28 mW_28 (i_in (X := 25) rfl (by omega) (by omega)) mW_s28 dX11_hour_77 (fun H locs hO => ?_)
        have hT := Km11_wA28 hO hT
        have hJ := MIsA_28 hO hJ (Or.inl (i_ck (X := 25) rfl (by omega) (by omega)))
        refine lv_aload_n hx hb dX11_hour_78 rfl (lv_at hl 0 rfl) ?_
        refine gf_RX11_97 (v := .ref (a 28)) C hO 0 mW_0 rfl dX11_hour_79 ?_
        refine lv_bipush (v := 26) hx hb dX11_hour_82 (by decide) ?_
        refine lv_iconst (v := 0) hx hb dX11_hour_84 (by decide) ?_
        refine aIs C hO 28 mW_28 (i_in (X := 26) rfl (by omega) (by omega)) mW_s28 dX11_hour_85 (fun H locs hO => ?_)
        have hT := Km11_wA28 hO hT
        have hJ := MIsA_28 hO hJ (Or.inl (i_ck (X := 26) rfl (by omega) (by omega)))
        refine lv_iconst (v := 0) hx hb dX11_hour_86 (by decide) ?_
        refine lv_istore_n (lv' := [(2, .int 0), (0, .ref (a 0)), (1, .int x1)]) hx hb dX11_hour_87 rfl hl (by decide) rfl (fun ls hl => ?_)
        refine lv_iconst (v := 0) hx hb dX11_hour_88 (by decide) ?_
        refine lv_istore_n (lv' := [(3, .int 0), (2, .int 0), (0, .ref (a 0)), (1, .int x1)]) hx hb dX11_hour_89 rfl hl (by decide) rfl (fun ls hl => ?_)
        have LP_90_k15 : ∀ (n : Nat) (u14 : St) (H : Heap) (locs : List Loc) (ls : Array Slot) (i_k15 : Int32) (w2_k15 : Int32), Wo D A (mW cy a u14) s.heap H locs → lv_has ls 4 [(3, .int i_k15), (2, .int w2_k15), (0, .ref (a 0)), (1, .int x1)] → MI a u14 → Km11 u u14 → 0 ≤ i_k15.toInt ∧ i_k15.toInt ≤ 6 → 6 - i_k15.toInt < (n : Int) → W p l e (rmo 2 46) s m [.ref (a 0), .int x1].toArray below meth c H locs 0 0 Q (F0 m 90 ls []) := by
          intro n
          induction n with
          | zero =>
            intro u14 H locs ls i_k15 w2_k15 hO hl hJ hT iv0_k15 hm_k15
            exact absurd hm_k15 (by omega)
          | succ n ih_k15 =>
            intro u14 H locs ls i_k15 w2_k15 hO hl hJ hT iv0_k15 hm_k15
            refine lv_iload_n hx hb dX11_hour_90 rfl (lv_at hl 0 rfl) ?_
            refine lv_aload_n hx hb dX11_hour_91 rfl (lv_at hl 2 rfl) ?_
            have g16 : 0 ≤ (fI u 0 36).toInt ∧ (fI u 0 36).toInt ≤ 1 := by have h := MI_36 hJ0; exact h
            have g17 : 0 ≤ (fA u 6 ((fI u 0 36)).toNatClampNeg).toInt ∧ (fA u 6 ((fI u 0 36)).toNatClampNeg).toInt ≤ 6 := by have h := MI_A6 hJ0 ((fI u 0 36)).toNatClampNeg; exact h
            refine cVi (w := mW cy a) (As := []) (rest := [.int i_k15]) C hO (T_X11_many l D cy a _ (by exact hJ) ((fA u 6 ((fI u 0 36)).toNatClampNeg)) (by exact (Eq.trans (congrArg (fun z : Int32 => fA _ 6 z.toNatClampNeg) (Km11_I36 hT)) (congrFun (Km11_A6 hT) _)))) (cwV 0 ht (gV wd_1348 wd_1350 wd_46 wd_121 wd_1351) rfl rfl rfl hd_yX11_many ⟨Nat.le_of_ble_eq_true rfl, Nat.le_of_ble_eq_true rfl⟩) 0 rfl mW_0 rfl rfl hl.1 (Nat.le_of_ble_eq_true rfl) dX11_hour_92 rfl ⟨Nat.zero_le _, Nat.zero_le _⟩ (fun r18 u19 H locs hp20 hO => ?_)
            obtain ⟨hr18, hu19⟩ := hp20
            refine tE hr18 ?_
            rw [hu19] at hO
            refine cs_ge (tgt := 184) (X := (i_k15).toInt) (Y := ((fA u 6 ((fI u 0 36)).toNatClampNeg)).toInt) hx hb dX11_hour_95 (by decide) rfl rfl (fun c21 => ?_) (fun c21 => ?_)
            · refine lv_iload_n hx hb dX11_hour_184 rfl (lv_at hl 1 rfl) ?_
              refine hret _ _ _ _ _ _ dX11_hour_185 rfl ?_ hO
              exact ⟨hJ, hT⟩
            · refine lv_aload_n hx hb dX11_hour_98 rfl (lv_at hl 2 rfl) ?_
              refine gf_RX11_97 (v := .ref (a 28)) C hO 0 mW_0 rfl dX11_hour_99 ?_
              refine lv_iconst (v := 0) hx hb dX11_hour_102 (by decide) ?_
              refine lv_iload_n hx hb dX11_hour_103 rfl (lv_at hl 0 rfl) ?_
              refine lv_iadd hx hb dX11_hour_104 ?_
              refine lv_topi (fun z22 ez22 => ?_)
              have e23 : z22.toInt = 0 + (i_k15).toInt := by rw [ez22]; exact i_add rfl rfl (by omega)
              refine aI C hO 28 mW_28 (i_in (X := (0 + (i_k15).toInt)) e23 (by omega) (by omega)) dX11_hour_105 ?_
              refine tE (y := (fA u14 28 (z22).toNatClampNeg)) (by exact rfl) ?_
              refine lv_iconst (v := 1) hx hb dX11_hour_106 (by decide) ?_
              refine cs_eq (tgt := 113) (X := ((fA u14 28 (z22).toNatClampNeg)).toInt) (Y := 1) hx hb dX11_hour_107 (by decide) rfl rfl (fun c24 => ?_) (fun c24 => ?_)
              · refine lv_aload_n hx hb dX11_hour_113 rfl (lv_at hl 2 rfl) ?_
                refine gf_RX11_97 (v := .ref (a 28)) C hO 0 mW_0 rfl dX11_hour_114 ?_
                refine lv_bipush (v := 27) hx hb dX11_hour_117 (by decide) ?_
                refine lv_sipush (v := 137) hx hb dX11_hour_119 (by decide) ?_
                refine lv_aload_n hx hb dX11_hour_122 rfl (lv_at hl 2 rfl) ?_
                refine gf_RX11_97 (v := .ref (a 28)) C hO 0 mW_0 rfl dX11_hour_123 ?_
                refine lv_bipush (v := 27) hx hb dX11_hour_126 (by decide) ?_
                refine aI C hO 28 mW_28 (i_in (X := 27) rfl (by omega) (by omega)) dX11_hour_128 ?_
                refine tE (y := (fA u14 28 27)) (by exact rfl) ?_
                refine lv_imul hx hb dX11_hour_129 ?_
                refine lv_topi (fun z25 ez25 => ?_)
                refine lv_bipush (v := 71) hx hb dX11_hour_130 (by decide) ?_
                refine lv_iadd hx hb dX11_hour_132 ?_
                refine lv_topi (fun z26 ez26 => ?_)
                refine lv_sipush (v := 1000) hx hb dX11_hour_133 (by decide) ?_
                refine lv_irem hx hb dX11_hour_136 (i_ne0 (X := 1000) rfl (by omega)) ?_
                refine lv_topi (fun z27 ez27 => ?_)
                refine aIs C hO 28 mW_28 (i_in (X := 27) rfl (by omega) (by omega)) mW_s28 dX11_hour_137 (fun H locs hO => ?_)
                have hT := Km11_wA28 hO hT
                have hJ := MIsA_28 hO hJ (Or.inl (i_ck (X := 27) rfl (by omega) (by omega)))
                refine lv_aload_n hx hb dX11_hour_138 rfl (lv_at hl 2 rfl) ?_
                refine gf_RX11_97 (v := .ref (a 28)) C hO 0 mW_0 rfl dX11_hour_139 ?_
                refine lv_bipush (v := 27) hx hb dX11_hour_142 (by decide) ?_
                refine aI C hO 28 mW_28 (i_in (X := 27) rfl (by omega) (by omega)) dX11_hour_144 ?_
                refine lv_topi (fun w28 ew28 => ?_)
                refine lv_bipush (v := 100) hx hb dX11_hour_145 (by decide) ?_
                refine lv_irem hx hb dX11_hour_147 (i_ne0 (X := 100) rfl (by omega)) ?_
                refine lv_topi (fun z29 ez29 => ?_)
                refine lv_aload_n hx hb dX11_hour_148 rfl (lv_at hl 2 rfl) ?_
                refine gf_RX11_39 (v := .ref (a 9)) C hO 0 mW_0 rfl dX11_hour_149 ?_
                refine lv_aload_n hx hb dX11_hour_152 rfl (lv_at hl 2 rfl) ?_
                refine gf_RX11_255 (v := .int (fI u 0 36)) C hO 0 mW_0 (congrArg (fun z : Int32 => some (Value.int z)) (Km11_I36 hT)) dX11_hour_153 ?_
                refine aI C hO 9 mW_9 (i_in (X := ((fI u 0 36)).toInt) rfl (by omega) (by omega)) dX11_hour_156 ?_
                refine tE (y := (fA u 9 ((fI u 0 36)).toNatClampNeg)) (by exact (congrFun (Km11_A9 hT) _)) ?_
                refine cs_lt (tgt := 163) (X := (z29).toInt) (Y := ((fA u 9 ((fI u 0 36)).toNatClampNeg)).toInt) hx hb dX11_hour_157 (by decide) rfl rfl (fun c30 => ?_) (fun c30 => ?_)
                · refine lv_aload_n hx hb dX11_hour_163 rfl (lv_at hl 2 rfl) ?_
                  refine gf_RX11_97 (v := .ref (a 28)) C hO 0 mW_0 rfl dX11_hour_164 ?_
                  refine lv_iconst (v := 0) hx hb dX11_hour_167 (by decide) ?_
                  refine lv_iload_n hx hb dX11_hour_168 rfl (lv_at hl 0 rfl) ?_
                  refine lv_iadd hx hb dX11_hour_169 ?_
                  refine lv_topi (fun z31 ez31 => ?_)
                  have e32 : z31.toInt = 0 + (i_k15).toInt := by rw [ez31]; exact i_add rfl rfl (by omega)
                  refine lv_iconst (v := 0) hx hb dX11_hour_170 (by decide) ?_
                  refine aIs C hO 28 mW_28 (i_in (X := (0 + (i_k15).toInt)) e32 (by omega) (by omega)) mW_s28 dX11_hour_171 (fun H locs hO => ?_)
                  have hT := Km11_wA28 hO hT
                  have hJ := MIsA_28 hO hJ (Or.inl (i_ck (X := (0 + (i_k15).toInt)) e32 (by omega) (by omega)))
                  refine lv_iload_n hx hb dX11_hour_172 rfl (lv_at hl 1 rfl) ?_
                  refine lv_iconst (v := 1) hx hb dX11_hour_173 (by decide) ?_
                  refine lv_iload_n hx hb dX11_hour_174 rfl (lv_at hl 0 rfl) ?_
                  refine lv_ishl hx hb dX11_hour_175 ?_
                  refine lv_topi (fun z33 ez33 => ?_)
                  have g34 : 0 ≤ z33.toInt ∧ z33.toInt ≤ 2 ^ 5 := by rw [ez33]; exact i_shl1 rfl (by omega) (by omega) (by decide)
                  refine lv_ior hx hb dX11_hour_176 ?_
                  refine lv_topi (fun z35 ez35 => ?_)
                  refine lv_istore_n (lv' := [(2, .int z35), (3, .int i_k15), (0, .ref (a 0)), (1, .int x1)]) hx hb dX11_hour_177 rfl hl (by decide) rfl (fun ls hl => ?_)
                  obtain ⟨z36, ez36⟩ : ∃ z : Int32, z = i_k15 + Int32.ofInt 1 := ⟨_, rfl⟩
                  have e37 : z36.toInt = (i_k15).toInt + 1 := by rw [ez36]; exact i_add rfl rfl (by omega)
                  refine lv_iinc (v := z36) (lv' := [(3, .int z36), (2, .int z35), (0, .ref (a 0)), (1, .int x1)]) hx hb dX11_hour_178 hl (k := 1) rfl ez36.symm (by decide) rfl (fun ls hl => ?_)
                  refine lv_goto (tgt := 90) hx hb dX11_hour_181 (by decide) ?_
                  exact ih_k15 _ _ _ _ (z36) (z35) hO (lv_sub hl [0, 1, 2, 3] rfl) (by exact hJ) (by exact hT) (by first | decide | omega) (by first | decide | omega)
                · refine lv_goto (tgt := 178) hx hb dX11_hour_160 (by decide) ?_
                  obtain ⟨z38, ez38⟩ : ∃ z : Int32, z = i_k15 + Int32.ofInt 1 := ⟨_, rfl⟩
                  have e39 : z38.toInt = (i_k15).toInt + 1 := by rw [ez38]; exact i_add rfl rfl (by omega)
                  refine lv_iinc (v := z38) (lv' := [(3, .int z38), (2, .int w2_k15), (0, .ref (a 0)), (1, .int x1)]) hx hb dX11_hour_178 hl (k := 0) rfl ez38.symm (by decide) rfl (fun ls hl => ?_)
                  refine lv_goto (tgt := 90) hx hb dX11_hour_181 (by decide) ?_
                  exact ih_k15 _ _ _ _ (z38) (w2_k15) hO (lv_sub hl [0, 1, 2, 3] rfl) (by exact hJ) (by exact hT) (by first | decide | omega) (by first | decide | omega)
              · refine lv_goto (tgt := 178) hx hb dX11_hour_110 (by decide) ?_
                obtain ⟨z40, ez40⟩ : ∃ z : Int32, z = i_k15 + Int32.ofInt 1 := ⟨_, rfl⟩
                have e41 : z40.toInt = (i_k15).toInt + 1 := by rw [ez40]; exact i_add rfl rfl (by omega)
                refine lv_iinc (v := z40) (lv' := [(3, .int z40), (2, .int w2_k15), (0, .ref (a 0)), (1, .int x1)]) hx hb dX11_hour_178 hl (k := 0) rfl ez40.symm (by decide) rfl (fun ls hl => ?_)
                refine lv_goto (tgt := 90) hx hb dX11_hour_181 (by decide) ?_
                exact ih_k15 _ _ _ _ (z40) (w2_k15) hO (lv_sub hl [0, 1, 2, 3] rfl) (by exact hJ) (by exact hT) (by first | decide | omega) (by first | decide | omega)
        have zc42 : (0 : Int32).toInt = 0 := rfl
        exact LP_90_k15 4000 _ _ _ _ (0) (0) hO (lv_sub hl [0, 1, 2, 3] rfl) (by exact hJ) (by exact hT) (by first | decide | omega) (by first | decide | omega)
      · refine lv_aload_n hx hb dX11_hour_34 rfl (lv_at hl 0 rfl) ?_
        refine lv_aload_n hx hb dX11_hour_35 rfl (lv_at hl 0 rfl) ?_
        refine gf_RX11_97 (v := .ref (a 28)) C hO 0 mW_0 rfl dX11_hour_36 ?_
        refine lv_bipush (v := 24) hx hb dX11_hour_39 (by decide) ?_
        refine aI C hO 28 mW_28 (i_in (X := 24) rfl (by omega) (by omega)) dX11_hour_41 ?_
        refine tE (y := (fA u 28 24)) (by exact rfl) ?_
        have g43 : 0 ≤ (fA u 28 24).toInt ∧ (fA u 28 24).toInt ≤ 7 := by have h := MI_sheK hJ (K := (fA u 3 ((fI u 0 36)).toNatClampNeg)) (by exact rfl) (by omega); exact h
        refine lv_iconst (v := 0) hx hb dX11_hour_42 (by decide) ?_
        refine cVi (w := mW cy a) (As := [.int (fA u 28 24), .int 0]) (rest := []) C hO (T_X11_nextTo l D cy a _ (by exact hJ) ((fA u 28 24)) (0)) (cwV 2 ht (gV wd_1725 wd_1727 wd_78 wd_121 wd_1728) rfl rfl rfl hd_yX11_nextTo ⟨Nat.le_of_ble_eq_true rfl, Nat.le_of_ble_eq_true rfl⟩) 0 rfl mW_0 rfl rfl hl.1 (Nat.le_of_ble_eq_true rfl) dX11_hour_43 rfl ⟨Nat.zero_le _, Nat.zero_le _⟩ (fun r44 u45 H locs hp46 hO => ?_)
        have hu45 := hp46
        rw [hu45] at hO
        refine lv_iload_n hx hb dX11_hour_46 rfl (lv_at hl 1 rfl) ?_
        refine cSi (w := mW cy a) (As := [.int r44, .int x1]) (rest := []) C hO (T_X11_bit l D cy a _ (by exact hJ) (r44) (x1)) (va_cwS 2 ht (gSS wd_1612 wd_1613 wd_121 wd_1614) rfl rfl rfl hd_yX11_bit ⟨Nat.le_of_ble_eq_true rfl, Nat.le_of_ble_eq_true rfl⟩)  rfl hl.1 (Nat.le_of_ble_eq_true rfl) dX11_hour_47 rfl ⟨Nat.zero_le _, Nat.zero_le _⟩ (fun r47 u48 H locs hp49 hO => ?_)
        obtain ⟨hr47, hu48⟩ := hp49
        rw [hu48] at hO
        obtain ⟨hr47, hbr47⟩ := hr47
        have gr47 : 0 ≤ r47.toInt ∧ r47.toInt ≤ 1 := by rcases hr47 with h | h <;> rw [h] <;> decide
        refine bs_ne (tgt := 55) (X := (r47).toInt) hx hb dX11_hour_50 (by decide) rfl (fun c50 => ?_) (fun c50 => ?_)
        · refine lv_aload_n hx hb dX11_hour_55 rfl (lv_at hl 0 rfl) ?_
          refine cVv (w := mW cy a) (As := []) (rest := []) C hO (T_X11_keepAct l D cy a _ (by exact hJ)) (cwV 0 ht (gV wd_1817 wd_1819 wd_93 wd_121 wd_1820) rfl rfl rfl hd_yX11_keepAct ⟨Nat.le_of_ble_eq_true rfl, Nat.le_of_ble_eq_true rfl⟩) 0 rfl mW_0 rfl rfl hl.1 (Nat.le_of_ble_eq_true rfl) dX11_hour_56 rfl ⟨Nat.zero_le _, Nat.zero_le _⟩ (fun u52 H locs hp53 hO => ?_)
          obtain ⟨hJ, hTu52⟩ := hp53
          have hT : Km11 u u52 := Km11.tr (by exact hT) (Km9_to_Km11 hTu52)
          refine lv_aload_n hx hb dX11_hour_59 rfl (lv_at hl 0 rfl) ?_
          refine gf_RX11_97 (v := .ref (a 28)) C hO 0 mW_0 rfl dX11_hour_60 ?_
          refine lv_bipush (v := 24) hx hb dX11_hour_63 (by decide) ?_
          refine lv_iload_n hx hb dX11_hour_65 rfl (lv_at hl 1 rfl) ?_
          refine aIs C hO 28 mW_28 (i_in (X := 24) rfl (by omega) (by omega)) mW_s28 dX11_hour_66 (fun H locs hO => ?_)
          have hT := Km11_wA28 hO hT
          have hJ := MIsA_28 hO hJ (Or.inr (Sh.ok (by omega) (by omega)))
          refine lv_aload_n hx hb dX11_hour_67 rfl (lv_at hl 0 rfl) ?_
          refine gf_RX11_97 (v := .ref (a 28)) C hO 0 mW_0 rfl dX11_hour_68 ?_
          refine lv_bipush (v := 25) hx hb dX11_hour_71 (by decide) ?_
          refine lv_dup2_11 hx hb dX11_hour_73 rfl rfl ?_
          refine aI C hO 28 mW_28 (i_in (X := 25) rfl (by omega) (by omega)) dX11_hour_74 ?_
          refine lv_topi (fun w54 ew54 => ?_)
          refine lv_iconst (v := 1) hx hb dX11_hour_75 (by decide) ?_
          refine lv_iadd hx hb dX11_hour_76 ?_
          refine lv_topi (fun z55 ez55 => ?_)
          refine aIs C hO 28 mW_28 (i_in (X := 25) rfl (by omega) (by omega)) mW_s28 dX11_hour_77 (fun H locs hO => ?_)
          have hT := Km11_wA28 hO hT
          have hJ := MIsA_28 hO hJ (Or.inl (i_ck (X := 25) rfl (by omega) (by omega)))
          refine lv_aload_n hx hb dX11_hour_78 rfl (lv_at hl 0 rfl) ?_
          refine gf_RX11_97 (v := .ref (a 28)) C hO 0 mW_0 rfl dX11_hour_79 ?_
          refine lv_bipush (v := 26) hx hb dX11_hour_82 (by decide) ?_
          refine lv_iconst (v := 0) hx hb dX11_hour_84 (by decide) ?_
          refine aIs C hO 28 mW_28 (i_in (X := 26) rfl (by omega) (by omega)) mW_s28 dX11_hour_85 (fun H locs hO => ?_)
          have hT := Km11_wA28 hO hT
          have hJ := MIsA_28 hO hJ (Or.inl (i_ck (X := 26) rfl (by omega) (by omega)))
          refine lv_iconst (v := 0) hx hb dX11_hour_86 (by decide) ?_
          refine lv_istore_n (lv' := [(2, .int 0), (0, .ref (a 0)), (1, .int x1)]) hx hb dX11_hour_87 rfl hl (by decide) rfl (fun ls hl => ?_)
          refine lv_iconst (v := 0) hx hb dX11_hour_88 (by decide) ?_
          refine lv_istore_n (lv' := [(3, .int 0), (2, .int 0), (0, .ref (a 0)), (1, .int x1)]) hx hb dX11_hour_89 rfl hl (by decide) rfl (fun ls hl => ?_)
          have LP_90_k57 : ∀ (n : Nat) (u56 : St) (H : Heap) (locs : List Loc) (ls : Array Slot) (i_k57 : Int32) (w2_k57 : Int32), Wo D A (mW cy a u56) s.heap H locs → lv_has ls 4 [(3, .int i_k57), (2, .int w2_k57), (0, .ref (a 0)), (1, .int x1)] → MI a u56 → Km11 u u56 → 0 ≤ i_k57.toInt ∧ i_k57.toInt ≤ 6 → 6 - i_k57.toInt < (n : Int) → W p l e (rmo 2 46) s m [.ref (a 0), .int x1].toArray below meth c H locs 0 0 Q (F0 m 90 ls []) := by
            intro n
            induction n with
            | zero =>
              intro u56 H locs ls i_k57 w2_k57 hO hl hJ hT iv0_k57 hm_k57
              exact absurd hm_k57 (by omega)
            | succ n ih_k57 =>
              intro u56 H locs ls i_k57 w2_k57 hO hl hJ hT iv0_k57 hm_k57
              refine lv_iload_n hx hb dX11_hour_90 rfl (lv_at hl 0 rfl) ?_
              refine lv_aload_n hx hb dX11_hour_91 rfl (lv_at hl 2 rfl) ?_
              have g58 : 0 ≤ (fI u 0 36).toInt ∧ (fI u 0 36).toInt ≤ 1 := by have h := MI_36 hJ0; exact h
              have g59 : 0 ≤ (fA u 6 ((fI u 0 36)).toNatClampNeg).toInt ∧ (fA u 6 ((fI u 0 36)).toNatClampNeg).toInt ≤ 6 := by have h := MI_A6 hJ0 ((fI u 0 36)).toNatClampNeg; exact h
              refine cVi (w := mW cy a) (As := []) (rest := [.int i_k57]) C hO (T_X11_many l D cy a _ (by exact hJ) ((fA u 6 ((fI u 0 36)).toNatClampNeg)) (by exact (Eq.trans (congrArg (fun z : Int32 => fA _ 6 z.toNatClampNeg) (Km11_I36 hT)) (congrFun (Km11_A6 hT) _)))) (cwV 0 ht (gV wd_1348 wd_1350 wd_46 wd_121 wd_1351) rfl rfl rfl hd_yX11_many ⟨Nat.le_of_ble_eq_true rfl, Nat.le_of_ble_eq_true rfl⟩) 0 rfl mW_0 rfl rfl hl.1 (Nat.le_of_ble_eq_true rfl) dX11_hour_92 rfl ⟨Nat.zero_le _, Nat.zero_le _⟩ (fun r60 u61 H locs hp62 hO => ?_)
              obtain ⟨hr60, hu61⟩ := hp62
              refine tE hr60 ?_
              rw [hu61] at hO
              refine cs_ge (tgt := 184) (X := (i_k57).toInt) (Y := ((fA u 6 ((fI u 0 36)).toNatClampNeg)).toInt) hx hb dX11_hour_95 (by decide) rfl rfl (fun c63 => ?_) (fun c63 => ?_)
              · refine lv_iload_n hx hb dX11_hour_184 rfl (lv_at hl 1 rfl) ?_
                refine hret _ _ _ _ _ _ dX11_hour_185 rfl ?_ hO
                exact ⟨hJ, hT⟩
              · refine lv_aload_n hx hb dX11_hour_98 rfl (lv_at hl 2 rfl) ?_
                refine gf_RX11_97 (v := .ref (a 28)) C hO 0 mW_0 rfl dX11_hour_99 ?_
                refine lv_iconst (v := 0) hx hb dX11_hour_102 (by decide) ?_
                refine lv_iload_n hx hb dX11_hour_103 rfl (lv_at hl 0 rfl) ?_
                refine lv_iadd hx hb dX11_hour_104 ?_
                refine lv_topi (fun z64 ez64 => ?_)
                have e65 : z64.toInt = 0 + (i_k57).toInt := by rw [ez64]; exact i_add rfl rfl (by omega)
                refine aI C hO 28 mW_28 (i_in (X := (0 + (i_k57).toInt)) e65 (by omega) (by omega)) dX11_hour_105 ?_
                refine tE (y := (fA u56 28 (z64).toNatClampNeg)) (by exact rfl) ?_
                refine lv_iconst (v := 1) hx hb dX11_hour_106 (by decide) ?_
                refine cs_eq (tgt := 113) (X := ((fA u56 28 (z64).toNatClampNeg)).toInt) (Y := 1) hx hb dX11_hour_107 (by decide) rfl rfl (fun c66 => ?_) (fun c66 => ?_)
                · refine lv_aload_n hx hb dX11_hour_113 rfl (lv_at hl 2 rfl) ?_
                  refine gf_RX11_97 (v := .ref (a 28)) C hO 0 mW_0 rfl dX11_hour_114 ?_
                  refine lv_bipush (v := 27) hx hb dX11_hour_117 (by decide) ?_
                  refine lv_sipush (v := 137) hx hb dX11_hour_119 (by decide) ?_
                  refine lv_aload_n hx hb dX11_hour_122 rfl (lv_at hl 2 rfl) ?_
                  refine gf_RX11_97 (v := .ref (a 28)) C hO 0 mW_0 rfl dX11_hour_123 ?_
                  refine lv_bipush (v := 27) hx hb dX11_hour_126 (by decide) ?_
                  refine aI C hO 28 mW_28 (i_in (X := 27) rfl (by omega) (by omega)) dX11_hour_128 ?_
                  refine tE (y := (fA u56 28 27)) (by exact rfl) ?_
                  refine lv_imul hx hb dX11_hour_129 ?_
                  refine lv_topi (fun z67 ez67 => ?_)
                  refine lv_bipush (v := 71) hx hb dX11_hour_130 (by decide) ?_
                  refine lv_iadd hx hb dX11_hour_132 ?_
                  refine lv_topi (fun z68 ez68 => ?_)
                  refine lv_sipush (v := 1000) hx hb dX11_hour_133 (by decide) ?_
                  refine lv_irem hx hb dX11_hour_136 (i_ne0 (X := 1000) rfl (by omega)) ?_
                  refine lv_topi (fun z69 ez69 => ?_)
                  refine aIs C hO 28 mW_28 (i_in (X := 27) rfl (by omega) (by omega)) mW_s28 dX11_hour_137 (fun H locs hO => ?_)
                  have hT := Km11_wA28 hO hT
                  have hJ := MIsA_28 hO hJ (Or.inl (i_ck (X := 27) rfl (by omega) (by omega)))
                  refine lv_aload_n hx hb dX11_hour_138 rfl (lv_at hl 2 rfl) ?_
                  refine gf_RX11_97 (v := .ref (a 28)) C hO 0 mW_0 rfl dX11_hour_139 ?_
                  refine lv_bipush (v := 27) hx hb dX11_hour_142 (by decide) ?_
                  refine aI C hO 28 mW_28 (i_in (X := 27) rfl (by omega) (by omega)) dX11_hour_144 ?_
                  refine lv_topi (fun w70 ew70 => ?_)
                  refine lv_bipush (v := 100) hx hb dX11_hour_145 (by decide) ?_
                  refine lv_irem hx hb dX11_hour_147 (i_ne0 (X := 100) rfl (by omega)) ?_
                  refine lv_topi (fun z71 ez71 => ?_)
                  refine lv_aload_n hx hb dX11_hour_148 rfl (lv_at hl 2 rfl) ?_
                  refine gf_RX11_39 (v := .ref (a 9)) C hO 0 mW_0 rfl dX11_hour_149 ?_
                  refine lv_aload_n hx hb dX11_hour_152 rfl (lv_at hl 2 rfl) ?_
                  refine gf_RX11_255 (v := .int (fI u 0 36)) C hO 0 mW_0 (congrArg (fun z : Int32 => some (Value.int z)) (Km11_I36 hT)) dX11_hour_153 ?_
                  refine aI C hO 9 mW_9 (i_in (X := ((fI u 0 36)).toInt) rfl (by omega) (by omega)) dX11_hour_156 ?_
                  refine tE (y := (fA u 9 ((fI u 0 36)).toNatClampNeg)) (by exact (congrFun (Km11_A9 hT) _)) ?_
                  refine cs_lt (tgt := 163) (X := (z71).toInt) (Y := ((fA u 9 ((fI u 0 36)).toNatClampNeg)).toInt) hx hb dX11_hour_157 (by decide) rfl rfl (fun c72 => ?_) (fun c72 => ?_)
                  · refine lv_aload_n hx hb dX11_hour_163 rfl (lv_at hl 2 rfl) ?_
                    refine gf_RX11_97 (v := .ref (a 28)) C hO 0 mW_0 rfl dX11_hour_164 ?_
                    refine lv_iconst (v := 0) hx hb dX11_hour_167 (by decide) ?_
                    refine lv_iload_n hx hb dX11_hour_168 rfl (lv_at hl 0 rfl) ?_
                    refine lv_iadd hx hb dX11_hour_169 ?_
                    refine lv_topi (fun z73 ez73 => ?_)
                    have e74 : z73.toInt = 0 + (i_k57).toInt := by rw [ez73]; exact i_add rfl rfl (by omega)
                    refine lv_iconst (v := 0) hx hb dX11_hour_170 (by decide) ?_
                    refine aIs C hO 28 mW_28 (i_in (X := (0 + (i_k57).toInt)) e74 (by omega) (by omega)) mW_s28 dX11_hour_171 (fun H locs hO => ?_)
                    have hT := Km11_wA28 hO hT
                    have hJ := MIsA_28 hO hJ (Or.inl (i_ck (X := (0 + (i_k57).toInt)) e74 (by omega) (by omega)))
                    refine lv_iload_n hx hb dX11_hour_172 rfl (lv_at hl 1 rfl) ?_
                    refine lv_iconst (v := 1) hx hb dX11_hour_173 (by decide) ?_
                    refine lv_iload_n hx hb dX11_hour_174 rfl (lv_at hl 0 rfl) ?_
                    refine lv_ishl hx hb dX11_hour_175 ?_
                    refine lv_topi (fun z75 ez75 => ?_)
                    have g76 : 0 ≤ z75.toInt ∧ z75.toInt ≤ 2 ^ 5 := by rw [ez75]; exact i_shl1 rfl (by omega) (by omega) (by decide)
                    refine lv_ior hx hb dX11_hour_176 ?_
                    refine lv_topi (fun z77 ez77 => ?_)
                    refine lv_istore_n (lv' := [(2, .int z77), (3, .int i_k57), (0, .ref (a 0)), (1, .int x1)]) hx hb dX11_hour_177 rfl hl (by decide) rfl (fun ls hl => ?_)
                    obtain ⟨z78, ez78⟩ : ∃ z : Int32, z = i_k57 + Int32.ofInt 1 := ⟨_, rfl⟩
                    have e79 : z78.toInt = (i_k57).toInt + 1 := by rw [ez78]; exact i_add rfl rfl (by omega)
                    refine lv_iinc (v := z78) (lv' := [(3, .int z78), (2, .int z77), (0, .ref (a 0)), (1, .int x1)]) hx hb dX11_hour_178 hl (k := 1) rfl ez78.symm (by decide) rfl (fun ls hl => ?_)
                    refine lv_goto (tgt := 90) hx hb dX11_hour_181 (by decide) ?_
                    exact ih_k57 _ _ _ _ (z78) (z77) hO (lv_sub hl [0, 1, 2, 3] rfl) (by exact hJ) (by exact hT) (by first | decide | omega) (by first | decide | omega)
                  · refine lv_goto (tgt := 178) hx hb dX11_hour_160 (by decide) ?_
                    obtain ⟨z80, ez80⟩ : ∃ z : Int32, z = i_k57 + Int32.ofInt 1 := ⟨_, rfl⟩
                    have e81 : z80.toInt = (i_k57).toInt + 1 := by rw [ez80]; exact i_add rfl rfl (by omega)
                    refine lv_iinc (v := z80) (lv' := [(3, .int z80), (2, .int w2_k57), (0, .ref (a 0)), (1, .int x1)]) hx hb dX11_hour_178 hl (k := 0) rfl ez80.symm (by decide) rfl (fun ls hl => ?_)
                    refine lv_goto (tgt := 90) hx hb dX11_hour_181 (by decide) ?_
                    exact ih_k57 _ _ _ _ (z80) (w2_k57) hO (lv_sub hl [0, 1, 2, 3] rfl) (by exact hJ) (by exact hT) (by first | decide | omega) (by first | decide | omega)
                · refine lv_goto (tgt := 178) hx hb dX11_hour_110 (by decide) ?_
                  obtain ⟨z82, ez82⟩ : ∃ z : Int32, z = i_k57 + Int32.ofInt 1 := ⟨_, rfl⟩
                  have e83 : z82.toInt = (i_k57).toInt + 1 := by rw [ez82]; exact i_add rfl rfl (by omega)
                  refine lv_iinc (v := z82) (lv' := [(3, .int z82), (2, .int w2_k57), (0, .ref (a 0)), (1, .int x1)]) hx hb dX11_hour_178 hl (k := 0) rfl ez82.symm (by decide) rfl (fun ls hl => ?_)
                  refine lv_goto (tgt := 90) hx hb dX11_hour_181 (by decide) ?_
                  exact ih_k57 _ _ _ _ (z82) (w2_k57) hO (lv_sub hl [0, 1, 2, 3] rfl) (by exact hJ) (by exact hT) (by first | decide | omega) (by first | decide | omega)
          have zc84 : (0 : Int32).toInt = 0 := rfl
          exact LP_90_k57 4000 _ _ _ _ (0) (0) hO (lv_sub hl [0, 1, 2, 3] rfl) (by exact hJ) (by exact hT) (by first | decide | omega) (by first | decide | omega)
        · refine lv_iconst (v := (-1)) hx hb dX11_hour_53 (by decide) ?_
          refine hret _ _ _ _ _ _ dX11_hour_54 rfl ?_ hO
          exact ⟨hJ, hT⟩
    · refine lv_iconst (v := (-1)) hx hb dX11_hour_21 (by decide) ?_
      refine hret _ _ _ _ _ _ dX11_hour_22 rfl ?_ hO
      exact ⟨hJ, hT⟩
  · subst hvr3
    refine bt_eq (tgt := 21) (X := 0) hx hb dX11_hour_5 (by decide) rfl (by omega) ?_
    refine lv_iconst (v := (-1)) hx hb dX11_hour_21 (by decide) ?_
    refine hret _ _ _ _ _ _ dX11_hour_22 rfl ?_ hO
    exact ⟨hJ, hT⟩
def Km16 (u v : St) : Prop := fI v 0 2 = fI u 0 2 ∧ fI v 0 3 = fI u 0 3 ∧ fI v 0 4 = fI u 0 4 ∧ fI v 0 5 = fI u 0 5 ∧ fI v 0 6 = fI u 0 6 ∧ fI v 0 7 = fI u 0 7 ∧ fI v 0 8 = fI u 0 8 ∧ fI v 0 9 = fI u 0 9 ∧ fL v 0 10 = fL u 0 10 ∧ fI v 0 36 = fI u 0 36 ∧ fI v 0 37 = fI u 0 37 ∧ fI v 0 38 = fI u 0 38 ∧ fI v 0 39 = fI u 0 39 ∧ fI v 0 40 = fI u 0 40 ∧ fI v 0 41 = fI u 0 41 ∧ fI v 0 45 = fI u 0 45 ∧ fI v 0 50 = fI u 0 50 ∧ fI v 0 61 = fI u 0 61 ∧ fI v 0 62 = fI u 0 62 ∧ fA v 1 = fA u 1 ∧ fA v 2 = fA u 2 ∧ fA v 3 = fA u 3 ∧ fA v 4 = fA u 4 ∧ fA v 5 = fA u 5 ∧ fA v 6 = fA u 6 ∧ fA v 7 = fA u 7 ∧ fA v 8 = fA u 8 ∧ fA v 9 = fA u 9 ∧ fA v 10 = fA u 10 ∧ fA v 11 = fA u 11 ∧ fA v 12 = fA u 12 ∧ fA v 13 = fA u 13 ∧ fA v 14 = fA u 14 ∧ fA v 15 = fA u 15 ∧ fA v 16 = fA u 16 ∧ fA v 17 = fA u 17 ∧ fA v 18 = fA u 18 ∧ fA v 19 = fA u 19 ∧ fJ v 20 = fJ u 20 ∧ fJ v 21 = fJ u 21 ∧ fJ v 22 = fJ u 22 ∧ fA v 23 = fA u 23 ∧ fA v 24 = fA u 24 ∧ fA v 25 = fA u 25 ∧ fA v 26 = fA u 26 ∧ fA v 30 = fA u 30 ∧ fA v 31 = fA u 31 ∧ fA v 32 = fA u 32 ∧ fA v 33 = fA u 33 ∧ fA v 34 = fA u 34 ∧ fA v 35 = fA u 35 ∧ fA v 36 = fA u 36 ∧ fA v 37 = fA u 37 ∧ fA v 38 = fA u 38 ∧ fA v 39 = fA u 39 ∧ fA v 40 = fA u 40 ∧ fA v 41 = fA u 41 ∧ fA v 42 = fA u 42
theorem Km16.rf {u : St} : Km16 u u := ⟨rfl, rfl, rfl, rfl, rfl, rfl, rfl, rfl, rfl, rfl, rfl, rfl, rfl, rfl, rfl, rfl, rfl, rfl, rfl, rfl, rfl, rfl, rfl, rfl, rfl, rfl, rfl, rfl, rfl, rfl, rfl, rfl, rfl, rfl, rfl, rfl, rfl, rfl, rfl, rfl, rfl, rfl, rfl, rfl, rfl, rfl, rfl, rfl, rfl, rfl, rfl, rfl, rfl, rfl, rfl, rfl, rfl, rfl⟩
theorem Km16.tr {u v w : St} (h1 : Km16 u v) (h2 : Km16 v w) : Km16 u w := ⟨(h2.1).trans h1.1, (h2.2.1).trans h1.2.1, (h2.2.2.1).trans h1.2.2.1, (h2.2.2.2.1).trans h1.2.2.2.1, (h2.2.2.2.2.1).trans h1.2.2.2.2.1, (h2.2.2.2.2.2.1).trans h1.2.2.2.2.2.1, (h2.2.2.2.2.2.2.1).trans h1.2.2.2.2.2.2.1, (h2.2.2.2.2.2.2.2.1).trans h1.2.2.2.2.2.2.2.1, (h2.2.2.2.2.2.2.2.2.1).trans h1.2.2.2.2.2.2.2.2.1, (h2.2.2.2.2.2.2.2.2.2.1).trans h1.2.2.2.2.2.2.2.2.2.1, (h2.2.2.2.2.2.2.2.2.2.2.1).trans h1.2.2.2.2.2.2.2.2.2.2.1, (h2.2.2.2.2.2.2.2.2.2.2.2.1).trans h1.2.2.2.2.2.2.2.2.2.2.2.1, (h2.2.2.2.2.2.2.2.2.2.2.2.2.1).trans h1.2.2.2.2.2.2.2.2.2.2.2.2.1, (h2.2.2.2.2.2.2.2.2.2.2.2.2.2.1).trans h1.2.2.2.2.2.2.2.2.2.2.2.2.2.1, (h2.2.2.2.2.2.2.2.2.2.2.2.2.2.2.1).trans h1.2.2.2.2.2.2.2.2.2.2.2.2.2.2.1, (h2.2.2.2.2.2.2.2.2.2.2.2.2.2.2.2.1).trans h1.2.2.2.2.2.2.2.2.2.2.2.2.2.2.2.1, (h2.2.2.2.2.2.2.2.2.2.2.2.2.2.2.2.2.1).trans h1.2.2.2.2.2.2.2.2.2.2.2.2.2.2.2.2.1, (h2.2.2.2.2.2.2.2.2.2.2.2.2.2.2.2.2.2.1).trans h1.2.2.2.2.2.2.2.2.2.2.2.2.2.2.2.2.2.1, (h2.2.2.2.2.2.2.2.2.2.2.2.2.2.2.2.2.2.2.1).trans h1.2.2.2.2.2.2.2.2.2.2.2.2.2.2.2.2.2.2.1, (h2.2.2.2.2.2.2.2.2.2.2.2.2.2.2.2.2.2.2.2.1).trans h1.2.2.2.2.2.2.2.2.2.2.2.2.2.2.2.2.2.2.2.1, (h2.2.2.2.2.2.2.2.2.2.2.2.2.2.2.2.2.2.2.2.2.1).trans h1.2.2.2.2.2.2.2.2.2.2.2.2.2.2.2.2.2.2.2.2.1, (h2.2.2.2.2.2.2.2.2.2.2.2.2.2.2.2.2.2.2.2.2.2.1).trans h1.2.2.2.2.2.2.2.2.2.2.2.2.2.2.2.2.2.2.2.2.2.1, (h2.2.2.2.2.2.2.2.2.2.2.2.2.2.2.2.2.2.2.2.2.2.2.1).trans h1.2.2.2.2.2.2.2.2.2.2.2.2.2.2.2.2.2.2.2.2.2.2.1, (h2.2.2.2.2.2.2.2.2.2.2.2.2.2.2.2.2.2.2.2.2.2.2.2.1).trans h1.2.2.2.2.2.2.2.2.2.2.2.2.2.2.2.2.2.2.2.2.2.2.2.1, (h2.2.2.2.2.2.2.2.2.2.2.2.2.2.2.2.2.2.2.2.2.2.2.2.2.1).trans h1.2.2.2.2.2.2.2.2.2.2.2.2.2.2.2.2.2.2.2.2.2.2.2.2.1, (h2.2.2.2.2.2.2.2.2.2.2.2.2.2.2.2.2.2.2.2.2.2.2.2.2.2.1).trans h1.2.2.2.2.2.2.2.2.2.2.2.2.2.2.2.2.2.2.2.2.2.2.2.2.2.1, (h2.2.2.2.2.2.2.2.2.2.2.2.2.2.2.2.2.2.2.2.2.2.2.2.2.2.2.1).trans h1.2.2.2.2.2.2.2.2.2.2.2.2.2.2.2.2.2.2.2.2.2.2.2.2.2.2.1, (h2.2.2.2.2.2.2.2.2.2.2.2.2.2.2.2.2.2.2.2.2.2.2.2.2.2.2.2.1).trans h1.2.2.2.2.2.2.2.2.2.2.2.2.2.2.2.2.2.2.2.2.2.2.2.2.2.2.2.1, (h2.2.2.2.2.2.2.2.2.2.2.2.2.2.2.2.2.2.2.2.2.2.2.2.2.2.2.2.2.1).trans h1.2.2.2.2.2.2.2.2.2.2.2.2.2.2.2.2.2.2.2.2.2.2.2.2.2.2.2.2.1, (h2.2.2.2.2.2.2.2.2.2.2.2.2.2.2.2.2.2.2.2.2.2.2.2.2.2.2.2.2.2.1).trans h1.2.2.2.2.2.2.2.2.2.2.2.2.2.2.2.2.2.2.2.2.2.2.2.2.2.2.2.2.2.1, (h2.2.2.2.2.2.2.2.2.2.2.2.2.2.2.2.2.2.2.2.2.2.2.2.2.2.2.2.2.2.2.1).trans h1.2.2.2.2.2.2.2.2.2.2.2.2.2.2.2.2.2.2.2.2.2.2.2.2.2.2.2.2.2.2.1, (h2.2.2.2.2.2.2.2.2.2.2.2.2.2.2.2.2.2.2.2.2.2.2.2.2.2.2.2.2.2.2.2.1).trans h1.2.2.2.2.2.2.2.2.2.2.2.2.2.2.2.2.2.2.2.2.2.2.2.2.2.2.2.2.2.2.2.1, (h2.2.2.2.2.2.2.2.2.2.2.2.2.2.2.2.2.2.2.2.2.2.2.2.2.2.2.2.2.2.2.2.2.1).trans h1.2.2.2.2.2.2.2.2.2.2.2.2.2.2.2.2.2.2.2.2.2.2.2.2.2.2.2.2.2.2.2.2.1, (h2.2.2.2.2.2.2.2.2.2.2.2.2.2.2.2.2.2.2.2.2.2.2.2.2.2.2.2.2.2.2.2.2.2.1).trans h1.2.2.2.2.2.2.2.2.2.2.2.2.2.2.2.2.2.2.2.2.2.2.2.2.2.2.2.2.2.2.2.2.2.1, (h2.2.2.2.2.2.2.2.2.2.2.2.2.2.2.2.2.2.2.2.2.2.2.2.2.2.2.2.2.2.2.2.2.2.2.1).trans h1.2.2.2.2.2.2.2.2.2.2.2.2.2.2.2.2.2.2.2.2.2.2.2.2.2.2.2.2.2.2.2.2.2.2.1, (h2.2.2.2.2.2.2.2.2.2.2.2.2.2.2.2.2.2.2.2.2.2.2.2.2.2.2.2.2.2.2.2.2.2.2.2.1).trans h1.2.2.2.2.2.2.2.2.2.2.2.2.2.2.2.2.2.2.2.2.2.2.2.2.2.2.2.2.2.2.2.2.2.2.2.1, (h2.2.2.2.2.2.2.2.2.2.2.2.2.2.2.2.2.2.2.2.2.2.2.2.2.2.2.2.2.2.2.2.2.2.2.2.2.1).trans h1.2.2.2.2.2.2.2.2.2.2.2.2.2.2.2.2.2.2.2.2.2.2.2.2.2.2.2.2.2.2.2.2.2.2.2.2.1, (h2.2.2.2.2.2.2.2.2.2.2.2.2.2.2.2.2.2.2.2.2.2.2.2.2.2.2.2.2.2.2.2.2.2.2.2.2.2.1).trans h1.2.2.2.2.2.2.2.2.2.2.2.2.2.2.2.2.2.2.2.2.2.2.2.2.2.2.2.2.2.2.2.2.2.2.2.2.2.1, (h2.2.2.2.2.2.2.2.2.2.2.2.2.2.2.2.2.2.2.2.2.2.2.2.2.2.2.2.2.2.2.2.2.2.2.2.2.2.2.1).trans h1.2.2.2.2.2.2.2.2.2.2.2.2.2.2.2.2.2.2.2.2.2.2.2.2.2.2.2.2.2.2.2.2.2.2.2.2.2.2.1, (h2.2.2.2.2.2.2.2.2.2.2.2.2.2.2.2.2.2.2.2.2.2.2.2.2.2.2.2.2.2.2.2.2.2.2.2.2.2.2.2.1).trans h1.2.2.2.2.2.2.2.2.2.2.2.2.2.2.2.2.2.2.2.2.2.2.2.2.2.2.2.2.2.2.2.2.2.2.2.2.2.2.2.1, (h2.2.2.2.2.2.2.2.2.2.2.2.2.2.2.2.2.2.2.2.2.2.2.2.2.2.2.2.2.2.2.2.2.2.2.2.2.2.2.2.2.1).trans h1.2.2.2.2.2.2.2.2.2.2.2.2.2.2.2.2.2.2.2.2.2.2.2.2.2.2.2.2.2.2.2.2.2.2.2.2.2.2.2.2.1, (h2.2.2.2.2.2.2.2.2.2.2.2.2.2.2.2.2.2.2.2.2.2.2.2.2.2.2.2.2.2.2.2.2.2.2.2.2.2.2.2.2.2.1).trans h1.2.2.2.2.2.2.2.2.2.2.2.2.2.2.2.2.2.2.2.2.2.2.2.2.2.2.2.2.2.2.2.2.2.2.2.2.2.2.2.2.2.1, (h2.2.2.2.2.2.2.2.2.2.2.2.2.2.2.2.2.2.2.2.2.2.2.2.2.2.2.2.2.2.2.2.2.2.2.2.2.2.2.2.2.2.2.1).trans h1.2.2.2.2.2.2.2.2.2.2.2.2.2.2.2.2.2.2.2.2.2.2.2.2.2.2.2.2.2.2.2.2.2.2.2.2.2.2.2.2.2.2.1, (h2.2.2.2.2.2.2.2.2.2.2.2.2.2.2.2.2.2.2.2.2.2.2.2.2.2.2.2.2.2.2.2.2.2.2.2.2.2.2.2.2.2.2.2.1).trans h1.2.2.2.2.2.2.2.2.2.2.2.2.2.2.2.2.2.2.2.2.2.2.2.2.2.2.2.2.2.2.2.2.2.2.2.2.2.2.2.2.2.2.2.1, (h2.2.2.2.2.2.2.2.2.2.2.2.2.2.2.2.2.2.2.2.2.2.2.2.2.2.2.2.2.2.2.2.2.2.2.2.2.2.2.2.2.2.2.2.2.1).trans h1.2.2.2.2.2.2.2.2.2.2.2.2.2.2.2.2.2.2.2.2.2.2.2.2.2.2.2.2.2.2.2.2.2.2.2.2.2.2.2.2.2.2.2.2.1, (h2.2.2.2.2.2.2.2.2.2.2.2.2.2.2.2.2.2.2.2.2.2.2.2.2.2.2.2.2.2.2.2.2.2.2.2.2.2.2.2.2.2.2.2.2.2.1).trans h1.2.2.2.2.2.2.2.2.2.2.2.2.2.2.2.2.2.2.2.2.2.2.2.2.2.2.2.2.2.2.2.2.2.2.2.2.2.2.2.2.2.2.2.2.2.1, (h2.2.2.2.2.2.2.2.2.2.2.2.2.2.2.2.2.2.2.2.2.2.2.2.2.2.2.2.2.2.2.2.2.2.2.2.2.2.2.2.2.2.2.2.2.2.2.1).trans h1.2.2.2.2.2.2.2.2.2.2.2.2.2.2.2.2.2.2.2.2.2.2.2.2.2.2.2.2.2.2.2.2.2.2.2.2.2.2.2.2.2.2.2.2.2.2.1, (h2.2.2.2.2.2.2.2.2.2.2.2.2.2.2.2.2.2.2.2.2.2.2.2.2.2.2.2.2.2.2.2.2.2.2.2.2.2.2.2.2.2.2.2.2.2.2.2.1).trans h1.2.2.2.2.2.2.2.2.2.2.2.2.2.2.2.2.2.2.2.2.2.2.2.2.2.2.2.2.2.2.2.2.2.2.2.2.2.2.2.2.2.2.2.2.2.2.2.1, (h2.2.2.2.2.2.2.2.2.2.2.2.2.2.2.2.2.2.2.2.2.2.2.2.2.2.2.2.2.2.2.2.2.2.2.2.2.2.2.2.2.2.2.2.2.2.2.2.2.1).trans h1.2.2.2.2.2.2.2.2.2.2.2.2.2.2.2.2.2.2.2.2.2.2.2.2.2.2.2.2.2.2.2.2.2.2.2.2.2.2.2.2.2.2.2.2.2.2.2.2.1, (h2.2.2.2.2.2.2.2.2.2.2.2.2.2.2.2.2.2.2.2.2.2.2.2.2.2.2.2.2.2.2.2.2.2.2.2.2.2.2.2.2.2.2.2.2.2.2.2.2.2.1).trans h1.2.2.2.2.2.2.2.2.2.2.2.2.2.2.2.2.2.2.2.2.2.2.2.2.2.2.2.2.2.2.2.2.2.2.2.2.2.2.2.2.2.2.2.2.2.2.2.2.2.1, (h2.2.2.2.2.2.2.2.2.2.2.2.2.2.2.2.2.2.2.2.2.2.2.2.2.2.2.2.2.2.2.2.2.2.2.2.2.2.2.2.2.2.2.2.2.2.2.2.2.2.2.1).trans h1.2.2.2.2.2.2.2.2.2.2.2.2.2.2.2.2.2.2.2.2.2.2.2.2.2.2.2.2.2.2.2.2.2.2.2.2.2.2.2.2.2.2.2.2.2.2.2.2.2.2.1, (h2.2.2.2.2.2.2.2.2.2.2.2.2.2.2.2.2.2.2.2.2.2.2.2.2.2.2.2.2.2.2.2.2.2.2.2.2.2.2.2.2.2.2.2.2.2.2.2.2.2.2.2.1).trans h1.2.2.2.2.2.2.2.2.2.2.2.2.2.2.2.2.2.2.2.2.2.2.2.2.2.2.2.2.2.2.2.2.2.2.2.2.2.2.2.2.2.2.2.2.2.2.2.2.2.2.2.1, (h2.2.2.2.2.2.2.2.2.2.2.2.2.2.2.2.2.2.2.2.2.2.2.2.2.2.2.2.2.2.2.2.2.2.2.2.2.2.2.2.2.2.2.2.2.2.2.2.2.2.2.2.2.1).trans h1.2.2.2.2.2.2.2.2.2.2.2.2.2.2.2.2.2.2.2.2.2.2.2.2.2.2.2.2.2.2.2.2.2.2.2.2.2.2.2.2.2.2.2.2.2.2.2.2.2.2.2.2.1, (h2.2.2.2.2.2.2.2.2.2.2.2.2.2.2.2.2.2.2.2.2.2.2.2.2.2.2.2.2.2.2.2.2.2.2.2.2.2.2.2.2.2.2.2.2.2.2.2.2.2.2.2.2.2.1).trans h1.2.2.2.2.2.2.2.2.2.2.2.2.2.2.2.2.2.2.2.2.2.2.2.2.2.2.2.2.2.2.2.2.2.2.2.2.2.2.2.2.2.2.2.2.2.2.2.2.2.2.2.2.2.1, (h2.2.2.2.2.2.2.2.2.2.2.2.2.2.2.2.2.2.2.2.2.2.2.2.2.2.2.2.2.2.2.2.2.2.2.2.2.2.2.2.2.2.2.2.2.2.2.2.2.2.2.2.2.2.2.1).trans h1.2.2.2.2.2.2.2.2.2.2.2.2.2.2.2.2.2.2.2.2.2.2.2.2.2.2.2.2.2.2.2.2.2.2.2.2.2.2.2.2.2.2.2.2.2.2.2.2.2.2.2.2.2.2.1, (h2.2.2.2.2.2.2.2.2.2.2.2.2.2.2.2.2.2.2.2.2.2.2.2.2.2.2.2.2.2.2.2.2.2.2.2.2.2.2.2.2.2.2.2.2.2.2.2.2.2.2.2.2.2.2.2.1).trans h1.2.2.2.2.2.2.2.2.2.2.2.2.2.2.2.2.2.2.2.2.2.2.2.2.2.2.2.2.2.2.2.2.2.2.2.2.2.2.2.2.2.2.2.2.2.2.2.2.2.2.2.2.2.2.2.1, (h2.2.2.2.2.2.2.2.2.2.2.2.2.2.2.2.2.2.2.2.2.2.2.2.2.2.2.2.2.2.2.2.2.2.2.2.2.2.2.2.2.2.2.2.2.2.2.2.2.2.2.2.2.2.2.2.2.1).trans h1.2.2.2.2.2.2.2.2.2.2.2.2.2.2.2.2.2.2.2.2.2.2.2.2.2.2.2.2.2.2.2.2.2.2.2.2.2.2.2.2.2.2.2.2.2.2.2.2.2.2.2.2.2.2.2.2.1, (h2.2.2.2.2.2.2.2.2.2.2.2.2.2.2.2.2.2.2.2.2.2.2.2.2.2.2.2.2.2.2.2.2.2.2.2.2.2.2.2.2.2.2.2.2.2.2.2.2.2.2.2.2.2.2.2.2.2).trans h1.2.2.2.2.2.2.2.2.2.2.2.2.2.2.2.2.2.2.2.2.2.2.2.2.2.2.2.2.2.2.2.2.2.2.2.2.2.2.2.2.2.2.2.2.2.2.2.2.2.2.2.2.2.2.2.2.2⟩
theorem dX11_hear_0 : decode cX11_hear 0 = .ok (.aload_n 0, 1) := by decide +kernel
theorem dX11_hear_1 : decode cX11_hear 1 = .ok (.iload_n 1, 1) := by decide +kernel
theorem dX11_hear_2 : decode cX11_hear 2 = .ok (.invokevirtual 413, 3) := by decide +kernel
theorem dX11_hear_5 : decode cX11_hear 5 = .ok (.ifCond .eq 29, 3) := by decide +kernel
theorem dX11_hear_8 : decode cX11_hear 8 = .ok (.aload_n 0, 1) := by decide +kernel
theorem dX11_hear_9 : decode cX11_hear 9 = .ok (.iload_n 1, 1) := by decide +kernel
theorem dX11_hear_10 : decode cX11_hear 10 = .ok (.invokevirtual 401, 3) := by decide +kernel
theorem dX11_hear_13 : decode cX11_hear 13 = .ok (.aload_n 0, 1) := by decide +kernel
theorem dX11_hear_14 : decode cX11_hear 14 = .ok (.getfield 97, 3) := by decide +kernel
theorem dX11_hear_17 : decode cX11_hear 17 = .ok (.bipush 24, 2) := by decide +kernel
theorem dX11_hear_19 : decode cX11_hear 19 = .ok (.iaload, 1) := by decide +kernel
theorem dX11_hear_20 : decode cX11_hear 20 = .ok (.if_icmp .ne 14, 3) := by decide +kernel
theorem dX11_hear_23 : decode cX11_hear 23 = .ok (.aload_n 0, 1) := by decide +kernel
theorem dX11_hear_24 : decode cX11_hear 24 = .ok (.getfield 97, 3) := by decide +kernel
theorem dX11_hear_27 : decode cX11_hear 27 = .ok (.bipush 26, 2) := by decide +kernel
theorem dX11_hear_29 : decode cX11_hear 29 = .ok (.iaload, 1) := by decide +kernel
theorem dX11_hear_30 : decode cX11_hear 30 = .ok (.iconst 1, 1) := by decide +kernel
theorem dX11_hear_31 : decode cX11_hear 31 = .ok (.if_icmp .ne 5, 3) := by decide +kernel
theorem dX11_hear_34 : decode cX11_hear 34 = .ok (.iconst (-1), 1) := by decide +kernel
theorem dX11_hear_35 : decode cX11_hear 35 = .ok (.ireturn, 1) := by decide +kernel
theorem dX11_hear_36 : decode cX11_hear 36 = .ok (.aload_n 0, 1) := by decide +kernel
theorem dX11_hear_37 : decode cX11_hear 37 = .ok (.invokevirtual 436, 3) := by decide +kernel
theorem dX11_hear_40 : decode cX11_hear 40 = .ok (.aload_n 0, 1) := by decide +kernel
theorem dX11_hear_41 : decode cX11_hear 41 = .ok (.iload_n 1, 1) := by decide +kernel
theorem dX11_hear_42 : decode cX11_hear 42 = .ok (.invokevirtual 416, 3) := by decide +kernel
theorem dX11_hear_45 : decode cX11_hear 45 = .ok (.invokestatic 439, 3) := by decide +kernel
theorem dX11_hear_48 : decode cX11_hear 48 = .ok (.istore_n 2, 1) := by decide +kernel
theorem dX11_hear_49 : decode cX11_hear 49 = .ok (.aload_n 0, 1) := by decide +kernel
theorem dX11_hear_50 : decode cX11_hear 50 = .ok (.getfield 97, 3) := by decide +kernel
theorem dX11_hear_53 : decode cX11_hear 53 = .ok (.iconst 0, 1) := by decide +kernel
theorem dX11_hear_54 : decode cX11_hear 54 = .ok (.iload_n 1, 1) := by decide +kernel
theorem dX11_hear_55 : decode cX11_hear 55 = .ok (.iadd, 1) := by decide +kernel
theorem dX11_hear_56 : decode cX11_hear 56 = .ok (.iload_n 2, 1) := by decide +kernel
theorem dX11_hear_57 : decode cX11_hear 57 = .ok (.iastore, 1) := by decide +kernel
theorem dX11_hear_58 : decode cX11_hear 58 = .ok (.aload_n 0, 1) := by decide +kernel
theorem dX11_hear_59 : decode cX11_hear 59 = .ok (.getfield 97, 3) := by decide +kernel
theorem dX11_hear_62 : decode cX11_hear 62 = .ok (.bipush 26, 2) := by decide +kernel
theorem dX11_hear_64 : decode cX11_hear 64 = .ok (.iconst 1, 1) := by decide +kernel
theorem dX11_hear_65 : decode cX11_hear 65 = .ok (.iastore, 1) := by decide +kernel
theorem dX11_hear_66 : decode cX11_hear 66 = .ok (.iload_n 2, 1) := by decide +kernel
theorem dX11_hear_67 : decode cX11_hear 67 = .ok (.iconst 1, 1) := by decide +kernel
theorem dX11_hear_68 : decode cX11_hear 68 = .ok (.if_icmp .ne 30, 3) := by decide +kernel
theorem dX11_hear_71 : decode cX11_hear 71 = .ok (.aload_n 0, 1) := by decide +kernel
theorem dX11_hear_72 : decode cX11_hear 72 = .ok (.getfield 97, 3) := by decide +kernel
theorem dX11_hear_75 : decode cX11_hear 75 = .ok (.bipush 12, 2) := by decide +kernel
theorem dX11_hear_77 : decode cX11_hear 77 = .ok (.iload_n 1, 1) := by decide +kernel
theorem dX11_hear_78 : decode cX11_hear 78 = .ok (.iadd, 1) := by decide +kernel
theorem dX11_hear_79 : decode cX11_hear 79 = .ok (.iaload, 1) := by decide +kernel
theorem dX11_hear_80 : decode cX11_hear 80 = .ok (.bipush 99, 2) := by decide +kernel
theorem dX11_hear_82 : decode cX11_hear 82 = .ok (.if_icmp .ge 16, 3) := by decide +kernel
theorem dX11_hear_85 : decode cX11_hear 85 = .ok (.aload_n 0, 1) := by decide +kernel
theorem dX11_hear_86 : decode cX11_hear 86 = .ok (.getfield 97, 3) := by decide +kernel
theorem dX11_hear_89 : decode cX11_hear 89 = .ok (.bipush 12, 2) := by decide +kernel
theorem dX11_hear_91 : decode cX11_hear 91 = .ok (.iload_n 1, 1) := by decide +kernel
theorem dX11_hear_92 : decode cX11_hear 92 = .ok (.iadd, 1) := by decide +kernel
theorem dX11_hear_93 : decode cX11_hear 93 = .ok (.dup2, 1) := by decide +kernel
theorem dX11_hear_94 : decode cX11_hear 94 = .ok (.iaload, 1) := by decide +kernel
theorem dX11_hear_95 : decode cX11_hear 95 = .ok (.iconst 1, 1) := by decide +kernel
theorem dX11_hear_96 : decode cX11_hear 96 = .ok (.iadd, 1) := by decide +kernel
theorem dX11_hear_97 : decode cX11_hear 97 = .ok (.iastore, 1) := by decide +kernel
theorem dX11_hear_98 : decode cX11_hear 98 = .ok (.iload_n 2, 1) := by decide +kernel
theorem dX11_hear_99 : decode cX11_hear 99 = .ok (.ifCond .ne 30, 3) := by decide +kernel
theorem dX11_hear_102 : decode cX11_hear 102 = .ok (.aload_n 0, 1) := by decide +kernel
theorem dX11_hear_103 : decode cX11_hear 103 = .ok (.getfield 97, 3) := by decide +kernel
theorem dX11_hear_106 : decode cX11_hear 106 = .ok (.bipush 18, 2) := by decide +kernel
theorem dX11_hear_108 : decode cX11_hear 108 = .ok (.iload_n 1, 1) := by decide +kernel
theorem dX11_hear_109 : decode cX11_hear 109 = .ok (.iadd, 1) := by decide +kernel
theorem dX11_hear_110 : decode cX11_hear 110 = .ok (.iaload, 1) := by decide +kernel
theorem dX11_hear_111 : decode cX11_hear 111 = .ok (.bipush 99, 2) := by decide +kernel
theorem dX11_hear_113 : decode cX11_hear 113 = .ok (.if_icmp .ge 16, 3) := by decide +kernel
theorem dX11_hear_116 : decode cX11_hear 116 = .ok (.aload_n 0, 1) := by decide +kernel
theorem dX11_hear_117 : decode cX11_hear 117 = .ok (.getfield 97, 3) := by decide +kernel
theorem dX11_hear_120 : decode cX11_hear 120 = .ok (.bipush 18, 2) := by decide +kernel
theorem dX11_hear_122 : decode cX11_hear 122 = .ok (.iload_n 1, 1) := by decide +kernel
theorem dX11_hear_123 : decode cX11_hear 123 = .ok (.iadd, 1) := by decide +kernel
theorem dX11_hear_124 : decode cX11_hear 124 = .ok (.dup2, 1) := by decide +kernel
theorem dX11_hear_125 : decode cX11_hear 125 = .ok (.iaload, 1) := by decide +kernel
theorem dX11_hear_126 : decode cX11_hear 126 = .ok (.iconst 1, 1) := by decide +kernel
theorem dX11_hear_127 : decode cX11_hear 127 = .ok (.iadd, 1) := by decide +kernel
theorem dX11_hear_128 : decode cX11_hear 128 = .ok (.iastore, 1) := by decide +kernel
theorem dX11_hear_129 : decode cX11_hear 129 = .ok (.iload_n 2, 1) := by decide +kernel
theorem dX11_hear_130 : decode cX11_hear 130 = .ok (.ireturn, 1) := by decide +kernel
theorem wd_1824 : (Cond.code ⟨"WebCourtModel", "hear", "(I)I"⟩ prog_13_method_76_code (3 : Nat) (Option.some FieldType.int)) ∈ gtb := gtb_c8 35 (by decide +kernel) rfl
theorem Km9_to_Km16 {u v : St} (h : Km9 u v) : Km16 u v := ⟨h.1, h.2.1, h.2.2.1, h.2.2.2.1, h.2.2.2.2.1, h.2.2.2.2.2.1, h.2.2.2.2.2.2.1, h.2.2.2.2.2.2.2.1, h.2.2.2.2.2.2.2.2.1, h.2.2.2.2.2.2.2.2.2.1, h.2.2.2.2.2.2.2.2.2.2.1, h.2.2.2.2.2.2.2.2.2.2.2.1, h.2.2.2.2.2.2.2.2.2.2.2.2.1, h.2.2.2.2.2.2.2.2.2.2.2.2.2.1, h.2.2.2.2.2.2.2.2.2.2.2.2.2.2.1, h.2.2.2.2.2.2.2.2.2.2.2.2.2.2.2.2.2.1, h.2.2.2.2.2.2.2.2.2.2.2.2.2.2.2.2.2.2.1, h.2.2.2.2.2.2.2.2.2.2.2.2.2.2.2.2.2.2.2.1, h.2.2.2.2.2.2.2.2.2.2.2.2.2.2.2.2.2.2.2.2.1, h.2.2.2.2.2.2.2.2.2.2.2.2.2.2.2.2.2.2.2.2.2.1, h.2.2.2.2.2.2.2.2.2.2.2.2.2.2.2.2.2.2.2.2.2.2.1, h.2.2.2.2.2.2.2.2.2.2.2.2.2.2.2.2.2.2.2.2.2.2.2.1, h.2.2.2.2.2.2.2.2.2.2.2.2.2.2.2.2.2.2.2.2.2.2.2.2.1, h.2.2.2.2.2.2.2.2.2.2.2.2.2.2.2.2.2.2.2.2.2.2.2.2.2.1, h.2.2.2.2.2.2.2.2.2.2.2.2.2.2.2.2.2.2.2.2.2.2.2.2.2.2.1, h.2.2.2.2.2.2.2.2.2.2.2.2.2.2.2.2.2.2.2.2.2.2.2.2.2.2.2.1, h.2.2.2.2.2.2.2.2.2.2.2.2.2.2.2.2.2.2.2.2.2.2.2.2.2.2.2.2.1, h.2.2.2.2.2.2.2.2.2.2.2.2.2.2.2.2.2.2.2.2.2.2.2.2.2.2.2.2.2.1, h.2.2.2.2.2.2.2.2.2.2.2.2.2.2.2.2.2.2.2.2.2.2.2.2.2.2.2.2.2.2.1, h.2.2.2.2.2.2.2.2.2.2.2.2.2.2.2.2.2.2.2.2.2.2.2.2.2.2.2.2.2.2.2.1, h.2.2.2.2.2.2.2.2.2.2.2.2.2.2.2.2.2.2.2.2.2.2.2.2.2.2.2.2.2.2.2.2.1, h.2.2.2.2.2.2.2.2.2.2.2.2.2.2.2.2.2.2.2.2.2.2.2.2.2.2.2.2.2.2.2.2.2.1, h.2.2.2.2.2.2.2.2.2.2.2.2.2.2.2.2.2.2.2.2.2.2.2.2.2.2.2.2.2.2.2.2.2.2.1, h.2.2.2.2.2.2.2.2.2.2.2.2.2.2.2.2.2.2.2.2.2.2.2.2.2.2.2.2.2.2.2.2.2.2.2.1, h.2.2.2.2.2.2.2.2.2.2.2.2.2.2.2.2.2.2.2.2.2.2.2.2.2.2.2.2.2.2.2.2.2.2.2.2.1, h.2.2.2.2.2.2.2.2.2.2.2.2.2.2.2.2.2.2.2.2.2.2.2.2.2.2.2.2.2.2.2.2.2.2.2.2.2.1, h.2.2.2.2.2.2.2.2.2.2.2.2.2.2.2.2.2.2.2.2.2.2.2.2.2.2.2.2.2.2.2.2.2.2.2.2.2.2.1, h.2.2.2.2.2.2.2.2.2.2.2.2.2.2.2.2.2.2.2.2.2.2.2.2.2.2.2.2.2.2.2.2.2.2.2.2.2.2.2.1, h.2.2.2.2.2.2.2.2.2.2.2.2.2.2.2.2.2.2.2.2.2.2.2.2.2.2.2.2.2.2.2.2.2.2.2.2.2.2.2.2.1, h.2.2.2.2.2.2.2.2.2.2.2.2.2.2.2.2.2.2.2.2.2.2.2.2.2.2.2.2.2.2.2.2.2.2.2.2.2.2.2.2.2.1, h.2.2.2.2.2.2.2.2.2.2.2.2.2.2.2.2.2.2.2.2.2.2.2.2.2.2.2.2.2.2.2.2.2.2.2.2.2.2.2.2.2.2.1, h.2.2.2.2.2.2.2.2.2.2.2.2.2.2.2.2.2.2.2.2.2.2.2.2.2.2.2.2.2.2.2.2.2.2.2.2.2.2.2.2.2.2.2.1, h.2.2.2.2.2.2.2.2.2.2.2.2.2.2.2.2.2.2.2.2.2.2.2.2.2.2.2.2.2.2.2.2.2.2.2.2.2.2.2.2.2.2.2.2.1, h.2.2.2.2.2.2.2.2.2.2.2.2.2.2.2.2.2.2.2.2.2.2.2.2.2.2.2.2.2.2.2.2.2.2.2.2.2.2.2.2.2.2.2.2.2.1, h.2.2.2.2.2.2.2.2.2.2.2.2.2.2.2.2.2.2.2.2.2.2.2.2.2.2.2.2.2.2.2.2.2.2.2.2.2.2.2.2.2.2.2.2.2.2.1, h.2.2.2.2.2.2.2.2.2.2.2.2.2.2.2.2.2.2.2.2.2.2.2.2.2.2.2.2.2.2.2.2.2.2.2.2.2.2.2.2.2.2.2.2.2.2.2.2.2.1, h.2.2.2.2.2.2.2.2.2.2.2.2.2.2.2.2.2.2.2.2.2.2.2.2.2.2.2.2.2.2.2.2.2.2.2.2.2.2.2.2.2.2.2.2.2.2.2.2.2.2.1, h.2.2.2.2.2.2.2.2.2.2.2.2.2.2.2.2.2.2.2.2.2.2.2.2.2.2.2.2.2.2.2.2.2.2.2.2.2.2.2.2.2.2.2.2.2.2.2.2.2.2.2.1, h.2.2.2.2.2.2.2.2.2.2.2.2.2.2.2.2.2.2.2.2.2.2.2.2.2.2.2.2.2.2.2.2.2.2.2.2.2.2.2.2.2.2.2.2.2.2.2.2.2.2.2.2.1, h.2.2.2.2.2.2.2.2.2.2.2.2.2.2.2.2.2.2.2.2.2.2.2.2.2.2.2.2.2.2.2.2.2.2.2.2.2.2.2.2.2.2.2.2.2.2.2.2.2.2.2.2.2.1, h.2.2.2.2.2.2.2.2.2.2.2.2.2.2.2.2.2.2.2.2.2.2.2.2.2.2.2.2.2.2.2.2.2.2.2.2.2.2.2.2.2.2.2.2.2.2.2.2.2.2.2.2.2.2.1, h.2.2.2.2.2.2.2.2.2.2.2.2.2.2.2.2.2.2.2.2.2.2.2.2.2.2.2.2.2.2.2.2.2.2.2.2.2.2.2.2.2.2.2.2.2.2.2.2.2.2.2.2.2.2.2.1, h.2.2.2.2.2.2.2.2.2.2.2.2.2.2.2.2.2.2.2.2.2.2.2.2.2.2.2.2.2.2.2.2.2.2.2.2.2.2.2.2.2.2.2.2.2.2.2.2.2.2.2.2.2.2.2.2.1, h.2.2.2.2.2.2.2.2.2.2.2.2.2.2.2.2.2.2.2.2.2.2.2.2.2.2.2.2.2.2.2.2.2.2.2.2.2.2.2.2.2.2.2.2.2.2.2.2.2.2.2.2.2.2.2.2.2.1, h.2.2.2.2.2.2.2.2.2.2.2.2.2.2.2.2.2.2.2.2.2.2.2.2.2.2.2.2.2.2.2.2.2.2.2.2.2.2.2.2.2.2.2.2.2.2.2.2.2.2.2.2.2.2.2.2.2.2.1, h.2.2.2.2.2.2.2.2.2.2.2.2.2.2.2.2.2.2.2.2.2.2.2.2.2.2.2.2.2.2.2.2.2.2.2.2.2.2.2.2.2.2.2.2.2.2.2.2.2.2.2.2.2.2.2.2.2.2.2.1, h.2.2.2.2.2.2.2.2.2.2.2.2.2.2.2.2.2.2.2.2.2.2.2.2.2.2.2.2.2.2.2.2.2.2.2.2.2.2.2.2.2.2.2.2.2.2.2.2.2.2.2.2.2.2.2.2.2.2.2.2.1, h.2.2.2.2.2.2.2.2.2.2.2.2.2.2.2.2.2.2.2.2.2.2.2.2.2.2.2.2.2.2.2.2.2.2.2.2.2.2.2.2.2.2.2.2.2.2.2.2.2.2.2.2.2.2.2.2.2.2.2.2.2⟩
theorem Km2_to_Km16 {u v : St} (h : Km2 u v) : Km16 u v := ⟨h.1, h.2.1, h.2.2.1, h.2.2.2.1, h.2.2.2.2.1, h.2.2.2.2.2.1, h.2.2.2.2.2.2.1, h.2.2.2.2.2.2.2.1, h.2.2.2.2.2.2.2.2.1, h.2.2.2.2.2.2.2.2.2.1, h.2.2.2.2.2.2.2.2.2.2.1, h.2.2.2.2.2.2.2.2.2.2.2.1, h.2.2.2.2.2.2.2.2.2.2.2.2.1, h.2.2.2.2.2.2.2.2.2.2.2.2.2.1, h.2.2.2.2.2.2.2.2.2.2.2.2.2.2.1, h.2.2.2.2.2.2.2.2.2.2.2.2.2.2.2.1, h.2.2.2.2.2.2.2.2.2.2.2.2.2.2.2.2.2.2.1, h.2.2.2.2.2.2.2.2.2.2.2.2.2.2.2.2.2.2.2.1, h.2.2.2.2.2.2.2.2.2.2.2.2.2.2.2.2.2.2.2.2.1, h.2.2.2.2.2.2.2.2.2.2.2.2.2.2.2.2.2.2.2.2.2.1, h.2.2.2.2.2.2.2.2.2.2.2.2.2.2.2.2.2.2.2.2.2.2.1, h.2.2.2.2.2.2.2.2.2.2.2.2.2.2.2.2.2.2.2.2.2.2.2.1, h.2.2.2.2.2.2.2.2.2.2.2.2.2.2.2.2.2.2.2.2.2.2.2.2.1, h.2.2.2.2.2.2.2.2.2.2.2.2.2.2.2.2.2.2.2.2.2.2.2.2.2.1, h.2.2.2.2.2.2.2.2.2.2.2.2.2.2.2.2.2.2.2.2.2.2.2.2.2.2.1, h.2.2.2.2.2.2.2.2.2.2.2.2.2.2.2.2.2.2.2.2.2.2.2.2.2.2.2.1, h.2.2.2.2.2.2.2.2.2.2.2.2.2.2.2.2.2.2.2.2.2.2.2.2.2.2.2.2.1, h.2.2.2.2.2.2.2.2.2.2.2.2.2.2.2.2.2.2.2.2.2.2.2.2.2.2.2.2.2.1, h.2.2.2.2.2.2.2.2.2.2.2.2.2.2.2.2.2.2.2.2.2.2.2.2.2.2.2.2.2.2.1, h.2.2.2.2.2.2.2.2.2.2.2.2.2.2.2.2.2.2.2.2.2.2.2.2.2.2.2.2.2.2.2.1, h.2.2.2.2.2.2.2.2.2.2.2.2.2.2.2.2.2.2.2.2.2.2.2.2.2.2.2.2.2.2.2.2.1, h.2.2.2.2.2.2.2.2.2.2.2.2.2.2.2.2.2.2.2.2.2.2.2.2.2.2.2.2.2.2.2.2.2.1, h.2.2.2.2.2.2.2.2.2.2.2.2.2.2.2.2.2.2.2.2.2.2.2.2.2.2.2.2.2.2.2.2.2.2.1, h.2.2.2.2.2.2.2.2.2.2.2.2.2.2.2.2.2.2.2.2.2.2.2.2.2.2.2.2.2.2.2.2.2.2.2.1, h.2.2.2.2.2.2.2.2.2.2.2.2.2.2.2.2.2.2.2.2.2.2.2.2.2.2.2.2.2.2.2.2.2.2.2.2.1, h.2.2.2.2.2.2.2.2.2.2.2.2.2.2.2.2.2.2.2.2.2.2.2.2.2.2.2.2.2.2.2.2.2.2.2.2.2.1, h.2.2.2.2.2.2.2.2.2.2.2.2.2.2.2.2.2.2.2.2.2.2.2.2.2.2.2.2.2.2.2.2.2.2.2.2.2.2.1, h.2.2.2.2.2.2.2.2.2.2.2.2.2.2.2.2.2.2.2.2.2.2.2.2.2.2.2.2.2.2.2.2.2.2.2.2.2.2.2.1, h.2.2.2.2.2.2.2.2.2.2.2.2.2.2.2.2.2.2.2.2.2.2.2.2.2.2.2.2.2.2.2.2.2.2.2.2.2.2.2.2.1, h.2.2.2.2.2.2.2.2.2.2.2.2.2.2.2.2.2.2.2.2.2.2.2.2.2.2.2.2.2.2.2.2.2.2.2.2.2.2.2.2.2.1, h.2.2.2.2.2.2.2.2.2.2.2.2.2.2.2.2.2.2.2.2.2.2.2.2.2.2.2.2.2.2.2.2.2.2.2.2.2.2.2.2.2.2.1, h.2.2.2.2.2.2.2.2.2.2.2.2.2.2.2.2.2.2.2.2.2.2.2.2.2.2.2.2.2.2.2.2.2.2.2.2.2.2.2.2.2.2.2.1, h.2.2.2.2.2.2.2.2.2.2.2.2.2.2.2.2.2.2.2.2.2.2.2.2.2.2.2.2.2.2.2.2.2.2.2.2.2.2.2.2.2.2.2.2.1, h.2.2.2.2.2.2.2.2.2.2.2.2.2.2.2.2.2.2.2.2.2.2.2.2.2.2.2.2.2.2.2.2.2.2.2.2.2.2.2.2.2.2.2.2.2.1, h.2.2.2.2.2.2.2.2.2.2.2.2.2.2.2.2.2.2.2.2.2.2.2.2.2.2.2.2.2.2.2.2.2.2.2.2.2.2.2.2.2.2.2.2.2.2.1, h.2.2.2.2.2.2.2.2.2.2.2.2.2.2.2.2.2.2.2.2.2.2.2.2.2.2.2.2.2.2.2.2.2.2.2.2.2.2.2.2.2.2.2.2.2.2.2.2.2.1, h.2.2.2.2.2.2.2.2.2.2.2.2.2.2.2.2.2.2.2.2.2.2.2.2.2.2.2.2.2.2.2.2.2.2.2.2.2.2.2.2.2.2.2.2.2.2.2.2.2.2.1, h.2.2.2.2.2.2.2.2.2.2.2.2.2.2.2.2.2.2.2.2.2.2.2.2.2.2.2.2.2.2.2.2.2.2.2.2.2.2.2.2.2.2.2.2.2.2.2.2.2.2.2.1, h.2.2.2.2.2.2.2.2.2.2.2.2.2.2.2.2.2.2.2.2.2.2.2.2.2.2.2.2.2.2.2.2.2.2.2.2.2.2.2.2.2.2.2.2.2.2.2.2.2.2.2.2.1, h.2.2.2.2.2.2.2.2.2.2.2.2.2.2.2.2.2.2.2.2.2.2.2.2.2.2.2.2.2.2.2.2.2.2.2.2.2.2.2.2.2.2.2.2.2.2.2.2.2.2.2.2.2.1, h.2.2.2.2.2.2.2.2.2.2.2.2.2.2.2.2.2.2.2.2.2.2.2.2.2.2.2.2.2.2.2.2.2.2.2.2.2.2.2.2.2.2.2.2.2.2.2.2.2.2.2.2.2.2.1, h.2.2.2.2.2.2.2.2.2.2.2.2.2.2.2.2.2.2.2.2.2.2.2.2.2.2.2.2.2.2.2.2.2.2.2.2.2.2.2.2.2.2.2.2.2.2.2.2.2.2.2.2.2.2.2.1, h.2.2.2.2.2.2.2.2.2.2.2.2.2.2.2.2.2.2.2.2.2.2.2.2.2.2.2.2.2.2.2.2.2.2.2.2.2.2.2.2.2.2.2.2.2.2.2.2.2.2.2.2.2.2.2.2.1, h.2.2.2.2.2.2.2.2.2.2.2.2.2.2.2.2.2.2.2.2.2.2.2.2.2.2.2.2.2.2.2.2.2.2.2.2.2.2.2.2.2.2.2.2.2.2.2.2.2.2.2.2.2.2.2.2.2.1, h.2.2.2.2.2.2.2.2.2.2.2.2.2.2.2.2.2.2.2.2.2.2.2.2.2.2.2.2.2.2.2.2.2.2.2.2.2.2.2.2.2.2.2.2.2.2.2.2.2.2.2.2.2.2.2.2.2.2.1, h.2.2.2.2.2.2.2.2.2.2.2.2.2.2.2.2.2.2.2.2.2.2.2.2.2.2.2.2.2.2.2.2.2.2.2.2.2.2.2.2.2.2.2.2.2.2.2.2.2.2.2.2.2.2.2.2.2.2.2.1, h.2.2.2.2.2.2.2.2.2.2.2.2.2.2.2.2.2.2.2.2.2.2.2.2.2.2.2.2.2.2.2.2.2.2.2.2.2.2.2.2.2.2.2.2.2.2.2.2.2.2.2.2.2.2.2.2.2.2.2.2.1, h.2.2.2.2.2.2.2.2.2.2.2.2.2.2.2.2.2.2.2.2.2.2.2.2.2.2.2.2.2.2.2.2.2.2.2.2.2.2.2.2.2.2.2.2.2.2.2.2.2.2.2.2.2.2.2.2.2.2.2.2.2⟩
theorem Km16_wA28 {u v : St} {D : va_G} {A : Nat → Prop} {cy : Nat → ClassId} {a : Nat → Nat} {hp H : Heap} {locs : List Loc} {f : Nat → Int32} (_ : Wo D A (mW cy a (sA v 28 f)) hp H locs) (h : Km16 u v) : Km16 u (sA v 28 f) := ⟨h.1, h.2.1, h.2.2.1, h.2.2.2.1, h.2.2.2.2.1, h.2.2.2.2.2.1, h.2.2.2.2.2.2.1, h.2.2.2.2.2.2.2.1, h.2.2.2.2.2.2.2.2.1, h.2.2.2.2.2.2.2.2.2.1, h.2.2.2.2.2.2.2.2.2.2.1, h.2.2.2.2.2.2.2.2.2.2.2.1, h.2.2.2.2.2.2.2.2.2.2.2.2.1, h.2.2.2.2.2.2.2.2.2.2.2.2.2.1, h.2.2.2.2.2.2.2.2.2.2.2.2.2.2.1, h.2.2.2.2.2.2.2.2.2.2.2.2.2.2.2.1, h.2.2.2.2.2.2.2.2.2.2.2.2.2.2.2.2.1, h.2.2.2.2.2.2.2.2.2.2.2.2.2.2.2.2.2.1, h.2.2.2.2.2.2.2.2.2.2.2.2.2.2.2.2.2.2.1, h.2.2.2.2.2.2.2.2.2.2.2.2.2.2.2.2.2.2.2.1, h.2.2.2.2.2.2.2.2.2.2.2.2.2.2.2.2.2.2.2.2.1, h.2.2.2.2.2.2.2.2.2.2.2.2.2.2.2.2.2.2.2.2.2.1, h.2.2.2.2.2.2.2.2.2.2.2.2.2.2.2.2.2.2.2.2.2.2.1, h.2.2.2.2.2.2.2.2.2.2.2.2.2.2.2.2.2.2.2.2.2.2.2.1, h.2.2.2.2.2.2.2.2.2.2.2.2.2.2.2.2.2.2.2.2.2.2.2.2.1, h.2.2.2.2.2.2.2.2.2.2.2.2.2.2.2.2.2.2.2.2.2.2.2.2.2.1, h.2.2.2.2.2.2.2.2.2.2.2.2.2.2.2.2.2.2.2.2.2.2.2.2.2.2.1, h.2.2.2.2.2.2.2.2.2.2.2.2.2.2.2.2.2.2.2.2.2.2.2.2.2.2.2.1, h.2.2.2.2.2.2.2.2.2.2.2.2.2.2.2.2.2.2.2.2.2.2.2.2.2.2.2.2.1, h.2.2.2.2.2.2.2.2.2.2.2.2.2.2.2.2.2.2.2.2.2.2.2.2.2.2.2.2.2.1, h.2.2.2.2.2.2.2.2.2.2.2.2.2.2.2.2.2.2.2.2.2.2.2.2.2.2.2.2.2.2.1, h.2.2.2.2.2.2.2.2.2.2.2.2.2.2.2.2.2.2.2.2.2.2.2.2.2.2.2.2.2.2.2.1, h.2.2.2.2.2.2.2.2.2.2.2.2.2.2.2.2.2.2.2.2.2.2.2.2.2.2.2.2.2.2.2.2.1, h.2.2.2.2.2.2.2.2.2.2.2.2.2.2.2.2.2.2.2.2.2.2.2.2.2.2.2.2.2.2.2.2.2.1, h.2.2.2.2.2.2.2.2.2.2.2.2.2.2.2.2.2.2.2.2.2.2.2.2.2.2.2.2.2.2.2.2.2.2.1, h.2.2.2.2.2.2.2.2.2.2.2.2.2.2.2.2.2.2.2.2.2.2.2.2.2.2.2.2.2.2.2.2.2.2.2.1, h.2.2.2.2.2.2.2.2.2.2.2.2.2.2.2.2.2.2.2.2.2.2.2.2.2.2.2.2.2.2.2.2.2.2.2.2.1, h.2.2.2.2.2.2.2.2.2.2.2.2.2.2.2.2.2.2.2.2.2.2.2.2.2.2.2.2.2.2.2.2.2.2.2.2.2.1, h.2.2.2.2.2.2.2.2.2.2.2.2.2.2.2.2.2.2.2.2.2.2.2.2.2.2.2.2.2.2.2.2.2.2.2.2.2.2.1, h.2.2.2.2.2.2.2.2.2.2.2.2.2.2.2.2.2.2.2.2.2.2.2.2.2.2.2.2.2.2.2.2.2.2.2.2.2.2.2.1, h.2.2.2.2.2.2.2.2.2.2.2.2.2.2.2.2.2.2.2.2.2.2.2.2.2.2.2.2.2.2.2.2.2.2.2.2.2.2.2.2.1, h.2.2.2.2.2.2.2.2.2.2.2.2.2.2.2.2.2.2.2.2.2.2.2.2.2.2.2.2.2.2.2.2.2.2.2.2.2.2.2.2.2.1, h.2.2.2.2.2.2.2.2.2.2.2.2.2.2.2.2.2.2.2.2.2.2.2.2.2.2.2.2.2.2.2.2.2.2.2.2.2.2.2.2.2.2.1, h.2.2.2.2.2.2.2.2.2.2.2.2.2.2.2.2.2.2.2.2.2.2.2.2.2.2.2.2.2.2.2.2.2.2.2.2.2.2.2.2.2.2.2.1, h.2.2.2.2.2.2.2.2.2.2.2.2.2.2.2.2.2.2.2.2.2.2.2.2.2.2.2.2.2.2.2.2.2.2.2.2.2.2.2.2.2.2.2.2.1, h.2.2.2.2.2.2.2.2.2.2.2.2.2.2.2.2.2.2.2.2.2.2.2.2.2.2.2.2.2.2.2.2.2.2.2.2.2.2.2.2.2.2.2.2.2.1, h.2.2.2.2.2.2.2.2.2.2.2.2.2.2.2.2.2.2.2.2.2.2.2.2.2.2.2.2.2.2.2.2.2.2.2.2.2.2.2.2.2.2.2.2.2.2.1, h.2.2.2.2.2.2.2.2.2.2.2.2.2.2.2.2.2.2.2.2.2.2.2.2.2.2.2.2.2.2.2.2.2.2.2.2.2.2.2.2.2.2.2.2.2.2.2.1, h.2.2.2.2.2.2.2.2.2.2.2.2.2.2.2.2.2.2.2.2.2.2.2.2.2.2.2.2.2.2.2.2.2.2.2.2.2.2.2.2.2.2.2.2.2.2.2.2.1, h.2.2.2.2.2.2.2.2.2.2.2.2.2.2.2.2.2.2.2.2.2.2.2.2.2.2.2.2.2.2.2.2.2.2.2.2.2.2.2.2.2.2.2.2.2.2.2.2.2.1, h.2.2.2.2.2.2.2.2.2.2.2.2.2.2.2.2.2.2.2.2.2.2.2.2.2.2.2.2.2.2.2.2.2.2.2.2.2.2.2.2.2.2.2.2.2.2.2.2.2.2.1, h.2.2.2.2.2.2.2.2.2.2.2.2.2.2.2.2.2.2.2.2.2.2.2.2.2.2.2.2.2.2.2.2.2.2.2.2.2.2.2.2.2.2.2.2.2.2.2.2.2.2.2.1, h.2.2.2.2.2.2.2.2.2.2.2.2.2.2.2.2.2.2.2.2.2.2.2.2.2.2.2.2.2.2.2.2.2.2.2.2.2.2.2.2.2.2.2.2.2.2.2.2.2.2.2.2.1, h.2.2.2.2.2.2.2.2.2.2.2.2.2.2.2.2.2.2.2.2.2.2.2.2.2.2.2.2.2.2.2.2.2.2.2.2.2.2.2.2.2.2.2.2.2.2.2.2.2.2.2.2.2.1, h.2.2.2.2.2.2.2.2.2.2.2.2.2.2.2.2.2.2.2.2.2.2.2.2.2.2.2.2.2.2.2.2.2.2.2.2.2.2.2.2.2.2.2.2.2.2.2.2.2.2.2.2.2.2.1, h.2.2.2.2.2.2.2.2.2.2.2.2.2.2.2.2.2.2.2.2.2.2.2.2.2.2.2.2.2.2.2.2.2.2.2.2.2.2.2.2.2.2.2.2.2.2.2.2.2.2.2.2.2.2.2.1, h.2.2.2.2.2.2.2.2.2.2.2.2.2.2.2.2.2.2.2.2.2.2.2.2.2.2.2.2.2.2.2.2.2.2.2.2.2.2.2.2.2.2.2.2.2.2.2.2.2.2.2.2.2.2.2.2.1, h.2.2.2.2.2.2.2.2.2.2.2.2.2.2.2.2.2.2.2.2.2.2.2.2.2.2.2.2.2.2.2.2.2.2.2.2.2.2.2.2.2.2.2.2.2.2.2.2.2.2.2.2.2.2.2.2.2⟩
set_option maxHeartbeats 4000000 in
set_option maxRecDepth 100000 in
theorem T_X11_hear (l : Launch) (D : va_G) (cy : Nat → ClassId) (a : Nat → Nat) (u : St) (hJ : MI a u) (x1 : Int32)  : Mi l D cy (mW cy a) yX11_hear (.code yX11_hear cX11_hear 3 (some .int)) (rmo 7 153) [.ref (a 0), .int x1] u (fun (r : Int32) (u' : St) => (MI a u') ∧ (Km16 u u')) := by
  refine Mi.of (own := RX11) rfl (by decide) (Nat.le_of_ble_eq_true rfl) ?_
  have hT : Km16 u u := Km16.rf
  have hJ0 := hJ
  intro p e s m below meth c A Q ls C hret hO hl
  obtain ⟨hx, hb, hml, hown, ht, hK, hA⟩ := id C
  have hl : lv_has ls 3 [(0, .ref (a 0)), (1, .int x1)] := hl
  refine lv_aload_n hx hb dX11_hear_0 rfl (lv_at hl 0 rfl) ?_
  refine lv_iload_n hx hb dX11_hear_1 rfl (lv_at hl 1 rfl) ?_
  have g1 : 0 ≤ (fI u 0 36).toInt ∧ (fI u 0 36).toInt ≤ 1 := by have h := MI_36 hJ0; exact h
  have g2 : 0 ≤ (fA u 6 ((fI u 0 36)).toNatClampNeg).toInt ∧ (fA u 6 ((fI u 0 36)).toNatClampNeg).toInt ≤ 6 := by have h := MI_A6 hJ0 ((fI u 0 36)).toNatClampNeg; exact h
  refine cVi (w := mW cy a) (As := [.int x1]) (rest := []) C hO (T_X11_isHeld l D cy a _ (by exact hJ) ((fA u 6 ((fI u 0 36)).toNatClampNeg)) (by exact rfl) (x1)) (cwV 1 ht (gV wd_1797 wd_1799 wd_91 wd_121 wd_1800) rfl rfl rfl hd_yX11_isHeld ⟨Nat.le_of_ble_eq_true rfl, Nat.le_of_ble_eq_true rfl⟩) 0 rfl mW_0 rfl rfl hl.1 (Nat.le_of_ble_eq_true rfl) dX11_hear_2 rfl ⟨Nat.zero_le _, Nat.zero_le _⟩ (fun r3 u4 H locs hp5 hO => ?_)
  obtain ⟨hr3, hu4⟩ := hp5
  rw [hu4] at hO
  rcases hr3 with ⟨hcr3, hvr3⟩ | ⟨hcr3, hvr3⟩
  · subst hvr3
    refine bn_eq (X := 1) hx hb dX11_hear_5 rfl (by omega) ?_ (tgt := 34) (by decide)
    refine lv_aload_n hx hb dX11_hear_8 rfl (lv_at hl 0 rfl) ?_
    refine lv_iload_n hx hb dX11_hear_9 rfl (lv_at hl 1 rfl) ?_
    refine cVi (w := mW cy a) (As := [.int x1]) (rest := []) C hO (T_X11_placeOf l D cy a _ (by exact hJ) (x1) (by first | omega | decide)) (cwV 1 ht (gV wd_1733 wd_1735 wd_80 wd_121 wd_1736) rfl rfl rfl hd_yX11_placeOf ⟨Nat.le_of_ble_eq_true rfl, Nat.le_of_ble_eq_true rfl⟩) 0 rfl mW_0 rfl rfl hl.1 (Nat.le_of_ble_eq_true rfl) dX11_hear_10 rfl ⟨Nat.zero_le _, Nat.zero_le _⟩ (fun r6 u7 H locs hp8 hO => ?_)
    obtain ⟨hr6, hu7⟩ := hp8
    rw [hu7] at hO
    refine lv_aload_n hx hb dX11_hear_13 rfl (lv_at hl 0 rfl) ?_
    refine gf_RX11_97 (v := .ref (a 28)) C hO 0 mW_0 rfl dX11_hear_14 ?_
    refine lv_bipush (v := 24) hx hb dX11_hear_17 (by decide) ?_
    refine aI C hO 28 mW_28 (i_in (X := 24) rfl (by omega) (by omega)) dX11_hear_19 ?_
    have g9 : 0 ≤ (fA u 3 ((fI u 0 36)).toNatClampNeg).toInt ∧ (fA u 3 ((fI u 0 36)).toNatClampNeg).toInt ≤ 8 := by have h := MI_A3 hJ0 ((fI u 0 36)).toNatClampNeg; exact h
    refine tE (y := (fA u 28 24)) (by exact rfl) ?_
    have g10 : -1 ≤ (fA u 28 24).toInt ∧ (fA u 28 24).toInt ≤ 7 := by have h := MI_she2 hJ; exact h
    refine cs_ne (tgt := 34) (X := (r6).toInt) (Y := ((fA u 28 24)).toInt) hx hb dX11_hear_20 (by decide) rfl rfl (fun c11 => ?_) (fun c11 => ?_)
    · refine lv_iconst (v := (-1)) hx hb dX11_hear_34 (by decide) ?_
      refine hret _ _ _ _ _ _ dX11_hear_35 rfl ?_ hO
      exact ⟨hJ, hT⟩
    · refine lv_aload_n hx hb dX11_hear_23 rfl (lv_at hl 0 rfl) ?_
      refine gf_RX11_97 (v := .ref (a 28)) C hO 0 mW_0 rfl dX11_hear_24 ?_
      refine lv_bipush (v := 26) hx hb dX11_hear_27 (by decide) ?_
      refine aI C hO 28 mW_28 (i_in (X := 26) rfl (by omega) (by omega)) dX11_hear_29 ?_
      refine tE (y := (fA u 28 26)) (by exact rfl) ?_
      refine lv_iconst (v := 1) hx hb dX11_hear_30 (by decide) ?_
      refine cs_ne (tgt := 36) (X := ((fA u 28 26)).toInt) (Y := 1) hx hb dX11_hear_31 (by decide) rfl rfl (fun c12 => ?_) (fun c12 => ?_)
      · refine lv_aload_n hx hb dX11_hear_36 rfl (lv_at hl 0 rfl) ?_
        refine cVv (w := mW cy a) (As := []) (rest := []) C hO (T_X11_keepAct l D cy a _ (by exact hJ)) (cwV 0 ht (gV wd_1817 wd_1819 wd_93 wd_121 wd_1820) rfl rfl rfl hd_yX11_keepAct ⟨Nat.le_of_ble_eq_true rfl, Nat.le_of_ble_eq_true rfl⟩) 0 rfl mW_0 rfl rfl hl.1 (Nat.le_of_ble_eq_true rfl) dX11_hear_37 rfl ⟨Nat.zero_le _, Nat.zero_le _⟩ (fun u14 H locs hp15 hO => ?_)
        obtain ⟨hJ, hTu14⟩ := hp15
        have hT : Km16 u u14 := Km16.tr (by exact hT) (Km9_to_Km16 hTu14)
        refine lv_aload_n hx hb dX11_hear_40 rfl (lv_at hl 0 rfl) ?_
        refine lv_iload_n hx hb dX11_hear_41 rfl (lv_at hl 1 rfl) ?_
        refine cVi (w := mW cy a) (As := [.int x1]) (rest := []) C hO (T_X11_verdictOf l D cy a _ (by exact hJ) (x1) (by first | omega | decide)) (cwV 1 ht (gV wd_1761 wd_1763 wd_84 wd_121 wd_1764) rfl rfl rfl hd_yX11_verdictOf ⟨Nat.le_of_ble_eq_true rfl, Nat.le_of_ble_eq_true rfl⟩) 0 rfl mW_0 rfl rfl hl.1 (Nat.le_of_ble_eq_true rfl) dX11_hear_42 rfl ⟨Nat.zero_le _, Nat.zero_le _⟩ (fun r16 u17 H locs hp18 hO => ?_)
        obtain ⟨hJ, hTu17⟩ := hp18
        have hT : Km16 u u17 := Km16.tr (by exact hT) (Km2_to_Km16 hTu17)
        refine cSi (w := mW cy a) (As := [.int r16]) (rest := []) C hO (T_X11_outcome l D cy a _ (by exact hJ) (r16)) (va_cwS 1 ht (gSS wd_1825 wd_1826 wd_121 wd_1827) rfl rfl rfl hd_yX11_outcome ⟨Nat.le_of_ble_eq_true rfl, Nat.le_of_ble_eq_true rfl⟩)  rfl hl.1 (Nat.le_of_ble_eq_true rfl) dX11_hear_45 rfl ⟨Nat.zero_le _, Nat.zero_le _⟩ (fun r19 u20 H locs hp21 hO => ?_)
        obtain ⟨hr19, hu20⟩ := hp21
        rw [hu20] at hO
        refine lv_istore_n (lv' := [(2, .int r19), (0, .ref (a 0)), (1, .int x1)]) hx hb dX11_hear_48 rfl hl (by decide) rfl (fun ls hl => ?_)
        refine lv_aload_n hx hb dX11_hear_49 rfl (lv_at hl 1 rfl) ?_
        refine gf_RX11_97 (v := .ref (a 28)) C hO 0 mW_0 rfl dX11_hear_50 ?_
        refine lv_iconst (v := 0) hx hb dX11_hear_53 (by decide) ?_
        refine lv_iload_n hx hb dX11_hear_54 rfl (lv_at hl 2 rfl) ?_
        refine lv_iadd hx hb dX11_hear_55 ?_
        refine lv_topi (fun z22 ez22 => ?_)
        have e23 : z22.toInt = 0 + (x1).toInt := by rw [ez22]; exact i_add rfl rfl (by omega)
        refine lv_iload_n hx hb dX11_hear_56 rfl (lv_at hl 0 rfl) ?_
        refine aIs C hO 28 mW_28 (i_in (X := (0 + (x1).toInt)) e23 (by omega) (by omega)) mW_s28 dX11_hear_57 (fun H locs hO => ?_)
        have hT := Km16_wA28 hO hT
        have hJ := MIsA_28 hO hJ (Or.inl (i_ck (X := (0 + (x1).toInt)) e23 (by omega) (by omega)))
        refine lv_aload_n hx hb dX11_hear_58 rfl (lv_at hl 1 rfl) ?_
        refine gf_RX11_97 (v := .ref (a 28)) C hO 0 mW_0 rfl dX11_hear_59 ?_
        refine lv_bipush (v := 26) hx hb dX11_hear_62 (by decide) ?_
        refine lv_iconst (v := 1) hx hb dX11_hear_64 (by decide) ?_
        refine aIs C hO 28 mW_28 (i_in (X := 26) rfl (by omega) (by omega)) mW_s28 dX11_hear_65 (fun H locs hO => ?_)
        have hT := Km16_wA28 hO hT
        have hJ := MIsA_28 hO hJ (Or.inl (i_ck (X := 26) rfl (by omega) (by omega)))
        refine lv_iload_n hx hb dX11_hear_66 rfl (lv_at hl 0 rfl) ?_
        refine lv_iconst (v := 1) hx hb dX11_hear_67 (by decide) ?_
        refine cs_ne (tgt := 98) (X := (r19).toInt) (Y := 1) hx hb dX11_hear_68 (by decide) rfl rfl (fun c24 => ?_) (fun c24 => ?_)
        · refine lv_iload_n hx hb dX11_hear_98 rfl (lv_at hl 0 rfl) ?_
          refine bs_ne (tgt := 129) (X := (r19).toInt) hx hb dX11_hear_99 (by decide) rfl (fun c25 => ?_) (fun c25 => ?_)
          · refine lv_iload_n hx hb dX11_hear_129 rfl (lv_at hl 0 rfl) ?_
            refine hret _ _ _ _ _ _ dX11_hear_130 rfl ?_ hO
            exact ⟨hJ, hT⟩
          · refine lv_aload_n hx hb dX11_hear_102 rfl (lv_at hl 1 rfl) ?_
            refine gf_RX11_97 (v := .ref (a 28)) C hO 0 mW_0 rfl dX11_hear_103 ?_
            refine lv_bipush (v := 18) hx hb dX11_hear_106 (by decide) ?_
            refine lv_iload_n hx hb dX11_hear_108 rfl (lv_at hl 2 rfl) ?_
            refine lv_iadd hx hb dX11_hear_109 ?_
            refine lv_topi (fun z26 ez26 => ?_)
            have e27 : z26.toInt = 18 + (x1).toInt := by rw [ez26]; exact i_add rfl rfl (by omega)
            refine aI C hO 28 mW_28 (i_in (X := (18 + (x1).toInt)) e27 (by omega) (by omega)) dX11_hear_110 ?_
            refine lv_topi (fun w28 ew28 => ?_)
            refine lv_bipush (v := 99) hx hb dX11_hear_111 (by decide) ?_
            refine cs_ge (tgt := 129) (X := (w28).toInt) (Y := 99) hx hb dX11_hear_113 (by decide) rfl rfl (fun c29 => ?_) (fun c29 => ?_)
            · refine lv_iload_n hx hb dX11_hear_129 rfl (lv_at hl 0 rfl) ?_
              refine hret _ _ _ _ _ _ dX11_hear_130 rfl ?_ hO
              exact ⟨hJ, hT⟩
            · refine lv_aload_n hx hb dX11_hear_116 rfl (lv_at hl 1 rfl) ?_
              refine gf_RX11_97 (v := .ref (a 28)) C hO 0 mW_0 rfl dX11_hear_117 ?_
              refine lv_bipush (v := 18) hx hb dX11_hear_120 (by decide) ?_
              refine lv_iload_n hx hb dX11_hear_122 rfl (lv_at hl 2 rfl) ?_
              refine lv_iadd hx hb dX11_hear_123 ?_
              refine lv_topi (fun z30 ez30 => ?_)
              have e31 : z30.toInt = 18 + (x1).toInt := by rw [ez30]; exact i_add rfl rfl (by omega)
              refine lv_dup2_11 hx hb dX11_hear_124 rfl rfl ?_
              refine aI C hO 28 mW_28 (i_in (X := (18 + (x1).toInt)) e31 (by omega) (by omega)) dX11_hear_125 ?_
              refine lv_topi (fun w32 ew32 => ?_)
              refine lv_iconst (v := 1) hx hb dX11_hear_126 (by decide) ?_
              refine lv_iadd hx hb dX11_hear_127 ?_
              refine lv_topi (fun z33 ez33 => ?_)
              refine aIs C hO 28 mW_28 (i_in (X := (18 + (x1).toInt)) e31 (by omega) (by omega)) mW_s28 dX11_hear_128 (fun H locs hO => ?_)
              have hT := Km16_wA28 hO hT
              have hJ := MIsA_28 hO hJ (Or.inl (i_ck (X := (18 + (x1).toInt)) e31 (by omega) (by omega)))
              refine lv_iload_n hx hb dX11_hear_129 rfl (lv_at hl 0 rfl) ?_
              refine hret _ _ _ _ _ _ dX11_hear_130 rfl ?_ hO
              exact ⟨hJ, hT⟩
        · refine lv_aload_n hx hb dX11_hear_71 rfl (lv_at hl 1 rfl) ?_
          refine gf_RX11_97 (v := .ref (a 28)) C hO 0 mW_0 rfl dX11_hear_72 ?_
          refine lv_bipush (v := 12) hx hb dX11_hear_75 (by decide) ?_
          refine lv_iload_n hx hb dX11_hear_77 rfl (lv_at hl 2 rfl) ?_
          refine lv_iadd hx hb dX11_hear_78 ?_
          refine lv_topi (fun z34 ez34 => ?_)
          have e35 : z34.toInt = 12 + (x1).toInt := by rw [ez34]; exact i_add rfl rfl (by omega)
          refine aI C hO 28 mW_28 (i_in (X := (12 + (x1).toInt)) e35 (by omega) (by omega)) dX11_hear_79 ?_
          refine lv_topi (fun w36 ew36 => ?_)
          refine lv_bipush (v := 99) hx hb dX11_hear_80 (by decide) ?_
          refine cs_ge (tgt := 98) (X := (w36).toInt) (Y := 99) hx hb dX11_hear_82 (by decide) rfl rfl (fun c37 => ?_) (fun c37 => ?_)
          · refine lv_iload_n hx hb dX11_hear_98 rfl (lv_at hl 0 rfl) ?_
            refine bt_ne (tgt := 129) (X := (r19).toInt) hx hb dX11_hear_99 (by decide) rfl (by omega) ?_
            refine lv_iload_n hx hb dX11_hear_129 rfl (lv_at hl 0 rfl) ?_
            refine hret _ _ _ _ _ _ dX11_hear_130 rfl ?_ hO
            exact ⟨hJ, hT⟩
          · refine lv_aload_n hx hb dX11_hear_85 rfl (lv_at hl 1 rfl) ?_
            refine gf_RX11_97 (v := .ref (a 28)) C hO 0 mW_0 rfl dX11_hear_86 ?_
            refine lv_bipush (v := 12) hx hb dX11_hear_89 (by decide) ?_
            refine lv_iload_n hx hb dX11_hear_91 rfl (lv_at hl 2 rfl) ?_
            refine lv_iadd hx hb dX11_hear_92 ?_
            refine lv_topi (fun z38 ez38 => ?_)
            have e39 : z38.toInt = 12 + (x1).toInt := by rw [ez38]; exact i_add rfl rfl (by omega)
            refine lv_dup2_11 hx hb dX11_hear_93 rfl rfl ?_
            refine aI C hO 28 mW_28 (i_in (X := (12 + (x1).toInt)) e39 (by omega) (by omega)) dX11_hear_94 ?_
            refine lv_topi (fun w40 ew40 => ?_)
            refine lv_iconst (v := 1) hx hb dX11_hear_95 (by decide) ?_
            refine lv_iadd hx hb dX11_hear_96 ?_
            refine lv_topi (fun z41 ez41 => ?_)
            refine aIs C hO 28 mW_28 (i_in (X := (12 + (x1).toInt)) e39 (by omega) (by omega)) mW_s28 dX11_hear_97 (fun H locs hO => ?_)
            have hT := Km16_wA28 hO hT
            have hJ := MIsA_28 hO hJ (Or.inl (i_ck (X := (12 + (x1).toInt)) e39 (by omega) (by omega)))
            refine lv_iload_n hx hb dX11_hear_98 rfl (lv_at hl 0 rfl) ?_
            refine bt_ne (tgt := 129) (X := (r19).toInt) hx hb dX11_hear_99 (by decide) rfl (by omega) ?_
            refine lv_iload_n hx hb dX11_hear_129 rfl (lv_at hl 0 rfl) ?_
            refine hret _ _ _ _ _ _ dX11_hear_130 rfl ?_ hO
            exact ⟨hJ, hT⟩
      · refine lv_iconst (v := (-1)) hx hb dX11_hear_34 (by decide) ?_
        refine hret _ _ _ _ _ _ dX11_hear_35 rfl ?_ hO
        exact ⟨hJ, hT⟩
  · subst hvr3
    refine bt_eq (tgt := 34) (X := 0) hx hb dX11_hear_5 (by decide) rfl (by omega) ?_
    refine lv_iconst (v := (-1)) hx hb dX11_hear_34 (by decide) ?_
    refine hret _ _ _ _ _ _ dX11_hear_35 rfl ?_ hO
    exact ⟨hJ, hT⟩
theorem dX11_plead_0 : decode cX11_plead 0 = .ok (.aload_n 0, 1) := by decide +kernel
theorem dX11_plead_1 : decode cX11_plead 1 = .ok (.iload_n 1, 1) := by decide +kernel
theorem dX11_plead_2 : decode cX11_plead 2 = .ok (.invokevirtual 383, 3) := by decide +kernel
theorem dX11_plead_5 : decode cX11_plead 5 = .ok (.ifCond .eq 43, 3) := by decide +kernel
theorem dX11_plead_8 : decode cX11_plead 8 = .ok (.aload_n 0, 1) := by decide +kernel
theorem dX11_plead_9 : decode cX11_plead 9 = .ok (.iload_n 2, 1) := by decide +kernel
theorem dX11_plead_10 : decode cX11_plead 10 = .ok (.invokevirtual 426, 3) := by decide +kernel
theorem dX11_plead_13 : decode cX11_plead 13 = .ok (.ifCond .eq 35, 3) := by decide +kernel
theorem dX11_plead_16 : decode cX11_plead 16 = .ok (.aload_n 0, 1) := by decide +kernel
theorem dX11_plead_17 : decode cX11_plead 17 = .ok (.getfield 97, 3) := by decide +kernel
theorem dX11_plead_20 : decode cX11_plead 20 = .ok (.bipush 6, 2) := by decide +kernel
theorem dX11_plead_22 : decode cX11_plead 22 = .ok (.iload_n 1, 1) := by decide +kernel
theorem dX11_plead_23 : decode cX11_plead 23 = .ok (.iadd, 1) := by decide +kernel
theorem dX11_plead_24 : decode cX11_plead 24 = .ok (.iaload, 1) := by decide +kernel
theorem dX11_plead_25 : decode cX11_plead 25 = .ok (.iload_n 2, 1) := by decide +kernel
theorem dX11_plead_26 : decode cX11_plead 26 = .ok (.invokestatic 264, 3) := by decide +kernel
theorem dX11_plead_29 : decode cX11_plead 29 = .ok (.ifCond .ne 19, 3) := by decide +kernel
theorem dX11_plead_32 : decode cX11_plead 32 = .ok (.aload_n 0, 1) := by decide +kernel
theorem dX11_plead_33 : decode cX11_plead 33 = .ok (.getfield 97, 3) := by decide +kernel
theorem dX11_plead_36 : decode cX11_plead 36 = .ok (.bipush 6, 2) := by decide +kernel
theorem dX11_plead_38 : decode cX11_plead 38 = .ok (.iload_n 1, 1) := by decide +kernel
theorem dX11_plead_39 : decode cX11_plead 39 = .ok (.iadd, 1) := by decide +kernel
theorem dX11_plead_40 : decode cX11_plead 40 = .ok (.iaload, 1) := by decide +kernel
theorem dX11_plead_41 : decode cX11_plead 41 = .ok (.invokestatic 316, 3) := by decide +kernel
theorem dX11_plead_44 : decode cX11_plead 44 = .ok (.iconst 4, 1) := by decide +kernel
theorem dX11_plead_45 : decode cX11_plead 45 = .ok (.if_icmp .ne 7, 3) := by decide +kernel
theorem dX11_plead_48 : decode cX11_plead 48 = .ok (.ldc_w 429, 3) := by decide +kernel
theorem dX11_plead_51 : decode cX11_plead 51 = .ok (.ireturn, 1) := by decide +kernel
theorem dX11_plead_52 : decode cX11_plead 52 = .ok (.aload_n 0, 1) := by decide +kernel
theorem dX11_plead_53 : decode cX11_plead 53 = .ok (.invokevirtual 436, 3) := by decide +kernel
theorem dX11_plead_56 : decode cX11_plead 56 = .ok (.aload_n 0, 1) := by decide +kernel
theorem dX11_plead_57 : decode cX11_plead 57 = .ok (.getfield 97, 3) := by decide +kernel
theorem dX11_plead_60 : decode cX11_plead 60 = .ok (.bipush 6, 2) := by decide +kernel
theorem dX11_plead_62 : decode cX11_plead 62 = .ok (.iload_n 1, 1) := by decide +kernel
theorem dX11_plead_63 : decode cX11_plead 63 = .ok (.iadd, 1) := by decide +kernel
theorem dX11_plead_64 : decode cX11_plead 64 = .ok (.dup2, 1) := by decide +kernel
theorem dX11_plead_65 : decode cX11_plead 65 = .ok (.iaload, 1) := by decide +kernel
theorem dX11_plead_66 : decode cX11_plead 66 = .ok (.iconst 1, 1) := by decide +kernel
theorem dX11_plead_67 : decode cX11_plead 67 = .ok (.iload_n 2, 1) := by decide +kernel
theorem dX11_plead_68 : decode cX11_plead 68 = .ok (.ishl, 1) := by decide +kernel
theorem dX11_plead_69 : decode cX11_plead 69 = .ok (.ior, 1) := by decide +kernel
theorem dX11_plead_70 : decode cX11_plead 70 = .ok (.iastore, 1) := by decide +kernel
theorem dX11_plead_71 : decode cX11_plead 71 = .ok (.aload_n 0, 1) := by decide +kernel
theorem dX11_plead_72 : decode cX11_plead 72 = .ok (.iload_n 1, 1) := by decide +kernel
theorem dX11_plead_73 : decode cX11_plead 73 = .ok (.invokevirtual 416, 3) := by decide +kernel
theorem dX11_plead_76 : decode cX11_plead 76 = .ok (.ireturn, 1) := by decide +kernel
theorem wd_1831 : (Cond.code ⟨"WebCourtModel", "plead", "(II)I"⟩ prog_13_method_77_code (3 : Nat) (Option.some FieldType.int)) ∈ gtb := gtb_c8 42 (by decide +kernel) rfl
set_option maxHeartbeats 4000000 in
set_option maxRecDepth 100000 in
theorem T_X11_plead (l : Launch) (D : va_G) (cy : Nat → ClassId) (a : Nat → Nat) (u : St) (hJ : MI a u) (x1 : Int32) (x2 : Int32)  : Mi l D cy (mW cy a) yX11_plead (.code yX11_plead cX11_plead 3 (some .int)) (rmo 7 153) [.ref (a 0), .int x1, .int x2] u (fun (r : Int32) (u' : St) => (MI a u') ∧ (Km16 u u')) := by
  refine Mi.of (own := RX11) rfl (by decide) (Nat.le_of_ble_eq_true rfl) ?_
  have hT : Km16 u u := Km16.rf
  have hJ0 := hJ
  intro p e s m below meth c A Q ls C hret hO hl
  obtain ⟨hx, hb, hml, hown, ht, hK, hA⟩ := id C
  have hl : lv_has ls 3 [(0, .ref (a 0)), (1, .int x1), (2, .int x2)] := hl
  refine lv_aload_n hx hb dX11_plead_0 rfl (lv_at hl 0 rfl) ?_
  refine lv_iload_n hx hb dX11_plead_1 rfl (lv_at hl 1 rfl) ?_
  have g1 : 0 ≤ (fI u 0 36).toInt ∧ (fI u 0 36).toInt ≤ 1 := by have h := MI_36 hJ0; exact h
  have g2 : 0 ≤ (fA u 6 ((fI u 0 36)).toNatClampNeg).toInt ∧ (fA u 6 ((fI u 0 36)).toNatClampNeg).toInt ≤ 6 := by have h := MI_A6 hJ0 ((fI u 0 36)).toNatClampNeg; exact h
  refine cVi (w := mW cy a) (As := [.int x1]) (rest := []) C hO (T_X11_isCase l D cy a _ (by exact hJ) ((fA u 6 ((fI u 0 36)).toNatClampNeg)) (by exact rfl) (x1)) (cwV 1 ht (gV wd_1753 wd_1755 wd_83 wd_121 wd_1756) rfl rfl rfl hd_yX11_isCase ⟨Nat.le_of_ble_eq_true rfl, Nat.le_of_ble_eq_true rfl⟩) 0 rfl mW_0 rfl rfl hl.1 (Nat.le_of_ble_eq_true rfl) dX11_plead_2 rfl ⟨Nat.zero_le _, Nat.zero_le _⟩ (fun r3 u4 H locs hp5 hO => ?_)
  obtain ⟨hr3, hu4⟩ := hp5
  rw [hu4] at hO
  rcases hr3 with ⟨hcr3, hvr3⟩ | ⟨hcr3, hvr3⟩
  · subst hvr3
    refine bn_eq (X := 1) hx hb dX11_plead_5 rfl (by omega) ?_ (tgt := 48) (by decide)
    refine lv_aload_n hx hb dX11_plead_8 rfl (lv_at hl 0 rfl) ?_
    refine lv_iload_n hx hb dX11_plead_9 rfl (lv_at hl 2 rfl) ?_
    have g6 : 0 ≤ (fA u 5 ((fI u 0 36)).toNatClampNeg).toInt ∧ (fA u 5 ((fI u 0 36)).toNatClampNeg).toInt ≤ 8 := by have h := MI_A5 hJ0 ((fI u 0 36)).toNatClampNeg; exact h
    refine cVi (w := mW cy a) (As := [.int x2]) (rest := []) C hO (T_X11_isPlea l D cy a _ (by exact hJ) ((fA u 5 ((fI u 0 36)).toNatClampNeg)) (by exact rfl) (x2)) (cwV 1 ht (gV wd_1741 wd_1743 wd_81 wd_121 wd_1744) rfl rfl rfl hd_yX11_isPlea ⟨Nat.le_of_ble_eq_true rfl, Nat.le_of_ble_eq_true rfl⟩) 0 rfl mW_0 rfl rfl hl.1 (Nat.le_of_ble_eq_true rfl) dX11_plead_10 rfl ⟨Nat.zero_le _, Nat.zero_le _⟩ (fun r7 u8 H locs hp9 hO => ?_)
    obtain ⟨hr7, hu8⟩ := hp9
    rw [hu8] at hO
    rcases hr7 with ⟨hcr7, hvr7⟩ | ⟨hcr7, hvr7⟩
    · subst hvr7
      refine bn_eq (X := 1) hx hb dX11_plead_13 rfl (by omega) ?_ (tgt := 48) (by decide)
      refine lv_aload_n hx hb dX11_plead_16 rfl (lv_at hl 0 rfl) ?_
      refine gf_RX11_97 (v := .ref (a 28)) C hO 0 mW_0 rfl dX11_plead_17 ?_
      refine lv_bipush (v := 6) hx hb dX11_plead_20 (by decide) ?_
      refine lv_iload_n hx hb dX11_plead_22 rfl (lv_at hl 1 rfl) ?_
      refine lv_iadd hx hb dX11_plead_23 ?_
      refine lv_topi (fun z10 ez10 => ?_)
      have e11 : z10.toInt = 6 + (x1).toInt := by rw [ez10]; exact i_add rfl rfl (by omega)
      refine aI C hO 28 mW_28 (i_in (X := (6 + (x1).toInt)) e11 (by omega) (by omega)) dX11_plead_24 ?_
      refine tE (y := (fA u 28 (z10).toNatClampNeg)) (by exact rfl) ?_
      refine lv_iload_n hx hb dX11_plead_25 rfl (lv_at hl 2 rfl) ?_
      refine cSi (w := mW cy a) (As := [.int (fA u 28 (z10).toNatClampNeg), .int x2]) (rest := []) C hO (T_X11_bit l D cy a _ (by exact hJ) ((fA u 28 (z10).toNatClampNeg)) (x2)) (va_cwS 2 ht (gSS wd_1612 wd_1613 wd_121 wd_1614) rfl rfl rfl hd_yX11_bit ⟨Nat.le_of_ble_eq_true rfl, Nat.le_of_ble_eq_true rfl⟩)  rfl hl.1 (Nat.le_of_ble_eq_true rfl) dX11_plead_26 rfl ⟨Nat.zero_le _, Nat.zero_le _⟩ (fun r12 u13 H locs hp14 hO => ?_)
      obtain ⟨hr12, hu13⟩ := hp14
      rw [hu13] at hO
      obtain ⟨hr12, hbr12⟩ := hr12
      have gr12 : 0 ≤ r12.toInt ∧ r12.toInt ≤ 1 := by rcases hr12 with h | h <;> rw [h] <;> decide
      refine bs_ne (tgt := 48) (X := (r12).toInt) hx hb dX11_plead_29 (by decide) rfl (fun c15 => ?_) (fun c15 => ?_)
      · refine lv_ldcw (v := (-1000000000)) hx hb hown (ht _ wd_1788) dX11_plead_48 ?_
        refine hret _ _ _ _ _ _ dX11_plead_51 rfl ?_ hO
        exact ⟨hJ, hT⟩
      · refine lv_aload_n hx hb dX11_plead_32 rfl (lv_at hl 0 rfl) ?_
        refine gf_RX11_97 (v := .ref (a 28)) C hO 0 mW_0 rfl dX11_plead_33 ?_
        refine lv_bipush (v := 6) hx hb dX11_plead_36 (by decide) ?_
        refine lv_iload_n hx hb dX11_plead_38 rfl (lv_at hl 1 rfl) ?_
        refine lv_iadd hx hb dX11_plead_39 ?_
        refine lv_topi (fun z16 ez16 => ?_)
        have e17 : z16.toInt = 6 + (x1).toInt := by rw [ez16]; exact i_add rfl rfl (by omega)
        refine aI C hO 28 mW_28 (i_in (X := (6 + (x1).toInt)) e17 (by omega) (by omega)) dX11_plead_40 ?_
        refine tE (y := (fA u 28 (z16).toNatClampNeg)) (by exact rfl) ?_
        refine cSi (w := mW cy a) (As := [.int (fA u 28 (z16).toNatClampNeg)]) (rest := []) C hO (T_X11_bitsOf l D cy a _ (by exact hJ) ((fA u 28 (z16).toNatClampNeg))) (va_cwS 1 ht (gSS wd_1663 wd_1664 wd_121 wd_1665) rfl rfl rfl hd_yX11_bitsOf ⟨Nat.le_of_ble_eq_true rfl, Nat.le_of_ble_eq_true rfl⟩)  rfl hl.1 (Nat.le_of_ble_eq_true rfl) dX11_plead_41 rfl ⟨Nat.zero_le _, Nat.zero_le _⟩ (fun r18 u19 H locs hp20 hO => ?_)
        have hu19 := hp20
        rw [hu19] at hO
        refine lv_iconst (v := 4) hx hb dX11_plead_44 (by decide) ?_
        refine cs_ne (tgt := 52) (X := (r18).toInt) (Y := 4) hx hb dX11_plead_45 (by decide) rfl rfl (fun c21 => ?_) (fun c21 => ?_)
        · refine lv_aload_n hx hb dX11_plead_52 rfl (lv_at hl 0 rfl) ?_
          refine cVv (w := mW cy a) (As := []) (rest := []) C hO (T_X11_keepAct l D cy a _ (by exact hJ)) (cwV 0 ht (gV wd_1817 wd_1819 wd_93 wd_121 wd_1820) rfl rfl rfl hd_yX11_keepAct ⟨Nat.le_of_ble_eq_true rfl, Nat.le_of_ble_eq_true rfl⟩) 0 rfl mW_0 rfl rfl hl.1 (Nat.le_of_ble_eq_true rfl) dX11_plead_53 rfl ⟨Nat.zero_le _, Nat.zero_le _⟩ (fun u23 H locs hp24 hO => ?_)
          obtain ⟨hJ, hTu23⟩ := hp24
          have hT : Km16 u u23 := Km16.tr (by exact hT) (Km9_to_Km16 hTu23)
          refine lv_aload_n hx hb dX11_plead_56 rfl (lv_at hl 0 rfl) ?_
          refine gf_RX11_97 (v := .ref (a 28)) C hO 0 mW_0 rfl dX11_plead_57 ?_
          refine lv_bipush (v := 6) hx hb dX11_plead_60 (by decide) ?_
          refine lv_iload_n hx hb dX11_plead_62 rfl (lv_at hl 1 rfl) ?_
          refine lv_iadd hx hb dX11_plead_63 ?_
          refine lv_topi (fun z25 ez25 => ?_)
          have e26 : z25.toInt = 6 + (x1).toInt := by rw [ez25]; exact i_add rfl rfl (by omega)
          refine lv_dup2_11 hx hb dX11_plead_64 rfl rfl ?_
          refine aI C hO 28 mW_28 (i_in (X := (6 + (x1).toInt)) e26 (by omega) (by omega)) dX11_plead_65 ?_
          refine tE (y := (fA u 28 (z25).toNatClampNeg)) (by exact (congrFun (Km9_A28 hTu23) _)) ?_
          refine lv_iconst (v := 1) hx hb dX11_plead_66 (by decide) ?_
          refine lv_iload_n hx hb dX11_plead_67 rfl (lv_at hl 2 rfl) ?_
          refine lv_ishl hx hb dX11_plead_68 ?_
          refine lv_topi (fun z27 ez27 => ?_)
          have g28 : 0 ≤ z27.toInt ∧ z27.toInt ≤ 2 ^ 7 := by rw [ez27]; exact i_shl1 rfl (by omega) (by omega) (by decide)
          refine lv_ior hx hb dX11_plead_69 ?_
          refine lv_topi (fun z29 ez29 => ?_)
          refine aIs C hO 28 mW_28 (i_in (X := (6 + (x1).toInt)) e26 (by omega) (by omega)) mW_s28 dX11_plead_70 (fun H locs hO => ?_)
          have hT := Km16_wA28 hO hT
          have hJ := MIsA_28 hO hJ (Or.inl (i_ck (X := (6 + (x1).toInt)) e26 (by omega) (by omega)))
          refine lv_aload_n hx hb dX11_plead_71 rfl (lv_at hl 0 rfl) ?_
          refine lv_iload_n hx hb dX11_plead_72 rfl (lv_at hl 1 rfl) ?_
          refine cVi (w := mW cy a) (As := [.int x1]) (rest := []) C hO (T_X11_verdictOf l D cy a _ (by exact hJ) (x1) (by first | omega | decide)) (cwV 1 ht (gV wd_1761 wd_1763 wd_84 wd_121 wd_1764) rfl rfl rfl hd_yX11_verdictOf ⟨Nat.le_of_ble_eq_true rfl, Nat.le_of_ble_eq_true rfl⟩) 0 rfl mW_0 rfl rfl hl.1 (Nat.le_of_ble_eq_true rfl) dX11_plead_73 rfl ⟨Nat.zero_le _, Nat.zero_le _⟩ (fun r30 u31 H locs hp32 hO => ?_)
          obtain ⟨hJ, hTu31⟩ := hp32
          have hT : Km16 u u31 := Km16.tr (by exact hT) (Km2_to_Km16 hTu31)
          refine hret _ _ _ _ _ _ dX11_plead_76 rfl ?_ hO
          exact ⟨hJ, hT⟩
        · refine lv_ldcw (v := (-1000000000)) hx hb hown (ht _ wd_1788) dX11_plead_48 ?_
          refine hret _ _ _ _ _ _ dX11_plead_51 rfl ?_ hO
          exact ⟨hJ, hT⟩
    · subst hvr7
      refine bt_eq (tgt := 48) (X := 0) hx hb dX11_plead_13 (by decide) rfl (by omega) ?_
      refine lv_ldcw (v := (-1000000000)) hx hb hown (ht _ wd_1788) dX11_plead_48 ?_
      refine hret _ _ _ _ _ _ dX11_plead_51 rfl ?_ hO
      exact ⟨hJ, hT⟩
  · subst hvr3
    refine bt_eq (tgt := 48) (X := 0) hx hb dX11_plead_5 (by decide) rfl (by omega) ?_
    refine lv_ldcw (v := (-1000000000)) hx hb hown (ht _ wd_1788) dX11_plead_48 ?_
    refine hret _ _ _ _ _ _ dX11_plead_51 rfl ?_ hO
    exact ⟨hJ, hT⟩
theorem dX11_drop_0 : decode cX11_drop 0 = .ok (.aload_n 0, 1) := by decide +kernel
theorem dX11_drop_1 : decode cX11_drop 1 = .ok (.iload_n 1, 1) := by decide +kernel
theorem dX11_drop_2 : decode cX11_drop 2 = .ok (.invokevirtual 383, 3) := by decide +kernel
theorem dX11_drop_5 : decode cX11_drop 5 = .ok (.ifCond .eq 43, 3) := by decide +kernel
theorem dX11_drop_8 : decode cX11_drop 8 = .ok (.aload_n 0, 1) := by decide +kernel
theorem dX11_drop_9 : decode cX11_drop 9 = .ok (.iload_n 2, 1) := by decide +kernel
theorem dX11_drop_10 : decode cX11_drop 10 = .ok (.invokevirtual 426, 3) := by decide +kernel
theorem dX11_drop_13 : decode cX11_drop 13 = .ok (.ifCond .eq 35, 3) := by decide +kernel
theorem dX11_drop_16 : decode cX11_drop 16 = .ok (.aload_n 0, 1) := by decide +kernel
theorem dX11_drop_17 : decode cX11_drop 17 = .ok (.getfield 97, 3) := by decide +kernel
theorem dX11_drop_20 : decode cX11_drop 20 = .ok (.bipush 6, 2) := by decide +kernel
theorem dX11_drop_22 : decode cX11_drop 22 = .ok (.iload_n 1, 1) := by decide +kernel
theorem dX11_drop_23 : decode cX11_drop 23 = .ok (.iadd, 1) := by decide +kernel
theorem dX11_drop_24 : decode cX11_drop 24 = .ok (.iaload, 1) := by decide +kernel
theorem dX11_drop_25 : decode cX11_drop 25 = .ok (.iload_n 2, 1) := by decide +kernel
theorem dX11_drop_26 : decode cX11_drop 26 = .ok (.invokestatic 264, 3) := by decide +kernel
theorem dX11_drop_29 : decode cX11_drop 29 = .ok (.ifCond .eq 19, 3) := by decide +kernel
theorem dX11_drop_32 : decode cX11_drop 32 = .ok (.aload_n 0, 1) := by decide +kernel
theorem dX11_drop_33 : decode cX11_drop 33 = .ok (.getfield 97, 3) := by decide +kernel
theorem dX11_drop_36 : decode cX11_drop 36 = .ok (.bipush 6, 2) := by decide +kernel
theorem dX11_drop_38 : decode cX11_drop 38 = .ok (.iload_n 1, 1) := by decide +kernel
theorem dX11_drop_39 : decode cX11_drop 39 = .ok (.iadd, 1) := by decide +kernel
theorem dX11_drop_40 : decode cX11_drop 40 = .ok (.iaload, 1) := by decide +kernel
theorem dX11_drop_41 : decode cX11_drop 41 = .ok (.invokestatic 316, 3) := by decide +kernel
theorem dX11_drop_44 : decode cX11_drop 44 = .ok (.iconst 1, 1) := by decide +kernel
theorem dX11_drop_45 : decode cX11_drop 45 = .ok (.if_icmp .ne 7, 3) := by decide +kernel
theorem dX11_drop_48 : decode cX11_drop 48 = .ok (.ldc_w 429, 3) := by decide +kernel
theorem dX11_drop_51 : decode cX11_drop 51 = .ok (.ireturn, 1) := by decide +kernel
theorem dX11_drop_52 : decode cX11_drop 52 = .ok (.aload_n 0, 1) := by decide +kernel
theorem dX11_drop_53 : decode cX11_drop 53 = .ok (.invokevirtual 436, 3) := by decide +kernel
theorem dX11_drop_56 : decode cX11_drop 56 = .ok (.aload_n 0, 1) := by decide +kernel
theorem dX11_drop_57 : decode cX11_drop 57 = .ok (.getfield 97, 3) := by decide +kernel
theorem dX11_drop_60 : decode cX11_drop 60 = .ok (.bipush 6, 2) := by decide +kernel
theorem dX11_drop_62 : decode cX11_drop 62 = .ok (.iload_n 1, 1) := by decide +kernel
theorem dX11_drop_63 : decode cX11_drop 63 = .ok (.iadd, 1) := by decide +kernel
theorem dX11_drop_64 : decode cX11_drop 64 = .ok (.dup2, 1) := by decide +kernel
theorem dX11_drop_65 : decode cX11_drop 65 = .ok (.iaload, 1) := by decide +kernel
theorem dX11_drop_66 : decode cX11_drop 66 = .ok (.iconst 1, 1) := by decide +kernel
theorem dX11_drop_67 : decode cX11_drop 67 = .ok (.iload_n 2, 1) := by decide +kernel
theorem dX11_drop_68 : decode cX11_drop 68 = .ok (.ishl, 1) := by decide +kernel
theorem dX11_drop_69 : decode cX11_drop 69 = .ok (.iconst (-1), 1) := by decide +kernel
theorem dX11_drop_70 : decode cX11_drop 70 = .ok (.ixor, 1) := by decide +kernel
theorem dX11_drop_71 : decode cX11_drop 71 = .ok (.iand, 1) := by decide +kernel
theorem dX11_drop_72 : decode cX11_drop 72 = .ok (.iastore, 1) := by decide +kernel
theorem dX11_drop_73 : decode cX11_drop 73 = .ok (.aload_n 0, 1) := by decide +kernel
theorem dX11_drop_74 : decode cX11_drop 74 = .ok (.iload_n 1, 1) := by decide +kernel
theorem dX11_drop_75 : decode cX11_drop 75 = .ok (.invokevirtual 416, 3) := by decide +kernel
theorem dX11_drop_78 : decode cX11_drop 78 = .ok (.ireturn, 1) := by decide +kernel
theorem wd_1835 : (Cond.code ⟨"WebCourtModel", "drop", "(II)I"⟩ prog_13_method_78_code (3 : Nat) (Option.some FieldType.int)) ∈ gtb := gtb_c8 46 (by decide +kernel) rfl
set_option maxHeartbeats 4000000 in
set_option maxRecDepth 100000 in
theorem T_X11_drop (l : Launch) (D : va_G) (cy : Nat → ClassId) (a : Nat → Nat) (u : St) (hJ : MI a u) (x1 : Int32) (x2 : Int32)  : Mi l D cy (mW cy a) yX11_drop (.code yX11_drop cX11_drop 3 (some .int)) (rmo 7 153) [.ref (a 0), .int x1, .int x2] u (fun (r : Int32) (u' : St) => (MI a u') ∧ (Km16 u u')) := by
  refine Mi.of (own := RX11) rfl (by decide) (Nat.le_of_ble_eq_true rfl) ?_
  have hT : Km16 u u := Km16.rf
  have hJ0 := hJ
  intro p e s m below meth c A Q ls C hret hO hl
  obtain ⟨hx, hb, hml, hown, ht, hK, hA⟩ := id C
  have hl : lv_has ls 3 [(0, .ref (a 0)), (1, .int x1), (2, .int x2)] := hl
  refine lv_aload_n hx hb dX11_drop_0 rfl (lv_at hl 0 rfl) ?_
  refine lv_iload_n hx hb dX11_drop_1 rfl (lv_at hl 1 rfl) ?_
  have g1 : 0 ≤ (fI u 0 36).toInt ∧ (fI u 0 36).toInt ≤ 1 := by have h := MI_36 hJ0; exact h
  have g2 : 0 ≤ (fA u 6 ((fI u 0 36)).toNatClampNeg).toInt ∧ (fA u 6 ((fI u 0 36)).toNatClampNeg).toInt ≤ 6 := by have h := MI_A6 hJ0 ((fI u 0 36)).toNatClampNeg; exact h
  refine cVi (w := mW cy a) (As := [.int x1]) (rest := []) C hO (T_X11_isCase l D cy a _ (by exact hJ) ((fA u 6 ((fI u 0 36)).toNatClampNeg)) (by exact rfl) (x1)) (cwV 1 ht (gV wd_1753 wd_1755 wd_83 wd_121 wd_1756) rfl rfl rfl hd_yX11_isCase ⟨Nat.le_of_ble_eq_true rfl, Nat.le_of_ble_eq_true rfl⟩) 0 rfl mW_0 rfl rfl hl.1 (Nat.le_of_ble_eq_true rfl) dX11_drop_2 rfl ⟨Nat.zero_le _, Nat.zero_le _⟩ (fun r3 u4 H locs hp5 hO => ?_)
  obtain ⟨hr3, hu4⟩ := hp5
  rw [hu4] at hO
  rcases hr3 with ⟨hcr3, hvr3⟩ | ⟨hcr3, hvr3⟩
  · subst hvr3
    refine bn_eq (X := 1) hx hb dX11_drop_5 rfl (by omega) ?_ (tgt := 48) (by decide)
    refine lv_aload_n hx hb dX11_drop_8 rfl (lv_at hl 0 rfl) ?_
    refine lv_iload_n hx hb dX11_drop_9 rfl (lv_at hl 2 rfl) ?_
    have g6 : 0 ≤ (fA u 5 ((fI u 0 36)).toNatClampNeg).toInt ∧ (fA u 5 ((fI u 0 36)).toNatClampNeg).toInt ≤ 8 := by have h := MI_A5 hJ0 ((fI u 0 36)).toNatClampNeg; exact h
    refine cVi (w := mW cy a) (As := [.int x2]) (rest := []) C hO (T_X11_isPlea l D cy a _ (by exact hJ) ((fA u 5 ((fI u 0 36)).toNatClampNeg)) (by exact rfl) (x2)) (cwV 1 ht (gV wd_1741 wd_1743 wd_81 wd_121 wd_1744) rfl rfl rfl hd_yX11_isPlea ⟨Nat.le_of_ble_eq_true rfl, Nat.le_of_ble_eq_true rfl⟩) 0 rfl mW_0 rfl rfl hl.1 (Nat.le_of_ble_eq_true rfl) dX11_drop_10 rfl ⟨Nat.zero_le _, Nat.zero_le _⟩ (fun r7 u8 H locs hp9 hO => ?_)
    obtain ⟨hr7, hu8⟩ := hp9
    rw [hu8] at hO
    rcases hr7 with ⟨hcr7, hvr7⟩ | ⟨hcr7, hvr7⟩
    · subst hvr7
      refine bn_eq (X := 1) hx hb dX11_drop_13 rfl (by omega) ?_ (tgt := 48) (by decide)
      refine lv_aload_n hx hb dX11_drop_16 rfl (lv_at hl 0 rfl) ?_
      refine gf_RX11_97 (v := .ref (a 28)) C hO 0 mW_0 rfl dX11_drop_17 ?_
      refine lv_bipush (v := 6) hx hb dX11_drop_20 (by decide) ?_
      refine lv_iload_n hx hb dX11_drop_22 rfl (lv_at hl 1 rfl) ?_
      refine lv_iadd hx hb dX11_drop_23 ?_
      refine lv_topi (fun z10 ez10 => ?_)
      have e11 : z10.toInt = 6 + (x1).toInt := by rw [ez10]; exact i_add rfl rfl (by omega)
      refine aI C hO 28 mW_28 (i_in (X := (6 + (x1).toInt)) e11 (by omega) (by omega)) dX11_drop_24 ?_
      refine tE (y := (fA u 28 (z10).toNatClampNeg)) (by exact rfl) ?_
      refine lv_iload_n hx hb dX11_drop_25 rfl (lv_at hl 2 rfl) ?_
      refine cSi (w := mW cy a) (As := [.int (fA u 28 (z10).toNatClampNeg), .int x2]) (rest := []) C hO (T_X11_bit l D cy a _ (by exact hJ) ((fA u 28 (z10).toNatClampNeg)) (x2)) (va_cwS 2 ht (gSS wd_1612 wd_1613 wd_121 wd_1614) rfl rfl rfl hd_yX11_bit ⟨Nat.le_of_ble_eq_true rfl, Nat.le_of_ble_eq_true rfl⟩)  rfl hl.1 (Nat.le_of_ble_eq_true rfl) dX11_drop_26 rfl ⟨Nat.zero_le _, Nat.zero_le _⟩ (fun r12 u13 H locs hp14 hO => ?_)
      obtain ⟨hr12, hu13⟩ := hp14
      rw [hu13] at hO
      obtain ⟨hr12, hbr12⟩ := hr12
      have gr12 : 0 ≤ r12.toInt ∧ r12.toInt ≤ 1 := by rcases hr12 with h | h <;> rw [h] <;> decide
      refine bs_eq (tgt := 48) (X := (r12).toInt) hx hb dX11_drop_29 (by decide) rfl (fun c15 => ?_) (fun c15 => ?_)
      · refine lv_ldcw (v := (-1000000000)) hx hb hown (ht _ wd_1788) dX11_drop_48 ?_
        refine hret _ _ _ _ _ _ dX11_drop_51 rfl ?_ hO
        exact ⟨hJ, hT⟩
      · refine lv_aload_n hx hb dX11_drop_32 rfl (lv_at hl 0 rfl) ?_
        refine gf_RX11_97 (v := .ref (a 28)) C hO 0 mW_0 rfl dX11_drop_33 ?_
        refine lv_bipush (v := 6) hx hb dX11_drop_36 (by decide) ?_
        refine lv_iload_n hx hb dX11_drop_38 rfl (lv_at hl 1 rfl) ?_
        refine lv_iadd hx hb dX11_drop_39 ?_
        refine lv_topi (fun z16 ez16 => ?_)
        have e17 : z16.toInt = 6 + (x1).toInt := by rw [ez16]; exact i_add rfl rfl (by omega)
        refine aI C hO 28 mW_28 (i_in (X := (6 + (x1).toInt)) e17 (by omega) (by omega)) dX11_drop_40 ?_
        refine tE (y := (fA u 28 (z16).toNatClampNeg)) (by exact rfl) ?_
        refine cSi (w := mW cy a) (As := [.int (fA u 28 (z16).toNatClampNeg)]) (rest := []) C hO (T_X11_bitsOf l D cy a _ (by exact hJ) ((fA u 28 (z16).toNatClampNeg))) (va_cwS 1 ht (gSS wd_1663 wd_1664 wd_121 wd_1665) rfl rfl rfl hd_yX11_bitsOf ⟨Nat.le_of_ble_eq_true rfl, Nat.le_of_ble_eq_true rfl⟩)  rfl hl.1 (Nat.le_of_ble_eq_true rfl) dX11_drop_41 rfl ⟨Nat.zero_le _, Nat.zero_le _⟩ (fun r18 u19 H locs hp20 hO => ?_)
        have hu19 := hp20
        rw [hu19] at hO
        refine lv_iconst (v := 1) hx hb dX11_drop_44 (by decide) ?_
        refine cs_ne (tgt := 52) (X := (r18).toInt) (Y := 1) hx hb dX11_drop_45 (by decide) rfl rfl (fun c21 => ?_) (fun c21 => ?_)
        · refine lv_aload_n hx hb dX11_drop_52 rfl (lv_at hl 0 rfl) ?_
          refine cVv (w := mW cy a) (As := []) (rest := []) C hO (T_X11_keepAct l D cy a _ (by exact hJ)) (cwV 0 ht (gV wd_1817 wd_1819 wd_93 wd_121 wd_1820) rfl rfl rfl hd_yX11_keepAct ⟨Nat.le_of_ble_eq_true rfl, Nat.le_of_ble_eq_true rfl⟩) 0 rfl mW_0 rfl rfl hl.1 (Nat.le_of_ble_eq_true rfl) dX11_drop_53 rfl ⟨Nat.zero_le _, Nat.zero_le _⟩ (fun u23 H locs hp24 hO => ?_)
          obtain ⟨hJ, hTu23⟩ := hp24
          have hT : Km16 u u23 := Km16.tr (by exact hT) (Km9_to_Km16 hTu23)
          refine lv_aload_n hx hb dX11_drop_56 rfl (lv_at hl 0 rfl) ?_
          refine gf_RX11_97 (v := .ref (a 28)) C hO 0 mW_0 rfl dX11_drop_57 ?_
          refine lv_bipush (v := 6) hx hb dX11_drop_60 (by decide) ?_
          refine lv_iload_n hx hb dX11_drop_62 rfl (lv_at hl 1 rfl) ?_
          refine lv_iadd hx hb dX11_drop_63 ?_
          refine lv_topi (fun z25 ez25 => ?_)
          have e26 : z25.toInt = 6 + (x1).toInt := by rw [ez25]; exact i_add rfl rfl (by omega)
          refine lv_dup2_11 hx hb dX11_drop_64 rfl rfl ?_
          refine aI C hO 28 mW_28 (i_in (X := (6 + (x1).toInt)) e26 (by omega) (by omega)) dX11_drop_65 ?_
          refine tE (y := (fA u 28 (z25).toNatClampNeg)) (by exact (congrFun (Km9_A28 hTu23) _)) ?_
          refine lv_iconst (v := 1) hx hb dX11_drop_66 (by decide) ?_
          refine lv_iload_n hx hb dX11_drop_67 rfl (lv_at hl 2 rfl) ?_
          refine lv_ishl hx hb dX11_drop_68 ?_
          refine lv_topi (fun z27 ez27 => ?_)
          have g28 : 0 ≤ z27.toInt ∧ z27.toInt ≤ 2 ^ 7 := by rw [ez27]; exact i_shl1 rfl (by omega) (by omega) (by decide)
          refine lv_iconst (v := (-1)) hx hb dX11_drop_69 (by decide) ?_
          refine lv_ixor hx hb dX11_drop_70 ?_
          refine lv_topi (fun z29 ez29 => ?_)
          refine lv_iand hx hb dX11_drop_71 ?_
          refine lv_topi (fun z30 ez30 => ?_)
          refine aIs C hO 28 mW_28 (i_in (X := (6 + (x1).toInt)) e26 (by omega) (by omega)) mW_s28 dX11_drop_72 (fun H locs hO => ?_)
          have hT := Km16_wA28 hO hT
          have hJ := MIsA_28 hO hJ (Or.inl (i_ck (X := (6 + (x1).toInt)) e26 (by omega) (by omega)))
          refine lv_aload_n hx hb dX11_drop_73 rfl (lv_at hl 0 rfl) ?_
          refine lv_iload_n hx hb dX11_drop_74 rfl (lv_at hl 1 rfl) ?_
          refine cVi (w := mW cy a) (As := [.int x1]) (rest := []) C hO (T_X11_verdictOf l D cy a _ (by exact hJ) (x1) (by first | omega | decide)) (cwV 1 ht (gV wd_1761 wd_1763 wd_84 wd_121 wd_1764) rfl rfl rfl hd_yX11_verdictOf ⟨Nat.le_of_ble_eq_true rfl, Nat.le_of_ble_eq_true rfl⟩) 0 rfl mW_0 rfl rfl hl.1 (Nat.le_of_ble_eq_true rfl) dX11_drop_75 rfl ⟨Nat.zero_le _, Nat.zero_le _⟩ (fun r31 u32 H locs hp33 hO => ?_)
          obtain ⟨hJ, hTu32⟩ := hp33
          have hT : Km16 u u32 := Km16.tr (by exact hT) (Km2_to_Km16 hTu32)
          refine hret _ _ _ _ _ _ dX11_drop_78 rfl ?_ hO
          exact ⟨hJ, hT⟩
        · refine lv_ldcw (v := (-1000000000)) hx hb hown (ht _ wd_1788) dX11_drop_48 ?_
          refine hret _ _ _ _ _ _ dX11_drop_51 rfl ?_ hO
          exact ⟨hJ, hT⟩
    · subst hvr7
      refine bt_eq (tgt := 48) (X := 0) hx hb dX11_drop_13 (by decide) rfl (by omega) ?_
      refine lv_ldcw (v := (-1000000000)) hx hb hown (ht _ wd_1788) dX11_drop_48 ?_
      refine hret _ _ _ _ _ _ dX11_drop_51 rfl ?_ hO
      exact ⟨hJ, hT⟩
  · subst hvr3
    refine bt_eq (tgt := 48) (X := 0) hx hb dX11_drop_5 (by decide) rfl (by omega) ?_
    refine lv_ldcw (v := (-1000000000)) hx hb hown (ht _ wd_1788) dX11_drop_48 ?_
    refine hret _ _ _ _ _ _ dX11_drop_51 rfl ?_ hO
    exact ⟨hJ, hT⟩
theorem dX11_grab_0 : decode cX11_grab 0 = .ok (.aload_n 0, 1) := by decide +kernel
theorem dX11_grab_1 : decode cX11_grab 1 = .ok (.iload_n 1, 1) := by decide +kernel
theorem dX11_grab_2 : decode cX11_grab 2 = .ok (.invokevirtual 383, 3) := by decide +kernel
theorem dX11_grab_5 : decode cX11_grab 5 = .ok (.ifCond .eq 11, 3) := by decide +kernel
theorem dX11_grab_8 : decode cX11_grab 8 = .ok (.aload_n 0, 1) := by decide +kernel
theorem dX11_grab_9 : decode cX11_grab 9 = .ok (.iload_n 1, 1) := by decide +kernel
theorem dX11_grab_10 : decode cX11_grab 10 = .ok (.invokevirtual 413, 3) := by decide +kernel
theorem dX11_grab_13 : decode cX11_grab 13 = .ok (.ifCond .eq 5, 3) := by decide +kernel
theorem dX11_grab_16 : decode cX11_grab 16 = .ok (.iconst (-1), 1) := by decide +kernel
theorem dX11_grab_17 : decode cX11_grab 17 = .ok (.ireturn, 1) := by decide +kernel
theorem dX11_grab_18 : decode cX11_grab 18 = .ok (.aload_n 0, 1) := by decide +kernel
theorem dX11_grab_19 : decode cX11_grab 19 = .ok (.invokevirtual 436, 3) := by decide +kernel
theorem dX11_grab_22 : decode cX11_grab 22 = .ok (.aload_n 0, 1) := by decide +kernel
theorem dX11_grab_23 : decode cX11_grab 23 = .ok (.getfield 97, 3) := by decide +kernel
theorem dX11_grab_26 : decode cX11_grab 26 = .ok (.iconst 0, 1) := by decide +kernel
theorem dX11_grab_27 : decode cX11_grab 27 = .ok (.iload_n 1, 1) := by decide +kernel
theorem dX11_grab_28 : decode cX11_grab 28 = .ok (.iadd, 1) := by decide +kernel
theorem dX11_grab_29 : decode cX11_grab 29 = .ok (.iconst 0, 1) := by decide +kernel
theorem dX11_grab_30 : decode cX11_grab 30 = .ok (.iastore, 1) := by decide +kernel
theorem dX11_grab_31 : decode cX11_grab 31 = .ok (.aload_n 0, 1) := by decide +kernel
theorem dX11_grab_32 : decode cX11_grab 32 = .ok (.invokevirtual 442, 3) := by decide +kernel
theorem dX11_grab_35 : decode cX11_grab 35 = .ok (.invokestatic 316, 3) := by decide +kernel
theorem dX11_grab_38 : decode cX11_grab 38 = .ok (.ireturn, 1) := by decide +kernel
theorem wd_1839 : (Cond.code ⟨"WebCourtModel", "grab", "(I)I"⟩ prog_13_method_79_code (2 : Nat) (Option.some FieldType.int)) ∈ gtb := gtb_c8 50 (by decide +kernel) rfl
set_option maxHeartbeats 4000000 in
set_option maxRecDepth 100000 in
theorem T_X11_grab (l : Launch) (D : va_G) (cy : Nat → ClassId) (a : Nat → Nat) (u : St) (hJ : MI a u) (x1 : Int32)  : Mi l D cy (mW cy a) yX11_grab (.code yX11_grab cX11_grab 2 (some .int)) (rmo 3 64) [.ref (a 0), .int x1] u (fun (r : Int32) (u' : St) => (MI a u') ∧ (Km11 u u')) := by
  refine Mi.of (own := RX11) rfl (by decide) (Nat.le_of_ble_eq_true rfl) ?_
  have hT : Km11 u u := Km11.rf
  have hJ0 := hJ
  intro p e s m below meth c A Q ls C hret hO hl
  obtain ⟨hx, hb, hml, hown, ht, hK, hA⟩ := id C
  have hl : lv_has ls 2 [(0, .ref (a 0)), (1, .int x1)] := hl
  refine lv_aload_n hx hb dX11_grab_0 rfl (lv_at hl 0 rfl) ?_
  refine lv_iload_n hx hb dX11_grab_1 rfl (lv_at hl 1 rfl) ?_
  have g1 : 0 ≤ (fI u 0 36).toInt ∧ (fI u 0 36).toInt ≤ 1 := by have h := MI_36 hJ0; exact h
  have g2 : 0 ≤ (fA u 6 ((fI u 0 36)).toNatClampNeg).toInt ∧ (fA u 6 ((fI u 0 36)).toNatClampNeg).toInt ≤ 6 := by have h := MI_A6 hJ0 ((fI u 0 36)).toNatClampNeg; exact h
  refine cVi (w := mW cy a) (As := [.int x1]) (rest := []) C hO (T_X11_isCase l D cy a _ (by exact hJ) ((fA u 6 ((fI u 0 36)).toNatClampNeg)) (by exact rfl) (x1)) (cwV 1 ht (gV wd_1753 wd_1755 wd_83 wd_121 wd_1756) rfl rfl rfl hd_yX11_isCase ⟨Nat.le_of_ble_eq_true rfl, Nat.le_of_ble_eq_true rfl⟩) 0 rfl mW_0 rfl rfl hl.1 (Nat.le_of_ble_eq_true rfl) dX11_grab_2 rfl ⟨Nat.zero_le _, Nat.zero_le _⟩ (fun r3 u4 H locs hp5 hO => ?_)
  obtain ⟨hr3, hu4⟩ := hp5
  rw [hu4] at hO
  rcases hr3 with ⟨hcr3, hvr3⟩ | ⟨hcr3, hvr3⟩
  · subst hvr3
    refine bn_eq (X := 1) hx hb dX11_grab_5 rfl (by omega) ?_ (tgt := 16) (by decide)
    refine lv_aload_n hx hb dX11_grab_8 rfl (lv_at hl 0 rfl) ?_
    refine lv_iload_n hx hb dX11_grab_9 rfl (lv_at hl 1 rfl) ?_
    refine cVi (w := mW cy a) (As := [.int x1]) (rest := []) C hO (T_X11_isHeld l D cy a _ (by exact hJ) ((fA u 6 ((fI u 0 36)).toNatClampNeg)) (by exact rfl) (x1)) (cwV 1 ht (gV wd_1797 wd_1799 wd_91 wd_121 wd_1800) rfl rfl rfl hd_yX11_isHeld ⟨Nat.le_of_ble_eq_true rfl, Nat.le_of_ble_eq_true rfl⟩) 0 rfl mW_0 rfl rfl hl.1 (Nat.le_of_ble_eq_true rfl) dX11_grab_10 rfl ⟨Nat.zero_le _, Nat.zero_le _⟩ (fun r6 u7 H locs hp8 hO => ?_)
    obtain ⟨hr6, hu7⟩ := hp8
    rw [hu7] at hO
    rcases hr6 with ⟨hcr6, hvr6⟩ | ⟨hcr6, hvr6⟩
    · subst hvr6
      refine bn_eq (X := 1) hx hb dX11_grab_13 rfl (by omega) ?_ (tgt := 18) (by decide)
      refine lv_iconst (v := (-1)) hx hb dX11_grab_16 (by decide) ?_
      refine hret _ _ _ _ _ _ dX11_grab_17 rfl ?_ hO
      exact ⟨hJ, hT⟩
    · subst hvr6
      refine bt_eq (tgt := 18) (X := 0) hx hb dX11_grab_13 (by decide) rfl (by omega) ?_
      refine lv_aload_n hx hb dX11_grab_18 rfl (lv_at hl 0 rfl) ?_
      refine cVv (w := mW cy a) (As := []) (rest := []) C hO (T_X11_keepAct l D cy a _ (by exact hJ)) (cwV 0 ht (gV wd_1817 wd_1819 wd_93 wd_121 wd_1820) rfl rfl rfl hd_yX11_keepAct ⟨Nat.le_of_ble_eq_true rfl, Nat.le_of_ble_eq_true rfl⟩) 0 rfl mW_0 rfl rfl hl.1 (Nat.le_of_ble_eq_true rfl) dX11_grab_19 rfl ⟨Nat.zero_le _, Nat.zero_le _⟩ (fun u10 H locs hp11 hO => ?_)
      obtain ⟨hJ, hTu10⟩ := hp11
      have hT : Km11 u u10 := Km11.tr (by exact hT) (Km9_to_Km11 hTu10)
      refine lv_aload_n hx hb dX11_grab_22 rfl (lv_at hl 0 rfl) ?_
      refine gf_RX11_97 (v := .ref (a 28)) C hO 0 mW_0 rfl dX11_grab_23 ?_
      refine lv_iconst (v := 0) hx hb dX11_grab_26 (by decide) ?_
      refine lv_iload_n hx hb dX11_grab_27 rfl (lv_at hl 1 rfl) ?_
      refine lv_iadd hx hb dX11_grab_28 ?_
      refine lv_topi (fun z12 ez12 => ?_)
      have e13 : z12.toInt = 0 + (x1).toInt := by rw [ez12]; exact i_add rfl rfl (by omega)
      refine lv_iconst (v := 0) hx hb dX11_grab_29 (by decide) ?_
      refine aIs C hO 28 mW_28 (i_in (X := (0 + (x1).toInt)) e13 (by omega) (by omega)) mW_s28 dX11_grab_30 (fun H locs hO => ?_)
      have hT := Km11_wA28 hO hT
      have hJ := MIsA_28 hO hJ (Or.inl (i_ck (X := (0 + (x1).toInt)) e13 (by omega) (by omega)))
      refine lv_aload_n hx hb dX11_grab_31 rfl (lv_at hl 0 rfl) ?_
      refine cVi (w := mW cy a) (As := []) (rest := []) C hO (T_X11_heldNow l D cy a _ (by exact hJ) ((fA u 6 ((fI u 0 36)).toNatClampNeg)) (by exact (Eq.trans (congrArg (fun z : Int32 => fA _ 6 z.toNatClampNeg) (Km11_I36 hT)) (congrFun (Km11_A6 hT) _)))) (cwV 0 ht (gV wd_1840 wd_1842 wd_94 wd_121 wd_1843) rfl rfl rfl hd_yX11_heldNow ⟨Nat.le_of_ble_eq_true rfl, Nat.le_of_ble_eq_true rfl⟩) 0 rfl mW_0 rfl rfl hl.1 (Nat.le_of_ble_eq_true rfl) dX11_grab_32 rfl ⟨Nat.zero_le _, Nat.zero_le _⟩ (fun r14 u15 H locs hp16 hO => ?_)
      obtain ⟨hr14, hu15⟩ := hp16
      rw [hu15] at hO
      obtain ⟨gr14, gmr14⟩ := hr14
      refine cSi (w := mW cy a) (As := [.int r14]) (rest := []) C hO (T_X11_bitsOf_8 l D cy a _ (by exact hJ) (r14) (by first | omega | decide)) (va_cwS 1 ht (gSS wd_1663 wd_1664 wd_121 wd_1665) rfl rfl rfl hd_yX11_bitsOf ⟨Nat.le_of_ble_eq_true rfl, Nat.le_of_ble_eq_true rfl⟩)  rfl hl.1 (Nat.le_of_ble_eq_true rfl) dX11_grab_35 rfl ⟨Nat.zero_le _, Nat.zero_le _⟩ (fun r17 u18 H locs hp19 hO => ?_)
      obtain ⟨hr17, hu18⟩ := hp19
      rw [hu18] at hO
      have gpr17 := pc8_b (x := (r14 : Int32).toInt) (by omega) (by omega)
      have gr17 : 0 ≤ r17.toInt ∧ r17.toInt ≤ 6 := by omega
      refine hret _ _ _ _ _ _ dX11_grab_38 rfl ?_ hO
      exact ⟨hJ, hT⟩
  · subst hvr3
    refine bt_eq (tgt := 16) (X := 0) hx hb dX11_grab_5 (by decide) rfl (by omega) ?_
    refine lv_iconst (v := (-1)) hx hb dX11_grab_16 (by decide) ?_
    refine hret _ _ _ _ _ _ dX11_grab_17 rfl ?_ hO
    exact ⟨hJ, hT⟩
theorem dX11_spin_0 : decode cX11_spin 0 = .ok (.iload_n 1, 1) := by decide +kernel
theorem dX11_spin_1 : decode cX11_spin 1 = .ok (.iconst 0, 1) := by decide +kernel
theorem dX11_spin_2 : decode cX11_spin 2 = .ok (.aload_n 0, 1) := by decide +kernel
theorem dX11_spin_3 : decode cX11_spin 3 = .ok (.getfield 24, 3) := by decide +kernel
theorem dX11_spin_6 : decode cX11_spin 6 = .ok (.aload_n 0, 1) := by decide +kernel
theorem dX11_spin_7 : decode cX11_spin 7 = .ok (.getfield 255, 3) := by decide +kernel
theorem dX11_spin_10 : decode cX11_spin 10 = .ok (.iaload, 1) := by decide +kernel
theorem dX11_spin_11 : decode cX11_spin 11 = .ok (.iconst 1, 1) := by decide +kernel
theorem dX11_spin_12 : decode cX11_spin 12 = .ok (.isub, 1) := by decide +kernel
theorem dX11_spin_13 : decode cX11_spin 13 = .ok (.invokestatic 374, 3) := by decide +kernel
theorem dX11_spin_16 : decode cX11_spin 16 = .ok (.ifCond .ne 5, 3) := by decide +kernel
theorem dX11_spin_19 : decode cX11_spin 19 = .ok (.iconst (-1), 1) := by decide +kernel
theorem dX11_spin_20 : decode cX11_spin 20 = .ok (.ireturn, 1) := by decide +kernel
theorem dX11_spin_21 : decode cX11_spin 21 = .ok (.aload_n 0, 1) := by decide +kernel
theorem dX11_spin_22 : decode cX11_spin 22 = .ok (.invokevirtual 436, 3) := by decide +kernel
theorem dX11_spin_25 : decode cX11_spin 25 = .ok (.aload_n 0, 1) := by decide +kernel
theorem dX11_spin_26 : decode cX11_spin 26 = .ok (.getfield 97, 3) := by decide +kernel
theorem dX11_spin_29 : decode cX11_spin 29 = .ok (.bipush 28, 2) := by decide +kernel
theorem dX11_spin_31 : decode cX11_spin 31 = .ok (.dup2, 1) := by decide +kernel
theorem dX11_spin_32 : decode cX11_spin 32 = .ok (.iaload, 1) := by decide +kernel
theorem dX11_spin_33 : decode cX11_spin 33 = .ok (.iconst 1, 1) := by decide +kernel
theorem dX11_spin_34 : decode cX11_spin 34 = .ok (.iload_n 1, 1) := by decide +kernel
theorem dX11_spin_35 : decode cX11_spin 35 = .ok (.ishl, 1) := by decide +kernel
theorem dX11_spin_36 : decode cX11_spin 36 = .ok (.ixor, 1) := by decide +kernel
theorem dX11_spin_37 : decode cX11_spin 37 = .ok (.iastore, 1) := by decide +kernel
theorem dX11_spin_38 : decode cX11_spin 38 = .ok (.aload_n 0, 1) := by decide +kernel
theorem dX11_spin_39 : decode cX11_spin 39 = .ok (.getfield 97, 3) := by decide +kernel
theorem dX11_spin_42 : decode cX11_spin 42 = .ok (.bipush 28, 2) := by decide +kernel
theorem dX11_spin_44 : decode cX11_spin 44 = .ok (.iaload, 1) := by decide +kernel
theorem dX11_spin_45 : decode cX11_spin 45 = .ok (.iload_n 1, 1) := by decide +kernel
theorem dX11_spin_46 : decode cX11_spin 46 = .ok (.ishr, 1) := by decide +kernel
theorem dX11_spin_47 : decode cX11_spin 47 = .ok (.iconst 1, 1) := by decide +kernel
theorem dX11_spin_48 : decode cX11_spin 48 = .ok (.iand, 1) := by decide +kernel
theorem dX11_spin_49 : decode cX11_spin 49 = .ok (.ireturn, 1) := by decide +kernel
theorem wd_1847 : (Cond.code ⟨"WebCourtModel", "spin", "(I)I"⟩ prog_13_method_80_code (2 : Nat) (Option.some FieldType.int)) ∈ gtb := gtb_c8 58 (by decide +kernel) rfl
set_option maxHeartbeats 4000000 in
set_option maxRecDepth 100000 in
theorem T_X11_spin (l : Launch) (D : va_G) (cy : Nat → ClassId) (a : Nat → Nat) (u : St) (hJ : MI a u) (x1 : Int32)  : Mi l D cy (mW cy a) yX11_spin (.code yX11_spin cX11_spin 2 (some .int)) (rmo 1 22) [.ref (a 0), .int x1] u (fun (r : Int32) (u' : St) => (MI a u') ∧ (Km11 u u')) := by
  refine Mi.of (own := RX11) rfl (by decide) (Nat.le_of_ble_eq_true rfl) ?_
  have hT : Km11 u u := Km11.rf
  have hJ0 := hJ
  intro p e s m below meth c A Q ls C hret hO hl
  obtain ⟨hx, hb, hml, hown, ht, hK, hA⟩ := id C
  have hl : lv_has ls 2 [(0, .ref (a 0)), (1, .int x1)] := hl
  refine lv_iload_n hx hb dX11_spin_0 rfl (lv_at hl 1 rfl) ?_
  refine lv_iconst (v := 0) hx hb dX11_spin_1 (by decide) ?_
  refine lv_aload_n hx hb dX11_spin_2 rfl (lv_at hl 0 rfl) ?_
  refine gf_RX11_24 (v := .ref (a 4)) C hO 0 mW_0 rfl dX11_spin_3 ?_
  refine lv_aload_n hx hb dX11_spin_6 rfl (lv_at hl 0 rfl) ?_
  have g1 : 0 ≤ (fI u 0 36).toInt ∧ (fI u 0 36).toInt ≤ 1 := by have h := MI_36 hJ0; exact h
  refine gf_RX11_255 (v := .int (fI u 0 36)) C hO 0 mW_0 rfl dX11_spin_7 ?_
  refine aI C hO 4 mW_4 (i_in (X := ((fI u 0 36)).toInt) rfl (by omega) (by omega)) dX11_spin_10 ?_
  have g2 : 0 ≤ (fA u 4 ((fI u 0 36)).toNatClampNeg).toInt ∧ (fA u 4 ((fI u 0 36)).toNatClampNeg).toInt ≤ 14 := by have h := MI_A4 hJ0 ((fI u 0 36)).toNatClampNeg; exact h
  refine tE (y := (fA u 4 ((fI u 0 36)).toNatClampNeg)) (by exact rfl) ?_
  refine lv_iconst (v := 1) hx hb dX11_spin_11 (by decide) ?_
  refine lv_isub hx hb dX11_spin_12 ?_
  refine lv_topi (fun z3 ez3 => ?_)
  have e4 : z3.toInt = ((fA u 4 ((fI u 0 36)).toNatClampNeg)).toInt - 1 := by rw [ez3]; exact i_sub rfl rfl (by omega)
  refine cSi (w := mW cy a) (As := [.int x1, .int 0, .int z3]) (rest := []) C hO (T_X11_isIn l D cy a _ (by exact hJ) (x1) (0) (z3)) (va_cwS 3 ht (gSS wd_1722 wd_1723 wd_121 wd_1724) rfl rfl rfl hd_yX11_isIn ⟨Nat.le_of_ble_eq_true rfl, Nat.le_of_ble_eq_true rfl⟩)  rfl hl.1 (Nat.le_of_ble_eq_true rfl) dX11_spin_13 rfl ⟨Nat.zero_le _, Nat.zero_le _⟩ (fun r5 u6 H locs hp7 hO => ?_)
  obtain ⟨hr5, hu6⟩ := hp7
  rw [hu6] at hO
  have zz8 : (0 : Int32).toInt = 0 := rfl
  rcases hr5 with ⟨hcr5, hvr5⟩ | ⟨hcr5, hvr5⟩
  · subst hvr5
    refine bt_ne (tgt := 21) (X := 1) hx hb dX11_spin_16 (by decide) rfl (by omega) ?_
    refine lv_aload_n hx hb dX11_spin_21 rfl (lv_at hl 0 rfl) ?_
    refine cVv (w := mW cy a) (As := []) (rest := []) C hO (T_X11_keepAct l D cy a _ (by exact hJ)) (cwV 0 ht (gV wd_1817 wd_1819 wd_93 wd_121 wd_1820) rfl rfl rfl hd_yX11_keepAct ⟨Nat.le_of_ble_eq_true rfl, Nat.le_of_ble_eq_true rfl⟩) 0 rfl mW_0 rfl rfl hl.1 (Nat.le_of_ble_eq_true rfl) dX11_spin_22 rfl ⟨Nat.zero_le _, Nat.zero_le _⟩ (fun u10 H locs hp11 hO => ?_)
    obtain ⟨hJ, hTu10⟩ := hp11
    have hT : Km11 u u10 := Km11.tr (by exact hT) (Km9_to_Km11 hTu10)
    refine lv_aload_n hx hb dX11_spin_25 rfl (lv_at hl 0 rfl) ?_
    refine gf_RX11_97 (v := .ref (a 28)) C hO 0 mW_0 rfl dX11_spin_26 ?_
    refine lv_bipush (v := 28) hx hb dX11_spin_29 (by decide) ?_
    refine lv_dup2_11 hx hb dX11_spin_31 rfl rfl ?_
    refine aI C hO 28 mW_28 (i_in (X := 28) rfl (by omega) (by omega)) dX11_spin_32 ?_
    refine tE (y := (fA u 28 28)) (by exact (congrFun (Km9_A28 hTu10) _)) ?_
    refine lv_iconst (v := 1) hx hb dX11_spin_33 (by decide) ?_
    refine lv_iload_n hx hb dX11_spin_34 rfl (lv_at hl 1 rfl) ?_
    refine lv_ishl hx hb dX11_spin_35 ?_
    refine lv_topi (fun z12 ez12 => ?_)
    have g13 : 0 ≤ z12.toInt ∧ z12.toInt ≤ 2 ^ 13 := by rw [ez12]; exact i_shl1 rfl (by omega) (by omega) (by decide)
    refine lv_ixor hx hb dX11_spin_36 ?_
    refine lv_topi (fun z14 ez14 => ?_)
    refine aIs C hO 28 mW_28 (i_in (X := 28) rfl (by omega) (by omega)) mW_s28 dX11_spin_37 (fun H locs hO => ?_)
    have hT := Km11_wA28 hO hT
    have hJ := MIsA_28 hO hJ (Or.inl (i_ck (X := 28) rfl (by omega) (by omega)))
    refine lv_aload_n hx hb dX11_spin_38 rfl (lv_at hl 0 rfl) ?_
    refine gf_RX11_97 (v := .ref (a 28)) C hO 0 mW_0 rfl dX11_spin_39 ?_
    refine lv_bipush (v := 28) hx hb dX11_spin_42 (by decide) ?_
    refine aI C hO 28 mW_28 (i_in (X := 28) rfl (by omega) (by omega)) dX11_spin_44 ?_
    refine lv_topi (fun w15 ew15 => ?_)
    refine lv_iload_n hx hb dX11_spin_45 rfl (lv_at hl 1 rfl) ?_
    refine lv_ishr hx hb dX11_spin_46 ?_
    refine lv_topi (fun z16 ez16 => ?_)
    refine lv_iconst (v := 1) hx hb dX11_spin_47 (by decide) ?_
    refine lv_iand hx hb dX11_spin_48 ?_
    refine lv_topi (fun z17 ez17 => ?_)
    have g18 : 0 ≤ z17.toInt ∧ z17.toInt ≤ 1 := by rw [ez17]; exact i_andr rfl (by omega)
    refine hret _ _ _ _ _ _ dX11_spin_49 rfl ?_ hO
    exact ⟨hJ, hT⟩
  · subst hvr5
    refine bn_ne (X := 0) hx hb dX11_spin_16 rfl (by omega) ?_ (tgt := 21) (by decide)
    refine lv_iconst (v := (-1)) hx hb dX11_spin_19 (by decide) ?_
    refine hret _ _ _ _ _ _ dX11_spin_20 rfl ?_ hO
    exact ⟨hJ, hT⟩
theorem dX11_fault_0 : decode cX11_fault 0 = .ok (.iload_n 1, 1) := by decide +kernel
theorem dX11_fault_1 : decode cX11_fault 1 = .ok (.ifCond .ne 10, 3) := by decide +kernel
theorem dX11_fault_4 : decode cX11_fault 4 = .ok (.aload_n 0, 1) := by decide +kernel
theorem dX11_fault_5 : decode cX11_fault 5 = .ok (.getfield 155, 3) := by decide +kernel
theorem dX11_fault_8 : decode cX11_fault 8 = .ok (.goto 16, 3) := by decide +kernel
theorem dX11_fault_11 : decode cX11_fault 11 = .ok (.iload_n 1, 1) := by decide +kernel
theorem dX11_fault_12 : decode cX11_fault 12 = .ok (.iconst 1, 1) := by decide +kernel
theorem dX11_fault_13 : decode cX11_fault 13 = .ok (.if_icmp .ne 10, 3) := by decide +kernel
theorem dX11_fault_16 : decode cX11_fault 16 = .ok (.aload_n 0, 1) := by decide +kernel
theorem dX11_fault_17 : decode cX11_fault 17 = .ok (.getfield 16, 3) := by decide +kernel
theorem dX11_fault_20 : decode cX11_fault 20 = .ok (.goto 4, 3) := by decide +kernel
theorem dX11_fault_23 : decode cX11_fault 23 = .ok (.iconst (-1), 1) := by decide +kernel
theorem dX11_fault_24 : decode cX11_fault 24 = .ok (.ireturn, 1) := by decide +kernel
theorem wd_1713 : (Cond.code ⟨"WebCourtModel", "fault", "(I)I"⟩ prog_13_method_40_code (2 : Nat) (Option.some FieldType.int)) ∈ gtb := gtb_c7 164 (by decide +kernel) rfl
theorem wd_1361 : (Cond.fieldLink "WebCourtModel" (16 : Nat) "WebCourtModel" "faultPlace" "I") ∈ gtb := gtb_c6 52 (by decide +kernel) rfl
theorem gf_RX11_16 {p : Program} {l : Launch} {e : Env} {R : Room} {s : State} {m : MethodId} {args : Array Value} {below : List Frame} {meth : Method} {c : Code} {H : Heap} {locs : List Loc} {cells slots : Nat} {Q : State → Prop} {cc : ByteArray} {pc nL : Nat} {ls : Array Slot} {rest : List Value} {D : va_G} {cy : Nat → ClassId} {A : Nat → Prop} {ws : va_W} {b : Nat} {fs : List Value} {v : Value} (C : Cx p s m args c cc nL RX11 D cy A) (hO : Wo D A ws s.heap H locs) (q0 : Nat) (he : ws[q0]? = some (b, .inr (11, fs))) (hv : fs[5]? = some v) (hdg : decode cc pc = .ok (.getfield 16, 3)) (kk : W p l e R s m args below meth c H locs cells slots Q (F0 m (pc + 3) ls (v :: rest))) : W p l e R s m args below meth c H locs cells slots Q (F0 m pc ls (.ref b :: rest)) := gF (k := 5) C hO q0 he rfl inFX11 (by decide) wd_1361 rfl hv hdg kk
theorem wd_1360 : (Cond.fieldLink "WebCourtModel" (155 : Nat) "WebCourtModel" "faultKind" "I") ∈ gtb := gtb_c6 51 (by decide +kernel) rfl
theorem gf_RX11_155 {p : Program} {l : Launch} {e : Env} {R : Room} {s : State} {m : MethodId} {args : Array Value} {below : List Frame} {meth : Method} {c : Code} {H : Heap} {locs : List Loc} {cells slots : Nat} {Q : State → Prop} {cc : ByteArray} {pc nL : Nat} {ls : Array Slot} {rest : List Value} {D : va_G} {cy : Nat → ClassId} {A : Nat → Prop} {ws : va_W} {b : Nat} {fs : List Value} {v : Value} (C : Cx p s m args c cc nL RX11 D cy A) (hO : Wo D A ws s.heap H locs) (q0 : Nat) (he : ws[q0]? = some (b, .inr (11, fs))) (hv : fs[4]? = some v) (hdg : decode cc pc = .ok (.getfield 155, 3)) (kk : W p l e R s m args below meth c H locs cells slots Q (F0 m (pc + 3) ls (v :: rest))) : W p l e R s m args below meth c H locs cells slots Q (F0 m pc ls (.ref b :: rest)) := gF (k := 4) C hO q0 he rfl inFX11 (by decide) wd_1360 rfl hv hdg kk
set_option maxHeartbeats 4000000 in
set_option maxRecDepth 100000 in
theorem T_X11_fault (l : Launch) (D : va_G) (cy : Nat → ClassId) (a : Nat → Nat) (u : St) (hJ : MI a u) (x1 : Int32)  : Mi l D cy (mW cy a) yX11_fault (.code yX11_fault cX11_fault 2 (some .int)) (rmo 0 0) [.ref (a 0), .int x1] u (fun (r : Int32) (u' : St) => u' = u) := by
  refine Mi.of (own := RX11) rfl (by decide) (Nat.le_of_ble_eq_true rfl) ?_
  have hT : Km0 u u := Km0.rf
  have hJ0 := hJ
  intro p e s m below meth c A Q ls C hret hO hl
  obtain ⟨hx, hb, hml, hown, ht, hK, hA⟩ := id C
  have hl : lv_has ls 2 [(0, .ref (a 0)), (1, .int x1)] := hl
  refine lv_iload_n hx hb dX11_fault_0 rfl (lv_at hl 1 rfl) ?_
  refine bs_ne (tgt := 11) (X := (x1).toInt) hx hb dX11_fault_1 (by decide) rfl (fun c1 => ?_) (fun c1 => ?_)
  · refine lv_iload_n hx hb dX11_fault_11 rfl (lv_at hl 1 rfl) ?_
    refine lv_iconst (v := 1) hx hb dX11_fault_12 (by decide) ?_
    refine cs_ne (tgt := 23) (X := (x1).toInt) (Y := 1) hx hb dX11_fault_13 (by decide) rfl rfl (fun c2 => ?_) (fun c2 => ?_)
    · refine lv_iconst (v := (-1)) hx hb dX11_fault_23 (by decide) ?_
      refine hret _ _ _ _ _ _ dX11_fault_24 rfl ?_ hO
      exact rfl
    · refine lv_aload_n hx hb dX11_fault_16 rfl (lv_at hl 0 rfl) ?_
      refine gf_RX11_16 (v := .int (fI u 0 5)) C hO 0 mW_0 rfl dX11_fault_17 ?_
      refine lv_goto (tgt := 24) hx hb dX11_fault_20 (by decide) ?_
      refine hret _ _ _ _ _ _ dX11_fault_24 rfl ?_ hO
      exact rfl
  · refine lv_aload_n hx hb dX11_fault_4 rfl (lv_at hl 0 rfl) ?_
    have g3 : 0 ≤ (fI u 0 4).toInt ∧ (fI u 0 4).toInt ≤ 5 := by have h := MI_4 hJ0; exact h
    refine gf_RX11_155 (v := .int (fI u 0 4)) C hO 0 mW_0 rfl dX11_fault_5 ?_
    refine lv_goto (tgt := 24) hx hb dX11_fault_8 (by decide) ?_
    refine hret _ _ _ _ _ _ dX11_fault_24 rfl ?_ hO
    exact rfl
theorem dX11_about_0 : decode cX11_about 0 = .ok (.iload_n 1, 1) := by decide +kernel
theorem dX11_about_1 : decode cX11_about 1 = .ok (.tableswitch 184 0 15 #[79, 84, 89, 99, 104, 112, 120, 128, 136, 141, 146, 151, 156, 161, 171, 176], 79) := by decide +kernel
theorem dX11_about_80 : decode cX11_about 80 = .ok (.aload_n 0, 1) := by decide +kernel
theorem dX11_about_81 : decode cX11_about 81 = .ok (.invokevirtual 371, 3) := by decide +kernel
theorem dX11_about_84 : decode cX11_about 84 = .ok (.ireturn, 1) := by decide +kernel
theorem dX11_about_85 : decode cX11_about 85 = .ok (.aload_n 0, 1) := by decide +kernel
theorem dX11_about_86 : decode cX11_about 86 = .ok (.invokevirtual 380, 3) := by decide +kernel
theorem dX11_about_89 : decode cX11_about 89 = .ok (.ireturn, 1) := by decide +kernel
theorem dX11_about_90 : decode cX11_about 90 = .ok (.aload_n 0, 1) := by decide +kernel
theorem dX11_about_91 : decode cX11_about 91 = .ok (.getfield 24, 3) := by decide +kernel
theorem dX11_about_94 : decode cX11_about 94 = .ok (.aload_n 0, 1) := by decide +kernel
theorem dX11_about_95 : decode cX11_about 95 = .ok (.getfield 255, 3) := by decide +kernel
theorem dX11_about_98 : decode cX11_about 98 = .ok (.iaload, 1) := by decide +kernel
theorem dX11_about_99 : decode cX11_about 99 = .ok (.ireturn, 1) := by decide +kernel
theorem dX11_about_100 : decode cX11_about 100 = .ok (.aload_n 0, 1) := by decide +kernel
theorem dX11_about_101 : decode cX11_about 101 = .ok (.invokevirtual 377, 3) := by decide +kernel
theorem dX11_about_104 : decode cX11_about 104 = .ok (.ireturn, 1) := by decide +kernel
theorem dX11_about_105 : decode cX11_about 105 = .ok (.aload_n 0, 1) := by decide +kernel
theorem dX11_about_106 : decode cX11_about 106 = .ok (.getfield 97, 3) := by decide +kernel
theorem dX11_about_109 : decode cX11_about 109 = .ok (.bipush 24, 2) := by decide +kernel
theorem dX11_about_111 : decode cX11_about 111 = .ok (.iaload, 1) := by decide +kernel
theorem dX11_about_112 : decode cX11_about 112 = .ok (.ireturn, 1) := by decide +kernel
theorem dX11_about_113 : decode cX11_about 113 = .ok (.aload_n 0, 1) := by decide +kernel
theorem dX11_about_114 : decode cX11_about 114 = .ok (.getfield 97, 3) := by decide +kernel
theorem dX11_about_117 : decode cX11_about 117 = .ok (.bipush 25, 2) := by decide +kernel
theorem dX11_about_119 : decode cX11_about 119 = .ok (.iaload, 1) := by decide +kernel
theorem dX11_about_120 : decode cX11_about 120 = .ok (.ireturn, 1) := by decide +kernel
theorem dX11_about_121 : decode cX11_about 121 = .ok (.aload_n 0, 1) := by decide +kernel
theorem dX11_about_122 : decode cX11_about 122 = .ok (.getfield 97, 3) := by decide +kernel
theorem dX11_about_125 : decode cX11_about 125 = .ok (.bipush 26, 2) := by decide +kernel
theorem dX11_about_127 : decode cX11_about 127 = .ok (.iaload, 1) := by decide +kernel
theorem dX11_about_128 : decode cX11_about 128 = .ok (.ireturn, 1) := by decide +kernel
theorem dX11_about_129 : decode cX11_about 129 = .ok (.aload_n 0, 1) := by decide +kernel
theorem dX11_about_130 : decode cX11_about 130 = .ok (.getfield 97, 3) := by decide +kernel
theorem dX11_about_133 : decode cX11_about 133 = .ok (.bipush 27, 2) := by decide +kernel
theorem dX11_about_135 : decode cX11_about 135 = .ok (.iaload, 1) := by decide +kernel
theorem dX11_about_136 : decode cX11_about 136 = .ok (.ireturn, 1) := by decide +kernel
theorem dX11_about_137 : decode cX11_about 137 = .ok (.aload_n 0, 1) := by decide +kernel
theorem dX11_about_138 : decode cX11_about 138 = .ok (.getfield 389, 3) := by decide +kernel
theorem dX11_about_141 : decode cX11_about 141 = .ok (.ireturn, 1) := by decide +kernel
theorem dX11_about_142 : decode cX11_about 142 = .ok (.aload_n 0, 1) := by decide +kernel
theorem dX11_about_143 : decode cX11_about 143 = .ok (.getfield 392, 3) := by decide +kernel
theorem dX11_about_146 : decode cX11_about 146 = .ok (.ireturn, 1) := by decide +kernel
theorem dX11_about_147 : decode cX11_about 147 = .ok (.aload_n 0, 1) := by decide +kernel
theorem dX11_about_148 : decode cX11_about 148 = .ok (.getfield 395, 3) := by decide +kernel
theorem dX11_about_151 : decode cX11_about 151 = .ok (.ireturn, 1) := by decide +kernel
theorem dX11_about_152 : decode cX11_about 152 = .ok (.aload_n 0, 1) := by decide +kernel
theorem dX11_about_153 : decode cX11_about 153 = .ok (.getfield 484, 3) := by decide +kernel
theorem dX11_about_156 : decode cX11_about 156 = .ok (.ireturn, 1) := by decide +kernel
theorem dX11_about_157 : decode cX11_about 157 = .ok (.aload_n 0, 1) := by decide +kernel
theorem dX11_about_158 : decode cX11_about 158 = .ok (.getfield 252, 3) := by decide +kernel
theorem dX11_about_161 : decode cX11_about 161 = .ok (.ireturn, 1) := by decide +kernel
theorem dX11_about_162 : decode cX11_about 162 = .ok (.aload_n 0, 1) := by decide +kernel
theorem dX11_about_163 : decode cX11_about 163 = .ok (.getfield 33, 3) := by decide +kernel
theorem dX11_about_166 : decode cX11_about 166 = .ok (.aload_n 0, 1) := by decide +kernel
theorem dX11_about_167 : decode cX11_about 167 = .ok (.getfield 255, 3) := by decide +kernel
theorem dX11_about_170 : decode cX11_about 170 = .ok (.iaload, 1) := by decide +kernel
theorem dX11_about_171 : decode cX11_about 171 = .ok (.ireturn, 1) := by decide +kernel
theorem dX11_about_172 : decode cX11_about 172 = .ok (.aload_n 0, 1) := by decide +kernel
theorem dX11_about_173 : decode cX11_about 173 = .ok (.getfield 398, 3) := by decide +kernel
theorem dX11_about_176 : decode cX11_about 176 = .ok (.ireturn, 1) := by decide +kernel
theorem dX11_about_177 : decode cX11_about 177 = .ok (.aload_n 0, 1) := by decide +kernel
theorem dX11_about_178 : decode cX11_about 178 = .ok (.getfield 97, 3) := by decide +kernel
theorem dX11_about_181 : decode cX11_about 181 = .ok (.bipush 28, 2) := by decide +kernel
theorem dX11_about_183 : decode cX11_about 183 = .ok (.iaload, 1) := by decide +kernel
theorem dX11_about_184 : decode cX11_about 184 = .ok (.ireturn, 1) := by decide +kernel
theorem dX11_about_185 : decode cX11_about 185 = .ok (.iconst (-1), 1) := by decide +kernel
theorem dX11_about_186 : decode cX11_about 186 = .ok (.ireturn, 1) := by decide +kernel
theorem wd_2027 : (Cond.code ⟨"WebCourtModel", "about", "(I)I"⟩ prog_13_method_122_code (2 : Nat) (Option.some FieldType.int)) ∈ gtb := gtb_c8 238 (by decide +kernel) rfl
theorem gf_RX11_395 {p : Program} {l : Launch} {e : Env} {R : Room} {s : State} {m : MethodId} {args : Array Value} {below : List Frame} {meth : Method} {c : Code} {H : Heap} {locs : List Loc} {cells slots : Nat} {Q : State → Prop} {cc : ByteArray} {pc nL : Nat} {ls : Array Slot} {rest : List Value} {D : va_G} {cy : Nat → ClassId} {A : Nat → Prop} {ws : va_W} {b : Nat} {fs : List Value} {v : Value} (C : Cx p s m args c cc nL RX11 D cy A) (hO : Wo D A ws s.heap H locs) (q0 : Nat) (he : ws[q0]? = some (b, .inr (11, fs))) (hv : fs[61]? = some v) (hdg : decode cc pc = .ok (.getfield 395, 3)) (kk : W p l e R s m args below meth c H locs cells slots Q (F0 m (pc + 3) ls (v :: rest))) : W p l e R s m args below meth c H locs cells slots Q (F0 m pc ls (.ref b :: rest)) := gF (k := 61) C hO q0 he rfl inFX11 (by decide) wd_1417 rfl hv hdg kk
theorem wd_1418 : (Cond.fieldLink "WebCourtModel" (484 : Nat) "WebCourtModel" "time" "I") ∈ gtb := gtb_c6 109 (by decide +kernel) rfl
theorem gf_RX11_484 {p : Program} {l : Launch} {e : Env} {R : Room} {s : State} {m : MethodId} {args : Array Value} {below : List Frame} {meth : Method} {c : Code} {H : Heap} {locs : List Loc} {cells slots : Nat} {Q : State → Prop} {cc : ByteArray} {pc nL : Nat} {ls : Array Slot} {rest : List Value} {D : va_G} {cy : Nat → ClassId} {A : Nat → Prop} {ws : va_W} {b : Nat} {fs : List Value} {v : Value} (C : Cx p s m args c cc nL RX11 D cy A) (hO : Wo D A ws s.heap H locs) (q0 : Nat) (he : ws[q0]? = some (b, .inr (11, fs))) (hv : fs[62]? = some v) (hdg : decode cc pc = .ok (.getfield 484, 3)) (kk : W p l e R s m args below meth c H locs cells slots Q (F0 m (pc + 3) ls (v :: rest))) : W p l e R s m args below meth c H locs cells slots Q (F0 m pc ls (.ref b :: rest)) := gF (k := 62) C hO q0 he rfl inFX11 (by decide) wd_1418 rfl hv hdg kk
theorem wd_1358 : (Cond.fieldLink "WebCourtModel" (252 : Nat) "WebCourtModel" "taped" "I") ∈ gtb := gtb_c6 49 (by decide +kernel) rfl
theorem gf_RX11_252 {p : Program} {l : Launch} {e : Env} {R : Room} {s : State} {m : MethodId} {args : Array Value} {below : List Frame} {meth : Method} {c : Code} {H : Heap} {locs : List Loc} {cells slots : Nat} {Q : State → Prop} {cc : ByteArray} {pc nL : Nat} {ls : Array Slot} {rest : List Value} {D : va_G} {cy : Nat → ClassId} {A : Nat → Prop} {ws : va_W} {b : Nat} {fs : List Value} {v : Value} (C : Cx p s m args c cc nL RX11 D cy A) (hO : Wo D A ws s.heap H locs) (q0 : Nat) (he : ws[q0]? = some (b, .inr (11, fs))) (hv : fs[2]? = some v) (hdg : decode cc pc = .ok (.getfield 252, 3)) (kk : W p l e R s m args below meth c H locs cells slots Q (F0 m (pc + 3) ls (v :: rest))) : W p l e R s m args below meth c H locs cells slots Q (F0 m pc ls (.ref b :: rest)) := gF (k := 2) C hO q0 he rfl inFX11 (by decide) wd_1358 rfl hv hdg kk
theorem wd_1371 : (Cond.fieldLink "WebCourtModel" (33 : Nat) "WebCourtModel" "units" "[I") ∈ gtb := gtb_c6 62 (by decide +kernel) rfl
theorem gf_RX11_33 {p : Program} {l : Launch} {e : Env} {R : Room} {s : State} {m : MethodId} {args : Array Value} {below : List Frame} {meth : Method} {c : Code} {H : Heap} {locs : List Loc} {cells slots : Nat} {Q : State → Prop} {cc : ByteArray} {pc nL : Nat} {ls : Array Slot} {rest : List Value} {D : va_G} {cy : Nat → ClassId} {A : Nat → Prop} {ws : va_W} {b : Nat} {fs : List Value} {v : Value} (C : Cx p s m args c cc nL RX11 D cy A) (hO : Wo D A ws s.heap H locs) (q0 : Nat) (he : ws[q0]? = some (b, .inr (11, fs))) (hv : fs[15]? = some v) (hdg : decode cc pc = .ok (.getfield 33, 3)) (kk : W p l e R s m args below meth c H locs cells slots Q (F0 m (pc + 3) ls (v :: rest))) : W p l e R s m args below meth c H locs cells slots Q (F0 m pc ls (.ref b :: rest)) := gF (k := 15) C hO q0 he rfl inFX11 (by decide) wd_1371 rfl hv hdg kk
set_option maxHeartbeats 4000000 in
set_option maxRecDepth 100000 in
theorem T_X11_about (l : Launch) (D : va_G) (cy : Nat → ClassId) (a : Nat → Nat) (u : St) (hJ : MI a u) (x1 : Int32)  : Mi l D cy (mW cy a) yX11_about (.code yX11_about cX11_about 2 (some .int)) (rmo 1 20) [.ref (a 0), .int x1] u (fun (r : Int32) (u' : St) => u' = u) := by
  refine Mi.of (own := RX11) rfl (by decide) (Nat.le_of_ble_eq_true rfl) ?_
  have hT : Km0 u u := Km0.rf
  have hJ0 := hJ
  intro p e s m below meth c A Q ls C hret hO hl
  obtain ⟨hx, hb, hml, hown, ht, hK, hA⟩ := id C
  have hl : lv_has ls 2 [(0, .ref (a 0)), (1, .int x1)] := hl
  refine lv_iload_n hx hb dX11_about_0 rfl (lv_at hl 1 rfl) ?_
  have c1 : ((x1).toInt < 0 ∨ 15 < (x1).toInt) ∨ (x1).toInt = 0 ∨ (x1).toInt = 1 ∨ (x1).toInt = 2 ∨ (x1).toInt = 3 ∨ (x1).toInt = 4 ∨ (x1).toInt = 5 ∨ (x1).toInt = 6 ∨ (x1).toInt = 7 ∨ (x1).toInt = 8 ∨ (x1).toInt = 9 ∨ (x1).toInt = 10 ∨ (x1).toInt = 11 ∨ (x1).toInt = 12 ∨ (x1).toInt = 13 ∨ (x1).toInt = 14 ∨ (x1).toInt = 15 := by omega
  rcases c1 with c1 | c1 | c1 | c1 | c1 | c1 | c1 | c1 | c1 | c1 | c1 | c1 | c1 | c1 | c1 | c1 | c1
  · refine lv_tableOut (tgt := 185) hx hb dX11_about_1 (by rw [show x1.toInt = (x1).toInt from rfl]; exact c1) (by decide) ?_
    refine lv_iconst (v := (-1)) hx hb dX11_about_185 (by decide) ?_
    refine hret _ _ _ _ _ _ dX11_about_186 rfl ?_ hO
    exact rfl
  · refine lv_tableIn (tgt := 80) hx hb dX11_about_1 (by rw [c1]; decide) (by rw [c1]; decide) (by rw [c1]; rfl) (by decide) ?_
    refine lv_aload_n hx hb dX11_about_80 rfl (lv_at hl 0 rfl) ?_
    have g2 : 0 ≤ (fI u 0 36).toInt ∧ (fI u 0 36).toInt ≤ 1 := by have h := MI_36 hJ0; exact h
    have g3 : 0 ≤ (fA u 6 ((fI u 0 36)).toNatClampNeg).toInt ∧ (fA u 6 ((fI u 0 36)).toNatClampNeg).toInt ≤ 6 := by have h := MI_A6 hJ0 ((fI u 0 36)).toNatClampNeg; exact h
    refine cVi (w := mW cy a) (As := []) (rest := []) C hO (T_X11_many l D cy a _ (by exact hJ) ((fA u 6 ((fI u 0 36)).toNatClampNeg)) (by exact rfl)) (cwV 0 ht (gV wd_1348 wd_1350 wd_46 wd_121 wd_1351) rfl rfl rfl hd_yX11_many ⟨Nat.le_of_ble_eq_true rfl, Nat.le_of_ble_eq_true rfl⟩) 0 rfl mW_0 rfl rfl hl.1 (Nat.le_of_ble_eq_true rfl) dX11_about_81 rfl ⟨Nat.zero_le _, Nat.zero_le _⟩ (fun r4 u5 H locs hp6 hO => ?_)
    obtain ⟨hr4, hu5⟩ := hp6
    refine tE hr4 ?_
    rw [hu5] at hO
    refine hret _ _ _ _ _ _ dX11_about_84 rfl ?_ hO
    exact rfl
  · refine lv_tableIn (tgt := 85) hx hb dX11_about_1 (by rw [c1]; decide) (by rw [c1]; decide) (by rw [c1]; rfl) (by decide) ?_
    refine lv_aload_n hx hb dX11_about_85 rfl (lv_at hl 0 rfl) ?_
    have g7 : 0 ≤ (fI u 0 36).toInt ∧ (fI u 0 36).toInt ≤ 1 := by have h := MI_36 hJ0; exact h
    have g8 : 0 ≤ (fA u 3 ((fI u 0 36)).toNatClampNeg).toInt ∧ (fA u 3 ((fI u 0 36)).toNatClampNeg).toInt ≤ 8 := by have h := MI_A3 hJ0 ((fI u 0 36)).toNatClampNeg; exact h
    refine cVi (w := mW cy a) (As := []) (rest := []) C hO (T_X11_spots l D cy a _ (by exact hJ) ((fA u 3 ((fI u 0 36)).toNatClampNeg)) (by exact rfl)) (cwV 0 ht (gV wd_1352 wd_1354 wd_47 wd_121 wd_1355) rfl rfl rfl hd_yX11_spots ⟨Nat.le_of_ble_eq_true rfl, Nat.le_of_ble_eq_true rfl⟩) 0 rfl mW_0 rfl rfl hl.1 (Nat.le_of_ble_eq_true rfl) dX11_about_86 rfl ⟨Nat.zero_le _, Nat.zero_le _⟩ (fun r9 u10 H locs hp11 hO => ?_)
    obtain ⟨hr9, hu10⟩ := hp11
    refine tE hr9 ?_
    rw [hu10] at hO
    refine hret _ _ _ _ _ _ dX11_about_89 rfl ?_ hO
    exact rfl
  · refine lv_tableIn (tgt := 90) hx hb dX11_about_1 (by rw [c1]; decide) (by rw [c1]; decide) (by rw [c1]; rfl) (by decide) ?_
    refine lv_aload_n hx hb dX11_about_90 rfl (lv_at hl 0 rfl) ?_
    refine gf_RX11_24 (v := .ref (a 4)) C hO 0 mW_0 rfl dX11_about_91 ?_
    refine lv_aload_n hx hb dX11_about_94 rfl (lv_at hl 0 rfl) ?_
    have g12 : 0 ≤ (fI u 0 36).toInt ∧ (fI u 0 36).toInt ≤ 1 := by have h := MI_36 hJ0; exact h
    refine gf_RX11_255 (v := .int (fI u 0 36)) C hO 0 mW_0 rfl dX11_about_95 ?_
    refine aI C hO 4 mW_4 (i_in (X := ((fI u 0 36)).toInt) rfl (by omega) (by omega)) dX11_about_98 ?_
    have g13 : 0 ≤ (fA u 4 ((fI u 0 36)).toNatClampNeg).toInt ∧ (fA u 4 ((fI u 0 36)).toNatClampNeg).toInt ≤ 14 := by have h := MI_A4 hJ0 ((fI u 0 36)).toNatClampNeg; exact h
    refine tE (y := (fA u 4 ((fI u 0 36)).toNatClampNeg)) (by exact rfl) ?_
    refine hret _ _ _ _ _ _ dX11_about_99 rfl ?_ hO
    exact rfl
  · refine lv_tableIn (tgt := 100) hx hb dX11_about_1 (by rw [c1]; decide) (by rw [c1]; decide) (by rw [c1]; rfl) (by decide) ?_
    refine lv_aload_n hx hb dX11_about_100 rfl (lv_at hl 0 rfl) ?_
    have g14 : 0 ≤ (fI u 0 36).toInt ∧ (fI u 0 36).toInt ≤ 1 := by have h := MI_36 hJ0; exact h
    have g15 : 0 ≤ (fA u 5 ((fI u 0 36)).toNatClampNeg).toInt ∧ (fA u 5 ((fI u 0 36)).toNatClampNeg).toInt ≤ 8 := by have h := MI_A5 hJ0 ((fI u 0 36)).toNatClampNeg; exact h
    refine cVi (w := mW cy a) (As := []) (rest := []) C hO (T_X11_pleads l D cy a _ (by exact hJ) ((fA u 5 ((fI u 0 36)).toNatClampNeg)) (by exact rfl)) (cwV 0 ht (gV wd_1745 wd_1747 wd_82 wd_121 wd_1748) rfl rfl rfl hd_yX11_pleads ⟨Nat.le_of_ble_eq_true rfl, Nat.le_of_ble_eq_true rfl⟩) 0 rfl mW_0 rfl rfl hl.1 (Nat.le_of_ble_eq_true rfl) dX11_about_101 rfl ⟨Nat.zero_le _, Nat.zero_le _⟩ (fun r16 u17 H locs hp18 hO => ?_)
    obtain ⟨hr16, hu17⟩ := hp18
    refine tE hr16 ?_
    rw [hu17] at hO
    refine hret _ _ _ _ _ _ dX11_about_104 rfl ?_ hO
    exact rfl
  · refine lv_tableIn (tgt := 105) hx hb dX11_about_1 (by rw [c1]; decide) (by rw [c1]; decide) (by rw [c1]; rfl) (by decide) ?_
    refine lv_aload_n hx hb dX11_about_105 rfl (lv_at hl 0 rfl) ?_
    refine gf_RX11_97 (v := .ref (a 28)) C hO 0 mW_0 rfl dX11_about_106 ?_
    refine lv_bipush (v := 24) hx hb dX11_about_109 (by decide) ?_
    refine aI C hO 28 mW_28 (i_in (X := 24) rfl (by omega) (by omega)) dX11_about_111 ?_
    have g19 : 0 ≤ (fI u 0 36).toInt ∧ (fI u 0 36).toInt ≤ 1 := by have h := MI_36 hJ0; exact h
    have g20 : 0 ≤ (fA u 3 ((fI u 0 36)).toNatClampNeg).toInt ∧ (fA u 3 ((fI u 0 36)).toNatClampNeg).toInt ≤ 8 := by have h := MI_A3 hJ0 ((fI u 0 36)).toNatClampNeg; exact h
    refine tE (y := (fA u 28 24)) (by exact rfl) ?_
    have g21 : -1 ≤ (fA u 28 24).toInt ∧ (fA u 28 24).toInt ≤ 7 := by have h := MI_she2 hJ; exact h
    refine hret _ _ _ _ _ _ dX11_about_112 rfl ?_ hO
    exact rfl
  · refine lv_tableIn (tgt := 113) hx hb dX11_about_1 (by rw [c1]; decide) (by rw [c1]; decide) (by rw [c1]; rfl) (by decide) ?_
    refine lv_aload_n hx hb dX11_about_113 rfl (lv_at hl 0 rfl) ?_
    refine gf_RX11_97 (v := .ref (a 28)) C hO 0 mW_0 rfl dX11_about_114 ?_
    refine lv_bipush (v := 25) hx hb dX11_about_117 (by decide) ?_
    refine aI C hO 28 mW_28 (i_in (X := 25) rfl (by omega) (by omega)) dX11_about_119 ?_
    refine tE (y := (fA u 28 25)) (by exact rfl) ?_
    refine hret _ _ _ _ _ _ dX11_about_120 rfl ?_ hO
    exact rfl
  · refine lv_tableIn (tgt := 121) hx hb dX11_about_1 (by rw [c1]; decide) (by rw [c1]; decide) (by rw [c1]; rfl) (by decide) ?_
    refine lv_aload_n hx hb dX11_about_121 rfl (lv_at hl 0 rfl) ?_
    refine gf_RX11_97 (v := .ref (a 28)) C hO 0 mW_0 rfl dX11_about_122 ?_
    refine lv_bipush (v := 26) hx hb dX11_about_125 (by decide) ?_
    refine aI C hO 28 mW_28 (i_in (X := 26) rfl (by omega) (by omega)) dX11_about_127 ?_
    refine tE (y := (fA u 28 26)) (by exact rfl) ?_
    refine hret _ _ _ _ _ _ dX11_about_128 rfl ?_ hO
    exact rfl
  · refine lv_tableIn (tgt := 129) hx hb dX11_about_1 (by rw [c1]; decide) (by rw [c1]; decide) (by rw [c1]; rfl) (by decide) ?_
    refine lv_aload_n hx hb dX11_about_129 rfl (lv_at hl 0 rfl) ?_
    refine gf_RX11_97 (v := .ref (a 28)) C hO 0 mW_0 rfl dX11_about_130 ?_
    refine lv_bipush (v := 27) hx hb dX11_about_133 (by decide) ?_
    refine aI C hO 28 mW_28 (i_in (X := 27) rfl (by omega) (by omega)) dX11_about_135 ?_
    refine tE (y := (fA u 28 27)) (by exact rfl) ?_
    refine hret _ _ _ _ _ _ dX11_about_136 rfl ?_ hO
    exact rfl
  · refine lv_tableIn (tgt := 137) hx hb dX11_about_1 (by rw [c1]; decide) (by rw [c1]; decide) (by rw [c1]; rfl) (by decide) ?_
    refine lv_aload_n hx hb dX11_about_137 rfl (lv_at hl 0 rfl) ?_
    have g22 : 0 ≤ (fI u 0 47).toInt ∧ (fI u 0 47).toInt ≤ 40 := by have h := MI_47 hJ0; exact h
    refine gf_RX11_389 (v := .int (fI u 0 47)) C hO 0 mW_0 rfl dX11_about_138 ?_
    refine hret _ _ _ _ _ _ dX11_about_141 rfl ?_ hO
    exact rfl
  · refine lv_tableIn (tgt := 142) hx hb dX11_about_1 (by rw [c1]; decide) (by rw [c1]; decide) (by rw [c1]; rfl) (by decide) ?_
    refine lv_aload_n hx hb dX11_about_142 rfl (lv_at hl 0 rfl) ?_
    have g23 : 0 ≤ (fI u 0 48).toInt ∧ (fI u 0 48).toInt ≤ 40 := by have h := MI_48 hJ0; exact h
    refine gf_RX11_392 (v := .int (fI u 0 48)) C hO 0 mW_0 rfl dX11_about_143 ?_
    refine hret _ _ _ _ _ _ dX11_about_146 rfl ?_ hO
    exact rfl
  · refine lv_tableIn (tgt := 147) hx hb dX11_about_1 (by rw [c1]; decide) (by rw [c1]; decide) (by rw [c1]; rfl) (by decide) ?_
    refine lv_aload_n hx hb dX11_about_147 rfl (lv_at hl 0 rfl) ?_
    have g24 : 0 ≤ (fI u 0 61).toInt ∧ (fI u 0 61).toInt ≤ 30 := by have h := MI_61 hJ0; exact h
    refine gf_RX11_395 (v := .int (fI u 0 61)) C hO 0 mW_0 rfl dX11_about_148 ?_
    refine hret _ _ _ _ _ _ dX11_about_151 rfl ?_ hO
    exact rfl
  · refine lv_tableIn (tgt := 152) hx hb dX11_about_1 (by rw [c1]; decide) (by rw [c1]; decide) (by rw [c1]; rfl) (by decide) ?_
    refine lv_aload_n hx hb dX11_about_152 rfl (lv_at hl 0 rfl) ?_
    have g25 : 0 ≤ (fI u 0 62).toInt ∧ (fI u 0 62).toInt ≤ 100000 := by have h := MI_62 hJ0; exact h
    refine gf_RX11_484 (v := .int (fI u 0 62)) C hO 0 mW_0 rfl dX11_about_153 ?_
    refine hret _ _ _ _ _ _ dX11_about_156 rfl ?_ hO
    exact rfl
  · refine lv_tableIn (tgt := 157) hx hb dX11_about_1 (by rw [c1]; decide) (by rw [c1]; decide) (by rw [c1]; rfl) (by decide) ?_
    refine lv_aload_n hx hb dX11_about_157 rfl (lv_at hl 0 rfl) ?_
    have g26 : 0 ≤ (fI u 0 2).toInt ∧ (fI u 0 2).toInt ≤ 1600 := by have h := MI_2 hJ0; exact h
    refine gf_RX11_252 (v := .int (fI u 0 2)) C hO 0 mW_0 rfl dX11_about_158 ?_
    refine hret _ _ _ _ _ _ dX11_about_161 rfl ?_ hO
    exact rfl
  · refine lv_tableIn (tgt := 162) hx hb dX11_about_1 (by rw [c1]; decide) (by rw [c1]; decide) (by rw [c1]; rfl) (by decide) ?_
    refine lv_aload_n hx hb dX11_about_162 rfl (lv_at hl 0 rfl) ?_
    refine gf_RX11_33 (v := .ref (a 7)) C hO 0 mW_0 rfl dX11_about_163 ?_
    refine lv_aload_n hx hb dX11_about_166 rfl (lv_at hl 0 rfl) ?_
    have g27 : 0 ≤ (fI u 0 36).toInt ∧ (fI u 0 36).toInt ≤ 1 := by have h := MI_36 hJ0; exact h
    refine gf_RX11_255 (v := .int (fI u 0 36)) C hO 0 mW_0 rfl dX11_about_167 ?_
    refine aI C hO 7 mW_7 (i_in (X := ((fI u 0 36)).toInt) rfl (by omega) (by omega)) dX11_about_170 ?_
    have g28 : 0 ≤ (fA u 7 ((fI u 0 36)).toNatClampNeg).toInt ∧ (fA u 7 ((fI u 0 36)).toNatClampNeg).toInt ≤ 60 := by have h := MI_A7 hJ0 ((fI u 0 36)).toNatClampNeg; exact h
    refine tE (y := (fA u 7 ((fI u 0 36)).toNatClampNeg)) (by exact rfl) ?_
    refine hret _ _ _ _ _ _ dX11_about_171 rfl ?_ hO
    exact rfl
  · refine lv_tableIn (tgt := 172) hx hb dX11_about_1 (by rw [c1]; decide) (by rw [c1]; decide) (by rw [c1]; rfl) (by decide) ?_
    refine lv_aload_n hx hb dX11_about_172 rfl (lv_at hl 0 rfl) ?_
    have g29 : 0 ≤ (fI u 0 50).toInt ∧ (fI u 0 50).toInt ≤ 8 := by have h := MI_50 hJ0; exact h
    refine gf_RX11_398 (v := .int (fI u 0 50)) C hO 0 mW_0 rfl dX11_about_173 ?_
    refine hret _ _ _ _ _ _ dX11_about_176 rfl ?_ hO
    exact rfl
  · refine lv_tableIn (tgt := 177) hx hb dX11_about_1 (by rw [c1]; decide) (by rw [c1]; decide) (by rw [c1]; rfl) (by decide) ?_
    refine lv_aload_n hx hb dX11_about_177 rfl (lv_at hl 0 rfl) ?_
    refine gf_RX11_97 (v := .ref (a 28)) C hO 0 mW_0 rfl dX11_about_178 ?_
    refine lv_bipush (v := 28) hx hb dX11_about_181 (by decide) ?_
    refine aI C hO 28 mW_28 (i_in (X := 28) rfl (by omega) (by omega)) dX11_about_183 ?_
    refine tE (y := (fA u 28 28)) (by exact rfl) ?_
    refine hret _ _ _ _ _ _ dX11_about_184 rfl ?_ hO
    exact rfl
def Km17 (u v : St) : Prop := fI v 0 3 = fI u 0 3 ∧ fI v 0 4 = fI u 0 4 ∧ fI v 0 5 = fI u 0 5 ∧ fI v 0 6 = fI u 0 6 ∧ fI v 0 7 = fI u 0 7 ∧ fI v 0 8 = fI u 0 8 ∧ fI v 0 9 = fI u 0 9 ∧ fL v 0 10 = fL u 0 10 ∧ fI v 0 36 = fI u 0 36 ∧ fI v 0 37 = fI u 0 37 ∧ fI v 0 38 = fI u 0 38 ∧ fI v 0 39 = fI u 0 39 ∧ fI v 0 40 = fI u 0 40 ∧ fI v 0 41 = fI u 0 41 ∧ fI v 0 42 = fI u 0 42 ∧ fI v 0 43 = fI u 0 43 ∧ fI v 0 45 = fI u 0 45 ∧ fI v 0 47 = fI u 0 47 ∧ fI v 0 48 = fI u 0 48 ∧ fI v 0 50 = fI u 0 50 ∧ fI v 0 61 = fI u 0 61 ∧ fI v 0 62 = fI u 0 62 ∧ fA v 2 = fA u 2 ∧ fA v 3 = fA u 3 ∧ fA v 4 = fA u 4 ∧ fA v 5 = fA u 5 ∧ fA v 6 = fA u 6 ∧ fA v 7 = fA u 7 ∧ fA v 8 = fA u 8 ∧ fA v 9 = fA u 9 ∧ fA v 10 = fA u 10 ∧ fA v 11 = fA u 11 ∧ fA v 12 = fA u 12 ∧ fA v 13 = fA u 13 ∧ fA v 14 = fA u 14 ∧ fA v 15 = fA u 15 ∧ fA v 16 = fA u 16 ∧ fA v 17 = fA u 17 ∧ fA v 18 = fA u 18 ∧ fA v 19 = fA u 19 ∧ fJ v 20 = fJ u 20 ∧ fJ v 21 = fJ u 21 ∧ fJ v 22 = fJ u 22 ∧ fA v 23 = fA u 23 ∧ fA v 24 = fA u 24 ∧ fA v 25 = fA u 25 ∧ fA v 26 = fA u 26 ∧ fA v 27 = fA u 27 ∧ fA v 28 = fA u 28 ∧ fA v 29 = fA u 29 ∧ fA v 30 = fA u 30 ∧ fA v 31 = fA u 31 ∧ fA v 32 = fA u 32 ∧ fA v 33 = fA u 33 ∧ fA v 34 = fA u 34 ∧ fA v 35 = fA u 35 ∧ fA v 36 = fA u 36 ∧ fA v 37 = fA u 37 ∧ fA v 38 = fA u 38 ∧ fA v 39 = fA u 39 ∧ fA v 40 = fA u 40 ∧ fA v 41 = fA u 41 ∧ fA v 42 = fA u 42
theorem Km17.rf {u : St} : Km17 u u := ⟨rfl, rfl, rfl, rfl, rfl, rfl, rfl, rfl, rfl, rfl, rfl, rfl, rfl, rfl, rfl, rfl, rfl, rfl, rfl, rfl, rfl, rfl, rfl, rfl, rfl, rfl, rfl, rfl, rfl, rfl, rfl, rfl, rfl, rfl, rfl, rfl, rfl, rfl, rfl, rfl, rfl, rfl, rfl, rfl, rfl, rfl, rfl, rfl, rfl, rfl, rfl, rfl, rfl, rfl, rfl, rfl, rfl, rfl, rfl, rfl, rfl, rfl, rfl⟩
theorem Km17.tr {u v w : St} (h1 : Km17 u v) (h2 : Km17 v w) : Km17 u w := ⟨(h2.1).trans h1.1, (h2.2.1).trans h1.2.1, (h2.2.2.1).trans h1.2.2.1, (h2.2.2.2.1).trans h1.2.2.2.1, (h2.2.2.2.2.1).trans h1.2.2.2.2.1, (h2.2.2.2.2.2.1).trans h1.2.2.2.2.2.1, (h2.2.2.2.2.2.2.1).trans h1.2.2.2.2.2.2.1, (h2.2.2.2.2.2.2.2.1).trans h1.2.2.2.2.2.2.2.1, (h2.2.2.2.2.2.2.2.2.1).trans h1.2.2.2.2.2.2.2.2.1, (h2.2.2.2.2.2.2.2.2.2.1).trans h1.2.2.2.2.2.2.2.2.2.1, (h2.2.2.2.2.2.2.2.2.2.2.1).trans h1.2.2.2.2.2.2.2.2.2.2.1, (h2.2.2.2.2.2.2.2.2.2.2.2.1).trans h1.2.2.2.2.2.2.2.2.2.2.2.1, (h2.2.2.2.2.2.2.2.2.2.2.2.2.1).trans h1.2.2.2.2.2.2.2.2.2.2.2.2.1, (h2.2.2.2.2.2.2.2.2.2.2.2.2.2.1).trans h1.2.2.2.2.2.2.2.2.2.2.2.2.2.1, (h2.2.2.2.2.2.2.2.2.2.2.2.2.2.2.1).trans h1.2.2.2.2.2.2.2.2.2.2.2.2.2.2.1, (h2.2.2.2.2.2.2.2.2.2.2.2.2.2.2.2.1).trans h1.2.2.2.2.2.2.2.2.2.2.2.2.2.2.2.1, (h2.2.2.2.2.2.2.2.2.2.2.2.2.2.2.2.2.1).trans h1.2.2.2.2.2.2.2.2.2.2.2.2.2.2.2.2.1, (h2.2.2.2.2.2.2.2.2.2.2.2.2.2.2.2.2.2.1).trans h1.2.2.2.2.2.2.2.2.2.2.2.2.2.2.2.2.2.1, (h2.2.2.2.2.2.2.2.2.2.2.2.2.2.2.2.2.2.2.1).trans h1.2.2.2.2.2.2.2.2.2.2.2.2.2.2.2.2.2.2.1, (h2.2.2.2.2.2.2.2.2.2.2.2.2.2.2.2.2.2.2.2.1).trans h1.2.2.2.2.2.2.2.2.2.2.2.2.2.2.2.2.2.2.2.1, (h2.2.2.2.2.2.2.2.2.2.2.2.2.2.2.2.2.2.2.2.2.1).trans h1.2.2.2.2.2.2.2.2.2.2.2.2.2.2.2.2.2.2.2.2.1, (h2.2.2.2.2.2.2.2.2.2.2.2.2.2.2.2.2.2.2.2.2.2.1).trans h1.2.2.2.2.2.2.2.2.2.2.2.2.2.2.2.2.2.2.2.2.2.1, (h2.2.2.2.2.2.2.2.2.2.2.2.2.2.2.2.2.2.2.2.2.2.2.1).trans h1.2.2.2.2.2.2.2.2.2.2.2.2.2.2.2.2.2.2.2.2.2.2.1, (h2.2.2.2.2.2.2.2.2.2.2.2.2.2.2.2.2.2.2.2.2.2.2.2.1).trans h1.2.2.2.2.2.2.2.2.2.2.2.2.2.2.2.2.2.2.2.2.2.2.2.1, (h2.2.2.2.2.2.2.2.2.2.2.2.2.2.2.2.2.2.2.2.2.2.2.2.2.1).trans h1.2.2.2.2.2.2.2.2.2.2.2.2.2.2.2.2.2.2.2.2.2.2.2.2.1, (h2.2.2.2.2.2.2.2.2.2.2.2.2.2.2.2.2.2.2.2.2.2.2.2.2.2.1).trans h1.2.2.2.2.2.2.2.2.2.2.2.2.2.2.2.2.2.2.2.2.2.2.2.2.2.1, (h2.2.2.2.2.2.2.2.2.2.2.2.2.2.2.2.2.2.2.2.2.2.2.2.2.2.2.1).trans h1.2.2.2.2.2.2.2.2.2.2.2.2.2.2.2.2.2.2.2.2.2.2.2.2.2.2.1, (h2.2.2.2.2.2.2.2.2.2.2.2.2.2.2.2.2.2.2.2.2.2.2.2.2.2.2.2.1).trans h1.2.2.2.2.2.2.2.2.2.2.2.2.2.2.2.2.2.2.2.2.2.2.2.2.2.2.2.1, (h2.2.2.2.2.2.2.2.2.2.2.2.2.2.2.2.2.2.2.2.2.2.2.2.2.2.2.2.2.1).trans h1.2.2.2.2.2.2.2.2.2.2.2.2.2.2.2.2.2.2.2.2.2.2.2.2.2.2.2.2.1, (h2.2.2.2.2.2.2.2.2.2.2.2.2.2.2.2.2.2.2.2.2.2.2.2.2.2.2.2.2.2.1).trans h1.2.2.2.2.2.2.2.2.2.2.2.2.2.2.2.2.2.2.2.2.2.2.2.2.2.2.2.2.2.1, (h2.2.2.2.2.2.2.2.2.2.2.2.2.2.2.2.2.2.2.2.2.2.2.2.2.2.2.2.2.2.2.1).trans h1.2.2.2.2.2.2.2.2.2.2.2.2.2.2.2.2.2.2.2.2.2.2.2.2.2.2.2.2.2.2.1, (h2.2.2.2.2.2.2.2.2.2.2.2.2.2.2.2.2.2.2.2.2.2.2.2.2.2.2.2.2.2.2.2.1).trans h1.2.2.2.2.2.2.2.2.2.2.2.2.2.2.2.2.2.2.2.2.2.2.2.2.2.2.2.2.2.2.2.1, (h2.2.2.2.2.2.2.2.2.2.2.2.2.2.2.2.2.2.2.2.2.2.2.2.2.2.2.2.2.2.2.2.2.1).trans h1.2.2.2.2.2.2.2.2.2.2.2.2.2.2.2.2.2.2.2.2.2.2.2.2.2.2.2.2.2.2.2.2.1, (h2.2.2.2.2.2.2.2.2.2.2.2.2.2.2.2.2.2.2.2.2.2.2.2.2.2.2.2.2.2.2.2.2.2.1).trans h1.2.2.2.2.2.2.2.2.2.2.2.2.2.2.2.2.2.2.2.2.2.2.2.2.2.2.2.2.2.2.2.2.2.1, (h2.2.2.2.2.2.2.2.2.2.2.2.2.2.2.2.2.2.2.2.2.2.2.2.2.2.2.2.2.2.2.2.2.2.2.1).trans h1.2.2.2.2.2.2.2.2.2.2.2.2.2.2.2.2.2.2.2.2.2.2.2.2.2.2.2.2.2.2.2.2.2.2.1, (h2.2.2.2.2.2.2.2.2.2.2.2.2.2.2.2.2.2.2.2.2.2.2.2.2.2.2.2.2.2.2.2.2.2.2.2.1).trans h1.2.2.2.2.2.2.2.2.2.2.2.2.2.2.2.2.2.2.2.2.2.2.2.2.2.2.2.2.2.2.2.2.2.2.2.1, (h2.2.2.2.2.2.2.2.2.2.2.2.2.2.2.2.2.2.2.2.2.2.2.2.2.2.2.2.2.2.2.2.2.2.2.2.2.1).trans h1.2.2.2.2.2.2.2.2.2.2.2.2.2.2.2.2.2.2.2.2.2.2.2.2.2.2.2.2.2.2.2.2.2.2.2.2.1, (h2.2.2.2.2.2.2.2.2.2.2.2.2.2.2.2.2.2.2.2.2.2.2.2.2.2.2.2.2.2.2.2.2.2.2.2.2.2.1).trans h1.2.2.2.2.2.2.2.2.2.2.2.2.2.2.2.2.2.2.2.2.2.2.2.2.2.2.2.2.2.2.2.2.2.2.2.2.2.1, (h2.2.2.2.2.2.2.2.2.2.2.2.2.2.2.2.2.2.2.2.2.2.2.2.2.2.2.2.2.2.2.2.2.2.2.2.2.2.2.1).trans h1.2.2.2.2.2.2.2.2.2.2.2.2.2.2.2.2.2.2.2.2.2.2.2.2.2.2.2.2.2.2.2.2.2.2.2.2.2.2.1, (h2.2.2.2.2.2.2.2.2.2.2.2.2.2.2.2.2.2.2.2.2.2.2.2.2.2.2.2.2.2.2.2.2.2.2.2.2.2.2.2.1).trans h1.2.2.2.2.2.2.2.2.2.2.2.2.2.2.2.2.2.2.2.2.2.2.2.2.2.2.2.2.2.2.2.2.2.2.2.2.2.2.2.1, (h2.2.2.2.2.2.2.2.2.2.2.2.2.2.2.2.2.2.2.2.2.2.2.2.2.2.2.2.2.2.2.2.2.2.2.2.2.2.2.2.2.1).trans h1.2.2.2.2.2.2.2.2.2.2.2.2.2.2.2.2.2.2.2.2.2.2.2.2.2.2.2.2.2.2.2.2.2.2.2.2.2.2.2.2.1, (h2.2.2.2.2.2.2.2.2.2.2.2.2.2.2.2.2.2.2.2.2.2.2.2.2.2.2.2.2.2.2.2.2.2.2.2.2.2.2.2.2.2.1).trans h1.2.2.2.2.2.2.2.2.2.2.2.2.2.2.2.2.2.2.2.2.2.2.2.2.2.2.2.2.2.2.2.2.2.2.2.2.2.2.2.2.2.1, (h2.2.2.2.2.2.2.2.2.2.2.2.2.2.2.2.2.2.2.2.2.2.2.2.2.2.2.2.2.2.2.2.2.2.2.2.2.2.2.2.2.2.2.1).trans h1.2.2.2.2.2.2.2.2.2.2.2.2.2.2.2.2.2.2.2.2.2.2.2.2.2.2.2.2.2.2.2.2.2.2.2.2.2.2.2.2.2.2.1, (h2.2.2.2.2.2.2.2.2.2.2.2.2.2.2.2.2.2.2.2.2.2.2.2.2.2.2.2.2.2.2.2.2.2.2.2.2.2.2.2.2.2.2.2.1).trans h1.2.2.2.2.2.2.2.2.2.2.2.2.2.2.2.2.2.2.2.2.2.2.2.2.2.2.2.2.2.2.2.2.2.2.2.2.2.2.2.2.2.2.2.1, (h2.2.2.2.2.2.2.2.2.2.2.2.2.2.2.2.2.2.2.2.2.2.2.2.2.2.2.2.2.2.2.2.2.2.2.2.2.2.2.2.2.2.2.2.2.1).trans h1.2.2.2.2.2.2.2.2.2.2.2.2.2.2.2.2.2.2.2.2.2.2.2.2.2.2.2.2.2.2.2.2.2.2.2.2.2.2.2.2.2.2.2.2.1, (h2.2.2.2.2.2.2.2.2.2.2.2.2.2.2.2.2.2.2.2.2.2.2.2.2.2.2.2.2.2.2.2.2.2.2.2.2.2.2.2.2.2.2.2.2.2.1).trans h1.2.2.2.2.2.2.2.2.2.2.2.2.2.2.2.2.2.2.2.2.2.2.2.2.2.2.2.2.2.2.2.2.2.2.2.2.2.2.2.2.2.2.2.2.2.1, (h2.2.2.2.2.2.2.2.2.2.2.2.2.2.2.2.2.2.2.2.2.2.2.2.2.2.2.2.2.2.2.2.2.2.2.2.2.2.2.2.2.2.2.2.2.2.2.1).trans h1.2.2.2.2.2.2.2.2.2.2.2.2.2.2.2.2.2.2.2.2.2.2.2.2.2.2.2.2.2.2.2.2.2.2.2.2.2.2.2.2.2.2.2.2.2.2.1, (h2.2.2.2.2.2.2.2.2.2.2.2.2.2.2.2.2.2.2.2.2.2.2.2.2.2.2.2.2.2.2.2.2.2.2.2.2.2.2.2.2.2.2.2.2.2.2.2.1).trans h1.2.2.2.2.2.2.2.2.2.2.2.2.2.2.2.2.2.2.2.2.2.2.2.2.2.2.2.2.2.2.2.2.2.2.2.2.2.2.2.2.2.2.2.2.2.2.2.1, (h2.2.2.2.2.2.2.2.2.2.2.2.2.2.2.2.2.2.2.2.2.2.2.2.2.2.2.2.2.2.2.2.2.2.2.2.2.2.2.2.2.2.2.2.2.2.2.2.2.1).trans h1.2.2.2.2.2.2.2.2.2.2.2.2.2.2.2.2.2.2.2.2.2.2.2.2.2.2.2.2.2.2.2.2.2.2.2.2.2.2.2.2.2.2.2.2.2.2.2.2.1, (h2.2.2.2.2.2.2.2.2.2.2.2.2.2.2.2.2.2.2.2.2.2.2.2.2.2.2.2.2.2.2.2.2.2.2.2.2.2.2.2.2.2.2.2.2.2.2.2.2.2.1).trans h1.2.2.2.2.2.2.2.2.2.2.2.2.2.2.2.2.2.2.2.2.2.2.2.2.2.2.2.2.2.2.2.2.2.2.2.2.2.2.2.2.2.2.2.2.2.2.2.2.2.1, (h2.2.2.2.2.2.2.2.2.2.2.2.2.2.2.2.2.2.2.2.2.2.2.2.2.2.2.2.2.2.2.2.2.2.2.2.2.2.2.2.2.2.2.2.2.2.2.2.2.2.2.1).trans h1.2.2.2.2.2.2.2.2.2.2.2.2.2.2.2.2.2.2.2.2.2.2.2.2.2.2.2.2.2.2.2.2.2.2.2.2.2.2.2.2.2.2.2.2.2.2.2.2.2.2.1, (h2.2.2.2.2.2.2.2.2.2.2.2.2.2.2.2.2.2.2.2.2.2.2.2.2.2.2.2.2.2.2.2.2.2.2.2.2.2.2.2.2.2.2.2.2.2.2.2.2.2.2.2.1).trans h1.2.2.2.2.2.2.2.2.2.2.2.2.2.2.2.2.2.2.2.2.2.2.2.2.2.2.2.2.2.2.2.2.2.2.2.2.2.2.2.2.2.2.2.2.2.2.2.2.2.2.2.1, (h2.2.2.2.2.2.2.2.2.2.2.2.2.2.2.2.2.2.2.2.2.2.2.2.2.2.2.2.2.2.2.2.2.2.2.2.2.2.2.2.2.2.2.2.2.2.2.2.2.2.2.2.2.1).trans h1.2.2.2.2.2.2.2.2.2.2.2.2.2.2.2.2.2.2.2.2.2.2.2.2.2.2.2.2.2.2.2.2.2.2.2.2.2.2.2.2.2.2.2.2.2.2.2.2.2.2.2.2.1, (h2.2.2.2.2.2.2.2.2.2.2.2.2.2.2.2.2.2.2.2.2.2.2.2.2.2.2.2.2.2.2.2.2.2.2.2.2.2.2.2.2.2.2.2.2.2.2.2.2.2.2.2.2.2.1).trans h1.2.2.2.2.2.2.2.2.2.2.2.2.2.2.2.2.2.2.2.2.2.2.2.2.2.2.2.2.2.2.2.2.2.2.2.2.2.2.2.2.2.2.2.2.2.2.2.2.2.2.2.2.2.1, (h2.2.2.2.2.2.2.2.2.2.2.2.2.2.2.2.2.2.2.2.2.2.2.2.2.2.2.2.2.2.2.2.2.2.2.2.2.2.2.2.2.2.2.2.2.2.2.2.2.2.2.2.2.2.2.1).trans h1.2.2.2.2.2.2.2.2.2.2.2.2.2.2.2.2.2.2.2.2.2.2.2.2.2.2.2.2.2.2.2.2.2.2.2.2.2.2.2.2.2.2.2.2.2.2.2.2.2.2.2.2.2.2.1, (h2.2.2.2.2.2.2.2.2.2.2.2.2.2.2.2.2.2.2.2.2.2.2.2.2.2.2.2.2.2.2.2.2.2.2.2.2.2.2.2.2.2.2.2.2.2.2.2.2.2.2.2.2.2.2.2.1).trans h1.2.2.2.2.2.2.2.2.2.2.2.2.2.2.2.2.2.2.2.2.2.2.2.2.2.2.2.2.2.2.2.2.2.2.2.2.2.2.2.2.2.2.2.2.2.2.2.2.2.2.2.2.2.2.2.1, (h2.2.2.2.2.2.2.2.2.2.2.2.2.2.2.2.2.2.2.2.2.2.2.2.2.2.2.2.2.2.2.2.2.2.2.2.2.2.2.2.2.2.2.2.2.2.2.2.2.2.2.2.2.2.2.2.2.1).trans h1.2.2.2.2.2.2.2.2.2.2.2.2.2.2.2.2.2.2.2.2.2.2.2.2.2.2.2.2.2.2.2.2.2.2.2.2.2.2.2.2.2.2.2.2.2.2.2.2.2.2.2.2.2.2.2.2.1, (h2.2.2.2.2.2.2.2.2.2.2.2.2.2.2.2.2.2.2.2.2.2.2.2.2.2.2.2.2.2.2.2.2.2.2.2.2.2.2.2.2.2.2.2.2.2.2.2.2.2.2.2.2.2.2.2.2.2.1).trans h1.2.2.2.2.2.2.2.2.2.2.2.2.2.2.2.2.2.2.2.2.2.2.2.2.2.2.2.2.2.2.2.2.2.2.2.2.2.2.2.2.2.2.2.2.2.2.2.2.2.2.2.2.2.2.2.2.2.1, (h2.2.2.2.2.2.2.2.2.2.2.2.2.2.2.2.2.2.2.2.2.2.2.2.2.2.2.2.2.2.2.2.2.2.2.2.2.2.2.2.2.2.2.2.2.2.2.2.2.2.2.2.2.2.2.2.2.2.2.1).trans h1.2.2.2.2.2.2.2.2.2.2.2.2.2.2.2.2.2.2.2.2.2.2.2.2.2.2.2.2.2.2.2.2.2.2.2.2.2.2.2.2.2.2.2.2.2.2.2.2.2.2.2.2.2.2.2.2.2.2.1, (h2.2.2.2.2.2.2.2.2.2.2.2.2.2.2.2.2.2.2.2.2.2.2.2.2.2.2.2.2.2.2.2.2.2.2.2.2.2.2.2.2.2.2.2.2.2.2.2.2.2.2.2.2.2.2.2.2.2.2.2.1).trans h1.2.2.2.2.2.2.2.2.2.2.2.2.2.2.2.2.2.2.2.2.2.2.2.2.2.2.2.2.2.2.2.2.2.2.2.2.2.2.2.2.2.2.2.2.2.2.2.2.2.2.2.2.2.2.2.2.2.2.2.1, (h2.2.2.2.2.2.2.2.2.2.2.2.2.2.2.2.2.2.2.2.2.2.2.2.2.2.2.2.2.2.2.2.2.2.2.2.2.2.2.2.2.2.2.2.2.2.2.2.2.2.2.2.2.2.2.2.2.2.2.2.2.1).trans h1.2.2.2.2.2.2.2.2.2.2.2.2.2.2.2.2.2.2.2.2.2.2.2.2.2.2.2.2.2.2.2.2.2.2.2.2.2.2.2.2.2.2.2.2.2.2.2.2.2.2.2.2.2.2.2.2.2.2.2.2.1, (h2.2.2.2.2.2.2.2.2.2.2.2.2.2.2.2.2.2.2.2.2.2.2.2.2.2.2.2.2.2.2.2.2.2.2.2.2.2.2.2.2.2.2.2.2.2.2.2.2.2.2.2.2.2.2.2.2.2.2.2.2.2.1).trans h1.2.2.2.2.2.2.2.2.2.2.2.2.2.2.2.2.2.2.2.2.2.2.2.2.2.2.2.2.2.2.2.2.2.2.2.2.2.2.2.2.2.2.2.2.2.2.2.2.2.2.2.2.2.2.2.2.2.2.2.2.2.1, (h2.2.2.2.2.2.2.2.2.2.2.2.2.2.2.2.2.2.2.2.2.2.2.2.2.2.2.2.2.2.2.2.2.2.2.2.2.2.2.2.2.2.2.2.2.2.2.2.2.2.2.2.2.2.2.2.2.2.2.2.2.2.2).trans h1.2.2.2.2.2.2.2.2.2.2.2.2.2.2.2.2.2.2.2.2.2.2.2.2.2.2.2.2.2.2.2.2.2.2.2.2.2.2.2.2.2.2.2.2.2.2.2.2.2.2.2.2.2.2.2.2.2.2.2.2.2.2⟩
theorem dX11_feed_0 : decode cX11_feed 0 = .ok (.aload_n 0, 1) := by decide +kernel
theorem dX11_feed_1 : decode cX11_feed 1 = .ok (.getfield 252, 3) := by decide +kernel
theorem dX11_feed_4 : decode cX11_feed 4 = .ok (.bipush 20, 2) := by decide +kernel
theorem dX11_feed_6 : decode cX11_feed 6 = .ok (.iadd, 1) := by decide +kernel
theorem dX11_feed_7 : decode cX11_feed 7 = .ok (.sipush 1600, 3) := by decide +kernel
theorem dX11_feed_10 : decode cX11_feed 10 = .ok (.if_icmp .le 5, 3) := by decide +kernel
theorem dX11_feed_13 : decode cX11_feed 13 = .ok (.iconst (-1), 1) := by decide +kernel
theorem dX11_feed_14 : decode cX11_feed 14 = .ok (.ireturn, 1) := by decide +kernel
theorem dX11_feed_15 : decode cX11_feed 15 = .ok (.iconst 0, 1) := by decide +kernel
theorem dX11_feed_16 : decode cX11_feed 16 = .ok (.istore 6, 2) := by decide +kernel
theorem dX11_feed_18 : decode cX11_feed 18 = .ok (.iload 6, 2) := by decide +kernel
theorem dX11_feed_20 : decode cX11_feed 20 = .ok (.bipush 20, 2) := by decide +kernel
theorem dX11_feed_22 : decode cX11_feed 22 = .ok (.if_icmp .ge 83, 3) := by decide +kernel
theorem dX11_feed_25 : decode cX11_feed 25 = .ok (.iload 6, 2) := by decide +kernel
theorem dX11_feed_27 : decode cX11_feed 27 = .ok (.iconst 4, 1) := by decide +kernel
theorem dX11_feed_28 : decode cX11_feed 28 = .ok (.if_icmp .ge 7, 3) := by decide +kernel
theorem dX11_feed_31 : decode cX11_feed 31 = .ok (.iload_n 1, 1) := by decide +kernel
theorem dX11_feed_32 : decode cX11_feed 32 = .ok (.goto 39, 3) := by decide +kernel
theorem dX11_feed_35 : decode cX11_feed 35 = .ok (.iload 6, 2) := by decide +kernel
theorem dX11_feed_37 : decode cX11_feed 37 = .ok (.bipush 8, 2) := by decide +kernel
theorem dX11_feed_39 : decode cX11_feed 39 = .ok (.if_icmp .ge 7, 3) := by decide +kernel
theorem dX11_feed_42 : decode cX11_feed 42 = .ok (.iload_n 2, 1) := by decide +kernel
theorem dX11_feed_43 : decode cX11_feed 43 = .ok (.goto 28, 3) := by decide +kernel
theorem dX11_feed_46 : decode cX11_feed 46 = .ok (.iload 6, 2) := by decide +kernel
theorem dX11_feed_48 : decode cX11_feed 48 = .ok (.bipush 12, 2) := by decide +kernel
theorem dX11_feed_50 : decode cX11_feed 50 = .ok (.if_icmp .ge 7, 3) := by decide +kernel
theorem dX11_feed_53 : decode cX11_feed 53 = .ok (.iload_n 3, 1) := by decide +kernel
theorem dX11_feed_54 : decode cX11_feed 54 = .ok (.goto 17, 3) := by decide +kernel
theorem dX11_feed_57 : decode cX11_feed 57 = .ok (.iload 6, 2) := by decide +kernel
theorem dX11_feed_59 : decode cX11_feed 59 = .ok (.bipush 16, 2) := by decide +kernel
theorem dX11_feed_61 : decode cX11_feed 61 = .ok (.if_icmp .ge 8, 3) := by decide +kernel
theorem dX11_feed_64 : decode cX11_feed 64 = .ok (.iload 4, 2) := by decide +kernel
theorem dX11_feed_66 : decode cX11_feed 66 = .ok (.goto 5, 3) := by decide +kernel
theorem dX11_feed_69 : decode cX11_feed 69 = .ok (.iload 5, 2) := by decide +kernel
theorem dX11_feed_71 : decode cX11_feed 71 = .ok (.istore 7, 2) := by decide +kernel
theorem dX11_feed_73 : decode cX11_feed 73 = .ok (.aload_n 0, 1) := by decide +kernel
theorem dX11_feed_74 : decode cX11_feed 74 = .ok (.getfield 7, 3) := by decide +kernel
theorem dX11_feed_77 : decode cX11_feed 77 = .ok (.aload_n 0, 1) := by decide +kernel
theorem dX11_feed_78 : decode cX11_feed 78 = .ok (.getfield 252, 3) := by decide +kernel
theorem dX11_feed_81 : decode cX11_feed 81 = .ok (.iload 6, 2) := by decide +kernel
theorem dX11_feed_83 : decode cX11_feed 83 = .ok (.iadd, 1) := by decide +kernel
theorem dX11_feed_84 : decode cX11_feed 84 = .ok (.iload 7, 2) := by decide +kernel
theorem dX11_feed_86 : decode cX11_feed 86 = .ok (.bipush 24, 2) := by decide +kernel
theorem dX11_feed_88 : decode cX11_feed 88 = .ok (.bipush 8, 2) := by decide +kernel
theorem dX11_feed_90 : decode cX11_feed 90 = .ok (.iload 6, 2) := by decide +kernel
theorem dX11_feed_92 : decode cX11_feed 92 = .ok (.iconst 3, 1) := by decide +kernel
theorem dX11_feed_93 : decode cX11_feed 93 = .ok (.iand, 1) := by decide +kernel
theorem dX11_feed_94 : decode cX11_feed 94 = .ok (.imul, 1) := by decide +kernel
theorem dX11_feed_95 : decode cX11_feed 95 = .ok (.isub, 1) := by decide +kernel
theorem dX11_feed_96 : decode cX11_feed 96 = .ok (.ishr, 1) := by decide +kernel
theorem dX11_feed_97 : decode cX11_feed 97 = .ok (.i2b, 1) := by decide +kernel
theorem dX11_feed_98 : decode cX11_feed 98 = .ok (.bastore, 1) := by decide +kernel
theorem dX11_feed_99 : decode cX11_feed 99 = .ok (.iinc 6 1, 3) := by decide +kernel
theorem dX11_feed_102 : decode cX11_feed 102 = .ok (.goto (-84), 3) := by decide +kernel
theorem dX11_feed_105 : decode cX11_feed 105 = .ok (.aload_n 0, 1) := by decide +kernel
theorem dX11_feed_106 : decode cX11_feed 106 = .ok (.dup, 1) := by decide +kernel
theorem dX11_feed_107 : decode cX11_feed 107 = .ok (.getfield 252, 3) := by decide +kernel
theorem dX11_feed_110 : decode cX11_feed 110 = .ok (.bipush 20, 2) := by decide +kernel
theorem dX11_feed_112 : decode cX11_feed 112 = .ok (.iadd, 1) := by decide +kernel
theorem dX11_feed_113 : decode cX11_feed 113 = .ok (.putfield 252, 3) := by decide +kernel
theorem dX11_feed_116 : decode cX11_feed 116 = .ok (.aload_n 0, 1) := by decide +kernel
theorem dX11_feed_117 : decode cX11_feed 117 = .ok (.getfield 252, 3) := by decide +kernel
theorem dX11_feed_120 : decode cX11_feed 120 = .ok (.ireturn, 1) := by decide +kernel
theorem wd_2031 : (Cond.code ⟨"WebCourtModel", "feed", "(IIIII)I"⟩ prog_13_method_123_code (8 : Nat) (Option.some FieldType.int)) ∈ gtb := gtb_c9 2 (by decide +kernel) rfl
theorem pf_RX11_252 {p : Program} {l : Launch} {e : Env} {R : Room} {s : State} {m : MethodId} {args : Array Value} {below : List Frame} {meth : Method} {c : Code} {H : Heap} {locs : List Loc} {cells slots : Nat} {Q : State → Prop} {cc : ByteArray} {pc nL : Nat} {ls : Array Slot} {rest : List Value} {D : va_G} {cy : Nat → ClassId} {A : Nat → Prop} {ws : va_W} {b : Nat} {fs : List Value} {v : Int32} {ws' : va_W} (C : Cx p s m args c cc nL RX11 D cy A) (hO : Wo D A ws s.heap H locs) (q0 : Nat) (he : ws[q0]? = some (b, .inr (11, fs))) (hlen : 2 < fs.length) (hw : ws.set q0 (b, .inr (11, fs.set 2 (.int v))) = ws') (hdg : decode cc pc = .ok (.putfield 252, 3)) (kk : ∀ (H : Heap) (locs : List Loc), Wo D A ws' s.heap H locs → W p l e R s m args below meth c H locs cells slots Q (F0 m (pc + 3) ls rest)) : W p l e R s m args below meth c H locs cells slots Q (F0 m pc ls (.int v :: .ref b :: rest)) := pF (k := 2) (ty := .int) C hO q0 he rfl inFX11 (by decide) wd_1358 rfl tyX11 tyX11_ok nmX11 rfl (by decide +kernel) rfl rfl hlen hw hdg kk
theorem Km17_wI2 {u v : St} {x : Int32} (h : Km17 u v) : Km17 u (sI v 0 2 x) := ⟨h.1, h.2.1, h.2.2.1, h.2.2.2.1, h.2.2.2.2.1, h.2.2.2.2.2.1, h.2.2.2.2.2.2.1, h.2.2.2.2.2.2.2.1, h.2.2.2.2.2.2.2.2.1, h.2.2.2.2.2.2.2.2.2.1, h.2.2.2.2.2.2.2.2.2.2.1, h.2.2.2.2.2.2.2.2.2.2.2.1, h.2.2.2.2.2.2.2.2.2.2.2.2.1, h.2.2.2.2.2.2.2.2.2.2.2.2.2.1, h.2.2.2.2.2.2.2.2.2.2.2.2.2.2.1, h.2.2.2.2.2.2.2.2.2.2.2.2.2.2.2.1, h.2.2.2.2.2.2.2.2.2.2.2.2.2.2.2.2.1, h.2.2.2.2.2.2.2.2.2.2.2.2.2.2.2.2.2.1, h.2.2.2.2.2.2.2.2.2.2.2.2.2.2.2.2.2.2.1, h.2.2.2.2.2.2.2.2.2.2.2.2.2.2.2.2.2.2.2.1, h.2.2.2.2.2.2.2.2.2.2.2.2.2.2.2.2.2.2.2.2.1, h.2.2.2.2.2.2.2.2.2.2.2.2.2.2.2.2.2.2.2.2.2.1, h.2.2.2.2.2.2.2.2.2.2.2.2.2.2.2.2.2.2.2.2.2.2.1, h.2.2.2.2.2.2.2.2.2.2.2.2.2.2.2.2.2.2.2.2.2.2.2.1, h.2.2.2.2.2.2.2.2.2.2.2.2.2.2.2.2.2.2.2.2.2.2.2.2.1, h.2.2.2.2.2.2.2.2.2.2.2.2.2.2.2.2.2.2.2.2.2.2.2.2.2.1, h.2.2.2.2.2.2.2.2.2.2.2.2.2.2.2.2.2.2.2.2.2.2.2.2.2.2.1, h.2.2.2.2.2.2.2.2.2.2.2.2.2.2.2.2.2.2.2.2.2.2.2.2.2.2.2.1, h.2.2.2.2.2.2.2.2.2.2.2.2.2.2.2.2.2.2.2.2.2.2.2.2.2.2.2.2.1, h.2.2.2.2.2.2.2.2.2.2.2.2.2.2.2.2.2.2.2.2.2.2.2.2.2.2.2.2.2.1, h.2.2.2.2.2.2.2.2.2.2.2.2.2.2.2.2.2.2.2.2.2.2.2.2.2.2.2.2.2.2.1, h.2.2.2.2.2.2.2.2.2.2.2.2.2.2.2.2.2.2.2.2.2.2.2.2.2.2.2.2.2.2.2.1, h.2.2.2.2.2.2.2.2.2.2.2.2.2.2.2.2.2.2.2.2.2.2.2.2.2.2.2.2.2.2.2.2.1, h.2.2.2.2.2.2.2.2.2.2.2.2.2.2.2.2.2.2.2.2.2.2.2.2.2.2.2.2.2.2.2.2.2.1, h.2.2.2.2.2.2.2.2.2.2.2.2.2.2.2.2.2.2.2.2.2.2.2.2.2.2.2.2.2.2.2.2.2.2.1, h.2.2.2.2.2.2.2.2.2.2.2.2.2.2.2.2.2.2.2.2.2.2.2.2.2.2.2.2.2.2.2.2.2.2.2.1, h.2.2.2.2.2.2.2.2.2.2.2.2.2.2.2.2.2.2.2.2.2.2.2.2.2.2.2.2.2.2.2.2.2.2.2.2.1, h.2.2.2.2.2.2.2.2.2.2.2.2.2.2.2.2.2.2.2.2.2.2.2.2.2.2.2.2.2.2.2.2.2.2.2.2.2.1, h.2.2.2.2.2.2.2.2.2.2.2.2.2.2.2.2.2.2.2.2.2.2.2.2.2.2.2.2.2.2.2.2.2.2.2.2.2.2.1, h.2.2.2.2.2.2.2.2.2.2.2.2.2.2.2.2.2.2.2.2.2.2.2.2.2.2.2.2.2.2.2.2.2.2.2.2.2.2.2.1, h.2.2.2.2.2.2.2.2.2.2.2.2.2.2.2.2.2.2.2.2.2.2.2.2.2.2.2.2.2.2.2.2.2.2.2.2.2.2.2.2.1, h.2.2.2.2.2.2.2.2.2.2.2.2.2.2.2.2.2.2.2.2.2.2.2.2.2.2.2.2.2.2.2.2.2.2.2.2.2.2.2.2.2.1, h.2.2.2.2.2.2.2.2.2.2.2.2.2.2.2.2.2.2.2.2.2.2.2.2.2.2.2.2.2.2.2.2.2.2.2.2.2.2.2.2.2.2.1, h.2.2.2.2.2.2.2.2.2.2.2.2.2.2.2.2.2.2.2.2.2.2.2.2.2.2.2.2.2.2.2.2.2.2.2.2.2.2.2.2.2.2.2.1, h.2.2.2.2.2.2.2.2.2.2.2.2.2.2.2.2.2.2.2.2.2.2.2.2.2.2.2.2.2.2.2.2.2.2.2.2.2.2.2.2.2.2.2.2.1, h.2.2.2.2.2.2.2.2.2.2.2.2.2.2.2.2.2.2.2.2.2.2.2.2.2.2.2.2.2.2.2.2.2.2.2.2.2.2.2.2.2.2.2.2.2.1, h.2.2.2.2.2.2.2.2.2.2.2.2.2.2.2.2.2.2.2.2.2.2.2.2.2.2.2.2.2.2.2.2.2.2.2.2.2.2.2.2.2.2.2.2.2.2.1, h.2.2.2.2.2.2.2.2.2.2.2.2.2.2.2.2.2.2.2.2.2.2.2.2.2.2.2.2.2.2.2.2.2.2.2.2.2.2.2.2.2.2.2.2.2.2.2.1, h.2.2.2.2.2.2.2.2.2.2.2.2.2.2.2.2.2.2.2.2.2.2.2.2.2.2.2.2.2.2.2.2.2.2.2.2.2.2.2.2.2.2.2.2.2.2.2.2.1, h.2.2.2.2.2.2.2.2.2.2.2.2.2.2.2.2.2.2.2.2.2.2.2.2.2.2.2.2.2.2.2.2.2.2.2.2.2.2.2.2.2.2.2.2.2.2.2.2.2.1, h.2.2.2.2.2.2.2.2.2.2.2.2.2.2.2.2.2.2.2.2.2.2.2.2.2.2.2.2.2.2.2.2.2.2.2.2.2.2.2.2.2.2.2.2.2.2.2.2.2.2.1, h.2.2.2.2.2.2.2.2.2.2.2.2.2.2.2.2.2.2.2.2.2.2.2.2.2.2.2.2.2.2.2.2.2.2.2.2.2.2.2.2.2.2.2.2.2.2.2.2.2.2.2.1, h.2.2.2.2.2.2.2.2.2.2.2.2.2.2.2.2.2.2.2.2.2.2.2.2.2.2.2.2.2.2.2.2.2.2.2.2.2.2.2.2.2.2.2.2.2.2.2.2.2.2.2.2.1, h.2.2.2.2.2.2.2.2.2.2.2.2.2.2.2.2.2.2.2.2.2.2.2.2.2.2.2.2.2.2.2.2.2.2.2.2.2.2.2.2.2.2.2.2.2.2.2.2.2.2.2.2.2.1, h.2.2.2.2.2.2.2.2.2.2.2.2.2.2.2.2.2.2.2.2.2.2.2.2.2.2.2.2.2.2.2.2.2.2.2.2.2.2.2.2.2.2.2.2.2.2.2.2.2.2.2.2.2.2.1, h.2.2.2.2.2.2.2.2.2.2.2.2.2.2.2.2.2.2.2.2.2.2.2.2.2.2.2.2.2.2.2.2.2.2.2.2.2.2.2.2.2.2.2.2.2.2.2.2.2.2.2.2.2.2.2.1, h.2.2.2.2.2.2.2.2.2.2.2.2.2.2.2.2.2.2.2.2.2.2.2.2.2.2.2.2.2.2.2.2.2.2.2.2.2.2.2.2.2.2.2.2.2.2.2.2.2.2.2.2.2.2.2.2.1, h.2.2.2.2.2.2.2.2.2.2.2.2.2.2.2.2.2.2.2.2.2.2.2.2.2.2.2.2.2.2.2.2.2.2.2.2.2.2.2.2.2.2.2.2.2.2.2.2.2.2.2.2.2.2.2.2.2.1, h.2.2.2.2.2.2.2.2.2.2.2.2.2.2.2.2.2.2.2.2.2.2.2.2.2.2.2.2.2.2.2.2.2.2.2.2.2.2.2.2.2.2.2.2.2.2.2.2.2.2.2.2.2.2.2.2.2.2.1, h.2.2.2.2.2.2.2.2.2.2.2.2.2.2.2.2.2.2.2.2.2.2.2.2.2.2.2.2.2.2.2.2.2.2.2.2.2.2.2.2.2.2.2.2.2.2.2.2.2.2.2.2.2.2.2.2.2.2.2.1, h.2.2.2.2.2.2.2.2.2.2.2.2.2.2.2.2.2.2.2.2.2.2.2.2.2.2.2.2.2.2.2.2.2.2.2.2.2.2.2.2.2.2.2.2.2.2.2.2.2.2.2.2.2.2.2.2.2.2.2.2.1, h.2.2.2.2.2.2.2.2.2.2.2.2.2.2.2.2.2.2.2.2.2.2.2.2.2.2.2.2.2.2.2.2.2.2.2.2.2.2.2.2.2.2.2.2.2.2.2.2.2.2.2.2.2.2.2.2.2.2.2.2.2.1, h.2.2.2.2.2.2.2.2.2.2.2.2.2.2.2.2.2.2.2.2.2.2.2.2.2.2.2.2.2.2.2.2.2.2.2.2.2.2.2.2.2.2.2.2.2.2.2.2.2.2.2.2.2.2.2.2.2.2.2.2.2.2⟩
theorem wd_1356 : (Cond.fieldLink "WebCourtModel" (7 : Nat) "WebCourtModel" "tape" "[B") ∈ gtb := gtb_c6 47 (by decide +kernel) rfl
theorem gf_RX11_7 {p : Program} {l : Launch} {e : Env} {R : Room} {s : State} {m : MethodId} {args : Array Value} {below : List Frame} {meth : Method} {c : Code} {H : Heap} {locs : List Loc} {cells slots : Nat} {Q : State → Prop} {cc : ByteArray} {pc nL : Nat} {ls : Array Slot} {rest : List Value} {D : va_G} {cy : Nat → ClassId} {A : Nat → Prop} {ws : va_W} {b : Nat} {fs : List Value} {v : Value} (C : Cx p s m args c cc nL RX11 D cy A) (hO : Wo D A ws s.heap H locs) (q0 : Nat) (he : ws[q0]? = some (b, .inr (11, fs))) (hv : fs[0]? = some v) (hdg : decode cc pc = .ok (.getfield 7, 3)) (kk : W p l e R s m args below meth c H locs cells slots Q (F0 m (pc + 3) ls (v :: rest))) : W p l e R s m args below meth c H locs cells slots Q (F0 m pc ls (.ref b :: rest)) := gF (k := 0) C hO q0 he rfl inFX11 (by decide) wd_1356 rfl hv hdg kk
theorem Km17_wA1 {u v : St} {D : va_G} {A : Nat → Prop} {cy : Nat → ClassId} {a : Nat → Nat} {hp H : Heap} {locs : List Loc} {f : Nat → Int32} (_ : Wo D A (mW cy a (sA v 1 f)) hp H locs) (h : Km17 u v) : Km17 u (sA v 1 f) := ⟨h.1, h.2.1, h.2.2.1, h.2.2.2.1, h.2.2.2.2.1, h.2.2.2.2.2.1, h.2.2.2.2.2.2.1, h.2.2.2.2.2.2.2.1, h.2.2.2.2.2.2.2.2.1, h.2.2.2.2.2.2.2.2.2.1, h.2.2.2.2.2.2.2.2.2.2.1, h.2.2.2.2.2.2.2.2.2.2.2.1, h.2.2.2.2.2.2.2.2.2.2.2.2.1, h.2.2.2.2.2.2.2.2.2.2.2.2.2.1, h.2.2.2.2.2.2.2.2.2.2.2.2.2.2.1, h.2.2.2.2.2.2.2.2.2.2.2.2.2.2.2.1, h.2.2.2.2.2.2.2.2.2.2.2.2.2.2.2.2.1, h.2.2.2.2.2.2.2.2.2.2.2.2.2.2.2.2.2.1, h.2.2.2.2.2.2.2.2.2.2.2.2.2.2.2.2.2.2.1, h.2.2.2.2.2.2.2.2.2.2.2.2.2.2.2.2.2.2.2.1, h.2.2.2.2.2.2.2.2.2.2.2.2.2.2.2.2.2.2.2.2.1, h.2.2.2.2.2.2.2.2.2.2.2.2.2.2.2.2.2.2.2.2.2.1, h.2.2.2.2.2.2.2.2.2.2.2.2.2.2.2.2.2.2.2.2.2.2.1, h.2.2.2.2.2.2.2.2.2.2.2.2.2.2.2.2.2.2.2.2.2.2.2.1, h.2.2.2.2.2.2.2.2.2.2.2.2.2.2.2.2.2.2.2.2.2.2.2.2.1, h.2.2.2.2.2.2.2.2.2.2.2.2.2.2.2.2.2.2.2.2.2.2.2.2.2.1, h.2.2.2.2.2.2.2.2.2.2.2.2.2.2.2.2.2.2.2.2.2.2.2.2.2.2.1, h.2.2.2.2.2.2.2.2.2.2.2.2.2.2.2.2.2.2.2.2.2.2.2.2.2.2.2.1, h.2.2.2.2.2.2.2.2.2.2.2.2.2.2.2.2.2.2.2.2.2.2.2.2.2.2.2.2.1, h.2.2.2.2.2.2.2.2.2.2.2.2.2.2.2.2.2.2.2.2.2.2.2.2.2.2.2.2.2.1, h.2.2.2.2.2.2.2.2.2.2.2.2.2.2.2.2.2.2.2.2.2.2.2.2.2.2.2.2.2.2.1, h.2.2.2.2.2.2.2.2.2.2.2.2.2.2.2.2.2.2.2.2.2.2.2.2.2.2.2.2.2.2.2.1, h.2.2.2.2.2.2.2.2.2.2.2.2.2.2.2.2.2.2.2.2.2.2.2.2.2.2.2.2.2.2.2.2.1, h.2.2.2.2.2.2.2.2.2.2.2.2.2.2.2.2.2.2.2.2.2.2.2.2.2.2.2.2.2.2.2.2.2.1, h.2.2.2.2.2.2.2.2.2.2.2.2.2.2.2.2.2.2.2.2.2.2.2.2.2.2.2.2.2.2.2.2.2.2.1, h.2.2.2.2.2.2.2.2.2.2.2.2.2.2.2.2.2.2.2.2.2.2.2.2.2.2.2.2.2.2.2.2.2.2.2.1, h.2.2.2.2.2.2.2.2.2.2.2.2.2.2.2.2.2.2.2.2.2.2.2.2.2.2.2.2.2.2.2.2.2.2.2.2.1, h.2.2.2.2.2.2.2.2.2.2.2.2.2.2.2.2.2.2.2.2.2.2.2.2.2.2.2.2.2.2.2.2.2.2.2.2.2.1, h.2.2.2.2.2.2.2.2.2.2.2.2.2.2.2.2.2.2.2.2.2.2.2.2.2.2.2.2.2.2.2.2.2.2.2.2.2.2.1, h.2.2.2.2.2.2.2.2.2.2.2.2.2.2.2.2.2.2.2.2.2.2.2.2.2.2.2.2.2.2.2.2.2.2.2.2.2.2.2.1, h.2.2.2.2.2.2.2.2.2.2.2.2.2.2.2.2.2.2.2.2.2.2.2.2.2.2.2.2.2.2.2.2.2.2.2.2.2.2.2.2.1, h.2.2.2.2.2.2.2.2.2.2.2.2.2.2.2.2.2.2.2.2.2.2.2.2.2.2.2.2.2.2.2.2.2.2.2.2.2.2.2.2.2.1, h.2.2.2.2.2.2.2.2.2.2.2.2.2.2.2.2.2.2.2.2.2.2.2.2.2.2.2.2.2.2.2.2.2.2.2.2.2.2.2.2.2.2.1, h.2.2.2.2.2.2.2.2.2.2.2.2.2.2.2.2.2.2.2.2.2.2.2.2.2.2.2.2.2.2.2.2.2.2.2.2.2.2.2.2.2.2.2.1, h.2.2.2.2.2.2.2.2.2.2.2.2.2.2.2.2.2.2.2.2.2.2.2.2.2.2.2.2.2.2.2.2.2.2.2.2.2.2.2.2.2.2.2.2.1, h.2.2.2.2.2.2.2.2.2.2.2.2.2.2.2.2.2.2.2.2.2.2.2.2.2.2.2.2.2.2.2.2.2.2.2.2.2.2.2.2.2.2.2.2.2.1, h.2.2.2.2.2.2.2.2.2.2.2.2.2.2.2.2.2.2.2.2.2.2.2.2.2.2.2.2.2.2.2.2.2.2.2.2.2.2.2.2.2.2.2.2.2.2.1, h.2.2.2.2.2.2.2.2.2.2.2.2.2.2.2.2.2.2.2.2.2.2.2.2.2.2.2.2.2.2.2.2.2.2.2.2.2.2.2.2.2.2.2.2.2.2.2.1, h.2.2.2.2.2.2.2.2.2.2.2.2.2.2.2.2.2.2.2.2.2.2.2.2.2.2.2.2.2.2.2.2.2.2.2.2.2.2.2.2.2.2.2.2.2.2.2.2.1, h.2.2.2.2.2.2.2.2.2.2.2.2.2.2.2.2.2.2.2.2.2.2.2.2.2.2.2.2.2.2.2.2.2.2.2.2.2.2.2.2.2.2.2.2.2.2.2.2.2.1, h.2.2.2.2.2.2.2.2.2.2.2.2.2.2.2.2.2.2.2.2.2.2.2.2.2.2.2.2.2.2.2.2.2.2.2.2.2.2.2.2.2.2.2.2.2.2.2.2.2.2.1, h.2.2.2.2.2.2.2.2.2.2.2.2.2.2.2.2.2.2.2.2.2.2.2.2.2.2.2.2.2.2.2.2.2.2.2.2.2.2.2.2.2.2.2.2.2.2.2.2.2.2.2.1, h.2.2.2.2.2.2.2.2.2.2.2.2.2.2.2.2.2.2.2.2.2.2.2.2.2.2.2.2.2.2.2.2.2.2.2.2.2.2.2.2.2.2.2.2.2.2.2.2.2.2.2.2.1, h.2.2.2.2.2.2.2.2.2.2.2.2.2.2.2.2.2.2.2.2.2.2.2.2.2.2.2.2.2.2.2.2.2.2.2.2.2.2.2.2.2.2.2.2.2.2.2.2.2.2.2.2.2.1, h.2.2.2.2.2.2.2.2.2.2.2.2.2.2.2.2.2.2.2.2.2.2.2.2.2.2.2.2.2.2.2.2.2.2.2.2.2.2.2.2.2.2.2.2.2.2.2.2.2.2.2.2.2.2.1, h.2.2.2.2.2.2.2.2.2.2.2.2.2.2.2.2.2.2.2.2.2.2.2.2.2.2.2.2.2.2.2.2.2.2.2.2.2.2.2.2.2.2.2.2.2.2.2.2.2.2.2.2.2.2.2.1, h.2.2.2.2.2.2.2.2.2.2.2.2.2.2.2.2.2.2.2.2.2.2.2.2.2.2.2.2.2.2.2.2.2.2.2.2.2.2.2.2.2.2.2.2.2.2.2.2.2.2.2.2.2.2.2.2.1, h.2.2.2.2.2.2.2.2.2.2.2.2.2.2.2.2.2.2.2.2.2.2.2.2.2.2.2.2.2.2.2.2.2.2.2.2.2.2.2.2.2.2.2.2.2.2.2.2.2.2.2.2.2.2.2.2.2.1, h.2.2.2.2.2.2.2.2.2.2.2.2.2.2.2.2.2.2.2.2.2.2.2.2.2.2.2.2.2.2.2.2.2.2.2.2.2.2.2.2.2.2.2.2.2.2.2.2.2.2.2.2.2.2.2.2.2.2.1, h.2.2.2.2.2.2.2.2.2.2.2.2.2.2.2.2.2.2.2.2.2.2.2.2.2.2.2.2.2.2.2.2.2.2.2.2.2.2.2.2.2.2.2.2.2.2.2.2.2.2.2.2.2.2.2.2.2.2.2.1, h.2.2.2.2.2.2.2.2.2.2.2.2.2.2.2.2.2.2.2.2.2.2.2.2.2.2.2.2.2.2.2.2.2.2.2.2.2.2.2.2.2.2.2.2.2.2.2.2.2.2.2.2.2.2.2.2.2.2.2.2.1, h.2.2.2.2.2.2.2.2.2.2.2.2.2.2.2.2.2.2.2.2.2.2.2.2.2.2.2.2.2.2.2.2.2.2.2.2.2.2.2.2.2.2.2.2.2.2.2.2.2.2.2.2.2.2.2.2.2.2.2.2.2.1, h.2.2.2.2.2.2.2.2.2.2.2.2.2.2.2.2.2.2.2.2.2.2.2.2.2.2.2.2.2.2.2.2.2.2.2.2.2.2.2.2.2.2.2.2.2.2.2.2.2.2.2.2.2.2.2.2.2.2.2.2.2.2⟩
set_option maxHeartbeats 4000000 in
set_option maxRecDepth 100000 in
theorem T_X11_feed (l : Launch) (D : va_G) (cy : Nat → ClassId) (a : Nat → Nat) (u : St) (hJ : MI a u) (x1 : Int32) (x2 : Int32) (x3 : Int32) (x4 : Int32) (x5 : Int32)  : Mi l D cy (mW cy a) yX11_feed (.code yX11_feed cX11_feed 8 (some .int)) (rmo 0 0) [.ref (a 0), .int x1, .int x2, .int x3, .int x4, .int x5] u (fun (r : Int32) (u' : St) => (MI a u') ∧ (Km17 u u')) := by
  refine Mi.of (own := RX11) rfl (by decide) (Nat.le_of_ble_eq_true rfl) ?_
  have hT : Km17 u u := Km17.rf
  have hJ0 := hJ
  intro p e s m below meth c A Q ls C hret hO hl
  obtain ⟨hx, hb, hml, hown, ht, hK, hA⟩ := id C
  have hl : lv_has ls 8 [(0, .ref (a 0)), (1, .int x1), (2, .int x2), (3, .int x3), (4, .int x4), (5, .int x5)] := hl
  refine lv_aload_n hx hb dX11_feed_0 rfl (lv_at hl 0 rfl) ?_
  have g1 : 0 ≤ (fI u 0 2).toInt ∧ (fI u 0 2).toInt ≤ 1600 := by have h := MI_2 hJ0; exact h
  refine gf_RX11_252 (v := .int (fI u 0 2)) C hO 0 mW_0 rfl dX11_feed_1 ?_
  refine lv_bipush (v := 20) hx hb dX11_feed_4 (by decide) ?_
  refine lv_iadd hx hb dX11_feed_6 ?_
  refine lv_topi (fun z2 ez2 => ?_)
  have e3 : z2.toInt = ((fI u 0 2)).toInt + 20 := by rw [ez2]; exact i_add rfl rfl (by omega)
  refine lv_sipush (v := 1600) hx hb dX11_feed_7 (by decide) ?_
  refine cs_le (tgt := 15) (X := (((fI u 0 2)).toInt + 20)) (Y := 1600) hx hb dX11_feed_10 (by decide) e3 rfl (fun c4 => ?_) (fun c4 => ?_)
  · refine lv_iconst (v := 0) hx hb dX11_feed_15 (by decide) ?_
    refine lv_istore (lv' := [(6, .int 0), (0, .ref (a 0)), (1, .int x1), (2, .int x2), (3, .int x3), (4, .int x4), (5, .int x5)]) hx hb dX11_feed_16 hl (by decide) rfl (fun ls hl => ?_)
    have LP_18_k6 : ∀ (n : Nat) (u5 : St) (H : Heap) (locs : List Loc) (ls : Array Slot) (i_k6 : Int32), Wo D A (mW cy a u5) s.heap H locs → lv_has ls 8 [(6, .int i_k6), (0, .ref (a 0)), (1, .int x1), (2, .int x2), (3, .int x3), (4, .int x4), (5, .int x5)] → MI a u5 → Km17 u u5 → 0 ≤ i_k6.toInt ∧ i_k6.toInt ≤ 20 → (fI u5 0 2 = fI u 0 2) → 20 - i_k6.toInt < (n : Int) → W p l e (rmo 0 0) s m [.ref (a 0), .int x1, .int x2, .int x3, .int x4, .int x5].toArray below meth c H locs 0 0 Q (F0 m 18 ls []) := by
      intro n
      induction n with
      | zero =>
        intro u5 H locs ls i_k6 hO hl hJ hT iv0_k6 cv0_k6 hm_k6
        exact absurd hm_k6 (by omega)
      | succ n ih_k6 =>
        intro u5 H locs ls i_k6 hO hl hJ hT iv0_k6 cv0_k6 hm_k6
        have ck2_k6 := cv0_k6
        refine lv_iload hx hb dX11_feed_18 (lv_at hl 0 rfl) ?_
        refine lv_bipush (v := 20) hx hb dX11_feed_20 (by decide) ?_
        refine cs_ge (tgt := 105) (X := (i_k6).toInt) (Y := 20) hx hb dX11_feed_22 (by decide) rfl rfl (fun c7 => ?_) (fun c7 => ?_)
        · refine lv_aload_n hx hb dX11_feed_105 rfl (lv_at hl 1 rfl) ?_
          refine lv_dup hx hb dX11_feed_106 rfl ?_
          refine gf_RX11_252 (v := .int (fI u 0 2)) C hO 0 mW_0 (congrArg (fun z : Int32 => some (Value.int z)) ck2_k6) dX11_feed_107 ?_
          refine lv_bipush (v := 20) hx hb dX11_feed_110 (by decide) ?_
          refine lv_iadd hx hb dX11_feed_112 ?_
          refine lv_topi (fun z8 ez8 => ?_)
          have e9 : z8.toInt = ((fI u 0 2)).toInt + 20 := by rw [ez8]; exact i_add rfl rfl (by omega)
          refine pf_RX11_252 C hO 0 mW_0 (Nat.le_of_ble_eq_true rfl) mW_s0_2 dX11_feed_113 (fun H locs hO => ?_)
          have hT := Km17_wI2 (x := z8) hT
          have hJ := MIs_2 (v := z8) hJ (by first | decide | omega)
          refine lv_aload_n hx hb dX11_feed_116 rfl (lv_at hl 1 rfl) ?_
          refine gf_RX11_252 (v := .int z8) C hO 0 mW_0 rfl dX11_feed_117 ?_
          refine hret _ _ _ _ _ _ dX11_feed_120 rfl ?_ hO
          exact ⟨hJ, hT⟩
        · refine lv_iload hx hb dX11_feed_25 (lv_at hl 0 rfl) ?_
          refine lv_iconst (v := 4) hx hb dX11_feed_27 (by decide) ?_
          refine cs_ge (tgt := 35) (X := (i_k6).toInt) (Y := 4) hx hb dX11_feed_28 (by decide) rfl rfl (fun c10 => ?_) (fun c10 => ?_)
          · refine lv_iload hx hb dX11_feed_35 (lv_at hl 0 rfl) ?_
            refine lv_bipush (v := 8) hx hb dX11_feed_37 (by decide) ?_
            refine cs_ge (tgt := 46) (X := (i_k6).toInt) (Y := 8) hx hb dX11_feed_39 (by decide) rfl rfl (fun c11 => ?_) (fun c11 => ?_)
            · refine lv_iload hx hb dX11_feed_46 (lv_at hl 0 rfl) ?_
              refine lv_bipush (v := 12) hx hb dX11_feed_48 (by decide) ?_
              refine cs_ge (tgt := 57) (X := (i_k6).toInt) (Y := 12) hx hb dX11_feed_50 (by decide) rfl rfl (fun c12 => ?_) (fun c12 => ?_)
              · refine lv_iload hx hb dX11_feed_57 (lv_at hl 0 rfl) ?_
                refine lv_bipush (v := 16) hx hb dX11_feed_59 (by decide) ?_
                refine cs_ge (tgt := 69) (X := (i_k6).toInt) (Y := 16) hx hb dX11_feed_61 (by decide) rfl rfl (fun c13 => ?_) (fun c13 => ?_)
                · refine lv_iload hx hb dX11_feed_69 (lv_at hl 6 rfl) ?_
                  refine lv_istore (lv' := [(7, .int x5), (6, .int i_k6), (0, .ref (a 0)), (1, .int x1), (2, .int x2), (3, .int x3), (4, .int x4), (5, .int x5)]) hx hb dX11_feed_71 hl (by decide) rfl (fun ls hl => ?_)
                  refine lv_aload_n hx hb dX11_feed_73 rfl (lv_at hl 2 rfl) ?_
                  refine gf_RX11_7 (v := .ref (a 1)) C hO 0 mW_0 rfl dX11_feed_74 ?_
                  refine lv_aload_n hx hb dX11_feed_77 rfl (lv_at hl 2 rfl) ?_
                  refine gf_RX11_252 (v := .int (fI u 0 2)) C hO 0 mW_0 (congrArg (fun z : Int32 => some (Value.int z)) ck2_k6) dX11_feed_78 ?_
                  refine lv_iload hx hb dX11_feed_81 (lv_at hl 1 rfl) ?_
                  refine lv_iadd hx hb dX11_feed_83 ?_
                  refine lv_topi (fun z14 ez14 => ?_)
                  have e15 : z14.toInt = ((fI u 0 2)).toInt + (i_k6).toInt := by rw [ez14]; exact i_add rfl rfl (by omega)
                  refine lv_iload hx hb dX11_feed_84 (lv_at hl 0 rfl) ?_
                  refine lv_bipush (v := 24) hx hb dX11_feed_86 (by decide) ?_
                  refine lv_bipush (v := 8) hx hb dX11_feed_88 (by decide) ?_
                  refine lv_iload hx hb dX11_feed_90 (lv_at hl 1 rfl) ?_
                  refine lv_iconst (v := 3) hx hb dX11_feed_92 (by decide) ?_
                  refine lv_iand hx hb dX11_feed_93 ?_
                  refine lv_topi (fun z16 ez16 => ?_)
                  have g17 : 0 ≤ z16.toInt ∧ z16.toInt ≤ (i_k6).toInt := by rw [ez16]; exact i_andl rfl (by omega)
                  refine lv_imul hx hb dX11_feed_94 ?_
                  refine lv_topi (fun z18 ez18 => ?_)
                  have e19 : z18.toInt = 8 * (z16).toInt := by rw [ez18]; exact i_mul rfl rfl (by omega)
                  refine lv_isub hx hb dX11_feed_95 ?_
                  refine lv_topi (fun z20 ez20 => ?_)
                  have e21 : z20.toInt = 24 - (8 * (z16).toInt) := by rw [ez20]; exact i_sub rfl e19 (by omega)
                  refine lv_ishr hx hb dX11_feed_96 ?_
                  refine lv_topi (fun z22 ez22 => ?_)
                  refine lv_i2b hx hb dX11_feed_97 rfl ?_
                  refine lv_topi (fun z23 ez23 => ?_)
                  refine aBs C hO 1 mW_1 (i_in (X := (((fI u 0 2)).toInt + (i_k6).toInt)) e15 (by omega) (by omega)) mW_s1 dX11_feed_98 (fun H locs hO => ?_)
                  have hT := Km17_wA1 hO hT
                  have hJ := MIsA_1 hO hJ
                  obtain ⟨z24, ez24⟩ : ∃ z : Int32, z = i_k6 + Int32.ofInt 1 := ⟨_, rfl⟩
                  have e25 : z24.toInt = (i_k6).toInt + 1 := by rw [ez24]; exact i_add rfl rfl (by omega)
                  refine lv_iinc (v := z24) (lv' := [(6, .int z24), (7, .int x5), (0, .ref (a 0)), (1, .int x1), (2, .int x2), (3, .int x3), (4, .int x4), (5, .int x5)]) hx hb dX11_feed_99 hl (k := 1) rfl ez24.symm (by decide) rfl (fun ls hl => ?_)
                  refine lv_goto (tgt := 18) hx hb dX11_feed_102 (by decide) ?_
                  exact ih_k6 _ _ _ _ (z24) hO (lv_sub hl [0, 2, 3, 4, 5, 6, 7] rfl) (by exact hJ) (by exact hT) (by first | decide | omega) (by exact ck2_k6) (by first | decide | omega)
                · refine lv_iload hx hb dX11_feed_64 (lv_at hl 5 rfl) ?_
                  refine lv_goto (tgt := 71) hx hb dX11_feed_66 (by decide) ?_
                  refine lv_istore (lv' := [(7, .int x4), (6, .int i_k6), (0, .ref (a 0)), (1, .int x1), (2, .int x2), (3, .int x3), (4, .int x4), (5, .int x5)]) hx hb dX11_feed_71 hl (by decide) rfl (fun ls hl => ?_)
                  refine lv_aload_n hx hb dX11_feed_73 rfl (lv_at hl 2 rfl) ?_
                  refine gf_RX11_7 (v := .ref (a 1)) C hO 0 mW_0 rfl dX11_feed_74 ?_
                  refine lv_aload_n hx hb dX11_feed_77 rfl (lv_at hl 2 rfl) ?_
                  refine gf_RX11_252 (v := .int (fI u 0 2)) C hO 0 mW_0 (congrArg (fun z : Int32 => some (Value.int z)) ck2_k6) dX11_feed_78 ?_
                  refine lv_iload hx hb dX11_feed_81 (lv_at hl 1 rfl) ?_
                  refine lv_iadd hx hb dX11_feed_83 ?_
                  refine lv_topi (fun z26 ez26 => ?_)
                  have e27 : z26.toInt = ((fI u 0 2)).toInt + (i_k6).toInt := by rw [ez26]; exact i_add rfl rfl (by omega)
                  refine lv_iload hx hb dX11_feed_84 (lv_at hl 0 rfl) ?_
                  refine lv_bipush (v := 24) hx hb dX11_feed_86 (by decide) ?_
                  refine lv_bipush (v := 8) hx hb dX11_feed_88 (by decide) ?_
                  refine lv_iload hx hb dX11_feed_90 (lv_at hl 1 rfl) ?_
                  refine lv_iconst (v := 3) hx hb dX11_feed_92 (by decide) ?_
                  refine lv_iand hx hb dX11_feed_93 ?_
                  refine lv_topi (fun z28 ez28 => ?_)
                  have g29 : 0 ≤ z28.toInt ∧ z28.toInt ≤ (i_k6).toInt := by rw [ez28]; exact i_andl rfl (by omega)
                  refine lv_imul hx hb dX11_feed_94 ?_
                  refine lv_topi (fun z30 ez30 => ?_)
                  have e31 : z30.toInt = 8 * (z28).toInt := by rw [ez30]; exact i_mul rfl rfl (by omega)
                  refine lv_isub hx hb dX11_feed_95 ?_
                  refine lv_topi (fun z32 ez32 => ?_)
                  have e33 : z32.toInt = 24 - (8 * (z28).toInt) := by rw [ez32]; exact i_sub rfl e31 (by omega)
                  refine lv_ishr hx hb dX11_feed_96 ?_
                  refine lv_topi (fun z34 ez34 => ?_)
                  refine lv_i2b hx hb dX11_feed_97 rfl ?_
                  refine lv_topi (fun z35 ez35 => ?_)
                  refine aBs C hO 1 mW_1 (i_in (X := (((fI u 0 2)).toInt + (i_k6).toInt)) e27 (by omega) (by omega)) mW_s1 dX11_feed_98 (fun H locs hO => ?_)
                  have hT := Km17_wA1 hO hT
                  have hJ := MIsA_1 hO hJ
                  obtain ⟨z36, ez36⟩ : ∃ z : Int32, z = i_k6 + Int32.ofInt 1 := ⟨_, rfl⟩
                  have e37 : z36.toInt = (i_k6).toInt + 1 := by rw [ez36]; exact i_add rfl rfl (by omega)
                  refine lv_iinc (v := z36) (lv' := [(6, .int z36), (7, .int x4), (0, .ref (a 0)), (1, .int x1), (2, .int x2), (3, .int x3), (4, .int x4), (5, .int x5)]) hx hb dX11_feed_99 hl (k := 1) rfl ez36.symm (by decide) rfl (fun ls hl => ?_)
                  refine lv_goto (tgt := 18) hx hb dX11_feed_102 (by decide) ?_
                  exact ih_k6 _ _ _ _ (z36) hO (lv_sub hl [0, 2, 3, 4, 5, 6, 7] rfl) (by exact hJ) (by exact hT) (by first | decide | omega) (by exact ck2_k6) (by first | decide | omega)
              · refine lv_iload_n hx hb dX11_feed_53 rfl (lv_at hl 4 rfl) ?_
                refine lv_goto (tgt := 71) hx hb dX11_feed_54 (by decide) ?_
                refine lv_istore (lv' := [(7, .int x3), (6, .int i_k6), (0, .ref (a 0)), (1, .int x1), (2, .int x2), (3, .int x3), (4, .int x4), (5, .int x5)]) hx hb dX11_feed_71 hl (by decide) rfl (fun ls hl => ?_)
                refine lv_aload_n hx hb dX11_feed_73 rfl (lv_at hl 2 rfl) ?_
                refine gf_RX11_7 (v := .ref (a 1)) C hO 0 mW_0 rfl dX11_feed_74 ?_
                refine lv_aload_n hx hb dX11_feed_77 rfl (lv_at hl 2 rfl) ?_
                refine gf_RX11_252 (v := .int (fI u 0 2)) C hO 0 mW_0 (congrArg (fun z : Int32 => some (Value.int z)) ck2_k6) dX11_feed_78 ?_
                refine lv_iload hx hb dX11_feed_81 (lv_at hl 1 rfl) ?_
                refine lv_iadd hx hb dX11_feed_83 ?_
                refine lv_topi (fun z38 ez38 => ?_)
                have e39 : z38.toInt = ((fI u 0 2)).toInt + (i_k6).toInt := by rw [ez38]; exact i_add rfl rfl (by omega)
                refine lv_iload hx hb dX11_feed_84 (lv_at hl 0 rfl) ?_
                refine lv_bipush (v := 24) hx hb dX11_feed_86 (by decide) ?_
                refine lv_bipush (v := 8) hx hb dX11_feed_88 (by decide) ?_
                refine lv_iload hx hb dX11_feed_90 (lv_at hl 1 rfl) ?_
                refine lv_iconst (v := 3) hx hb dX11_feed_92 (by decide) ?_
                refine lv_iand hx hb dX11_feed_93 ?_
                refine lv_topi (fun z40 ez40 => ?_)
                have g41 : 0 ≤ z40.toInt ∧ z40.toInt ≤ (i_k6).toInt := by rw [ez40]; exact i_andl rfl (by omega)
                refine lv_imul hx hb dX11_feed_94 ?_
                refine lv_topi (fun z42 ez42 => ?_)
                have e43 : z42.toInt = 8 * (z40).toInt := by rw [ez42]; exact i_mul rfl rfl (by omega)
                refine lv_isub hx hb dX11_feed_95 ?_
                refine lv_topi (fun z44 ez44 => ?_)
                have e45 : z44.toInt = 24 - (8 * (z40).toInt) := by rw [ez44]; exact i_sub rfl e43 (by omega)
                refine lv_ishr hx hb dX11_feed_96 ?_
                refine lv_topi (fun z46 ez46 => ?_)
                refine lv_i2b hx hb dX11_feed_97 rfl ?_
                refine lv_topi (fun z47 ez47 => ?_)
                refine aBs C hO 1 mW_1 (i_in (X := (((fI u 0 2)).toInt + (i_k6).toInt)) e39 (by omega) (by omega)) mW_s1 dX11_feed_98 (fun H locs hO => ?_)
                have hT := Km17_wA1 hO hT
                have hJ := MIsA_1 hO hJ
                obtain ⟨z48, ez48⟩ : ∃ z : Int32, z = i_k6 + Int32.ofInt 1 := ⟨_, rfl⟩
                have e49 : z48.toInt = (i_k6).toInt + 1 := by rw [ez48]; exact i_add rfl rfl (by omega)
                refine lv_iinc (v := z48) (lv' := [(6, .int z48), (7, .int x3), (0, .ref (a 0)), (1, .int x1), (2, .int x2), (3, .int x3), (4, .int x4), (5, .int x5)]) hx hb dX11_feed_99 hl (k := 1) rfl ez48.symm (by decide) rfl (fun ls hl => ?_)
                refine lv_goto (tgt := 18) hx hb dX11_feed_102 (by decide) ?_
                exact ih_k6 _ _ _ _ (z48) hO (lv_sub hl [0, 2, 3, 4, 5, 6, 7] rfl) (by exact hJ) (by exact hT) (by first | decide | omega) (by exact ck2_k6) (by first | decide | omega)
            · refine lv_iload_n hx hb dX11_feed_42 rfl (lv_at hl 3 rfl) ?_
              refine lv_goto (tgt := 71) hx hb dX11_feed_43 (by decide) ?_
              refine lv_istore (lv' := [(7, .int x2), (6, .int i_k6), (0, .ref (a 0)), (1, .int x1), (2, .int x2), (3, .int x3), (4, .int x4), (5, .int x5)]) hx hb dX11_feed_71 hl (by decide) rfl (fun ls hl => ?_)
              refine lv_aload_n hx hb dX11_feed_73 rfl (lv_at hl 2 rfl) ?_
              refine gf_RX11_7 (v := .ref (a 1)) C hO 0 mW_0 rfl dX11_feed_74 ?_
              refine lv_aload_n hx hb dX11_feed_77 rfl (lv_at hl 2 rfl) ?_
              refine gf_RX11_252 (v := .int (fI u 0 2)) C hO 0 mW_0 (congrArg (fun z : Int32 => some (Value.int z)) ck2_k6) dX11_feed_78 ?_
              refine lv_iload hx hb dX11_feed_81 (lv_at hl 1 rfl) ?_
              refine lv_iadd hx hb dX11_feed_83 ?_
              refine lv_topi (fun z50 ez50 => ?_)
              have e51 : z50.toInt = ((fI u 0 2)).toInt + (i_k6).toInt := by rw [ez50]; exact i_add rfl rfl (by omega)
              refine lv_iload hx hb dX11_feed_84 (lv_at hl 0 rfl) ?_
              refine lv_bipush (v := 24) hx hb dX11_feed_86 (by decide) ?_
              refine lv_bipush (v := 8) hx hb dX11_feed_88 (by decide) ?_
              refine lv_iload hx hb dX11_feed_90 (lv_at hl 1 rfl) ?_
              refine lv_iconst (v := 3) hx hb dX11_feed_92 (by decide) ?_
              refine lv_iand hx hb dX11_feed_93 ?_
              refine lv_topi (fun z52 ez52 => ?_)
              have g53 : 0 ≤ z52.toInt ∧ z52.toInt ≤ (i_k6).toInt := by rw [ez52]; exact i_andl rfl (by omega)
              refine lv_imul hx hb dX11_feed_94 ?_
              refine lv_topi (fun z54 ez54 => ?_)
              have e55 : z54.toInt = 8 * (z52).toInt := by rw [ez54]; exact i_mul rfl rfl (by omega)
              refine lv_isub hx hb dX11_feed_95 ?_
              refine lv_topi (fun z56 ez56 => ?_)
              have e57 : z56.toInt = 24 - (8 * (z52).toInt) := by rw [ez56]; exact i_sub rfl e55 (by omega)
              refine lv_ishr hx hb dX11_feed_96 ?_
              refine lv_topi (fun z58 ez58 => ?_)
              refine lv_i2b hx hb dX11_feed_97 rfl ?_
              refine lv_topi (fun z59 ez59 => ?_)
              refine aBs C hO 1 mW_1 (i_in (X := (((fI u 0 2)).toInt + (i_k6).toInt)) e51 (by omega) (by omega)) mW_s1 dX11_feed_98 (fun H locs hO => ?_)
              have hT := Km17_wA1 hO hT
              have hJ := MIsA_1 hO hJ
              obtain ⟨z60, ez60⟩ : ∃ z : Int32, z = i_k6 + Int32.ofInt 1 := ⟨_, rfl⟩
              have e61 : z60.toInt = (i_k6).toInt + 1 := by rw [ez60]; exact i_add rfl rfl (by omega)
              refine lv_iinc (v := z60) (lv' := [(6, .int z60), (7, .int x2), (0, .ref (a 0)), (1, .int x1), (2, .int x2), (3, .int x3), (4, .int x4), (5, .int x5)]) hx hb dX11_feed_99 hl (k := 1) rfl ez60.symm (by decide) rfl (fun ls hl => ?_)
              refine lv_goto (tgt := 18) hx hb dX11_feed_102 (by decide) ?_
              exact ih_k6 _ _ _ _ (z60) hO (lv_sub hl [0, 2, 3, 4, 5, 6, 7] rfl) (by exact hJ) (by exact hT) (by first | decide | omega) (by exact ck2_k6) (by first | decide | omega)
          · refine lv_iload_n hx hb dX11_feed_31 rfl (lv_at hl 2 rfl) ?_
            refine lv_goto (tgt := 71) hx hb dX11_feed_32 (by decide) ?_
            refine lv_istore (lv' := [(7, .int x1), (6, .int i_k6), (0, .ref (a 0)), (1, .int x1), (2, .int x2), (3, .int x3), (4, .int x4), (5, .int x5)]) hx hb dX11_feed_71 hl (by decide) rfl (fun ls hl => ?_)
            refine lv_aload_n hx hb dX11_feed_73 rfl (lv_at hl 2 rfl) ?_
            refine gf_RX11_7 (v := .ref (a 1)) C hO 0 mW_0 rfl dX11_feed_74 ?_
            refine lv_aload_n hx hb dX11_feed_77 rfl (lv_at hl 2 rfl) ?_
            refine gf_RX11_252 (v := .int (fI u 0 2)) C hO 0 mW_0 (congrArg (fun z : Int32 => some (Value.int z)) ck2_k6) dX11_feed_78 ?_
            refine lv_iload hx hb dX11_feed_81 (lv_at hl 1 rfl) ?_
            refine lv_iadd hx hb dX11_feed_83 ?_
            refine lv_topi (fun z62 ez62 => ?_)
            have e63 : z62.toInt = ((fI u 0 2)).toInt + (i_k6).toInt := by rw [ez62]; exact i_add rfl rfl (by omega)
            refine lv_iload hx hb dX11_feed_84 (lv_at hl 0 rfl) ?_
            refine lv_bipush (v := 24) hx hb dX11_feed_86 (by decide) ?_
            refine lv_bipush (v := 8) hx hb dX11_feed_88 (by decide) ?_
            refine lv_iload hx hb dX11_feed_90 (lv_at hl 1 rfl) ?_
            refine lv_iconst (v := 3) hx hb dX11_feed_92 (by decide) ?_
            refine lv_iand hx hb dX11_feed_93 ?_
            refine lv_topi (fun z64 ez64 => ?_)
            have g65 : 0 ≤ z64.toInt ∧ z64.toInt ≤ (i_k6).toInt := by rw [ez64]; exact i_andl rfl (by omega)
            refine lv_imul hx hb dX11_feed_94 ?_
            refine lv_topi (fun z66 ez66 => ?_)
            have e67 : z66.toInt = 8 * (z64).toInt := by rw [ez66]; exact i_mul rfl rfl (by omega)
            refine lv_isub hx hb dX11_feed_95 ?_
            refine lv_topi (fun z68 ez68 => ?_)
            have e69 : z68.toInt = 24 - (8 * (z64).toInt) := by rw [ez68]; exact i_sub rfl e67 (by omega)
            refine lv_ishr hx hb dX11_feed_96 ?_
            refine lv_topi (fun z70 ez70 => ?_)
            refine lv_i2b hx hb dX11_feed_97 rfl ?_
            refine lv_topi (fun z71 ez71 => ?_)
            refine aBs C hO 1 mW_1 (i_in (X := (((fI u 0 2)).toInt + (i_k6).toInt)) e63 (by omega) (by omega)) mW_s1 dX11_feed_98 (fun H locs hO => ?_)
            have hT := Km17_wA1 hO hT
            have hJ := MIsA_1 hO hJ
            obtain ⟨z72, ez72⟩ : ∃ z : Int32, z = i_k6 + Int32.ofInt 1 := ⟨_, rfl⟩
            have e73 : z72.toInt = (i_k6).toInt + 1 := by rw [ez72]; exact i_add rfl rfl (by omega)
            refine lv_iinc (v := z72) (lv' := [(6, .int z72), (7, .int x1), (0, .ref (a 0)), (1, .int x1), (2, .int x2), (3, .int x3), (4, .int x4), (5, .int x5)]) hx hb dX11_feed_99 hl (k := 1) rfl ez72.symm (by decide) rfl (fun ls hl => ?_)
            refine lv_goto (tgt := 18) hx hb dX11_feed_102 (by decide) ?_
            exact ih_k6 _ _ _ _ (z72) hO (lv_sub hl [0, 2, 3, 4, 5, 6, 7] rfl) (by exact hJ) (by exact hT) (by first | decide | omega) (by exact ck2_k6) (by first | decide | omega)
    have zc74 : (0 : Int32).toInt = 0 := rfl
    exact LP_18_k6 4000 _ _ _ _ (0) hO (lv_sub hl [0, 1, 2, 3, 4, 5, 6] rfl) (by exact hJ) (by exact hT) (by first | decide | omega) (by exact rfl) (by first | decide | omega)
  · refine lv_iconst (v := (-1)) hx hb dX11_feed_13 (by decide) ?_
    refine hret _ _ _ _ _ _ dX11_feed_14 rfl ?_ hO
    exact ⟨hJ, hT⟩
def Km18 (u v : St) : Prop := fI v 0 3 = fI u 0 3 ∧ fI v 0 4 = fI u 0 4 ∧ fI v 0 5 = fI u 0 5 ∧ fI v 0 6 = fI u 0 6 ∧ fI v 0 7 = fI u 0 7 ∧ fI v 0 8 = fI u 0 8 ∧ fI v 0 9 = fI u 0 9 ∧ fL v 0 10 = fL u 0 10 ∧ fI v 0 36 = fI u 0 36 ∧ fI v 0 37 = fI u 0 37 ∧ fI v 0 38 = fI u 0 38 ∧ fI v 0 39 = fI u 0 39 ∧ fI v 0 40 = fI u 0 40 ∧ fI v 0 41 = fI u 0 41 ∧ fI v 0 42 = fI u 0 42 ∧ fI v 0 43 = fI u 0 43 ∧ fI v 0 45 = fI u 0 45 ∧ fI v 0 47 = fI u 0 47 ∧ fI v 0 48 = fI u 0 48 ∧ fI v 0 50 = fI u 0 50 ∧ fI v 0 61 = fI u 0 61 ∧ fI v 0 62 = fI u 0 62 ∧ fA v 1 = fA u 1 ∧ fA v 2 = fA u 2 ∧ fA v 3 = fA u 3 ∧ fA v 4 = fA u 4 ∧ fA v 5 = fA u 5 ∧ fA v 6 = fA u 6 ∧ fA v 7 = fA u 7 ∧ fA v 8 = fA u 8 ∧ fA v 9 = fA u 9 ∧ fA v 10 = fA u 10 ∧ fA v 11 = fA u 11 ∧ fA v 12 = fA u 12 ∧ fA v 13 = fA u 13 ∧ fA v 14 = fA u 14 ∧ fA v 15 = fA u 15 ∧ fA v 16 = fA u 16 ∧ fA v 17 = fA u 17 ∧ fA v 18 = fA u 18 ∧ fA v 19 = fA u 19 ∧ fJ v 20 = fJ u 20 ∧ fJ v 21 = fJ u 21 ∧ fJ v 22 = fJ u 22 ∧ fA v 23 = fA u 23 ∧ fA v 24 = fA u 24 ∧ fA v 25 = fA u 25 ∧ fA v 26 = fA u 26 ∧ fA v 27 = fA u 27 ∧ fA v 28 = fA u 28 ∧ fA v 29 = fA u 29 ∧ fA v 30 = fA u 30 ∧ fA v 31 = fA u 31 ∧ fA v 32 = fA u 32 ∧ fA v 33 = fA u 33 ∧ fA v 34 = fA u 34 ∧ fA v 35 = fA u 35 ∧ fA v 36 = fA u 36 ∧ fA v 37 = fA u 37 ∧ fA v 38 = fA u 38 ∧ fA v 39 = fA u 39 ∧ fA v 40 = fA u 40 ∧ fA v 41 = fA u 41 ∧ fA v 42 = fA u 42
theorem Km18.rf {u : St} : Km18 u u := ⟨rfl, rfl, rfl, rfl, rfl, rfl, rfl, rfl, rfl, rfl, rfl, rfl, rfl, rfl, rfl, rfl, rfl, rfl, rfl, rfl, rfl, rfl, rfl, rfl, rfl, rfl, rfl, rfl, rfl, rfl, rfl, rfl, rfl, rfl, rfl, rfl, rfl, rfl, rfl, rfl, rfl, rfl, rfl, rfl, rfl, rfl, rfl, rfl, rfl, rfl, rfl, rfl, rfl, rfl, rfl, rfl, rfl, rfl, rfl, rfl, rfl, rfl, rfl, rfl⟩
theorem Km18.tr {u v w : St} (h1 : Km18 u v) (h2 : Km18 v w) : Km18 u w := ⟨(h2.1).trans h1.1, (h2.2.1).trans h1.2.1, (h2.2.2.1).trans h1.2.2.1, (h2.2.2.2.1).trans h1.2.2.2.1, (h2.2.2.2.2.1).trans h1.2.2.2.2.1, (h2.2.2.2.2.2.1).trans h1.2.2.2.2.2.1, (h2.2.2.2.2.2.2.1).trans h1.2.2.2.2.2.2.1, (h2.2.2.2.2.2.2.2.1).trans h1.2.2.2.2.2.2.2.1, (h2.2.2.2.2.2.2.2.2.1).trans h1.2.2.2.2.2.2.2.2.1, (h2.2.2.2.2.2.2.2.2.2.1).trans h1.2.2.2.2.2.2.2.2.2.1, (h2.2.2.2.2.2.2.2.2.2.2.1).trans h1.2.2.2.2.2.2.2.2.2.2.1, (h2.2.2.2.2.2.2.2.2.2.2.2.1).trans h1.2.2.2.2.2.2.2.2.2.2.2.1, (h2.2.2.2.2.2.2.2.2.2.2.2.2.1).trans h1.2.2.2.2.2.2.2.2.2.2.2.2.1, (h2.2.2.2.2.2.2.2.2.2.2.2.2.2.1).trans h1.2.2.2.2.2.2.2.2.2.2.2.2.2.1, (h2.2.2.2.2.2.2.2.2.2.2.2.2.2.2.1).trans h1.2.2.2.2.2.2.2.2.2.2.2.2.2.2.1, (h2.2.2.2.2.2.2.2.2.2.2.2.2.2.2.2.1).trans h1.2.2.2.2.2.2.2.2.2.2.2.2.2.2.2.1, (h2.2.2.2.2.2.2.2.2.2.2.2.2.2.2.2.2.1).trans h1.2.2.2.2.2.2.2.2.2.2.2.2.2.2.2.2.1, (h2.2.2.2.2.2.2.2.2.2.2.2.2.2.2.2.2.2.1).trans h1.2.2.2.2.2.2.2.2.2.2.2.2.2.2.2.2.2.1, (h2.2.2.2.2.2.2.2.2.2.2.2.2.2.2.2.2.2.2.1).trans h1.2.2.2.2.2.2.2.2.2.2.2.2.2.2.2.2.2.2.1, (h2.2.2.2.2.2.2.2.2.2.2.2.2.2.2.2.2.2.2.2.1).trans h1.2.2.2.2.2.2.2.2.2.2.2.2.2.2.2.2.2.2.2.1, (h2.2.2.2.2.2.2.2.2.2.2.2.2.2.2.2.2.2.2.2.2.1).trans h1.2.2.2.2.2.2.2.2.2.2.2.2.2.2.2.2.2.2.2.2.1, (h2.2.2.2.2.2.2.2.2.2.2.2.2.2.2.2.2.2.2.2.2.2.1).trans h1.2.2.2.2.2.2.2.2.2.2.2.2.2.2.2.2.2.2.2.2.2.1, (h2.2.2.2.2.2.2.2.2.2.2.2.2.2.2.2.2.2.2.2.2.2.2.1).trans h1.2.2.2.2.2.2.2.2.2.2.2.2.2.2.2.2.2.2.2.2.2.2.1, (h2.2.2.2.2.2.2.2.2.2.2.2.2.2.2.2.2.2.2.2.2.2.2.2.1).trans h1.2.2.2.2.2.2.2.2.2.2.2.2.2.2.2.2.2.2.2.2.2.2.2.1, (h2.2.2.2.2.2.2.2.2.2.2.2.2.2.2.2.2.2.2.2.2.2.2.2.2.1).trans h1.2.2.2.2.2.2.2.2.2.2.2.2.2.2.2.2.2.2.2.2.2.2.2.2.1, (h2.2.2.2.2.2.2.2.2.2.2.2.2.2.2.2.2.2.2.2.2.2.2.2.2.2.1).trans h1.2.2.2.2.2.2.2.2.2.2.2.2.2.2.2.2.2.2.2.2.2.2.2.2.2.1, (h2.2.2.2.2.2.2.2.2.2.2.2.2.2.2.2.2.2.2.2.2.2.2.2.2.2.2.1).trans h1.2.2.2.2.2.2.2.2.2.2.2.2.2.2.2.2.2.2.2.2.2.2.2.2.2.2.1, (h2.2.2.2.2.2.2.2.2.2.2.2.2.2.2.2.2.2.2.2.2.2.2.2.2.2.2.2.1).trans h1.2.2.2.2.2.2.2.2.2.2.2.2.2.2.2.2.2.2.2.2.2.2.2.2.2.2.2.1, (h2.2.2.2.2.2.2.2.2.2.2.2.2.2.2.2.2.2.2.2.2.2.2.2.2.2.2.2.2.1).trans h1.2.2.2.2.2.2.2.2.2.2.2.2.2.2.2.2.2.2.2.2.2.2.2.2.2.2.2.2.1, (h2.2.2.2.2.2.2.2.2.2.2.2.2.2.2.2.2.2.2.2.2.2.2.2.2.2.2.2.2.2.1).trans h1.2.2.2.2.2.2.2.2.2.2.2.2.2.2.2.2.2.2.2.2.2.2.2.2.2.2.2.2.2.1, (h2.2.2.2.2.2.2.2.2.2.2.2.2.2.2.2.2.2.2.2.2.2.2.2.2.2.2.2.2.2.2.1).trans h1.2.2.2.2.2.2.2.2.2.2.2.2.2.2.2.2.2.2.2.2.2.2.2.2.2.2.2.2.2.2.1, (h2.2.2.2.2.2.2.2.2.2.2.2.2.2.2.2.2.2.2.2.2.2.2.2.2.2.2.2.2.2.2.2.1).trans h1.2.2.2.2.2.2.2.2.2.2.2.2.2.2.2.2.2.2.2.2.2.2.2.2.2.2.2.2.2.2.2.1, (h2.2.2.2.2.2.2.2.2.2.2.2.2.2.2.2.2.2.2.2.2.2.2.2.2.2.2.2.2.2.2.2.2.1).trans h1.2.2.2.2.2.2.2.2.2.2.2.2.2.2.2.2.2.2.2.2.2.2.2.2.2.2.2.2.2.2.2.2.1, (h2.2.2.2.2.2.2.2.2.2.2.2.2.2.2.2.2.2.2.2.2.2.2.2.2.2.2.2.2.2.2.2.2.2.1).trans h1.2.2.2.2.2.2.2.2.2.2.2.2.2.2.2.2.2.2.2.2.2.2.2.2.2.2.2.2.2.2.2.2.2.1, (h2.2.2.2.2.2.2.2.2.2.2.2.2.2.2.2.2.2.2.2.2.2.2.2.2.2.2.2.2.2.2.2.2.2.2.1).trans h1.2.2.2.2.2.2.2.2.2.2.2.2.2.2.2.2.2.2.2.2.2.2.2.2.2.2.2.2.2.2.2.2.2.2.1, (h2.2.2.2.2.2.2.2.2.2.2.2.2.2.2.2.2.2.2.2.2.2.2.2.2.2.2.2.2.2.2.2.2.2.2.2.1).trans h1.2.2.2.2.2.2.2.2.2.2.2.2.2.2.2.2.2.2.2.2.2.2.2.2.2.2.2.2.2.2.2.2.2.2.2.1, (h2.2.2.2.2.2.2.2.2.2.2.2.2.2.2.2.2.2.2.2.2.2.2.2.2.2.2.2.2.2.2.2.2.2.2.2.2.1).trans h1.2.2.2.2.2.2.2.2.2.2.2.2.2.2.2.2.2.2.2.2.2.2.2.2.2.2.2.2.2.2.2.2.2.2.2.2.1, (h2.2.2.2.2.2.2.2.2.2.2.2.2.2.2.2.2.2.2.2.2.2.2.2.2.2.2.2.2.2.2.2.2.2.2.2.2.2.1).trans h1.2.2.2.2.2.2.2.2.2.2.2.2.2.2.2.2.2.2.2.2.2.2.2.2.2.2.2.2.2.2.2.2.2.2.2.2.2.1, (h2.2.2.2.2.2.2.2.2.2.2.2.2.2.2.2.2.2.2.2.2.2.2.2.2.2.2.2.2.2.2.2.2.2.2.2.2.2.2.1).trans h1.2.2.2.2.2.2.2.2.2.2.2.2.2.2.2.2.2.2.2.2.2.2.2.2.2.2.2.2.2.2.2.2.2.2.2.2.2.2.1, (h2.2.2.2.2.2.2.2.2.2.2.2.2.2.2.2.2.2.2.2.2.2.2.2.2.2.2.2.2.2.2.2.2.2.2.2.2.2.2.2.1).trans h1.2.2.2.2.2.2.2.2.2.2.2.2.2.2.2.2.2.2.2.2.2.2.2.2.2.2.2.2.2.2.2.2.2.2.2.2.2.2.2.1, (h2.2.2.2.2.2.2.2.2.2.2.2.2.2.2.2.2.2.2.2.2.2.2.2.2.2.2.2.2.2.2.2.2.2.2.2.2.2.2.2.2.1).trans h1.2.2.2.2.2.2.2.2.2.2.2.2.2.2.2.2.2.2.2.2.2.2.2.2.2.2.2.2.2.2.2.2.2.2.2.2.2.2.2.2.1, (h2.2.2.2.2.2.2.2.2.2.2.2.2.2.2.2.2.2.2.2.2.2.2.2.2.2.2.2.2.2.2.2.2.2.2.2.2.2.2.2.2.2.1).trans h1.2.2.2.2.2.2.2.2.2.2.2.2.2.2.2.2.2.2.2.2.2.2.2.2.2.2.2.2.2.2.2.2.2.2.2.2.2.2.2.2.2.1, (h2.2.2.2.2.2.2.2.2.2.2.2.2.2.2.2.2.2.2.2.2.2.2.2.2.2.2.2.2.2.2.2.2.2.2.2.2.2.2.2.2.2.2.1).trans h1.2.2.2.2.2.2.2.2.2.2.2.2.2.2.2.2.2.2.2.2.2.2.2.2.2.2.2.2.2.2.2.2.2.2.2.2.2.2.2.2.2.2.1, (h2.2.2.2.2.2.2.2.2.2.2.2.2.2.2.2.2.2.2.2.2.2.2.2.2.2.2.2.2.2.2.2.2.2.2.2.2.2.2.2.2.2.2.2.1).trans h1.2.2.2.2.2.2.2.2.2.2.2.2.2.2.2.2.2.2.2.2.2.2.2.2.2.2.2.2.2.2.2.2.2.2.2.2.2.2.2.2.2.2.2.1, (h2.2.2.2.2.2.2.2.2.2.2.2.2.2.2.2.2.2.2.2.2.2.2.2.2.2.2.2.2.2.2.2.2.2.2.2.2.2.2.2.2.2.2.2.2.1).trans h1.2.2.2.2.2.2.2.2.2.2.2.2.2.2.2.2.2.2.2.2.2.2.2.2.2.2.2.2.2.2.2.2.2.2.2.2.2.2.2.2.2.2.2.2.1, (h2.2.2.2.2.2.2.2.2.2.2.2.2.2.2.2.2.2.2.2.2.2.2.2.2.2.2.2.2.2.2.2.2.2.2.2.2.2.2.2.2.2.2.2.2.2.1).trans h1.2.2.2.2.2.2.2.2.2.2.2.2.2.2.2.2.2.2.2.2.2.2.2.2.2.2.2.2.2.2.2.2.2.2.2.2.2.2.2.2.2.2.2.2.2.1, (h2.2.2.2.2.2.2.2.2.2.2.2.2.2.2.2.2.2.2.2.2.2.2.2.2.2.2.2.2.2.2.2.2.2.2.2.2.2.2.2.2.2.2.2.2.2.2.1).trans h1.2.2.2.2.2.2.2.2.2.2.2.2.2.2.2.2.2.2.2.2.2.2.2.2.2.2.2.2.2.2.2.2.2.2.2.2.2.2.2.2.2.2.2.2.2.2.1, (h2.2.2.2.2.2.2.2.2.2.2.2.2.2.2.2.2.2.2.2.2.2.2.2.2.2.2.2.2.2.2.2.2.2.2.2.2.2.2.2.2.2.2.2.2.2.2.2.1).trans h1.2.2.2.2.2.2.2.2.2.2.2.2.2.2.2.2.2.2.2.2.2.2.2.2.2.2.2.2.2.2.2.2.2.2.2.2.2.2.2.2.2.2.2.2.2.2.2.1, (h2.2.2.2.2.2.2.2.2.2.2.2.2.2.2.2.2.2.2.2.2.2.2.2.2.2.2.2.2.2.2.2.2.2.2.2.2.2.2.2.2.2.2.2.2.2.2.2.2.1).trans h1.2.2.2.2.2.2.2.2.2.2.2.2.2.2.2.2.2.2.2.2.2.2.2.2.2.2.2.2.2.2.2.2.2.2.2.2.2.2.2.2.2.2.2.2.2.2.2.2.1, (h2.2.2.2.2.2.2.2.2.2.2.2.2.2.2.2.2.2.2.2.2.2.2.2.2.2.2.2.2.2.2.2.2.2.2.2.2.2.2.2.2.2.2.2.2.2.2.2.2.2.1).trans h1.2.2.2.2.2.2.2.2.2.2.2.2.2.2.2.2.2.2.2.2.2.2.2.2.2.2.2.2.2.2.2.2.2.2.2.2.2.2.2.2.2.2.2.2.2.2.2.2.2.1, (h2.2.2.2.2.2.2.2.2.2.2.2.2.2.2.2.2.2.2.2.2.2.2.2.2.2.2.2.2.2.2.2.2.2.2.2.2.2.2.2.2.2.2.2.2.2.2.2.2.2.2.1).trans h1.2.2.2.2.2.2.2.2.2.2.2.2.2.2.2.2.2.2.2.2.2.2.2.2.2.2.2.2.2.2.2.2.2.2.2.2.2.2.2.2.2.2.2.2.2.2.2.2.2.2.1, (h2.2.2.2.2.2.2.2.2.2.2.2.2.2.2.2.2.2.2.2.2.2.2.2.2.2.2.2.2.2.2.2.2.2.2.2.2.2.2.2.2.2.2.2.2.2.2.2.2.2.2.2.1).trans h1.2.2.2.2.2.2.2.2.2.2.2.2.2.2.2.2.2.2.2.2.2.2.2.2.2.2.2.2.2.2.2.2.2.2.2.2.2.2.2.2.2.2.2.2.2.2.2.2.2.2.2.1, (h2.2.2.2.2.2.2.2.2.2.2.2.2.2.2.2.2.2.2.2.2.2.2.2.2.2.2.2.2.2.2.2.2.2.2.2.2.2.2.2.2.2.2.2.2.2.2.2.2.2.2.2.2.1).trans h1.2.2.2.2.2.2.2.2.2.2.2.2.2.2.2.2.2.2.2.2.2.2.2.2.2.2.2.2.2.2.2.2.2.2.2.2.2.2.2.2.2.2.2.2.2.2.2.2.2.2.2.2.1, (h2.2.2.2.2.2.2.2.2.2.2.2.2.2.2.2.2.2.2.2.2.2.2.2.2.2.2.2.2.2.2.2.2.2.2.2.2.2.2.2.2.2.2.2.2.2.2.2.2.2.2.2.2.2.1).trans h1.2.2.2.2.2.2.2.2.2.2.2.2.2.2.2.2.2.2.2.2.2.2.2.2.2.2.2.2.2.2.2.2.2.2.2.2.2.2.2.2.2.2.2.2.2.2.2.2.2.2.2.2.2.1, (h2.2.2.2.2.2.2.2.2.2.2.2.2.2.2.2.2.2.2.2.2.2.2.2.2.2.2.2.2.2.2.2.2.2.2.2.2.2.2.2.2.2.2.2.2.2.2.2.2.2.2.2.2.2.2.1).trans h1.2.2.2.2.2.2.2.2.2.2.2.2.2.2.2.2.2.2.2.2.2.2.2.2.2.2.2.2.2.2.2.2.2.2.2.2.2.2.2.2.2.2.2.2.2.2.2.2.2.2.2.2.2.2.1, (h2.2.2.2.2.2.2.2.2.2.2.2.2.2.2.2.2.2.2.2.2.2.2.2.2.2.2.2.2.2.2.2.2.2.2.2.2.2.2.2.2.2.2.2.2.2.2.2.2.2.2.2.2.2.2.2.1).trans h1.2.2.2.2.2.2.2.2.2.2.2.2.2.2.2.2.2.2.2.2.2.2.2.2.2.2.2.2.2.2.2.2.2.2.2.2.2.2.2.2.2.2.2.2.2.2.2.2.2.2.2.2.2.2.2.1, (h2.2.2.2.2.2.2.2.2.2.2.2.2.2.2.2.2.2.2.2.2.2.2.2.2.2.2.2.2.2.2.2.2.2.2.2.2.2.2.2.2.2.2.2.2.2.2.2.2.2.2.2.2.2.2.2.2.1).trans h1.2.2.2.2.2.2.2.2.2.2.2.2.2.2.2.2.2.2.2.2.2.2.2.2.2.2.2.2.2.2.2.2.2.2.2.2.2.2.2.2.2.2.2.2.2.2.2.2.2.2.2.2.2.2.2.2.1, (h2.2.2.2.2.2.2.2.2.2.2.2.2.2.2.2.2.2.2.2.2.2.2.2.2.2.2.2.2.2.2.2.2.2.2.2.2.2.2.2.2.2.2.2.2.2.2.2.2.2.2.2.2.2.2.2.2.2.1).trans h1.2.2.2.2.2.2.2.2.2.2.2.2.2.2.2.2.2.2.2.2.2.2.2.2.2.2.2.2.2.2.2.2.2.2.2.2.2.2.2.2.2.2.2.2.2.2.2.2.2.2.2.2.2.2.2.2.2.1, (h2.2.2.2.2.2.2.2.2.2.2.2.2.2.2.2.2.2.2.2.2.2.2.2.2.2.2.2.2.2.2.2.2.2.2.2.2.2.2.2.2.2.2.2.2.2.2.2.2.2.2.2.2.2.2.2.2.2.2.1).trans h1.2.2.2.2.2.2.2.2.2.2.2.2.2.2.2.2.2.2.2.2.2.2.2.2.2.2.2.2.2.2.2.2.2.2.2.2.2.2.2.2.2.2.2.2.2.2.2.2.2.2.2.2.2.2.2.2.2.2.1, (h2.2.2.2.2.2.2.2.2.2.2.2.2.2.2.2.2.2.2.2.2.2.2.2.2.2.2.2.2.2.2.2.2.2.2.2.2.2.2.2.2.2.2.2.2.2.2.2.2.2.2.2.2.2.2.2.2.2.2.2.1).trans h1.2.2.2.2.2.2.2.2.2.2.2.2.2.2.2.2.2.2.2.2.2.2.2.2.2.2.2.2.2.2.2.2.2.2.2.2.2.2.2.2.2.2.2.2.2.2.2.2.2.2.2.2.2.2.2.2.2.2.2.1, (h2.2.2.2.2.2.2.2.2.2.2.2.2.2.2.2.2.2.2.2.2.2.2.2.2.2.2.2.2.2.2.2.2.2.2.2.2.2.2.2.2.2.2.2.2.2.2.2.2.2.2.2.2.2.2.2.2.2.2.2.2.1).trans h1.2.2.2.2.2.2.2.2.2.2.2.2.2.2.2.2.2.2.2.2.2.2.2.2.2.2.2.2.2.2.2.2.2.2.2.2.2.2.2.2.2.2.2.2.2.2.2.2.2.2.2.2.2.2.2.2.2.2.2.2.1, (h2.2.2.2.2.2.2.2.2.2.2.2.2.2.2.2.2.2.2.2.2.2.2.2.2.2.2.2.2.2.2.2.2.2.2.2.2.2.2.2.2.2.2.2.2.2.2.2.2.2.2.2.2.2.2.2.2.2.2.2.2.2.1).trans h1.2.2.2.2.2.2.2.2.2.2.2.2.2.2.2.2.2.2.2.2.2.2.2.2.2.2.2.2.2.2.2.2.2.2.2.2.2.2.2.2.2.2.2.2.2.2.2.2.2.2.2.2.2.2.2.2.2.2.2.2.2.1, (h2.2.2.2.2.2.2.2.2.2.2.2.2.2.2.2.2.2.2.2.2.2.2.2.2.2.2.2.2.2.2.2.2.2.2.2.2.2.2.2.2.2.2.2.2.2.2.2.2.2.2.2.2.2.2.2.2.2.2.2.2.2.2.1).trans h1.2.2.2.2.2.2.2.2.2.2.2.2.2.2.2.2.2.2.2.2.2.2.2.2.2.2.2.2.2.2.2.2.2.2.2.2.2.2.2.2.2.2.2.2.2.2.2.2.2.2.2.2.2.2.2.2.2.2.2.2.2.2.1, (h2.2.2.2.2.2.2.2.2.2.2.2.2.2.2.2.2.2.2.2.2.2.2.2.2.2.2.2.2.2.2.2.2.2.2.2.2.2.2.2.2.2.2.2.2.2.2.2.2.2.2.2.2.2.2.2.2.2.2.2.2.2.2.2).trans h1.2.2.2.2.2.2.2.2.2.2.2.2.2.2.2.2.2.2.2.2.2.2.2.2.2.2.2.2.2.2.2.2.2.2.2.2.2.2.2.2.2.2.2.2.2.2.2.2.2.2.2.2.2.2.2.2.2.2.2.2.2.2.2⟩
theorem dX11_end_0 : decode cX11_end 0 = .ok (.iload_n 1, 1) := by decide +kernel
theorem dX11_end_1 : decode cX11_end 1 = .ok (.ifCond .lt 11, 3) := by decide +kernel
theorem dX11_end_4 : decode cX11_end 4 = .ok (.iload_n 1, 1) := by decide +kernel
theorem dX11_end_5 : decode cX11_end 5 = .ok (.aload_n 0, 1) := by decide +kernel
theorem dX11_end_6 : decode cX11_end 6 = .ok (.getfield 252, 3) := by decide +kernel
theorem dX11_end_9 : decode cX11_end 9 = .ok (.if_icmp .le 5, 3) := by decide +kernel
theorem dX11_end_12 : decode cX11_end 12 = .ok (.iconst (-1), 1) := by decide +kernel
theorem dX11_end_13 : decode cX11_end 13 = .ok (.ireturn, 1) := by decide +kernel
theorem dX11_end_14 : decode cX11_end 14 = .ok (.aload_n 0, 1) := by decide +kernel
theorem dX11_end_15 : decode cX11_end 15 = .ok (.iload_n 1, 1) := by decide +kernel
theorem dX11_end_16 : decode cX11_end 16 = .ok (.putfield 252, 3) := by decide +kernel
theorem dX11_end_19 : decode cX11_end 19 = .ok (.iload_n 1, 1) := by decide +kernel
theorem dX11_end_20 : decode cX11_end 20 = .ok (.ireturn, 1) := by decide +kernel
theorem wd_2035 : (Cond.code ⟨"WebCourtModel", "end", "(I)I"⟩ prog_13_method_124_code (2 : Nat) (Option.some FieldType.int)) ∈ gtb := gtb_c9 6 (by decide +kernel) rfl
theorem Km18_wI2 {u v : St} {x : Int32} (h : Km18 u v) : Km18 u (sI v 0 2 x) := ⟨h.1, h.2.1, h.2.2.1, h.2.2.2.1, h.2.2.2.2.1, h.2.2.2.2.2.1, h.2.2.2.2.2.2.1, h.2.2.2.2.2.2.2.1, h.2.2.2.2.2.2.2.2.1, h.2.2.2.2.2.2.2.2.2.1, h.2.2.2.2.2.2.2.2.2.2.1, h.2.2.2.2.2.2.2.2.2.2.2.1, h.2.2.2.2.2.2.2.2.2.2.2.2.1, h.2.2.2.2.2.2.2.2.2.2.2.2.2.1, h.2.2.2.2.2.2.2.2.2.2.2.2.2.2.1, h.2.2.2.2.2.2.2.2.2.2.2.2.2.2.2.1, h.2.2.2.2.2.2.2.2.2.2.2.2.2.2.2.2.1, h.2.2.2.2.2.2.2.2.2.2.2.2.2.2.2.2.2.1, h.2.2.2.2.2.2.2.2.2.2.2.2.2.2.2.2.2.2.1, h.2.2.2.2.2.2.2.2.2.2.2.2.2.2.2.2.2.2.2.1, h.2.2.2.2.2.2.2.2.2.2.2.2.2.2.2.2.2.2.2.2.1, h.2.2.2.2.2.2.2.2.2.2.2.2.2.2.2.2.2.2.2.2.2.1, h.2.2.2.2.2.2.2.2.2.2.2.2.2.2.2.2.2.2.2.2.2.2.1, h.2.2.2.2.2.2.2.2.2.2.2.2.2.2.2.2.2.2.2.2.2.2.2.1, h.2.2.2.2.2.2.2.2.2.2.2.2.2.2.2.2.2.2.2.2.2.2.2.2.1, h.2.2.2.2.2.2.2.2.2.2.2.2.2.2.2.2.2.2.2.2.2.2.2.2.2.1, h.2.2.2.2.2.2.2.2.2.2.2.2.2.2.2.2.2.2.2.2.2.2.2.2.2.2.1, h.2.2.2.2.2.2.2.2.2.2.2.2.2.2.2.2.2.2.2.2.2.2.2.2.2.2.2.1, h.2.2.2.2.2.2.2.2.2.2.2.2.2.2.2.2.2.2.2.2.2.2.2.2.2.2.2.2.1, h.2.2.2.2.2.2.2.2.2.2.2.2.2.2.2.2.2.2.2.2.2.2.2.2.2.2.2.2.2.1, h.2.2.2.2.2.2.2.2.2.2.2.2.2.2.2.2.2.2.2.2.2.2.2.2.2.2.2.2.2.2.1, h.2.2.2.2.2.2.2.2.2.2.2.2.2.2.2.2.2.2.2.2.2.2.2.2.2.2.2.2.2.2.2.1, h.2.2.2.2.2.2.2.2.2.2.2.2.2.2.2.2.2.2.2.2.2.2.2.2.2.2.2.2.2.2.2.2.1, h.2.2.2.2.2.2.2.2.2.2.2.2.2.2.2.2.2.2.2.2.2.2.2.2.2.2.2.2.2.2.2.2.2.1, h.2.2.2.2.2.2.2.2.2.2.2.2.2.2.2.2.2.2.2.2.2.2.2.2.2.2.2.2.2.2.2.2.2.2.1, h.2.2.2.2.2.2.2.2.2.2.2.2.2.2.2.2.2.2.2.2.2.2.2.2.2.2.2.2.2.2.2.2.2.2.2.1, h.2.2.2.2.2.2.2.2.2.2.2.2.2.2.2.2.2.2.2.2.2.2.2.2.2.2.2.2.2.2.2.2.2.2.2.2.1, h.2.2.2.2.2.2.2.2.2.2.2.2.2.2.2.2.2.2.2.2.2.2.2.2.2.2.2.2.2.2.2.2.2.2.2.2.2.1, h.2.2.2.2.2.2.2.2.2.2.2.2.2.2.2.2.2.2.2.2.2.2.2.2.2.2.2.2.2.2.2.2.2.2.2.2.2.2.1, h.2.2.2.2.2.2.2.2.2.2.2.2.2.2.2.2.2.2.2.2.2.2.2.2.2.2.2.2.2.2.2.2.2.2.2.2.2.2.2.1, h.2.2.2.2.2.2.2.2.2.2.2.2.2.2.2.2.2.2.2.2.2.2.2.2.2.2.2.2.2.2.2.2.2.2.2.2.2.2.2.2.1, h.2.2.2.2.2.2.2.2.2.2.2.2.2.2.2.2.2.2.2.2.2.2.2.2.2.2.2.2.2.2.2.2.2.2.2.2.2.2.2.2.2.1, h.2.2.2.2.2.2.2.2.2.2.2.2.2.2.2.2.2.2.2.2.2.2.2.2.2.2.2.2.2.2.2.2.2.2.2.2.2.2.2.2.2.2.1, h.2.2.2.2.2.2.2.2.2.2.2.2.2.2.2.2.2.2.2.2.2.2.2.2.2.2.2.2.2.2.2.2.2.2.2.2.2.2.2.2.2.2.2.1, h.2.2.2.2.2.2.2.2.2.2.2.2.2.2.2.2.2.2.2.2.2.2.2.2.2.2.2.2.2.2.2.2.2.2.2.2.2.2.2.2.2.2.2.2.1, h.2.2.2.2.2.2.2.2.2.2.2.2.2.2.2.2.2.2.2.2.2.2.2.2.2.2.2.2.2.2.2.2.2.2.2.2.2.2.2.2.2.2.2.2.2.1, h.2.2.2.2.2.2.2.2.2.2.2.2.2.2.2.2.2.2.2.2.2.2.2.2.2.2.2.2.2.2.2.2.2.2.2.2.2.2.2.2.2.2.2.2.2.2.1, h.2.2.2.2.2.2.2.2.2.2.2.2.2.2.2.2.2.2.2.2.2.2.2.2.2.2.2.2.2.2.2.2.2.2.2.2.2.2.2.2.2.2.2.2.2.2.2.1, h.2.2.2.2.2.2.2.2.2.2.2.2.2.2.2.2.2.2.2.2.2.2.2.2.2.2.2.2.2.2.2.2.2.2.2.2.2.2.2.2.2.2.2.2.2.2.2.2.1, h.2.2.2.2.2.2.2.2.2.2.2.2.2.2.2.2.2.2.2.2.2.2.2.2.2.2.2.2.2.2.2.2.2.2.2.2.2.2.2.2.2.2.2.2.2.2.2.2.2.1, h.2.2.2.2.2.2.2.2.2.2.2.2.2.2.2.2.2.2.2.2.2.2.2.2.2.2.2.2.2.2.2.2.2.2.2.2.2.2.2.2.2.2.2.2.2.2.2.2.2.2.1, h.2.2.2.2.2.2.2.2.2.2.2.2.2.2.2.2.2.2.2.2.2.2.2.2.2.2.2.2.2.2.2.2.2.2.2.2.2.2.2.2.2.2.2.2.2.2.2.2.2.2.2.1, h.2.2.2.2.2.2.2.2.2.2.2.2.2.2.2.2.2.2.2.2.2.2.2.2.2.2.2.2.2.2.2.2.2.2.2.2.2.2.2.2.2.2.2.2.2.2.2.2.2.2.2.2.1, h.2.2.2.2.2.2.2.2.2.2.2.2.2.2.2.2.2.2.2.2.2.2.2.2.2.2.2.2.2.2.2.2.2.2.2.2.2.2.2.2.2.2.2.2.2.2.2.2.2.2.2.2.2.1, h.2.2.2.2.2.2.2.2.2.2.2.2.2.2.2.2.2.2.2.2.2.2.2.2.2.2.2.2.2.2.2.2.2.2.2.2.2.2.2.2.2.2.2.2.2.2.2.2.2.2.2.2.2.2.1, h.2.2.2.2.2.2.2.2.2.2.2.2.2.2.2.2.2.2.2.2.2.2.2.2.2.2.2.2.2.2.2.2.2.2.2.2.2.2.2.2.2.2.2.2.2.2.2.2.2.2.2.2.2.2.2.1, h.2.2.2.2.2.2.2.2.2.2.2.2.2.2.2.2.2.2.2.2.2.2.2.2.2.2.2.2.2.2.2.2.2.2.2.2.2.2.2.2.2.2.2.2.2.2.2.2.2.2.2.2.2.2.2.2.1, h.2.2.2.2.2.2.2.2.2.2.2.2.2.2.2.2.2.2.2.2.2.2.2.2.2.2.2.2.2.2.2.2.2.2.2.2.2.2.2.2.2.2.2.2.2.2.2.2.2.2.2.2.2.2.2.2.2.1, h.2.2.2.2.2.2.2.2.2.2.2.2.2.2.2.2.2.2.2.2.2.2.2.2.2.2.2.2.2.2.2.2.2.2.2.2.2.2.2.2.2.2.2.2.2.2.2.2.2.2.2.2.2.2.2.2.2.2.1, h.2.2.2.2.2.2.2.2.2.2.2.2.2.2.2.2.2.2.2.2.2.2.2.2.2.2.2.2.2.2.2.2.2.2.2.2.2.2.2.2.2.2.2.2.2.2.2.2.2.2.2.2.2.2.2.2.2.2.2.1, h.2.2.2.2.2.2.2.2.2.2.2.2.2.2.2.2.2.2.2.2.2.2.2.2.2.2.2.2.2.2.2.2.2.2.2.2.2.2.2.2.2.2.2.2.2.2.2.2.2.2.2.2.2.2.2.2.2.2.2.2.1, h.2.2.2.2.2.2.2.2.2.2.2.2.2.2.2.2.2.2.2.2.2.2.2.2.2.2.2.2.2.2.2.2.2.2.2.2.2.2.2.2.2.2.2.2.2.2.2.2.2.2.2.2.2.2.2.2.2.2.2.2.2.1, h.2.2.2.2.2.2.2.2.2.2.2.2.2.2.2.2.2.2.2.2.2.2.2.2.2.2.2.2.2.2.2.2.2.2.2.2.2.2.2.2.2.2.2.2.2.2.2.2.2.2.2.2.2.2.2.2.2.2.2.2.2.2.1, h.2.2.2.2.2.2.2.2.2.2.2.2.2.2.2.2.2.2.2.2.2.2.2.2.2.2.2.2.2.2.2.2.2.2.2.2.2.2.2.2.2.2.2.2.2.2.2.2.2.2.2.2.2.2.2.2.2.2.2.2.2.2.2⟩
set_option maxHeartbeats 4000000 in
set_option maxRecDepth 100000 in
theorem T_X11_end (l : Launch) (D : va_G) (cy : Nat → ClassId) (a : Nat → Nat) (u : St) (hJ : MI a u) (x1 : Int32)  : Mi l D cy (mW cy a) yX11_end (.code yX11_end cX11_end 2 (some .int)) (rmo 0 0) [.ref (a 0), .int x1] u (fun (r : Int32) (u' : St) => (MI a u') ∧ (Km18 u u')) := by
  refine Mi.of (own := RX11) rfl (by decide) (Nat.le_of_ble_eq_true rfl) ?_
  have hT : Km18 u u := Km18.rf
  have hJ0 := hJ
  intro p e s m below meth c A Q ls C hret hO hl
  obtain ⟨hx, hb, hml, hown, ht, hK, hA⟩ := id C
  have hl : lv_has ls 2 [(0, .ref (a 0)), (1, .int x1)] := hl
  refine lv_iload_n hx hb dX11_end_0 rfl (lv_at hl 1 rfl) ?_
  refine bs_lt (tgt := 12) (X := (x1).toInt) hx hb dX11_end_1 (by decide) rfl (fun c1 => ?_) (fun c1 => ?_)
  · refine lv_iconst (v := (-1)) hx hb dX11_end_12 (by decide) ?_
    refine hret _ _ _ _ _ _ dX11_end_13 rfl ?_ hO
    exact ⟨hJ, hT⟩
  · refine lv_iload_n hx hb dX11_end_4 rfl (lv_at hl 1 rfl) ?_
    refine lv_aload_n hx hb dX11_end_5 rfl (lv_at hl 0 rfl) ?_
    have g2 : 0 ≤ (fI u 0 2).toInt ∧ (fI u 0 2).toInt ≤ 1600 := by have h := MI_2 hJ0; exact h
    refine gf_RX11_252 (v := .int (fI u 0 2)) C hO 0 mW_0 rfl dX11_end_6 ?_
    refine cs_le (tgt := 14) (X := (x1).toInt) (Y := ((fI u 0 2)).toInt) hx hb dX11_end_9 (by decide) rfl rfl (fun c3 => ?_) (fun c3 => ?_)
    · refine lv_aload_n hx hb dX11_end_14 rfl (lv_at hl 0 rfl) ?_
      refine lv_iload_n hx hb dX11_end_15 rfl (lv_at hl 1 rfl) ?_
      refine pf_RX11_252 C hO 0 mW_0 (Nat.le_of_ble_eq_true rfl) mW_s0_2 dX11_end_16 (fun H locs hO => ?_)
      have hT := Km18_wI2 (x := x1) hT
      have hJ := MIs_2 (v := x1) hJ (by first | decide | omega)
      refine lv_iload_n hx hb dX11_end_19 rfl (lv_at hl 1 rfl) ?_
      refine hret _ _ _ _ _ _ dX11_end_20 rfl ?_ hO
      exact ⟨hJ, hT⟩
    · refine lv_iconst (v := (-1)) hx hb dX11_end_12 (by decide) ?_
      refine hret _ _ _ _ _ _ dX11_end_13 rfl ?_ hO
      exact ⟨hJ, hT⟩
def Km19 (u v : St) : Prop := fI v 0 2 = fI u 0 2 ∧ fI v 0 3 = fI u 0 3 ∧ fI v 0 4 = fI u 0 4 ∧ fI v 0 5 = fI u 0 5 ∧ fI v 0 6 = fI u 0 6 ∧ fI v 0 7 = fI u 0 7 ∧ fI v 0 8 = fI u 0 8 ∧ fI v 0 9 = fI u 0 9 ∧ fL v 0 10 = fL u 0 10 ∧ fI v 0 36 = fI u 0 36 ∧ fI v 0 37 = fI u 0 37 ∧ fI v 0 38 = fI u 0 38 ∧ fI v 0 39 = fI u 0 39 ∧ fI v 0 40 = fI u 0 40 ∧ fI v 0 41 = fI u 0 41 ∧ fI v 0 42 = fI u 0 42 ∧ fI v 0 43 = fI u 0 43 ∧ fI v 0 45 = fI u 0 45 ∧ fI v 0 47 = fI u 0 47 ∧ fI v 0 48 = fI u 0 48 ∧ fI v 0 50 = fI u 0 50 ∧ fI v 0 62 = fI u 0 62 ∧ fA v 1 = fA u 1 ∧ fA v 2 = fA u 2 ∧ fA v 3 = fA u 3 ∧ fA v 4 = fA u 4 ∧ fA v 5 = fA u 5 ∧ fA v 6 = fA u 6 ∧ fA v 7 = fA u 7 ∧ fA v 8 = fA u 8 ∧ fA v 9 = fA u 9 ∧ fA v 10 = fA u 10 ∧ fA v 11 = fA u 11 ∧ fA v 12 = fA u 12 ∧ fA v 13 = fA u 13 ∧ fA v 14 = fA u 14 ∧ fA v 15 = fA u 15 ∧ fA v 16 = fA u 16 ∧ fA v 17 = fA u 17 ∧ fA v 18 = fA u 18 ∧ fA v 19 = fA u 19 ∧ fJ v 20 = fJ u 20 ∧ fJ v 21 = fJ u 21 ∧ fJ v 22 = fJ u 22 ∧ fA v 23 = fA u 23 ∧ fA v 24 = fA u 24 ∧ fA v 25 = fA u 25 ∧ fA v 26 = fA u 26 ∧ fA v 27 = fA u 27 ∧ fA v 28 = fA u 28 ∧ fA v 29 = fA u 29 ∧ fA v 30 = fA u 30 ∧ fA v 31 = fA u 31 ∧ fA v 32 = fA u 32 ∧ fA v 33 = fA u 33 ∧ fA v 39 = fA u 39 ∧ fA v 40 = fA u 40 ∧ fA v 41 = fA u 41 ∧ fA v 42 = fA u 42
theorem Km19.rf {u : St} : Km19 u u := ⟨rfl, rfl, rfl, rfl, rfl, rfl, rfl, rfl, rfl, rfl, rfl, rfl, rfl, rfl, rfl, rfl, rfl, rfl, rfl, rfl, rfl, rfl, rfl, rfl, rfl, rfl, rfl, rfl, rfl, rfl, rfl, rfl, rfl, rfl, rfl, rfl, rfl, rfl, rfl, rfl, rfl, rfl, rfl, rfl, rfl, rfl, rfl, rfl, rfl, rfl, rfl, rfl, rfl, rfl, rfl, rfl, rfl, rfl, rfl⟩
theorem Km19.tr {u v w : St} (h1 : Km19 u v) (h2 : Km19 v w) : Km19 u w := ⟨(h2.1).trans h1.1, (h2.2.1).trans h1.2.1, (h2.2.2.1).trans h1.2.2.1, (h2.2.2.2.1).trans h1.2.2.2.1, (h2.2.2.2.2.1).trans h1.2.2.2.2.1, (h2.2.2.2.2.2.1).trans h1.2.2.2.2.2.1, (h2.2.2.2.2.2.2.1).trans h1.2.2.2.2.2.2.1, (h2.2.2.2.2.2.2.2.1).trans h1.2.2.2.2.2.2.2.1, (h2.2.2.2.2.2.2.2.2.1).trans h1.2.2.2.2.2.2.2.2.1, (h2.2.2.2.2.2.2.2.2.2.1).trans h1.2.2.2.2.2.2.2.2.2.1, (h2.2.2.2.2.2.2.2.2.2.2.1).trans h1.2.2.2.2.2.2.2.2.2.2.1, (h2.2.2.2.2.2.2.2.2.2.2.2.1).trans h1.2.2.2.2.2.2.2.2.2.2.2.1, (h2.2.2.2.2.2.2.2.2.2.2.2.2.1).trans h1.2.2.2.2.2.2.2.2.2.2.2.2.1, (h2.2.2.2.2.2.2.2.2.2.2.2.2.2.1).trans h1.2.2.2.2.2.2.2.2.2.2.2.2.2.1, (h2.2.2.2.2.2.2.2.2.2.2.2.2.2.2.1).trans h1.2.2.2.2.2.2.2.2.2.2.2.2.2.2.1, (h2.2.2.2.2.2.2.2.2.2.2.2.2.2.2.2.1).trans h1.2.2.2.2.2.2.2.2.2.2.2.2.2.2.2.1, (h2.2.2.2.2.2.2.2.2.2.2.2.2.2.2.2.2.1).trans h1.2.2.2.2.2.2.2.2.2.2.2.2.2.2.2.2.1, (h2.2.2.2.2.2.2.2.2.2.2.2.2.2.2.2.2.2.1).trans h1.2.2.2.2.2.2.2.2.2.2.2.2.2.2.2.2.2.1, (h2.2.2.2.2.2.2.2.2.2.2.2.2.2.2.2.2.2.2.1).trans h1.2.2.2.2.2.2.2.2.2.2.2.2.2.2.2.2.2.2.1, (h2.2.2.2.2.2.2.2.2.2.2.2.2.2.2.2.2.2.2.2.1).trans h1.2.2.2.2.2.2.2.2.2.2.2.2.2.2.2.2.2.2.2.1, (h2.2.2.2.2.2.2.2.2.2.2.2.2.2.2.2.2.2.2.2.2.1).trans h1.2.2.2.2.2.2.2.2.2.2.2.2.2.2.2.2.2.2.2.2.1, (h2.2.2.2.2.2.2.2.2.2.2.2.2.2.2.2.2.2.2.2.2.2.1).trans h1.2.2.2.2.2.2.2.2.2.2.2.2.2.2.2.2.2.2.2.2.2.1, (h2.2.2.2.2.2.2.2.2.2.2.2.2.2.2.2.2.2.2.2.2.2.2.1).trans h1.2.2.2.2.2.2.2.2.2.2.2.2.2.2.2.2.2.2.2.2.2.2.1, (h2.2.2.2.2.2.2.2.2.2.2.2.2.2.2.2.2.2.2.2.2.2.2.2.1).trans h1.2.2.2.2.2.2.2.2.2.2.2.2.2.2.2.2.2.2.2.2.2.2.2.1, (h2.2.2.2.2.2.2.2.2.2.2.2.2.2.2.2.2.2.2.2.2.2.2.2.2.1).trans h1.2.2.2.2.2.2.2.2.2.2.2.2.2.2.2.2.2.2.2.2.2.2.2.2.1, (h2.2.2.2.2.2.2.2.2.2.2.2.2.2.2.2.2.2.2.2.2.2.2.2.2.2.1).trans h1.2.2.2.2.2.2.2.2.2.2.2.2.2.2.2.2.2.2.2.2.2.2.2.2.2.1, (h2.2.2.2.2.2.2.2.2.2.2.2.2.2.2.2.2.2.2.2.2.2.2.2.2.2.2.1).trans h1.2.2.2.2.2.2.2.2.2.2.2.2.2.2.2.2.2.2.2.2.2.2.2.2.2.2.1, (h2.2.2.2.2.2.2.2.2.2.2.2.2.2.2.2.2.2.2.2.2.2.2.2.2.2.2.2.1).trans h1.2.2.2.2.2.2.2.2.2.2.2.2.2.2.2.2.2.2.2.2.2.2.2.2.2.2.2.1, (h2.2.2.2.2.2.2.2.2.2.2.2.2.2.2.2.2.2.2.2.2.2.2.2.2.2.2.2.2.1).trans h1.2.2.2.2.2.2.2.2.2.2.2.2.2.2.2.2.2.2.2.2.2.2.2.2.2.2.2.2.1, (h2.2.2.2.2.2.2.2.2.2.2.2.2.2.2.2.2.2.2.2.2.2.2.2.2.2.2.2.2.2.1).trans h1.2.2.2.2.2.2.2.2.2.2.2.2.2.2.2.2.2.2.2.2.2.2.2.2.2.2.2.2.2.1, (h2.2.2.2.2.2.2.2.2.2.2.2.2.2.2.2.2.2.2.2.2.2.2.2.2.2.2.2.2.2.2.1).trans h1.2.2.2.2.2.2.2.2.2.2.2.2.2.2.2.2.2.2.2.2.2.2.2.2.2.2.2.2.2.2.1, (h2.2.2.2.2.2.2.2.2.2.2.2.2.2.2.2.2.2.2.2.2.2.2.2.2.2.2.2.2.2.2.2.1).trans h1.2.2.2.2.2.2.2.2.2.2.2.2.2.2.2.2.2.2.2.2.2.2.2.2.2.2.2.2.2.2.2.1, (h2.2.2.2.2.2.2.2.2.2.2.2.2.2.2.2.2.2.2.2.2.2.2.2.2.2.2.2.2.2.2.2.2.1).trans h1.2.2.2.2.2.2.2.2.2.2.2.2.2.2.2.2.2.2.2.2.2.2.2.2.2.2.2.2.2.2.2.2.1, (h2.2.2.2.2.2.2.2.2.2.2.2.2.2.2.2.2.2.2.2.2.2.2.2.2.2.2.2.2.2.2.2.2.2.1).trans h1.2.2.2.2.2.2.2.2.2.2.2.2.2.2.2.2.2.2.2.2.2.2.2.2.2.2.2.2.2.2.2.2.2.1, (h2.2.2.2.2.2.2.2.2.2.2.2.2.2.2.2.2.2.2.2.2.2.2.2.2.2.2.2.2.2.2.2.2.2.2.1).trans h1.2.2.2.2.2.2.2.2.2.2.2.2.2.2.2.2.2.2.2.2.2.2.2.2.2.2.2.2.2.2.2.2.2.2.1, (h2.2.2.2.2.2.2.2.2.2.2.2.2.2.2.2.2.2.2.2.2.2.2.2.2.2.2.2.2.2.2.2.2.2.2.2.1).trans h1.2.2.2.2.2.2.2.2.2.2.2.2.2.2.2.2.2.2.2.2.2.2.2.2.2.2.2.2.2.2.2.2.2.2.2.1, (h2.2.2.2.2.2.2.2.2.2.2.2.2.2.2.2.2.2.2.2.2.2.2.2.2.2.2.2.2.2.2.2.2.2.2.2.2.1).trans h1.2.2.2.2.2.2.2.2.2.2.2.2.2.2.2.2.2.2.2.2.2.2.2.2.2.2.2.2.2.2.2.2.2.2.2.2.1, (h2.2.2.2.2.2.2.2.2.2.2.2.2.2.2.2.2.2.2.2.2.2.2.2.2.2.2.2.2.2.2.2.2.2.2.2.2.2.1).trans h1.2.2.2.2.2.2.2.2.2.2.2.2.2.2.2.2.2.2.2.2.2.2.2.2.2.2.2.2.2.2.2.2.2.2.2.2.2.1, (h2.2.2.2.2.2.2.2.2.2.2.2.2.2.2.2.2.2.2.2.2.2.2.2.2.2.2.2.2.2.2.2.2.2.2.2.2.2.2.1).trans h1.2.2.2.2.2.2.2.2.2.2.2.2.2.2.2.2.2.2.2.2.2.2.2.2.2.2.2.2.2.2.2.2.2.2.2.2.2.2.1, (h2.2.2.2.2.2.2.2.2.2.2.2.2.2.2.2.2.2.2.2.2.2.2.2.2.2.2.2.2.2.2.2.2.2.2.2.2.2.2.2.1).trans h1.2.2.2.2.2.2.2.2.2.2.2.2.2.2.2.2.2.2.2.2.2.2.2.2.2.2.2.2.2.2.2.2.2.2.2.2.2.2.2.1, (h2.2.2.2.2.2.2.2.2.2.2.2.2.2.2.2.2.2.2.2.2.2.2.2.2.2.2.2.2.2.2.2.2.2.2.2.2.2.2.2.2.1).trans h1.2.2.2.2.2.2.2.2.2.2.2.2.2.2.2.2.2.2.2.2.2.2.2.2.2.2.2.2.2.2.2.2.2.2.2.2.2.2.2.2.1, (h2.2.2.2.2.2.2.2.2.2.2.2.2.2.2.2.2.2.2.2.2.2.2.2.2.2.2.2.2.2.2.2.2.2.2.2.2.2.2.2.2.2.1).trans h1.2.2.2.2.2.2.2.2.2.2.2.2.2.2.2.2.2.2.2.2.2.2.2.2.2.2.2.2.2.2.2.2.2.2.2.2.2.2.2.2.2.1, (h2.2.2.2.2.2.2.2.2.2.2.2.2.2.2.2.2.2.2.2.2.2.2.2.2.2.2.2.2.2.2.2.2.2.2.2.2.2.2.2.2.2.2.1).trans h1.2.2.2.2.2.2.2.2.2.2.2.2.2.2.2.2.2.2.2.2.2.2.2.2.2.2.2.2.2.2.2.2.2.2.2.2.2.2.2.2.2.2.1, (h2.2.2.2.2.2.2.2.2.2.2.2.2.2.2.2.2.2.2.2.2.2.2.2.2.2.2.2.2.2.2.2.2.2.2.2.2.2.2.2.2.2.2.2.1).trans h1.2.2.2.2.2.2.2.2.2.2.2.2.2.2.2.2.2.2.2.2.2.2.2.2.2.2.2.2.2.2.2.2.2.2.2.2.2.2.2.2.2.2.2.1, (h2.2.2.2.2.2.2.2.2.2.2.2.2.2.2.2.2.2.2.2.2.2.2.2.2.2.2.2.2.2.2.2.2.2.2.2.2.2.2.2.2.2.2.2.2.1).trans h1.2.2.2.2.2.2.2.2.2.2.2.2.2.2.2.2.2.2.2.2.2.2.2.2.2.2.2.2.2.2.2.2.2.2.2.2.2.2.2.2.2.2.2.2.1, (h2.2.2.2.2.2.2.2.2.2.2.2.2.2.2.2.2.2.2.2.2.2.2.2.2.2.2.2.2.2.2.2.2.2.2.2.2.2.2.2.2.2.2.2.2.2.1).trans h1.2.2.2.2.2.2.2.2.2.2.2.2.2.2.2.2.2.2.2.2.2.2.2.2.2.2.2.2.2.2.2.2.2.2.2.2.2.2.2.2.2.2.2.2.2.1, (h2.2.2.2.2.2.2.2.2.2.2.2.2.2.2.2.2.2.2.2.2.2.2.2.2.2.2.2.2.2.2.2.2.2.2.2.2.2.2.2.2.2.2.2.2.2.2.1).trans h1.2.2.2.2.2.2.2.2.2.2.2.2.2.2.2.2.2.2.2.2.2.2.2.2.2.2.2.2.2.2.2.2.2.2.2.2.2.2.2.2.2.2.2.2.2.2.1, (h2.2.2.2.2.2.2.2.2.2.2.2.2.2.2.2.2.2.2.2.2.2.2.2.2.2.2.2.2.2.2.2.2.2.2.2.2.2.2.2.2.2.2.2.2.2.2.2.1).trans h1.2.2.2.2.2.2.2.2.2.2.2.2.2.2.2.2.2.2.2.2.2.2.2.2.2.2.2.2.2.2.2.2.2.2.2.2.2.2.2.2.2.2.2.2.2.2.2.1, (h2.2.2.2.2.2.2.2.2.2.2.2.2.2.2.2.2.2.2.2.2.2.2.2.2.2.2.2.2.2.2.2.2.2.2.2.2.2.2.2.2.2.2.2.2.2.2.2.2.1).trans h1.2.2.2.2.2.2.2.2.2.2.2.2.2.2.2.2.2.2.2.2.2.2.2.2.2.2.2.2.2.2.2.2.2.2.2.2.2.2.2.2.2.2.2.2.2.2.2.2.1, (h2.2.2.2.2.2.2.2.2.2.2.2.2.2.2.2.2.2.2.2.2.2.2.2.2.2.2.2.2.2.2.2.2.2.2.2.2.2.2.2.2.2.2.2.2.2.2.2.2.2.1).trans h1.2.2.2.2.2.2.2.2.2.2.2.2.2.2.2.2.2.2.2.2.2.2.2.2.2.2.2.2.2.2.2.2.2.2.2.2.2.2.2.2.2.2.2.2.2.2.2.2.2.1, (h2.2.2.2.2.2.2.2.2.2.2.2.2.2.2.2.2.2.2.2.2.2.2.2.2.2.2.2.2.2.2.2.2.2.2.2.2.2.2.2.2.2.2.2.2.2.2.2.2.2.2.1).trans h1.2.2.2.2.2.2.2.2.2.2.2.2.2.2.2.2.2.2.2.2.2.2.2.2.2.2.2.2.2.2.2.2.2.2.2.2.2.2.2.2.2.2.2.2.2.2.2.2.2.2.1, (h2.2.2.2.2.2.2.2.2.2.2.2.2.2.2.2.2.2.2.2.2.2.2.2.2.2.2.2.2.2.2.2.2.2.2.2.2.2.2.2.2.2.2.2.2.2.2.2.2.2.2.2.1).trans h1.2.2.2.2.2.2.2.2.2.2.2.2.2.2.2.2.2.2.2.2.2.2.2.2.2.2.2.2.2.2.2.2.2.2.2.2.2.2.2.2.2.2.2.2.2.2.2.2.2.2.2.1, (h2.2.2.2.2.2.2.2.2.2.2.2.2.2.2.2.2.2.2.2.2.2.2.2.2.2.2.2.2.2.2.2.2.2.2.2.2.2.2.2.2.2.2.2.2.2.2.2.2.2.2.2.2.1).trans h1.2.2.2.2.2.2.2.2.2.2.2.2.2.2.2.2.2.2.2.2.2.2.2.2.2.2.2.2.2.2.2.2.2.2.2.2.2.2.2.2.2.2.2.2.2.2.2.2.2.2.2.2.1, (h2.2.2.2.2.2.2.2.2.2.2.2.2.2.2.2.2.2.2.2.2.2.2.2.2.2.2.2.2.2.2.2.2.2.2.2.2.2.2.2.2.2.2.2.2.2.2.2.2.2.2.2.2.2.1).trans h1.2.2.2.2.2.2.2.2.2.2.2.2.2.2.2.2.2.2.2.2.2.2.2.2.2.2.2.2.2.2.2.2.2.2.2.2.2.2.2.2.2.2.2.2.2.2.2.2.2.2.2.2.2.1, (h2.2.2.2.2.2.2.2.2.2.2.2.2.2.2.2.2.2.2.2.2.2.2.2.2.2.2.2.2.2.2.2.2.2.2.2.2.2.2.2.2.2.2.2.2.2.2.2.2.2.2.2.2.2.2.1).trans h1.2.2.2.2.2.2.2.2.2.2.2.2.2.2.2.2.2.2.2.2.2.2.2.2.2.2.2.2.2.2.2.2.2.2.2.2.2.2.2.2.2.2.2.2.2.2.2.2.2.2.2.2.2.2.1, (h2.2.2.2.2.2.2.2.2.2.2.2.2.2.2.2.2.2.2.2.2.2.2.2.2.2.2.2.2.2.2.2.2.2.2.2.2.2.2.2.2.2.2.2.2.2.2.2.2.2.2.2.2.2.2.2.1).trans h1.2.2.2.2.2.2.2.2.2.2.2.2.2.2.2.2.2.2.2.2.2.2.2.2.2.2.2.2.2.2.2.2.2.2.2.2.2.2.2.2.2.2.2.2.2.2.2.2.2.2.2.2.2.2.2.1, (h2.2.2.2.2.2.2.2.2.2.2.2.2.2.2.2.2.2.2.2.2.2.2.2.2.2.2.2.2.2.2.2.2.2.2.2.2.2.2.2.2.2.2.2.2.2.2.2.2.2.2.2.2.2.2.2.2.1).trans h1.2.2.2.2.2.2.2.2.2.2.2.2.2.2.2.2.2.2.2.2.2.2.2.2.2.2.2.2.2.2.2.2.2.2.2.2.2.2.2.2.2.2.2.2.2.2.2.2.2.2.2.2.2.2.2.2.1, (h2.2.2.2.2.2.2.2.2.2.2.2.2.2.2.2.2.2.2.2.2.2.2.2.2.2.2.2.2.2.2.2.2.2.2.2.2.2.2.2.2.2.2.2.2.2.2.2.2.2.2.2.2.2.2.2.2.2.1).trans h1.2.2.2.2.2.2.2.2.2.2.2.2.2.2.2.2.2.2.2.2.2.2.2.2.2.2.2.2.2.2.2.2.2.2.2.2.2.2.2.2.2.2.2.2.2.2.2.2.2.2.2.2.2.2.2.2.2.1, (h2.2.2.2.2.2.2.2.2.2.2.2.2.2.2.2.2.2.2.2.2.2.2.2.2.2.2.2.2.2.2.2.2.2.2.2.2.2.2.2.2.2.2.2.2.2.2.2.2.2.2.2.2.2.2.2.2.2.2).trans h1.2.2.2.2.2.2.2.2.2.2.2.2.2.2.2.2.2.2.2.2.2.2.2.2.2.2.2.2.2.2.2.2.2.2.2.2.2.2.2.2.2.2.2.2.2.2.2.2.2.2.2.2.2.2.2.2.2.2⟩
theorem dX11_heard_0 : decode cX11_heard 0 = .ok (.aload_n 0, 1) := by decide +kernel
theorem dX11_heard_1 : decode cX11_heard 1 = .ok (.iload_n 1, 1) := by decide +kernel
theorem dX11_heard_2 : decode cX11_heard 2 = .ok (.invokevirtual 383, 3) := by decide +kernel
theorem dX11_heard_5 : decode cX11_heard 5 = .ok (.ifCond .eq 32, 3) := by decide +kernel
theorem dX11_heard_8 : decode cX11_heard 8 = .ok (.iload_n 2, 1) := by decide +kernel
theorem dX11_heard_9 : decode cX11_heard 9 = .ok (.sipush (-9999), 3) := by decide +kernel
theorem dX11_heard_12 : decode cX11_heard 12 = .ok (.sipush 9999, 3) := by decide +kernel
theorem dX11_heard_15 : decode cX11_heard 15 = .ok (.invokestatic 374, 3) := by decide +kernel
theorem dX11_heard_18 : decode cX11_heard 18 = .ok (.ifCond .eq 19, 3) := by decide +kernel
theorem dX11_heard_21 : decode cX11_heard 21 = .ok (.aload_n 0, 1) := by decide +kernel
theorem dX11_heard_22 : decode cX11_heard 22 = .ok (.getfield 395, 3) := by decide +kernel
theorem dX11_heard_25 : decode cX11_heard 25 = .ok (.bipush 30, 2) := by decide +kernel
theorem dX11_heard_27 : decode cX11_heard 27 = .ok (.if_icmp .eq 10, 3) := by decide +kernel
theorem dX11_heard_30 : decode cX11_heard 30 = .ok (.aload_n 0, 1) := by decide +kernel
theorem dX11_heard_31 : decode cX11_heard 31 = .ok (.invokevirtual 377, 3) := by decide +kernel
theorem dX11_heard_34 : decode cX11_heard 34 = .ok (.ifCond .ne 5, 3) := by decide +kernel
theorem dX11_heard_37 : decode cX11_heard 37 = .ok (.iconst (-1), 1) := by decide +kernel
theorem dX11_heard_38 : decode cX11_heard 38 = .ok (.ireturn, 1) := by decide +kernel
theorem dX11_heard_39 : decode cX11_heard 39 = .ok (.aload_n 0, 1) := by decide +kernel
theorem dX11_heard_40 : decode cX11_heard 40 = .ok (.getfield 118, 3) := by decide +kernel
theorem dX11_heard_43 : decode cX11_heard 43 = .ok (.aload_n 0, 1) := by decide +kernel
theorem dX11_heard_44 : decode cX11_heard 44 = .ok (.getfield 395, 3) := by decide +kernel
theorem dX11_heard_47 : decode cX11_heard 47 = .ok (.iload_n 1, 1) := by decide +kernel
theorem dX11_heard_48 : decode cX11_heard 48 = .ok (.iastore, 1) := by decide +kernel
theorem dX11_heard_49 : decode cX11_heard 49 = .ok (.aload_n 0, 1) := by decide +kernel
theorem dX11_heard_50 : decode cX11_heard 50 = .ok (.getfield 121, 3) := by decide +kernel
theorem dX11_heard_53 : decode cX11_heard 53 = .ok (.aload_n 0, 1) := by decide +kernel
theorem dX11_heard_54 : decode cX11_heard 54 = .ok (.getfield 395, 3) := by decide +kernel
theorem dX11_heard_57 : decode cX11_heard 57 = .ok (.iload_n 2, 1) := by decide +kernel
theorem dX11_heard_58 : decode cX11_heard 58 = .ok (.iastore, 1) := by decide +kernel
theorem dX11_heard_59 : decode cX11_heard 59 = .ok (.aload_n 0, 1) := by decide +kernel
theorem dX11_heard_60 : decode cX11_heard 60 = .ok (.getfield 124, 3) := by decide +kernel
theorem dX11_heard_63 : decode cX11_heard 63 = .ok (.aload_n 0, 1) := by decide +kernel
theorem dX11_heard_64 : decode cX11_heard 64 = .ok (.getfield 395, 3) := by decide +kernel
theorem dX11_heard_67 : decode cX11_heard 67 = .ok (.iload_n 3, 1) := by decide +kernel
theorem dX11_heard_68 : decode cX11_heard 68 = .ok (.ifCond .eq 7, 3) := by decide +kernel
theorem dX11_heard_71 : decode cX11_heard 71 = .ok (.iconst 1, 1) := by decide +kernel
theorem dX11_heard_72 : decode cX11_heard 72 = .ok (.goto 4, 3) := by decide +kernel
theorem dX11_heard_75 : decode cX11_heard 75 = .ok (.iconst 0, 1) := by decide +kernel
theorem dX11_heard_76 : decode cX11_heard 76 = .ok (.iastore, 1) := by decide +kernel
theorem dX11_heard_77 : decode cX11_heard 77 = .ok (.aload_n 0, 1) := by decide +kernel
theorem dX11_heard_78 : decode cX11_heard 78 = .ok (.getfield 127, 3) := by decide +kernel
theorem dX11_heard_81 : decode cX11_heard 81 = .ok (.aload_n 0, 1) := by decide +kernel
theorem dX11_heard_82 : decode cX11_heard 82 = .ok (.getfield 395, 3) := by decide +kernel
theorem dX11_heard_85 : decode cX11_heard 85 = .ok (.aload_n 0, 1) := by decide +kernel
theorem dX11_heard_86 : decode cX11_heard 86 = .ok (.getfield 484, 3) := by decide +kernel
theorem dX11_heard_89 : decode cX11_heard 89 = .ok (.iastore, 1) := by decide +kernel
theorem dX11_heard_90 : decode cX11_heard 90 = .ok (.aload_n 0, 1) := by decide +kernel
theorem dX11_heard_91 : decode cX11_heard 91 = .ok (.getfield 130, 3) := by decide +kernel
theorem dX11_heard_94 : decode cX11_heard 94 = .ok (.aload_n 0, 1) := by decide +kernel
theorem dX11_heard_95 : decode cX11_heard 95 = .ok (.getfield 395, 3) := by decide +kernel
theorem dX11_heard_98 : decode cX11_heard 98 = .ok (.iconst (-1), 1) := by decide +kernel
theorem dX11_heard_99 : decode cX11_heard 99 = .ok (.iastore, 1) := by decide +kernel
theorem dX11_heard_100 : decode cX11_heard 100 = .ok (.aload_n 0, 1) := by decide +kernel
theorem dX11_heard_101 : decode cX11_heard 101 = .ok (.dup, 1) := by decide +kernel
theorem dX11_heard_102 : decode cX11_heard 102 = .ok (.getfield 395, 3) := by decide +kernel
theorem dX11_heard_105 : decode cX11_heard 105 = .ok (.iconst 1, 1) := by decide +kernel
theorem dX11_heard_106 : decode cX11_heard 106 = .ok (.iadd, 1) := by decide +kernel
theorem dX11_heard_107 : decode cX11_heard 107 = .ok (.putfield 395, 3) := by decide +kernel
theorem dX11_heard_110 : decode cX11_heard 110 = .ok (.aload_n 0, 1) := by decide +kernel
theorem dX11_heard_111 : decode cX11_heard 111 = .ok (.getfield 395, 3) := by decide +kernel
theorem dX11_heard_114 : decode cX11_heard 114 = .ok (.iconst 1, 1) := by decide +kernel
theorem dX11_heard_115 : decode cX11_heard 115 = .ok (.isub, 1) := by decide +kernel
theorem dX11_heard_116 : decode cX11_heard 116 = .ok (.ireturn, 1) := by decide +kernel
theorem wd_1981 : (Cond.code ⟨"WebCourtModel", "heard", "(IIZ)I"⟩ prog_13_method_111_code (4 : Nat) (Option.some FieldType.int)) ∈ gtb := gtb_c8 192 (by decide +kernel) rfl
theorem wd_1410 : (Cond.fieldLink "WebCourtModel" (118 : Nat) "WebCourtModel" "sCase" "[I") ∈ gtb := gtb_c6 101 (by decide +kernel) rfl
theorem gf_RX11_118 {p : Program} {l : Launch} {e : Env} {R : Room} {s : State} {m : MethodId} {args : Array Value} {below : List Frame} {meth : Method} {c : Code} {H : Heap} {locs : List Loc} {cells slots : Nat} {Q : State → Prop} {cc : ByteArray} {pc nL : Nat} {ls : Array Slot} {rest : List Value} {D : va_G} {cy : Nat → ClassId} {A : Nat → Prop} {ws : va_W} {b : Nat} {fs : List Value} {v : Value} (C : Cx p s m args c cc nL RX11 D cy A) (hO : Wo D A ws s.heap H locs) (q0 : Nat) (he : ws[q0]? = some (b, .inr (11, fs))) (hv : fs[54]? = some v) (hdg : decode cc pc = .ok (.getfield 118, 3)) (kk : W p l e R s m args below meth c H locs cells slots Q (F0 m (pc + 3) ls (v :: rest))) : W p l e R s m args below meth c H locs cells slots Q (F0 m pc ls (.ref b :: rest)) := gF (k := 54) C hO q0 he rfl inFX11 (by decide) wd_1410 rfl hv hdg kk
theorem Km19_wA34 {u v : St} {D : va_G} {A : Nat → Prop} {cy : Nat → ClassId} {a : Nat → Nat} {hp H : Heap} {locs : List Loc} {f : Nat → Int32} (_ : Wo D A (mW cy a (sA v 34 f)) hp H locs) (h : Km19 u v) : Km19 u (sA v 34 f) := ⟨h.1, h.2.1, h.2.2.1, h.2.2.2.1, h.2.2.2.2.1, h.2.2.2.2.2.1, h.2.2.2.2.2.2.1, h.2.2.2.2.2.2.2.1, h.2.2.2.2.2.2.2.2.1, h.2.2.2.2.2.2.2.2.2.1, h.2.2.2.2.2.2.2.2.2.2.1, h.2.2.2.2.2.2.2.2.2.2.2.1, h.2.2.2.2.2.2.2.2.2.2.2.2.1, h.2.2.2.2.2.2.2.2.2.2.2.2.2.1, h.2.2.2.2.2.2.2.2.2.2.2.2.2.2.1, h.2.2.2.2.2.2.2.2.2.2.2.2.2.2.2.1, h.2.2.2.2.2.2.2.2.2.2.2.2.2.2.2.2.1, h.2.2.2.2.2.2.2.2.2.2.2.2.2.2.2.2.2.1, h.2.2.2.2.2.2.2.2.2.2.2.2.2.2.2.2.2.2.1, h.2.2.2.2.2.2.2.2.2.2.2.2.2.2.2.2.2.2.2.1, h.2.2.2.2.2.2.2.2.2.2.2.2.2.2.2.2.2.2.2.2.1, h.2.2.2.2.2.2.2.2.2.2.2.2.2.2.2.2.2.2.2.2.2.1, h.2.2.2.2.2.2.2.2.2.2.2.2.2.2.2.2.2.2.2.2.2.2.1, h.2.2.2.2.2.2.2.2.2.2.2.2.2.2.2.2.2.2.2.2.2.2.2.1, h.2.2.2.2.2.2.2.2.2.2.2.2.2.2.2.2.2.2.2.2.2.2.2.2.1, h.2.2.2.2.2.2.2.2.2.2.2.2.2.2.2.2.2.2.2.2.2.2.2.2.2.1, h.2.2.2.2.2.2.2.2.2.2.2.2.2.2.2.2.2.2.2.2.2.2.2.2.2.2.1, h.2.2.2.2.2.2.2.2.2.2.2.2.2.2.2.2.2.2.2.2.2.2.2.2.2.2.2.1, h.2.2.2.2.2.2.2.2.2.2.2.2.2.2.2.2.2.2.2.2.2.2.2.2.2.2.2.2.1, h.2.2.2.2.2.2.2.2.2.2.2.2.2.2.2.2.2.2.2.2.2.2.2.2.2.2.2.2.2.1, h.2.2.2.2.2.2.2.2.2.2.2.2.2.2.2.2.2.2.2.2.2.2.2.2.2.2.2.2.2.2.1, h.2.2.2.2.2.2.2.2.2.2.2.2.2.2.2.2.2.2.2.2.2.2.2.2.2.2.2.2.2.2.2.1, h.2.2.2.2.2.2.2.2.2.2.2.2.2.2.2.2.2.2.2.2.2.2.2.2.2.2.2.2.2.2.2.2.1, h.2.2.2.2.2.2.2.2.2.2.2.2.2.2.2.2.2.2.2.2.2.2.2.2.2.2.2.2.2.2.2.2.2.1, h.2.2.2.2.2.2.2.2.2.2.2.2.2.2.2.2.2.2.2.2.2.2.2.2.2.2.2.2.2.2.2.2.2.2.1, h.2.2.2.2.2.2.2.2.2.2.2.2.2.2.2.2.2.2.2.2.2.2.2.2.2.2.2.2.2.2.2.2.2.2.2.1, h.2.2.2.2.2.2.2.2.2.2.2.2.2.2.2.2.2.2.2.2.2.2.2.2.2.2.2.2.2.2.2.2.2.2.2.2.1, h.2.2.2.2.2.2.2.2.2.2.2.2.2.2.2.2.2.2.2.2.2.2.2.2.2.2.2.2.2.2.2.2.2.2.2.2.2.1, h.2.2.2.2.2.2.2.2.2.2.2.2.2.2.2.2.2.2.2.2.2.2.2.2.2.2.2.2.2.2.2.2.2.2.2.2.2.2.1, h.2.2.2.2.2.2.2.2.2.2.2.2.2.2.2.2.2.2.2.2.2.2.2.2.2.2.2.2.2.2.2.2.2.2.2.2.2.2.2.1, h.2.2.2.2.2.2.2.2.2.2.2.2.2.2.2.2.2.2.2.2.2.2.2.2.2.2.2.2.2.2.2.2.2.2.2.2.2.2.2.2.1, h.2.2.2.2.2.2.2.2.2.2.2.2.2.2.2.2.2.2.2.2.2.2.2.2.2.2.2.2.2.2.2.2.2.2.2.2.2.2.2.2.2.1, h.2.2.2.2.2.2.2.2.2.2.2.2.2.2.2.2.2.2.2.2.2.2.2.2.2.2.2.2.2.2.2.2.2.2.2.2.2.2.2.2.2.2.1, h.2.2.2.2.2.2.2.2.2.2.2.2.2.2.2.2.2.2.2.2.2.2.2.2.2.2.2.2.2.2.2.2.2.2.2.2.2.2.2.2.2.2.2.1, h.2.2.2.2.2.2.2.2.2.2.2.2.2.2.2.2.2.2.2.2.2.2.2.2.2.2.2.2.2.2.2.2.2.2.2.2.2.2.2.2.2.2.2.2.1, h.2.2.2.2.2.2.2.2.2.2.2.2.2.2.2.2.2.2.2.2.2.2.2.2.2.2.2.2.2.2.2.2.2.2.2.2.2.2.2.2.2.2.2.2.2.1, h.2.2.2.2.2.2.2.2.2.2.2.2.2.2.2.2.2.2.2.2.2.2.2.2.2.2.2.2.2.2.2.2.2.2.2.2.2.2.2.2.2.2.2.2.2.2.1, h.2.2.2.2.2.2.2.2.2.2.2.2.2.2.2.2.2.2.2.2.2.2.2.2.2.2.2.2.2.2.2.2.2.2.2.2.2.2.2.2.2.2.2.2.2.2.2.1, h.2.2.2.2.2.2.2.2.2.2.2.2.2.2.2.2.2.2.2.2.2.2.2.2.2.2.2.2.2.2.2.2.2.2.2.2.2.2.2.2.2.2.2.2.2.2.2.2.1, h.2.2.2.2.2.2.2.2.2.2.2.2.2.2.2.2.2.2.2.2.2.2.2.2.2.2.2.2.2.2.2.2.2.2.2.2.2.2.2.2.2.2.2.2.2.2.2.2.2.1, h.2.2.2.2.2.2.2.2.2.2.2.2.2.2.2.2.2.2.2.2.2.2.2.2.2.2.2.2.2.2.2.2.2.2.2.2.2.2.2.2.2.2.2.2.2.2.2.2.2.2.1, h.2.2.2.2.2.2.2.2.2.2.2.2.2.2.2.2.2.2.2.2.2.2.2.2.2.2.2.2.2.2.2.2.2.2.2.2.2.2.2.2.2.2.2.2.2.2.2.2.2.2.2.1, h.2.2.2.2.2.2.2.2.2.2.2.2.2.2.2.2.2.2.2.2.2.2.2.2.2.2.2.2.2.2.2.2.2.2.2.2.2.2.2.2.2.2.2.2.2.2.2.2.2.2.2.2.1, h.2.2.2.2.2.2.2.2.2.2.2.2.2.2.2.2.2.2.2.2.2.2.2.2.2.2.2.2.2.2.2.2.2.2.2.2.2.2.2.2.2.2.2.2.2.2.2.2.2.2.2.2.2.1, h.2.2.2.2.2.2.2.2.2.2.2.2.2.2.2.2.2.2.2.2.2.2.2.2.2.2.2.2.2.2.2.2.2.2.2.2.2.2.2.2.2.2.2.2.2.2.2.2.2.2.2.2.2.2.1, h.2.2.2.2.2.2.2.2.2.2.2.2.2.2.2.2.2.2.2.2.2.2.2.2.2.2.2.2.2.2.2.2.2.2.2.2.2.2.2.2.2.2.2.2.2.2.2.2.2.2.2.2.2.2.2.1, h.2.2.2.2.2.2.2.2.2.2.2.2.2.2.2.2.2.2.2.2.2.2.2.2.2.2.2.2.2.2.2.2.2.2.2.2.2.2.2.2.2.2.2.2.2.2.2.2.2.2.2.2.2.2.2.2.1, h.2.2.2.2.2.2.2.2.2.2.2.2.2.2.2.2.2.2.2.2.2.2.2.2.2.2.2.2.2.2.2.2.2.2.2.2.2.2.2.2.2.2.2.2.2.2.2.2.2.2.2.2.2.2.2.2.2.1, h.2.2.2.2.2.2.2.2.2.2.2.2.2.2.2.2.2.2.2.2.2.2.2.2.2.2.2.2.2.2.2.2.2.2.2.2.2.2.2.2.2.2.2.2.2.2.2.2.2.2.2.2.2.2.2.2.2.2⟩
theorem wd_1411 : (Cond.fieldLink "WebCourtModel" (121 : Nat) "WebCourtModel" "sMuch" "[I") ∈ gtb := gtb_c6 102 (by decide +kernel) rfl
theorem gf_RX11_121 {p : Program} {l : Launch} {e : Env} {R : Room} {s : State} {m : MethodId} {args : Array Value} {below : List Frame} {meth : Method} {c : Code} {H : Heap} {locs : List Loc} {cells slots : Nat} {Q : State → Prop} {cc : ByteArray} {pc nL : Nat} {ls : Array Slot} {rest : List Value} {D : va_G} {cy : Nat → ClassId} {A : Nat → Prop} {ws : va_W} {b : Nat} {fs : List Value} {v : Value} (C : Cx p s m args c cc nL RX11 D cy A) (hO : Wo D A ws s.heap H locs) (q0 : Nat) (he : ws[q0]? = some (b, .inr (11, fs))) (hv : fs[55]? = some v) (hdg : decode cc pc = .ok (.getfield 121, 3)) (kk : W p l e R s m args below meth c H locs cells slots Q (F0 m (pc + 3) ls (v :: rest))) : W p l e R s m args below meth c H locs cells slots Q (F0 m pc ls (.ref b :: rest)) := gF (k := 55) C hO q0 he rfl inFX11 (by decide) wd_1411 rfl hv hdg kk
theorem Km19_wA35 {u v : St} {D : va_G} {A : Nat → Prop} {cy : Nat → ClassId} {a : Nat → Nat} {hp H : Heap} {locs : List Loc} {f : Nat → Int32} (_ : Wo D A (mW cy a (sA v 35 f)) hp H locs) (h : Km19 u v) : Km19 u (sA v 35 f) := ⟨h.1, h.2.1, h.2.2.1, h.2.2.2.1, h.2.2.2.2.1, h.2.2.2.2.2.1, h.2.2.2.2.2.2.1, h.2.2.2.2.2.2.2.1, h.2.2.2.2.2.2.2.2.1, h.2.2.2.2.2.2.2.2.2.1, h.2.2.2.2.2.2.2.2.2.2.1, h.2.2.2.2.2.2.2.2.2.2.2.1, h.2.2.2.2.2.2.2.2.2.2.2.2.1, h.2.2.2.2.2.2.2.2.2.2.2.2.2.1, h.2.2.2.2.2.2.2.2.2.2.2.2.2.2.1, h.2.2.2.2.2.2.2.2.2.2.2.2.2.2.2.1, h.2.2.2.2.2.2.2.2.2.2.2.2.2.2.2.2.1, h.2.2.2.2.2.2.2.2.2.2.2.2.2.2.2.2.2.1, h.2.2.2.2.2.2.2.2.2.2.2.2.2.2.2.2.2.2.1, h.2.2.2.2.2.2.2.2.2.2.2.2.2.2.2.2.2.2.2.1, h.2.2.2.2.2.2.2.2.2.2.2.2.2.2.2.2.2.2.2.2.1, h.2.2.2.2.2.2.2.2.2.2.2.2.2.2.2.2.2.2.2.2.2.1, h.2.2.2.2.2.2.2.2.2.2.2.2.2.2.2.2.2.2.2.2.2.2.1, h.2.2.2.2.2.2.2.2.2.2.2.2.2.2.2.2.2.2.2.2.2.2.2.1, h.2.2.2.2.2.2.2.2.2.2.2.2.2.2.2.2.2.2.2.2.2.2.2.2.1, h.2.2.2.2.2.2.2.2.2.2.2.2.2.2.2.2.2.2.2.2.2.2.2.2.2.1, h.2.2.2.2.2.2.2.2.2.2.2.2.2.2.2.2.2.2.2.2.2.2.2.2.2.2.1, h.2.2.2.2.2.2.2.2.2.2.2.2.2.2.2.2.2.2.2.2.2.2.2.2.2.2.2.1, h.2.2.2.2.2.2.2.2.2.2.2.2.2.2.2.2.2.2.2.2.2.2.2.2.2.2.2.2.1, h.2.2.2.2.2.2.2.2.2.2.2.2.2.2.2.2.2.2.2.2.2.2.2.2.2.2.2.2.2.1, h.2.2.2.2.2.2.2.2.2.2.2.2.2.2.2.2.2.2.2.2.2.2.2.2.2.2.2.2.2.2.1, h.2.2.2.2.2.2.2.2.2.2.2.2.2.2.2.2.2.2.2.2.2.2.2.2.2.2.2.2.2.2.2.1, h.2.2.2.2.2.2.2.2.2.2.2.2.2.2.2.2.2.2.2.2.2.2.2.2.2.2.2.2.2.2.2.2.1, h.2.2.2.2.2.2.2.2.2.2.2.2.2.2.2.2.2.2.2.2.2.2.2.2.2.2.2.2.2.2.2.2.2.1, h.2.2.2.2.2.2.2.2.2.2.2.2.2.2.2.2.2.2.2.2.2.2.2.2.2.2.2.2.2.2.2.2.2.2.1, h.2.2.2.2.2.2.2.2.2.2.2.2.2.2.2.2.2.2.2.2.2.2.2.2.2.2.2.2.2.2.2.2.2.2.2.1, h.2.2.2.2.2.2.2.2.2.2.2.2.2.2.2.2.2.2.2.2.2.2.2.2.2.2.2.2.2.2.2.2.2.2.2.2.1, h.2.2.2.2.2.2.2.2.2.2.2.2.2.2.2.2.2.2.2.2.2.2.2.2.2.2.2.2.2.2.2.2.2.2.2.2.2.1, h.2.2.2.2.2.2.2.2.2.2.2.2.2.2.2.2.2.2.2.2.2.2.2.2.2.2.2.2.2.2.2.2.2.2.2.2.2.2.1, h.2.2.2.2.2.2.2.2.2.2.2.2.2.2.2.2.2.2.2.2.2.2.2.2.2.2.2.2.2.2.2.2.2.2.2.2.2.2.2.1, h.2.2.2.2.2.2.2.2.2.2.2.2.2.2.2.2.2.2.2.2.2.2.2.2.2.2.2.2.2.2.2.2.2.2.2.2.2.2.2.2.1, h.2.2.2.2.2.2.2.2.2.2.2.2.2.2.2.2.2.2.2.2.2.2.2.2.2.2.2.2.2.2.2.2.2.2.2.2.2.2.2.2.2.1, h.2.2.2.2.2.2.2.2.2.2.2.2.2.2.2.2.2.2.2.2.2.2.2.2.2.2.2.2.2.2.2.2.2.2.2.2.2.2.2.2.2.2.1, h.2.2.2.2.2.2.2.2.2.2.2.2.2.2.2.2.2.2.2.2.2.2.2.2.2.2.2.2.2.2.2.2.2.2.2.2.2.2.2.2.2.2.2.1, h.2.2.2.2.2.2.2.2.2.2.2.2.2.2.2.2.2.2.2.2.2.2.2.2.2.2.2.2.2.2.2.2.2.2.2.2.2.2.2.2.2.2.2.2.1, h.2.2.2.2.2.2.2.2.2.2.2.2.2.2.2.2.2.2.2.2.2.2.2.2.2.2.2.2.2.2.2.2.2.2.2.2.2.2.2.2.2.2.2.2.2.1, h.2.2.2.2.2.2.2.2.2.2.2.2.2.2.2.2.2.2.2.2.2.2.2.2.2.2.2.2.2.2.2.2.2.2.2.2.2.2.2.2.2.2.2.2.2.2.1, h.2.2.2.2.2.2.2.2.2.2.2.2.2.2.2.2.2.2.2.2.2.2.2.2.2.2.2.2.2.2.2.2.2.2.2.2.2.2.2.2.2.2.2.2.2.2.2.1, h.2.2.2.2.2.2.2.2.2.2.2.2.2.2.2.2.2.2.2.2.2.2.2.2.2.2.2.2.2.2.2.2.2.2.2.2.2.2.2.2.2.2.2.2.2.2.2.2.1, h.2.2.2.2.2.2.2.2.2.2.2.2.2.2.2.2.2.2.2.2.2.2.2.2.2.2.2.2.2.2.2.2.2.2.2.2.2.2.2.2.2.2.2.2.2.2.2.2.2.1, h.2.2.2.2.2.2.2.2.2.2.2.2.2.2.2.2.2.2.2.2.2.2.2.2.2.2.2.2.2.2.2.2.2.2.2.2.2.2.2.2.2.2.2.2.2.2.2.2.2.2.1, h.2.2.2.2.2.2.2.2.2.2.2.2.2.2.2.2.2.2.2.2.2.2.2.2.2.2.2.2.2.2.2.2.2.2.2.2.2.2.2.2.2.2.2.2.2.2.2.2.2.2.2.1, h.2.2.2.2.2.2.2.2.2.2.2.2.2.2.2.2.2.2.2.2.2.2.2.2.2.2.2.2.2.2.2.2.2.2.2.2.2.2.2.2.2.2.2.2.2.2.2.2.2.2.2.2.1, h.2.2.2.2.2.2.2.2.2.2.2.2.2.2.2.2.2.2.2.2.2.2.2.2.2.2.2.2.2.2.2.2.2.2.2.2.2.2.2.2.2.2.2.2.2.2.2.2.2.2.2.2.2.1, h.2.2.2.2.2.2.2.2.2.2.2.2.2.2.2.2.2.2.2.2.2.2.2.2.2.2.2.2.2.2.2.2.2.2.2.2.2.2.2.2.2.2.2.2.2.2.2.2.2.2.2.2.2.2.1, h.2.2.2.2.2.2.2.2.2.2.2.2.2.2.2.2.2.2.2.2.2.2.2.2.2.2.2.2.2.2.2.2.2.2.2.2.2.2.2.2.2.2.2.2.2.2.2.2.2.2.2.2.2.2.2.1, h.2.2.2.2.2.2.2.2.2.2.2.2.2.2.2.2.2.2.2.2.2.2.2.2.2.2.2.2.2.2.2.2.2.2.2.2.2.2.2.2.2.2.2.2.2.2.2.2.2.2.2.2.2.2.2.2.1, h.2.2.2.2.2.2.2.2.2.2.2.2.2.2.2.2.2.2.2.2.2.2.2.2.2.2.2.2.2.2.2.2.2.2.2.2.2.2.2.2.2.2.2.2.2.2.2.2.2.2.2.2.2.2.2.2.2.1, h.2.2.2.2.2.2.2.2.2.2.2.2.2.2.2.2.2.2.2.2.2.2.2.2.2.2.2.2.2.2.2.2.2.2.2.2.2.2.2.2.2.2.2.2.2.2.2.2.2.2.2.2.2.2.2.2.2.2⟩
theorem wd_1412 : (Cond.fieldLink "WebCourtModel" (124 : Nat) "WebCourtModel" "sIs" "[I") ∈ gtb := gtb_c6 103 (by decide +kernel) rfl
theorem gf_RX11_124 {p : Program} {l : Launch} {e : Env} {R : Room} {s : State} {m : MethodId} {args : Array Value} {below : List Frame} {meth : Method} {c : Code} {H : Heap} {locs : List Loc} {cells slots : Nat} {Q : State → Prop} {cc : ByteArray} {pc nL : Nat} {ls : Array Slot} {rest : List Value} {D : va_G} {cy : Nat → ClassId} {A : Nat → Prop} {ws : va_W} {b : Nat} {fs : List Value} {v : Value} (C : Cx p s m args c cc nL RX11 D cy A) (hO : Wo D A ws s.heap H locs) (q0 : Nat) (he : ws[q0]? = some (b, .inr (11, fs))) (hv : fs[56]? = some v) (hdg : decode cc pc = .ok (.getfield 124, 3)) (kk : W p l e R s m args below meth c H locs cells slots Q (F0 m (pc + 3) ls (v :: rest))) : W p l e R s m args below meth c H locs cells slots Q (F0 m pc ls (.ref b :: rest)) := gF (k := 56) C hO q0 he rfl inFX11 (by decide) wd_1412 rfl hv hdg kk
theorem Km19_wA36 {u v : St} {D : va_G} {A : Nat → Prop} {cy : Nat → ClassId} {a : Nat → Nat} {hp H : Heap} {locs : List Loc} {f : Nat → Int32} (_ : Wo D A (mW cy a (sA v 36 f)) hp H locs) (h : Km19 u v) : Km19 u (sA v 36 f) := ⟨h.1, h.2.1, h.2.2.1, h.2.2.2.1, h.2.2.2.2.1, h.2.2.2.2.2.1, h.2.2.2.2.2.2.1, h.2.2.2.2.2.2.2.1, h.2.2.2.2.2.2.2.2.1, h.2.2.2.2.2.2.2.2.2.1, h.2.2.2.2.2.2.2.2.2.2.1, h.2.2.2.2.2.2.2.2.2.2.2.1, h.2.2.2.2.2.2.2.2.2.2.2.2.1, h.2.2.2.2.2.2.2.2.2.2.2.2.2.1, h.2.2.2.2.2.2.2.2.2.2.2.2.2.2.1, h.2.2.2.2.2.2.2.2.2.2.2.2.2.2.2.1, h.2.2.2.2.2.2.2.2.2.2.2.2.2.2.2.2.1, h.2.2.2.2.2.2.2.2.2.2.2.2.2.2.2.2.2.1, h.2.2.2.2.2.2.2.2.2.2.2.2.2.2.2.2.2.2.1, h.2.2.2.2.2.2.2.2.2.2.2.2.2.2.2.2.2.2.2.1, h.2.2.2.2.2.2.2.2.2.2.2.2.2.2.2.2.2.2.2.2.1, h.2.2.2.2.2.2.2.2.2.2.2.2.2.2.2.2.2.2.2.2.2.1, h.2.2.2.2.2.2.2.2.2.2.2.2.2.2.2.2.2.2.2.2.2.2.1, h.2.2.2.2.2.2.2.2.2.2.2.2.2.2.2.2.2.2.2.2.2.2.2.1, h.2.2.2.2.2.2.2.2.2.2.2.2.2.2.2.2.2.2.2.2.2.2.2.2.1, h.2.2.2.2.2.2.2.2.2.2.2.2.2.2.2.2.2.2.2.2.2.2.2.2.2.1, h.2.2.2.2.2.2.2.2.2.2.2.2.2.2.2.2.2.2.2.2.2.2.2.2.2.2.1, h.2.2.2.2.2.2.2.2.2.2.2.2.2.2.2.2.2.2.2.2.2.2.2.2.2.2.2.1, h.2.2.2.2.2.2.2.2.2.2.2.2.2.2.2.2.2.2.2.2.2.2.2.2.2.2.2.2.1, h.2.2.2.2.2.2.2.2.2.2.2.2.2.2.2.2.2.2.2.2.2.2.2.2.2.2.2.2.2.1, h.2.2.2.2.2.2.2.2.2.2.2.2.2.2.2.2.2.2.2.2.2.2.2.2.2.2.2.2.2.2.1, h.2.2.2.2.2.2.2.2.2.2.2.2.2.2.2.2.2.2.2.2.2.2.2.2.2.2.2.2.2.2.2.1, h.2.2.2.2.2.2.2.2.2.2.2.2.2.2.2.2.2.2.2.2.2.2.2.2.2.2.2.2.2.2.2.2.1, h.2.2.2.2.2.2.2.2.2.2.2.2.2.2.2.2.2.2.2.2.2.2.2.2.2.2.2.2.2.2.2.2.2.1, h.2.2.2.2.2.2.2.2.2.2.2.2.2.2.2.2.2.2.2.2.2.2.2.2.2.2.2.2.2.2.2.2.2.2.1, h.2.2.2.2.2.2.2.2.2.2.2.2.2.2.2.2.2.2.2.2.2.2.2.2.2.2.2.2.2.2.2.2.2.2.2.1, h.2.2.2.2.2.2.2.2.2.2.2.2.2.2.2.2.2.2.2.2.2.2.2.2.2.2.2.2.2.2.2.2.2.2.2.2.1, h.2.2.2.2.2.2.2.2.2.2.2.2.2.2.2.2.2.2.2.2.2.2.2.2.2.2.2.2.2.2.2.2.2.2.2.2.2.1, h.2.2.2.2.2.2.2.2.2.2.2.2.2.2.2.2.2.2.2.2.2.2.2.2.2.2.2.2.2.2.2.2.2.2.2.2.2.2.1, h.2.2.2.2.2.2.2.2.2.2.2.2.2.2.2.2.2.2.2.2.2.2.2.2.2.2.2.2.2.2.2.2.2.2.2.2.2.2.2.1, h.2.2.2.2.2.2.2.2.2.2.2.2.2.2.2.2.2.2.2.2.2.2.2.2.2.2.2.2.2.2.2.2.2.2.2.2.2.2.2.2.1, h.2.2.2.2.2.2.2.2.2.2.2.2.2.2.2.2.2.2.2.2.2.2.2.2.2.2.2.2.2.2.2.2.2.2.2.2.2.2.2.2.2.1, h.2.2.2.2.2.2.2.2.2.2.2.2.2.2.2.2.2.2.2.2.2.2.2.2.2.2.2.2.2.2.2.2.2.2.2.2.2.2.2.2.2.2.1, h.2.2.2.2.2.2.2.2.2.2.2.2.2.2.2.2.2.2.2.2.2.2.2.2.2.2.2.2.2.2.2.2.2.2.2.2.2.2.2.2.2.2.2.1, h.2.2.2.2.2.2.2.2.2.2.2.2.2.2.2.2.2.2.2.2.2.2.2.2.2.2.2.2.2.2.2.2.2.2.2.2.2.2.2.2.2.2.2.2.1, h.2.2.2.2.2.2.2.2.2.2.2.2.2.2.2.2.2.2.2.2.2.2.2.2.2.2.2.2.2.2.2.2.2.2.2.2.2.2.2.2.2.2.2.2.2.1, h.2.2.2.2.2.2.2.2.2.2.2.2.2.2.2.2.2.2.2.2.2.2.2.2.2.2.2.2.2.2.2.2.2.2.2.2.2.2.2.2.2.2.2.2.2.2.1, h.2.2.2.2.2.2.2.2.2.2.2.2.2.2.2.2.2.2.2.2.2.2.2.2.2.2.2.2.2.2.2.2.2.2.2.2.2.2.2.2.2.2.2.2.2.2.2.1, h.2.2.2.2.2.2.2.2.2.2.2.2.2.2.2.2.2.2.2.2.2.2.2.2.2.2.2.2.2.2.2.2.2.2.2.2.2.2.2.2.2.2.2.2.2.2.2.2.1, h.2.2.2.2.2.2.2.2.2.2.2.2.2.2.2.2.2.2.2.2.2.2.2.2.2.2.2.2.2.2.2.2.2.2.2.2.2.2.2.2.2.2.2.2.2.2.2.2.2.1, h.2.2.2.2.2.2.2.2.2.2.2.2.2.2.2.2.2.2.2.2.2.2.2.2.2.2.2.2.2.2.2.2.2.2.2.2.2.2.2.2.2.2.2.2.2.2.2.2.2.2.1, h.2.2.2.2.2.2.2.2.2.2.2.2.2.2.2.2.2.2.2.2.2.2.2.2.2.2.2.2.2.2.2.2.2.2.2.2.2.2.2.2.2.2.2.2.2.2.2.2.2.2.2.1, h.2.2.2.2.2.2.2.2.2.2.2.2.2.2.2.2.2.2.2.2.2.2.2.2.2.2.2.2.2.2.2.2.2.2.2.2.2.2.2.2.2.2.2.2.2.2.2.2.2.2.2.2.1, h.2.2.2.2.2.2.2.2.2.2.2.2.2.2.2.2.2.2.2.2.2.2.2.2.2.2.2.2.2.2.2.2.2.2.2.2.2.2.2.2.2.2.2.2.2.2.2.2.2.2.2.2.2.1, h.2.2.2.2.2.2.2.2.2.2.2.2.2.2.2.2.2.2.2.2.2.2.2.2.2.2.2.2.2.2.2.2.2.2.2.2.2.2.2.2.2.2.2.2.2.2.2.2.2.2.2.2.2.2.1, h.2.2.2.2.2.2.2.2.2.2.2.2.2.2.2.2.2.2.2.2.2.2.2.2.2.2.2.2.2.2.2.2.2.2.2.2.2.2.2.2.2.2.2.2.2.2.2.2.2.2.2.2.2.2.2.1, h.2.2.2.2.2.2.2.2.2.2.2.2.2.2.2.2.2.2.2.2.2.2.2.2.2.2.2.2.2.2.2.2.2.2.2.2.2.2.2.2.2.2.2.2.2.2.2.2.2.2.2.2.2.2.2.2.1, h.2.2.2.2.2.2.2.2.2.2.2.2.2.2.2.2.2.2.2.2.2.2.2.2.2.2.2.2.2.2.2.2.2.2.2.2.2.2.2.2.2.2.2.2.2.2.2.2.2.2.2.2.2.2.2.2.2.1, h.2.2.2.2.2.2.2.2.2.2.2.2.2.2.2.2.2.2.2.2.2.2.2.2.2.2.2.2.2.2.2.2.2.2.2.2.2.2.2.2.2.2.2.2.2.2.2.2.2.2.2.2.2.2.2.2.2.2⟩
theorem wd_1413 : (Cond.fieldLink "WebCourtModel" (127 : Nat) "WebCourtModel" "sTold" "[I") ∈ gtb := gtb_c6 104 (by decide +kernel) rfl
theorem gf_RX11_127 {p : Program} {l : Launch} {e : Env} {R : Room} {s : State} {m : MethodId} {args : Array Value} {below : List Frame} {meth : Method} {c : Code} {H : Heap} {locs : List Loc} {cells slots : Nat} {Q : State → Prop} {cc : ByteArray} {pc nL : Nat} {ls : Array Slot} {rest : List Value} {D : va_G} {cy : Nat → ClassId} {A : Nat → Prop} {ws : va_W} {b : Nat} {fs : List Value} {v : Value} (C : Cx p s m args c cc nL RX11 D cy A) (hO : Wo D A ws s.heap H locs) (q0 : Nat) (he : ws[q0]? = some (b, .inr (11, fs))) (hv : fs[57]? = some v) (hdg : decode cc pc = .ok (.getfield 127, 3)) (kk : W p l e R s m args below meth c H locs cells slots Q (F0 m (pc + 3) ls (v :: rest))) : W p l e R s m args below meth c H locs cells slots Q (F0 m pc ls (.ref b :: rest)) := gF (k := 57) C hO q0 he rfl inFX11 (by decide) wd_1413 rfl hv hdg kk
theorem Km19_wA37 {u v : St} {D : va_G} {A : Nat → Prop} {cy : Nat → ClassId} {a : Nat → Nat} {hp H : Heap} {locs : List Loc} {f : Nat → Int32} (_ : Wo D A (mW cy a (sA v 37 f)) hp H locs) (h : Km19 u v) : Km19 u (sA v 37 f) := ⟨h.1, h.2.1, h.2.2.1, h.2.2.2.1, h.2.2.2.2.1, h.2.2.2.2.2.1, h.2.2.2.2.2.2.1, h.2.2.2.2.2.2.2.1, h.2.2.2.2.2.2.2.2.1, h.2.2.2.2.2.2.2.2.2.1, h.2.2.2.2.2.2.2.2.2.2.1, h.2.2.2.2.2.2.2.2.2.2.2.1, h.2.2.2.2.2.2.2.2.2.2.2.2.1, h.2.2.2.2.2.2.2.2.2.2.2.2.2.1, h.2.2.2.2.2.2.2.2.2.2.2.2.2.2.1, h.2.2.2.2.2.2.2.2.2.2.2.2.2.2.2.1, h.2.2.2.2.2.2.2.2.2.2.2.2.2.2.2.2.1, h.2.2.2.2.2.2.2.2.2.2.2.2.2.2.2.2.2.1, h.2.2.2.2.2.2.2.2.2.2.2.2.2.2.2.2.2.2.1, h.2.2.2.2.2.2.2.2.2.2.2.2.2.2.2.2.2.2.2.1, h.2.2.2.2.2.2.2.2.2.2.2.2.2.2.2.2.2.2.2.2.1, h.2.2.2.2.2.2.2.2.2.2.2.2.2.2.2.2.2.2.2.2.2.1, h.2.2.2.2.2.2.2.2.2.2.2.2.2.2.2.2.2.2.2.2.2.2.1, h.2.2.2.2.2.2.2.2.2.2.2.2.2.2.2.2.2.2.2.2.2.2.2.1, h.2.2.2.2.2.2.2.2.2.2.2.2.2.2.2.2.2.2.2.2.2.2.2.2.1, h.2.2.2.2.2.2.2.2.2.2.2.2.2.2.2.2.2.2.2.2.2.2.2.2.2.1, h.2.2.2.2.2.2.2.2.2.2.2.2.2.2.2.2.2.2.2.2.2.2.2.2.2.2.1, h.2.2.2.2.2.2.2.2.2.2.2.2.2.2.2.2.2.2.2.2.2.2.2.2.2.2.2.1, h.2.2.2.2.2.2.2.2.2.2.2.2.2.2.2.2.2.2.2.2.2.2.2.2.2.2.2.2.1, h.2.2.2.2.2.2.2.2.2.2.2.2.2.2.2.2.2.2.2.2.2.2.2.2.2.2.2.2.2.1, h.2.2.2.2.2.2.2.2.2.2.2.2.2.2.2.2.2.2.2.2.2.2.2.2.2.2.2.2.2.2.1, h.2.2.2.2.2.2.2.2.2.2.2.2.2.2.2.2.2.2.2.2.2.2.2.2.2.2.2.2.2.2.2.1, h.2.2.2.2.2.2.2.2.2.2.2.2.2.2.2.2.2.2.2.2.2.2.2.2.2.2.2.2.2.2.2.2.1, h.2.2.2.2.2.2.2.2.2.2.2.2.2.2.2.2.2.2.2.2.2.2.2.2.2.2.2.2.2.2.2.2.2.1, h.2.2.2.2.2.2.2.2.2.2.2.2.2.2.2.2.2.2.2.2.2.2.2.2.2.2.2.2.2.2.2.2.2.2.1, h.2.2.2.2.2.2.2.2.2.2.2.2.2.2.2.2.2.2.2.2.2.2.2.2.2.2.2.2.2.2.2.2.2.2.2.1, h.2.2.2.2.2.2.2.2.2.2.2.2.2.2.2.2.2.2.2.2.2.2.2.2.2.2.2.2.2.2.2.2.2.2.2.2.1, h.2.2.2.2.2.2.2.2.2.2.2.2.2.2.2.2.2.2.2.2.2.2.2.2.2.2.2.2.2.2.2.2.2.2.2.2.2.1, h.2.2.2.2.2.2.2.2.2.2.2.2.2.2.2.2.2.2.2.2.2.2.2.2.2.2.2.2.2.2.2.2.2.2.2.2.2.2.1, h.2.2.2.2.2.2.2.2.2.2.2.2.2.2.2.2.2.2.2.2.2.2.2.2.2.2.2.2.2.2.2.2.2.2.2.2.2.2.2.1, h.2.2.2.2.2.2.2.2.2.2.2.2.2.2.2.2.2.2.2.2.2.2.2.2.2.2.2.2.2.2.2.2.2.2.2.2.2.2.2.2.1, h.2.2.2.2.2.2.2.2.2.2.2.2.2.2.2.2.2.2.2.2.2.2.2.2.2.2.2.2.2.2.2.2.2.2.2.2.2.2.2.2.2.1, h.2.2.2.2.2.2.2.2.2.2.2.2.2.2.2.2.2.2.2.2.2.2.2.2.2.2.2.2.2.2.2.2.2.2.2.2.2.2.2.2.2.2.1, h.2.2.2.2.2.2.2.2.2.2.2.2.2.2.2.2.2.2.2.2.2.2.2.2.2.2.2.2.2.2.2.2.2.2.2.2.2.2.2.2.2.2.2.1, h.2.2.2.2.2.2.2.2.2.2.2.2.2.2.2.2.2.2.2.2.2.2.2.2.2.2.2.2.2.2.2.2.2.2.2.2.2.2.2.2.2.2.2.2.1, h.2.2.2.2.2.2.2.2.2.2.2.2.2.2.2.2.2.2.2.2.2.2.2.2.2.2.2.2.2.2.2.2.2.2.2.2.2.2.2.2.2.2.2.2.2.1, h.2.2.2.2.2.2.2.2.2.2.2.2.2.2.2.2.2.2.2.2.2.2.2.2.2.2.2.2.2.2.2.2.2.2.2.2.2.2.2.2.2.2.2.2.2.2.1, h.2.2.2.2.2.2.2.2.2.2.2.2.2.2.2.2.2.2.2.2.2.2.2.2.2.2.2.2.2.2.2.2.2.2.2.2.2.2.2.2.2.2.2.2.2.2.2.1, h.2.2.2.2.2.2.2.2.2.2.2.2.2.2.2.2.2.2.2.2.2.2.2.2.2.2.2.2.2.2.2.2.2.2.2.2.2.2.2.2.2.2.2.2.2.2.2.2.1, h.2.2.2.2.2.2.2.2.2.2.2.2.2.2.2.2.2.2.2.2.2.2.2.2.2.2.2.2.2.2.2.2.2.2.2.2.2.2.2.2.2.2.2.2.2.2.2.2.2.1, h.2.2.2.2.2.2.2.2.2.2.2.2.2.2.2.2.2.2.2.2.2.2.2.2.2.2.2.2.2.2.2.2.2.2.2.2.2.2.2.2.2.2.2.2.2.2.2.2.2.2.1, h.2.2.2.2.2.2.2.2.2.2.2.2.2.2.2.2.2.2.2.2.2.2.2.2.2.2.2.2.2.2.2.2.2.2.2.2.2.2.2.2.2.2.2.2.2.2.2.2.2.2.2.1, h.2.2.2.2.2.2.2.2.2.2.2.2.2.2.2.2.2.2.2.2.2.2.2.2.2.2.2.2.2.2.2.2.2.2.2.2.2.2.2.2.2.2.2.2.2.2.2.2.2.2.2.2.1, h.2.2.2.2.2.2.2.2.2.2.2.2.2.2.2.2.2.2.2.2.2.2.2.2.2.2.2.2.2.2.2.2.2.2.2.2.2.2.2.2.2.2.2.2.2.2.2.2.2.2.2.2.2.1, h.2.2.2.2.2.2.2.2.2.2.2.2.2.2.2.2.2.2.2.2.2.2.2.2.2.2.2.2.2.2.2.2.2.2.2.2.2.2.2.2.2.2.2.2.2.2.2.2.2.2.2.2.2.2.1, h.2.2.2.2.2.2.2.2.2.2.2.2.2.2.2.2.2.2.2.2.2.2.2.2.2.2.2.2.2.2.2.2.2.2.2.2.2.2.2.2.2.2.2.2.2.2.2.2.2.2.2.2.2.2.2.1, h.2.2.2.2.2.2.2.2.2.2.2.2.2.2.2.2.2.2.2.2.2.2.2.2.2.2.2.2.2.2.2.2.2.2.2.2.2.2.2.2.2.2.2.2.2.2.2.2.2.2.2.2.2.2.2.2.1, h.2.2.2.2.2.2.2.2.2.2.2.2.2.2.2.2.2.2.2.2.2.2.2.2.2.2.2.2.2.2.2.2.2.2.2.2.2.2.2.2.2.2.2.2.2.2.2.2.2.2.2.2.2.2.2.2.2.1, h.2.2.2.2.2.2.2.2.2.2.2.2.2.2.2.2.2.2.2.2.2.2.2.2.2.2.2.2.2.2.2.2.2.2.2.2.2.2.2.2.2.2.2.2.2.2.2.2.2.2.2.2.2.2.2.2.2.2⟩
theorem wd_1414 : (Cond.fieldLink "WebCourtModel" (130 : Nat) "WebCourtModel" "sUntold" "[I") ∈ gtb := gtb_c6 105 (by decide +kernel) rfl
theorem gf_RX11_130 {p : Program} {l : Launch} {e : Env} {R : Room} {s : State} {m : MethodId} {args : Array Value} {below : List Frame} {meth : Method} {c : Code} {H : Heap} {locs : List Loc} {cells slots : Nat} {Q : State → Prop} {cc : ByteArray} {pc nL : Nat} {ls : Array Slot} {rest : List Value} {D : va_G} {cy : Nat → ClassId} {A : Nat → Prop} {ws : va_W} {b : Nat} {fs : List Value} {v : Value} (C : Cx p s m args c cc nL RX11 D cy A) (hO : Wo D A ws s.heap H locs) (q0 : Nat) (he : ws[q0]? = some (b, .inr (11, fs))) (hv : fs[58]? = some v) (hdg : decode cc pc = .ok (.getfield 130, 3)) (kk : W p l e R s m args below meth c H locs cells slots Q (F0 m (pc + 3) ls (v :: rest))) : W p l e R s m args below meth c H locs cells slots Q (F0 m pc ls (.ref b :: rest)) := gF (k := 58) C hO q0 he rfl inFX11 (by decide) wd_1414 rfl hv hdg kk
theorem Km19_wA38 {u v : St} {D : va_G} {A : Nat → Prop} {cy : Nat → ClassId} {a : Nat → Nat} {hp H : Heap} {locs : List Loc} {f : Nat → Int32} (_ : Wo D A (mW cy a (sA v 38 f)) hp H locs) (h : Km19 u v) : Km19 u (sA v 38 f) := ⟨h.1, h.2.1, h.2.2.1, h.2.2.2.1, h.2.2.2.2.1, h.2.2.2.2.2.1, h.2.2.2.2.2.2.1, h.2.2.2.2.2.2.2.1, h.2.2.2.2.2.2.2.2.1, h.2.2.2.2.2.2.2.2.2.1, h.2.2.2.2.2.2.2.2.2.2.1, h.2.2.2.2.2.2.2.2.2.2.2.1, h.2.2.2.2.2.2.2.2.2.2.2.2.1, h.2.2.2.2.2.2.2.2.2.2.2.2.2.1, h.2.2.2.2.2.2.2.2.2.2.2.2.2.2.1, h.2.2.2.2.2.2.2.2.2.2.2.2.2.2.2.1, h.2.2.2.2.2.2.2.2.2.2.2.2.2.2.2.2.1, h.2.2.2.2.2.2.2.2.2.2.2.2.2.2.2.2.2.1, h.2.2.2.2.2.2.2.2.2.2.2.2.2.2.2.2.2.2.1, h.2.2.2.2.2.2.2.2.2.2.2.2.2.2.2.2.2.2.2.1, h.2.2.2.2.2.2.2.2.2.2.2.2.2.2.2.2.2.2.2.2.1, h.2.2.2.2.2.2.2.2.2.2.2.2.2.2.2.2.2.2.2.2.2.1, h.2.2.2.2.2.2.2.2.2.2.2.2.2.2.2.2.2.2.2.2.2.2.1, h.2.2.2.2.2.2.2.2.2.2.2.2.2.2.2.2.2.2.2.2.2.2.2.1, h.2.2.2.2.2.2.2.2.2.2.2.2.2.2.2.2.2.2.2.2.2.2.2.2.1, h.2.2.2.2.2.2.2.2.2.2.2.2.2.2.2.2.2.2.2.2.2.2.2.2.2.1, h.2.2.2.2.2.2.2.2.2.2.2.2.2.2.2.2.2.2.2.2.2.2.2.2.2.2.1, h.2.2.2.2.2.2.2.2.2.2.2.2.2.2.2.2.2.2.2.2.2.2.2.2.2.2.2.1, h.2.2.2.2.2.2.2.2.2.2.2.2.2.2.2.2.2.2.2.2.2.2.2.2.2.2.2.2.1, h.2.2.2.2.2.2.2.2.2.2.2.2.2.2.2.2.2.2.2.2.2.2.2.2.2.2.2.2.2.1, h.2.2.2.2.2.2.2.2.2.2.2.2.2.2.2.2.2.2.2.2.2.2.2.2.2.2.2.2.2.2.1, h.2.2.2.2.2.2.2.2.2.2.2.2.2.2.2.2.2.2.2.2.2.2.2.2.2.2.2.2.2.2.2.1, h.2.2.2.2.2.2.2.2.2.2.2.2.2.2.2.2.2.2.2.2.2.2.2.2.2.2.2.2.2.2.2.2.1, h.2.2.2.2.2.2.2.2.2.2.2.2.2.2.2.2.2.2.2.2.2.2.2.2.2.2.2.2.2.2.2.2.2.1, h.2.2.2.2.2.2.2.2.2.2.2.2.2.2.2.2.2.2.2.2.2.2.2.2.2.2.2.2.2.2.2.2.2.2.1, h.2.2.2.2.2.2.2.2.2.2.2.2.2.2.2.2.2.2.2.2.2.2.2.2.2.2.2.2.2.2.2.2.2.2.2.1, h.2.2.2.2.2.2.2.2.2.2.2.2.2.2.2.2.2.2.2.2.2.2.2.2.2.2.2.2.2.2.2.2.2.2.2.2.1, h.2.2.2.2.2.2.2.2.2.2.2.2.2.2.2.2.2.2.2.2.2.2.2.2.2.2.2.2.2.2.2.2.2.2.2.2.2.1, h.2.2.2.2.2.2.2.2.2.2.2.2.2.2.2.2.2.2.2.2.2.2.2.2.2.2.2.2.2.2.2.2.2.2.2.2.2.2.1, h.2.2.2.2.2.2.2.2.2.2.2.2.2.2.2.2.2.2.2.2.2.2.2.2.2.2.2.2.2.2.2.2.2.2.2.2.2.2.2.1, h.2.2.2.2.2.2.2.2.2.2.2.2.2.2.2.2.2.2.2.2.2.2.2.2.2.2.2.2.2.2.2.2.2.2.2.2.2.2.2.2.1, h.2.2.2.2.2.2.2.2.2.2.2.2.2.2.2.2.2.2.2.2.2.2.2.2.2.2.2.2.2.2.2.2.2.2.2.2.2.2.2.2.2.1, h.2.2.2.2.2.2.2.2.2.2.2.2.2.2.2.2.2.2.2.2.2.2.2.2.2.2.2.2.2.2.2.2.2.2.2.2.2.2.2.2.2.2.1, h.2.2.2.2.2.2.2.2.2.2.2.2.2.2.2.2.2.2.2.2.2.2.2.2.2.2.2.2.2.2.2.2.2.2.2.2.2.2.2.2.2.2.2.1, h.2.2.2.2.2.2.2.2.2.2.2.2.2.2.2.2.2.2.2.2.2.2.2.2.2.2.2.2.2.2.2.2.2.2.2.2.2.2.2.2.2.2.2.2.1, h.2.2.2.2.2.2.2.2.2.2.2.2.2.2.2.2.2.2.2.2.2.2.2.2.2.2.2.2.2.2.2.2.2.2.2.2.2.2.2.2.2.2.2.2.2.1, h.2.2.2.2.2.2.2.2.2.2.2.2.2.2.2.2.2.2.2.2.2.2.2.2.2.2.2.2.2.2.2.2.2.2.2.2.2.2.2.2.2.2.2.2.2.2.1, h.2.2.2.2.2.2.2.2.2.2.2.2.2.2.2.2.2.2.2.2.2.2.2.2.2.2.2.2.2.2.2.2.2.2.2.2.2.2.2.2.2.2.2.2.2.2.2.1, h.2.2.2.2.2.2.2.2.2.2.2.2.2.2.2.2.2.2.2.2.2.2.2.2.2.2.2.2.2.2.2.2.2.2.2.2.2.2.2.2.2.2.2.2.2.2.2.2.1, h.2.2.2.2.2.2.2.2.2.2.2.2.2.2.2.2.2.2.2.2.2.2.2.2.2.2.2.2.2.2.2.2.2.2.2.2.2.2.2.2.2.2.2.2.2.2.2.2.2.1, h.2.2.2.2.2.2.2.2.2.2.2.2.2.2.2.2.2.2.2.2.2.2.2.2.2.2.2.2.2.2.2.2.2.2.2.2.2.2.2.2.2.2.2.2.2.2.2.2.2.2.1, h.2.2.2.2.2.2.2.2.2.2.2.2.2.2.2.2.2.2.2.2.2.2.2.2.2.2.2.2.2.2.2.2.2.2.2.2.2.2.2.2.2.2.2.2.2.2.2.2.2.2.2.1, h.2.2.2.2.2.2.2.2.2.2.2.2.2.2.2.2.2.2.2.2.2.2.2.2.2.2.2.2.2.2.2.2.2.2.2.2.2.2.2.2.2.2.2.2.2.2.2.2.2.2.2.2.1, h.2.2.2.2.2.2.2.2.2.2.2.2.2.2.2.2.2.2.2.2.2.2.2.2.2.2.2.2.2.2.2.2.2.2.2.2.2.2.2.2.2.2.2.2.2.2.2.2.2.2.2.2.2.1, h.2.2.2.2.2.2.2.2.2.2.2.2.2.2.2.2.2.2.2.2.2.2.2.2.2.2.2.2.2.2.2.2.2.2.2.2.2.2.2.2.2.2.2.2.2.2.2.2.2.2.2.2.2.2.1, h.2.2.2.2.2.2.2.2.2.2.2.2.2.2.2.2.2.2.2.2.2.2.2.2.2.2.2.2.2.2.2.2.2.2.2.2.2.2.2.2.2.2.2.2.2.2.2.2.2.2.2.2.2.2.2.1, h.2.2.2.2.2.2.2.2.2.2.2.2.2.2.2.2.2.2.2.2.2.2.2.2.2.2.2.2.2.2.2.2.2.2.2.2.2.2.2.2.2.2.2.2.2.2.2.2.2.2.2.2.2.2.2.2.1, h.2.2.2.2.2.2.2.2.2.2.2.2.2.2.2.2.2.2.2.2.2.2.2.2.2.2.2.2.2.2.2.2.2.2.2.2.2.2.2.2.2.2.2.2.2.2.2.2.2.2.2.2.2.2.2.2.2.1, h.2.2.2.2.2.2.2.2.2.2.2.2.2.2.2.2.2.2.2.2.2.2.2.2.2.2.2.2.2.2.2.2.2.2.2.2.2.2.2.2.2.2.2.2.2.2.2.2.2.2.2.2.2.2.2.2.2.2⟩
theorem Km19_wI61 {u v : St} {x : Int32} (h : Km19 u v) : Km19 u (sI v 0 61 x) := ⟨h.1, h.2.1, h.2.2.1, h.2.2.2.1, h.2.2.2.2.1, h.2.2.2.2.2.1, h.2.2.2.2.2.2.1, h.2.2.2.2.2.2.2.1, h.2.2.2.2.2.2.2.2.1, h.2.2.2.2.2.2.2.2.2.1, h.2.2.2.2.2.2.2.2.2.2.1, h.2.2.2.2.2.2.2.2.2.2.2.1, h.2.2.2.2.2.2.2.2.2.2.2.2.1, h.2.2.2.2.2.2.2.2.2.2.2.2.2.1, h.2.2.2.2.2.2.2.2.2.2.2.2.2.2.1, h.2.2.2.2.2.2.2.2.2.2.2.2.2.2.2.1, h.2.2.2.2.2.2.2.2.2.2.2.2.2.2.2.2.1, h.2.2.2.2.2.2.2.2.2.2.2.2.2.2.2.2.2.1, h.2.2.2.2.2.2.2.2.2.2.2.2.2.2.2.2.2.2.1, h.2.2.2.2.2.2.2.2.2.2.2.2.2.2.2.2.2.2.2.1, h.2.2.2.2.2.2.2.2.2.2.2.2.2.2.2.2.2.2.2.2.1, h.2.2.2.2.2.2.2.2.2.2.2.2.2.2.2.2.2.2.2.2.2.1, h.2.2.2.2.2.2.2.2.2.2.2.2.2.2.2.2.2.2.2.2.2.2.1, h.2.2.2.2.2.2.2.2.2.2.2.2.2.2.2.2.2.2.2.2.2.2.2.1, h.2.2.2.2.2.2.2.2.2.2.2.2.2.2.2.2.2.2.2.2.2.2.2.2.1, h.2.2.2.2.2.2.2.2.2.2.2.2.2.2.2.2.2.2.2.2.2.2.2.2.2.1, h.2.2.2.2.2.2.2.2.2.2.2.2.2.2.2.2.2.2.2.2.2.2.2.2.2.2.1, h.2.2.2.2.2.2.2.2.2.2.2.2.2.2.2.2.2.2.2.2.2.2.2.2.2.2.2.1, h.2.2.2.2.2.2.2.2.2.2.2.2.2.2.2.2.2.2.2.2.2.2.2.2.2.2.2.2.1, h.2.2.2.2.2.2.2.2.2.2.2.2.2.2.2.2.2.2.2.2.2.2.2.2.2.2.2.2.2.1, h.2.2.2.2.2.2.2.2.2.2.2.2.2.2.2.2.2.2.2.2.2.2.2.2.2.2.2.2.2.2.1, h.2.2.2.2.2.2.2.2.2.2.2.2.2.2.2.2.2.2.2.2.2.2.2.2.2.2.2.2.2.2.2.1, h.2.2.2.2.2.2.2.2.2.2.2.2.2.2.2.2.2.2.2.2.2.2.2.2.2.2.2.2.2.2.2.2.1, h.2.2.2.2.2.2.2.2.2.2.2.2.2.2.2.2.2.2.2.2.2.2.2.2.2.2.2.2.2.2.2.2.2.1, h.2.2.2.2.2.2.2.2.2.2.2.2.2.2.2.2.2.2.2.2.2.2.2.2.2.2.2.2.2.2.2.2.2.2.1, h.2.2.2.2.2.2.2.2.2.2.2.2.2.2.2.2.2.2.2.2.2.2.2.2.2.2.2.2.2.2.2.2.2.2.2.1, h.2.2.2.2.2.2.2.2.2.2.2.2.2.2.2.2.2.2.2.2.2.2.2.2.2.2.2.2.2.2.2.2.2.2.2.2.1, h.2.2.2.2.2.2.2.2.2.2.2.2.2.2.2.2.2.2.2.2.2.2.2.2.2.2.2.2.2.2.2.2.2.2.2.2.2.1, h.2.2.2.2.2.2.2.2.2.2.2.2.2.2.2.2.2.2.2.2.2.2.2.2.2.2.2.2.2.2.2.2.2.2.2.2.2.2.1, h.2.2.2.2.2.2.2.2.2.2.2.2.2.2.2.2.2.2.2.2.2.2.2.2.2.2.2.2.2.2.2.2.2.2.2.2.2.2.2.1, h.2.2.2.2.2.2.2.2.2.2.2.2.2.2.2.2.2.2.2.2.2.2.2.2.2.2.2.2.2.2.2.2.2.2.2.2.2.2.2.2.1, h.2.2.2.2.2.2.2.2.2.2.2.2.2.2.2.2.2.2.2.2.2.2.2.2.2.2.2.2.2.2.2.2.2.2.2.2.2.2.2.2.2.1, h.2.2.2.2.2.2.2.2.2.2.2.2.2.2.2.2.2.2.2.2.2.2.2.2.2.2.2.2.2.2.2.2.2.2.2.2.2.2.2.2.2.2.1, h.2.2.2.2.2.2.2.2.2.2.2.2.2.2.2.2.2.2.2.2.2.2.2.2.2.2.2.2.2.2.2.2.2.2.2.2.2.2.2.2.2.2.2.1, h.2.2.2.2.2.2.2.2.2.2.2.2.2.2.2.2.2.2.2.2.2.2.2.2.2.2.2.2.2.2.2.2.2.2.2.2.2.2.2.2.2.2.2.2.1, h.2.2.2.2.2.2.2.2.2.2.2.2.2.2.2.2.2.2.2.2.2.2.2.2.2.2.2.2.2.2.2.2.2.2.2.2.2.2.2.2.2.2.2.2.2.1, h.2.2.2.2.2.2.2.2.2.2.2.2.2.2.2.2.2.2.2.2.2.2.2.2.2.2.2.2.2.2.2.2.2.2.2.2.2.2.2.2.2.2.2.2.2.2.1, h.2.2.2.2.2.2.2.2.2.2.2.2.2.2.2.2.2.2.2.2.2.2.2.2.2.2.2.2.2.2.2.2.2.2.2.2.2.2.2.2.2.2.2.2.2.2.2.1, h.2.2.2.2.2.2.2.2.2.2.2.2.2.2.2.2.2.2.2.2.2.2.2.2.2.2.2.2.2.2.2.2.2.2.2.2.2.2.2.2.2.2.2.2.2.2.2.2.1, h.2.2.2.2.2.2.2.2.2.2.2.2.2.2.2.2.2.2.2.2.2.2.2.2.2.2.2.2.2.2.2.2.2.2.2.2.2.2.2.2.2.2.2.2.2.2.2.2.2.1, h.2.2.2.2.2.2.2.2.2.2.2.2.2.2.2.2.2.2.2.2.2.2.2.2.2.2.2.2.2.2.2.2.2.2.2.2.2.2.2.2.2.2.2.2.2.2.2.2.2.2.1, h.2.2.2.2.2.2.2.2.2.2.2.2.2.2.2.2.2.2.2.2.2.2.2.2.2.2.2.2.2.2.2.2.2.2.2.2.2.2.2.2.2.2.2.2.2.2.2.2.2.2.2.1, h.2.2.2.2.2.2.2.2.2.2.2.2.2.2.2.2.2.2.2.2.2.2.2.2.2.2.2.2.2.2.2.2.2.2.2.2.2.2.2.2.2.2.2.2.2.2.2.2.2.2.2.2.1, h.2.2.2.2.2.2.2.2.2.2.2.2.2.2.2.2.2.2.2.2.2.2.2.2.2.2.2.2.2.2.2.2.2.2.2.2.2.2.2.2.2.2.2.2.2.2.2.2.2.2.2.2.2.1, h.2.2.2.2.2.2.2.2.2.2.2.2.2.2.2.2.2.2.2.2.2.2.2.2.2.2.2.2.2.2.2.2.2.2.2.2.2.2.2.2.2.2.2.2.2.2.2.2.2.2.2.2.2.2.1, h.2.2.2.2.2.2.2.2.2.2.2.2.2.2.2.2.2.2.2.2.2.2.2.2.2.2.2.2.2.2.2.2.2.2.2.2.2.2.2.2.2.2.2.2.2.2.2.2.2.2.2.2.2.2.2.1, h.2.2.2.2.2.2.2.2.2.2.2.2.2.2.2.2.2.2.2.2.2.2.2.2.2.2.2.2.2.2.2.2.2.2.2.2.2.2.2.2.2.2.2.2.2.2.2.2.2.2.2.2.2.2.2.2.1, h.2.2.2.2.2.2.2.2.2.2.2.2.2.2.2.2.2.2.2.2.2.2.2.2.2.2.2.2.2.2.2.2.2.2.2.2.2.2.2.2.2.2.2.2.2.2.2.2.2.2.2.2.2.2.2.2.2.1, h.2.2.2.2.2.2.2.2.2.2.2.2.2.2.2.2.2.2.2.2.2.2.2.2.2.2.2.2.2.2.2.2.2.2.2.2.2.2.2.2.2.2.2.2.2.2.2.2.2.2.2.2.2.2.2.2.2.2⟩
set_option maxHeartbeats 4000000 in
set_option maxRecDepth 100000 in
theorem T_X11_heard (l : Launch) (D : va_G) (cy : Nat → ClassId) (a : Nat → Nat) (u : St) (hJ : MI a u) (x1 : Int32) (x2 : Int32) (x3 : Int32)  : Mi l D cy (mW cy a) yX11_heard (.code yX11_heard cX11_heard 4 (some .int)) (rmo 2 43) [.ref (a 0), .int x1, .int x2, .int x3] u (fun (r : Int32) (u' : St) => (MI a u') ∧ (Km19 u u')) := by
  refine Mi.of (own := RX11) rfl (by decide) (Nat.le_of_ble_eq_true rfl) ?_
  have hT : Km19 u u := Km19.rf
  have hJ0 := hJ
  intro p e s m below meth c A Q ls C hret hO hl
  obtain ⟨hx, hb, hml, hown, ht, hK, hA⟩ := id C
  have hl : lv_has ls 4 [(0, .ref (a 0)), (1, .int x1), (2, .int x2), (3, .int x3)] := hl
  refine lv_aload_n hx hb dX11_heard_0 rfl (lv_at hl 0 rfl) ?_
  refine lv_iload_n hx hb dX11_heard_1 rfl (lv_at hl 1 rfl) ?_
  have g1 : 0 ≤ (fI u 0 36).toInt ∧ (fI u 0 36).toInt ≤ 1 := by have h := MI_36 hJ0; exact h
  have g2 : 0 ≤ (fA u 6 ((fI u 0 36)).toNatClampNeg).toInt ∧ (fA u 6 ((fI u 0 36)).toNatClampNeg).toInt ≤ 6 := by have h := MI_A6 hJ0 ((fI u 0 36)).toNatClampNeg; exact h
  refine cVi (w := mW cy a) (As := [.int x1]) (rest := []) C hO (T_X11_isCase l D cy a _ (by exact hJ) ((fA u 6 ((fI u 0 36)).toNatClampNeg)) (by exact rfl) (x1)) (cwV 1 ht (gV wd_1753 wd_1755 wd_83 wd_121 wd_1756) rfl rfl rfl hd_yX11_isCase ⟨Nat.le_of_ble_eq_true rfl, Nat.le_of_ble_eq_true rfl⟩) 0 rfl mW_0 rfl rfl hl.1 (Nat.le_of_ble_eq_true rfl) dX11_heard_2 rfl ⟨Nat.zero_le _, Nat.zero_le _⟩ (fun r3 u4 H locs hp5 hO => ?_)
  obtain ⟨hr3, hu4⟩ := hp5
  rw [hu4] at hO
  rcases hr3 with ⟨hcr3, hvr3⟩ | ⟨hcr3, hvr3⟩
  · subst hvr3
    refine bn_eq (X := 1) hx hb dX11_heard_5 rfl (by omega) ?_ (tgt := 37) (by decide)
    refine lv_iload_n hx hb dX11_heard_8 rfl (lv_at hl 2 rfl) ?_
    refine lv_sipush (v := (-9999)) hx hb dX11_heard_9 (by decide) ?_
    refine lv_sipush (v := 9999) hx hb dX11_heard_12 (by decide) ?_
    refine cSi (w := mW cy a) (As := [.int x2, .int (-9999), .int 9999]) (rest := []) C hO (T_X11_isIn l D cy a _ (by exact hJ) (x2) ((-9999)) (9999)) (va_cwS 3 ht (gSS wd_1722 wd_1723 wd_121 wd_1724) rfl rfl rfl hd_yX11_isIn ⟨Nat.le_of_ble_eq_true rfl, Nat.le_of_ble_eq_true rfl⟩)  rfl hl.1 (Nat.le_of_ble_eq_true rfl) dX11_heard_15 rfl ⟨Nat.zero_le _, Nat.zero_le _⟩ (fun r6 u7 H locs hp8 hO => ?_)
    obtain ⟨hr6, hu7⟩ := hp8
    rw [hu7] at hO
    have zz9 : ((-9999) : Int32).toInt = (-9999) := rfl
    have zz10 : (9999 : Int32).toInt = 9999 := rfl
    rcases hr6 with ⟨hcr6, hvr6⟩ | ⟨hcr6, hvr6⟩
    · subst hvr6
      refine bn_eq (X := 1) hx hb dX11_heard_18 rfl (by omega) ?_ (tgt := 37) (by decide)
      refine lv_aload_n hx hb dX11_heard_21 rfl (lv_at hl 0 rfl) ?_
      have g11 : 0 ≤ (fI u 0 61).toInt ∧ (fI u 0 61).toInt ≤ 30 := by have h := MI_61 hJ0; exact h
      refine gf_RX11_395 (v := .int (fI u 0 61)) C hO 0 mW_0 rfl dX11_heard_22 ?_
      refine lv_bipush (v := 30) hx hb dX11_heard_25 (by decide) ?_
      refine cs_eq (tgt := 37) (X := ((fI u 0 61)).toInt) (Y := 30) hx hb dX11_heard_27 (by decide) rfl rfl (fun c12 => ?_) (fun c12 => ?_)
      · refine lv_iconst (v := (-1)) hx hb dX11_heard_37 (by decide) ?_
        refine hret _ _ _ _ _ _ dX11_heard_38 rfl ?_ hO
        exact ⟨hJ, hT⟩
      · refine lv_aload_n hx hb dX11_heard_30 rfl (lv_at hl 0 rfl) ?_
        have g13 : 0 ≤ (fA u 5 ((fI u 0 36)).toNatClampNeg).toInt ∧ (fA u 5 ((fI u 0 36)).toNatClampNeg).toInt ≤ 8 := by have h := MI_A5 hJ0 ((fI u 0 36)).toNatClampNeg; exact h
        refine cVi (w := mW cy a) (As := []) (rest := []) C hO (T_X11_pleads l D cy a _ (by exact hJ) ((fA u 5 ((fI u 0 36)).toNatClampNeg)) (by exact rfl)) (cwV 0 ht (gV wd_1745 wd_1747 wd_82 wd_121 wd_1748) rfl rfl rfl hd_yX11_pleads ⟨Nat.le_of_ble_eq_true rfl, Nat.le_of_ble_eq_true rfl⟩) 0 rfl mW_0 rfl rfl hl.1 (Nat.le_of_ble_eq_true rfl) dX11_heard_31 rfl ⟨Nat.zero_le _, Nat.zero_le _⟩ (fun r14 u15 H locs hp16 hO => ?_)
        obtain ⟨hr14, hu15⟩ := hp16
        refine tE hr14 ?_
        rw [hu15] at hO
        refine bs_ne (tgt := 39) (X := ((fA u 5 ((fI u 0 36)).toNatClampNeg)).toInt) hx hb dX11_heard_34 (by decide) rfl (fun c17 => ?_) (fun c17 => ?_)
        · refine lv_aload_n hx hb dX11_heard_39 rfl (lv_at hl 0 rfl) ?_
          refine gf_RX11_118 (v := .ref (a 34)) C hO 0 mW_0 rfl dX11_heard_40 ?_
          refine lv_aload_n hx hb dX11_heard_43 rfl (lv_at hl 0 rfl) ?_
          refine gf_RX11_395 (v := .int (fI u 0 61)) C hO 0 mW_0 rfl dX11_heard_44 ?_
          refine lv_iload_n hx hb dX11_heard_47 rfl (lv_at hl 1 rfl) ?_
          refine aIs C hO 34 mW_34 (i_in (X := ((fI u 0 61)).toInt) rfl (by omega) (by omega)) mW_s34 dX11_heard_48 (fun H locs hO => ?_)
          have hT := Km19_wA34 hO hT
          have hJ := MIsA_34 hO hJ (by first | decide | omega)
          refine lv_aload_n hx hb dX11_heard_49 rfl (lv_at hl 0 rfl) ?_
          refine gf_RX11_121 (v := .ref (a 35)) C hO 0 mW_0 rfl dX11_heard_50 ?_
          refine lv_aload_n hx hb dX11_heard_53 rfl (lv_at hl 0 rfl) ?_
          refine gf_RX11_395 (v := .int (fI u 0 61)) C hO 0 mW_0 rfl dX11_heard_54 ?_
          refine lv_iload_n hx hb dX11_heard_57 rfl (lv_at hl 2 rfl) ?_
          refine aIs C hO 35 mW_35 (i_in (X := ((fI u 0 61)).toInt) rfl (by omega) (by omega)) mW_s35 dX11_heard_58 (fun H locs hO => ?_)
          have hT := Km19_wA35 hO hT
          have hJ := MIsA_35 hO hJ
          refine lv_aload_n hx hb dX11_heard_59 rfl (lv_at hl 0 rfl) ?_
          refine gf_RX11_124 (v := .ref (a 36)) C hO 0 mW_0 rfl dX11_heard_60 ?_
          refine lv_aload_n hx hb dX11_heard_63 rfl (lv_at hl 0 rfl) ?_
          refine gf_RX11_395 (v := .int (fI u 0 61)) C hO 0 mW_0 rfl dX11_heard_64 ?_
          refine lv_iload_n hx hb dX11_heard_67 rfl (lv_at hl 3 rfl) ?_
          refine bs_eq (tgt := 75) (X := (x3).toInt) hx hb dX11_heard_68 (by decide) rfl (fun c18 => ?_) (fun c18 => ?_)
          · refine lv_iconst (v := 0) hx hb dX11_heard_75 (by decide) ?_
            refine aIs C hO 36 mW_36 (i_in (X := ((fI u 0 61)).toInt) rfl (by omega) (by omega)) mW_s36 dX11_heard_76 (fun H locs hO => ?_)
            have hT := Km19_wA36 hO hT
            have hJ := MIsA_36 hO hJ
            refine lv_aload_n hx hb dX11_heard_77 rfl (lv_at hl 0 rfl) ?_
            refine gf_RX11_127 (v := .ref (a 37)) C hO 0 mW_0 rfl dX11_heard_78 ?_
            refine lv_aload_n hx hb dX11_heard_81 rfl (lv_at hl 0 rfl) ?_
            refine gf_RX11_395 (v := .int (fI u 0 61)) C hO 0 mW_0 rfl dX11_heard_82 ?_
            refine lv_aload_n hx hb dX11_heard_85 rfl (lv_at hl 0 rfl) ?_
            have g19 : 0 ≤ (fI u 0 62).toInt ∧ (fI u 0 62).toInt ≤ 100000 := by have h := MI_62 hJ0; exact h
            refine gf_RX11_484 (v := .int (fI u 0 62)) C hO 0 mW_0 rfl dX11_heard_86 ?_
            refine aIs C hO 37 mW_37 (i_in (X := ((fI u 0 61)).toInt) rfl (by omega) (by omega)) mW_s37 dX11_heard_89 (fun H locs hO => ?_)
            have hT := Km19_wA37 hO hT
            have hJ := MIsA_37 hO hJ
            refine lv_aload_n hx hb dX11_heard_90 rfl (lv_at hl 0 rfl) ?_
            refine gf_RX11_130 (v := .ref (a 38)) C hO 0 mW_0 rfl dX11_heard_91 ?_
            refine lv_aload_n hx hb dX11_heard_94 rfl (lv_at hl 0 rfl) ?_
            refine gf_RX11_395 (v := .int (fI u 0 61)) C hO 0 mW_0 rfl dX11_heard_95 ?_
            refine lv_iconst (v := (-1)) hx hb dX11_heard_98 (by decide) ?_
            refine aIs C hO 38 mW_38 (i_in (X := ((fI u 0 61)).toInt) rfl (by omega) (by omega)) mW_s38 dX11_heard_99 (fun H locs hO => ?_)
            have hT := Km19_wA38 hO hT
            have hJ := MIsA_38 hO hJ
            refine lv_aload_n hx hb dX11_heard_100 rfl (lv_at hl 0 rfl) ?_
            refine lv_dup hx hb dX11_heard_101 rfl ?_
            refine gf_RX11_395 (v := .int (fI u 0 61)) C hO 0 mW_0 rfl dX11_heard_102 ?_
            refine lv_iconst (v := 1) hx hb dX11_heard_105 (by decide) ?_
            refine lv_iadd hx hb dX11_heard_106 ?_
            refine lv_topi (fun z20 ez20 => ?_)
            have e21 : z20.toInt = ((fI u 0 61)).toInt + 1 := by rw [ez20]; exact i_add rfl rfl (by omega)
            refine pf_RX11_395 C hO 0 mW_0 (Nat.le_of_ble_eq_true rfl) mW_s0_61 dX11_heard_107 (fun H locs hO => ?_)
            have hT := Km19_wI61 (x := z20) hT
            have hJ := MIs_61 (v := z20) hJ (by first | decide | omega)
            refine lv_aload_n hx hb dX11_heard_110 rfl (lv_at hl 0 rfl) ?_
            refine gf_RX11_395 (v := .int z20) C hO 0 mW_0 rfl dX11_heard_111 ?_
            refine lv_iconst (v := 1) hx hb dX11_heard_114 (by decide) ?_
            refine lv_isub hx hb dX11_heard_115 ?_
            refine lv_topi (fun z22 ez22 => ?_)
            have e23 : z22.toInt = (((fI u 0 61)).toInt + 1) - 1 := by rw [ez22]; exact i_sub e21 rfl (by omega)
            refine hret _ _ _ _ _ _ dX11_heard_116 rfl ?_ hO
            exact ⟨hJ, hT⟩
          · refine lv_iconst (v := 1) hx hb dX11_heard_71 (by decide) ?_
            refine lv_goto (tgt := 76) hx hb dX11_heard_72 (by decide) ?_
            refine aIs C hO 36 mW_36 (i_in (X := ((fI u 0 61)).toInt) rfl (by omega) (by omega)) mW_s36 dX11_heard_76 (fun H locs hO => ?_)
            have hT := Km19_wA36 hO hT
            have hJ := MIsA_36 hO hJ
            refine lv_aload_n hx hb dX11_heard_77 rfl (lv_at hl 0 rfl) ?_
            refine gf_RX11_127 (v := .ref (a 37)) C hO 0 mW_0 rfl dX11_heard_78 ?_
            refine lv_aload_n hx hb dX11_heard_81 rfl (lv_at hl 0 rfl) ?_
            refine gf_RX11_395 (v := .int (fI u 0 61)) C hO 0 mW_0 rfl dX11_heard_82 ?_
            refine lv_aload_n hx hb dX11_heard_85 rfl (lv_at hl 0 rfl) ?_
            have g24 : 0 ≤ (fI u 0 62).toInt ∧ (fI u 0 62).toInt ≤ 100000 := by have h := MI_62 hJ0; exact h
            refine gf_RX11_484 (v := .int (fI u 0 62)) C hO 0 mW_0 rfl dX11_heard_86 ?_
            refine aIs C hO 37 mW_37 (i_in (X := ((fI u 0 61)).toInt) rfl (by omega) (by omega)) mW_s37 dX11_heard_89 (fun H locs hO => ?_)
            have hT := Km19_wA37 hO hT
            have hJ := MIsA_37 hO hJ
            refine lv_aload_n hx hb dX11_heard_90 rfl (lv_at hl 0 rfl) ?_
            refine gf_RX11_130 (v := .ref (a 38)) C hO 0 mW_0 rfl dX11_heard_91 ?_
            refine lv_aload_n hx hb dX11_heard_94 rfl (lv_at hl 0 rfl) ?_
            refine gf_RX11_395 (v := .int (fI u 0 61)) C hO 0 mW_0 rfl dX11_heard_95 ?_
            refine lv_iconst (v := (-1)) hx hb dX11_heard_98 (by decide) ?_
            refine aIs C hO 38 mW_38 (i_in (X := ((fI u 0 61)).toInt) rfl (by omega) (by omega)) mW_s38 dX11_heard_99 (fun H locs hO => ?_)
            have hT := Km19_wA38 hO hT
            have hJ := MIsA_38 hO hJ
            refine lv_aload_n hx hb dX11_heard_100 rfl (lv_at hl 0 rfl) ?_
            refine lv_dup hx hb dX11_heard_101 rfl ?_
            refine gf_RX11_395 (v := .int (fI u 0 61)) C hO 0 mW_0 rfl dX11_heard_102 ?_
            refine lv_iconst (v := 1) hx hb dX11_heard_105 (by decide) ?_
            refine lv_iadd hx hb dX11_heard_106 ?_
            refine lv_topi (fun z25 ez25 => ?_)
            have e26 : z25.toInt = ((fI u 0 61)).toInt + 1 := by rw [ez25]; exact i_add rfl rfl (by omega)
            refine pf_RX11_395 C hO 0 mW_0 (Nat.le_of_ble_eq_true rfl) mW_s0_61 dX11_heard_107 (fun H locs hO => ?_)
            have hT := Km19_wI61 (x := z25) hT
            have hJ := MIs_61 (v := z25) hJ (by first | decide | omega)
            refine lv_aload_n hx hb dX11_heard_110 rfl (lv_at hl 0 rfl) ?_
            refine gf_RX11_395 (v := .int z25) C hO 0 mW_0 rfl dX11_heard_111 ?_
            refine lv_iconst (v := 1) hx hb dX11_heard_114 (by decide) ?_
            refine lv_isub hx hb dX11_heard_115 ?_
            refine lv_topi (fun z27 ez27 => ?_)
            have e28 : z27.toInt = (((fI u 0 61)).toInt + 1) - 1 := by rw [ez27]; exact i_sub e26 rfl (by omega)
            refine hret _ _ _ _ _ _ dX11_heard_116 rfl ?_ hO
            exact ⟨hJ, hT⟩
        · refine lv_iconst (v := (-1)) hx hb dX11_heard_37 (by decide) ?_
          refine hret _ _ _ _ _ _ dX11_heard_38 rfl ?_ hO
          exact ⟨hJ, hT⟩
    · subst hvr6
      refine bt_eq (tgt := 37) (X := 0) hx hb dX11_heard_18 (by decide) rfl (by omega) ?_
      refine lv_iconst (v := (-1)) hx hb dX11_heard_37 (by decide) ?_
      refine hret _ _ _ _ _ _ dX11_heard_38 rfl ?_ hO
      exact ⟨hJ, hT⟩
  · subst hvr3
    refine bt_eq (tgt := 37) (X := 0) hx hb dX11_heard_5 (by decide) rfl (by omega) ?_
    refine lv_iconst (v := (-1)) hx hb dX11_heard_37 (by decide) ?_
    refine hret _ _ _ _ _ _ dX11_heard_38 rfl ?_ hO
    exact ⟨hJ, hT⟩
def Km20 (u v : St) : Prop := fI v 0 2 = fI u 0 2 ∧ fI v 0 3 = fI u 0 3 ∧ fI v 0 4 = fI u 0 4 ∧ fI v 0 5 = fI u 0 5 ∧ fI v 0 6 = fI u 0 6 ∧ fI v 0 7 = fI u 0 7 ∧ fI v 0 8 = fI u 0 8 ∧ fI v 0 9 = fI u 0 9 ∧ fL v 0 10 = fL u 0 10 ∧ fI v 0 36 = fI u 0 36 ∧ fI v 0 37 = fI u 0 37 ∧ fI v 0 38 = fI u 0 38 ∧ fI v 0 39 = fI u 0 39 ∧ fI v 0 40 = fI u 0 40 ∧ fI v 0 41 = fI u 0 41 ∧ fI v 0 42 = fI u 0 42 ∧ fI v 0 43 = fI u 0 43 ∧ fI v 0 45 = fI u 0 45 ∧ fI v 0 47 = fI u 0 47 ∧ fI v 0 48 = fI u 0 48 ∧ fI v 0 50 = fI u 0 50 ∧ fI v 0 61 = fI u 0 61 ∧ fI v 0 62 = fI u 0 62 ∧ fA v 1 = fA u 1 ∧ fA v 2 = fA u 2 ∧ fA v 3 = fA u 3 ∧ fA v 4 = fA u 4 ∧ fA v 5 = fA u 5 ∧ fA v 6 = fA u 6 ∧ fA v 7 = fA u 7 ∧ fA v 8 = fA u 8 ∧ fA v 9 = fA u 9 ∧ fA v 10 = fA u 10 ∧ fA v 11 = fA u 11 ∧ fA v 12 = fA u 12 ∧ fA v 13 = fA u 13 ∧ fA v 14 = fA u 14 ∧ fA v 15 = fA u 15 ∧ fA v 16 = fA u 16 ∧ fA v 17 = fA u 17 ∧ fA v 18 = fA u 18 ∧ fA v 19 = fA u 19 ∧ fJ v 20 = fJ u 20 ∧ fJ v 21 = fJ u 21 ∧ fJ v 22 = fJ u 22 ∧ fA v 23 = fA u 23 ∧ fA v 24 = fA u 24 ∧ fA v 25 = fA u 25 ∧ fA v 26 = fA u 26 ∧ fA v 27 = fA u 27 ∧ fA v 28 = fA u 28 ∧ fA v 29 = fA u 29 ∧ fA v 30 = fA u 30 ∧ fA v 31 = fA u 31 ∧ fA v 32 = fA u 32 ∧ fA v 33 = fA u 33 ∧ fA v 34 = fA u 34 ∧ fA v 35 = fA u 35 ∧ fA v 36 = fA u 36 ∧ fA v 37 = fA u 37 ∧ fA v 39 = fA u 39 ∧ fA v 40 = fA u 40 ∧ fA v 41 = fA u 41 ∧ fA v 42 = fA u 42
theorem Km20.rf {u : St} : Km20 u u := ⟨rfl, rfl, rfl, rfl, rfl, rfl, rfl, rfl, rfl, rfl, rfl, rfl, rfl, rfl, rfl, rfl, rfl, rfl, rfl, rfl, rfl, rfl, rfl, rfl, rfl, rfl, rfl, rfl, rfl, rfl, rfl, rfl, rfl, rfl, rfl, rfl, rfl, rfl, rfl, rfl, rfl, rfl, rfl, rfl, rfl, rfl, rfl, rfl, rfl, rfl, rfl, rfl, rfl, rfl, rfl, rfl, rfl, rfl, rfl, rfl, rfl, rfl, rfl, rfl⟩
theorem Km20.tr {u v w : St} (h1 : Km20 u v) (h2 : Km20 v w) : Km20 u w := ⟨(h2.1).trans h1.1, (h2.2.1).trans h1.2.1, (h2.2.2.1).trans h1.2.2.1, (h2.2.2.2.1).trans h1.2.2.2.1, (h2.2.2.2.2.1).trans h1.2.2.2.2.1, (h2.2.2.2.2.2.1).trans h1.2.2.2.2.2.1, (h2.2.2.2.2.2.2.1).trans h1.2.2.2.2.2.2.1, (h2.2.2.2.2.2.2.2.1).trans h1.2.2.2.2.2.2.2.1, (h2.2.2.2.2.2.2.2.2.1).trans h1.2.2.2.2.2.2.2.2.1, (h2.2.2.2.2.2.2.2.2.2.1).trans h1.2.2.2.2.2.2.2.2.2.1, (h2.2.2.2.2.2.2.2.2.2.2.1).trans h1.2.2.2.2.2.2.2.2.2.2.1, (h2.2.2.2.2.2.2.2.2.2.2.2.1).trans h1.2.2.2.2.2.2.2.2.2.2.2.1, (h2.2.2.2.2.2.2.2.2.2.2.2.2.1).trans h1.2.2.2.2.2.2.2.2.2.2.2.2.1, (h2.2.2.2.2.2.2.2.2.2.2.2.2.2.1).trans h1.2.2.2.2.2.2.2.2.2.2.2.2.2.1, (h2.2.2.2.2.2.2.2.2.2.2.2.2.2.2.1).trans h1.2.2.2.2.2.2.2.2.2.2.2.2.2.2.1, (h2.2.2.2.2.2.2.2.2.2.2.2.2.2.2.2.1).trans h1.2.2.2.2.2.2.2.2.2.2.2.2.2.2.2.1, (h2.2.2.2.2.2.2.2.2.2.2.2.2.2.2.2.2.1).trans h1.2.2.2.2.2.2.2.2.2.2.2.2.2.2.2.2.1, (h2.2.2.2.2.2.2.2.2.2.2.2.2.2.2.2.2.2.1).trans h1.2.2.2.2.2.2.2.2.2.2.2.2.2.2.2.2.2.1, (h2.2.2.2.2.2.2.2.2.2.2.2.2.2.2.2.2.2.2.1).trans h1.2.2.2.2.2.2.2.2.2.2.2.2.2.2.2.2.2.2.1, (h2.2.2.2.2.2.2.2.2.2.2.2.2.2.2.2.2.2.2.2.1).trans h1.2.2.2.2.2.2.2.2.2.2.2.2.2.2.2.2.2.2.2.1, (h2.2.2.2.2.2.2.2.2.2.2.2.2.2.2.2.2.2.2.2.2.1).trans h1.2.2.2.2.2.2.2.2.2.2.2.2.2.2.2.2.2.2.2.2.1, (h2.2.2.2.2.2.2.2.2.2.2.2.2.2.2.2.2.2.2.2.2.2.1).trans h1.2.2.2.2.2.2.2.2.2.2.2.2.2.2.2.2.2.2.2.2.2.1, (h2.2.2.2.2.2.2.2.2.2.2.2.2.2.2.2.2.2.2.2.2.2.2.1).trans h1.2.2.2.2.2.2.2.2.2.2.2.2.2.2.2.2.2.2.2.2.2.2.1, (h2.2.2.2.2.2.2.2.2.2.2.2.2.2.2.2.2.2.2.2.2.2.2.2.1).trans h1.2.2.2.2.2.2.2.2.2.2.2.2.2.2.2.2.2.2.2.2.2.2.2.1, (h2.2.2.2.2.2.2.2.2.2.2.2.2.2.2.2.2.2.2.2.2.2.2.2.2.1).trans h1.2.2.2.2.2.2.2.2.2.2.2.2.2.2.2.2.2.2.2.2.2.2.2.2.1, (h2.2.2.2.2.2.2.2.2.2.2.2.2.2.2.2.2.2.2.2.2.2.2.2.2.2.1).trans h1.2.2.2.2.2.2.2.2.2.2.2.2.2.2.2.2.2.2.2.2.2.2.2.2.2.1, (h2.2.2.2.2.2.2.2.2.2.2.2.2.2.2.2.2.2.2.2.2.2.2.2.2.2.2.1).trans h1.2.2.2.2.2.2.2.2.2.2.2.2.2.2.2.2.2.2.2.2.2.2.2.2.2.2.1, (h2.2.2.2.2.2.2.2.2.2.2.2.2.2.2.2.2.2.2.2.2.2.2.2.2.2.2.2.1).trans h1.2.2.2.2.2.2.2.2.2.2.2.2.2.2.2.2.2.2.2.2.2.2.2.2.2.2.2.1, (h2.2.2.2.2.2.2.2.2.2.2.2.2.2.2.2.2.2.2.2.2.2.2.2.2.2.2.2.2.1).trans h1.2.2.2.2.2.2.2.2.2.2.2.2.2.2.2.2.2.2.2.2.2.2.2.2.2.2.2.2.1, (h2.2.2.2.2.2.2.2.2.2.2.2.2.2.2.2.2.2.2.2.2.2.2.2.2.2.2.2.2.2.1).trans h1.2.2.2.2.2.2.2.2.2.2.2.2.2.2.2.2.2.2.2.2.2.2.2.2.2.2.2.2.2.1, (h2.2.2.2.2.2.2.2.2.2.2.2.2.2.2.2.2.2.2.2.2.2.2.2.2.2.2.2.2.2.2.1).trans h1.2.2.2.2.2.2.2.2.2.2.2.2.2.2.2.2.2.2.2.2.2.2.2.2.2.2.2.2.2.2.1, (h2.2.2.2.2.2.2.2.2.2.2.2.2.2.2.2.2.2.2.2.2.2.2.2.2.2.2.2.2.2.2.2.1).trans h1.2.2.2.2.2.2.2.2.2.2.2.2.2.2.2.2.2.2.2.2.2.2.2.2.2.2.2.2.2.2.2.1, (h2.2.2.2.2.2.2.2.2.2.2.2.2.2.2.2.2.2.2.2.2.2.2.2.2.2.2.2.2.2.2.2.2.1).trans h1.2.2.2.2.2.2.2.2.2.2.2.2.2.2.2.2.2.2.2.2.2.2.2.2.2.2.2.2.2.2.2.2.1, (h2.2.2.2.2.2.2.2.2.2.2.2.2.2.2.2.2.2.2.2.2.2.2.2.2.2.2.2.2.2.2.2.2.2.1).trans h1.2.2.2.2.2.2.2.2.2.2.2.2.2.2.2.2.2.2.2.2.2.2.2.2.2.2.2.2.2.2.2.2.2.1, (h2.2.2.2.2.2.2.2.2.2.2.2.2.2.2.2.2.2.2.2.2.2.2.2.2.2.2.2.2.2.2.2.2.2.2.1).trans h1.2.2.2.2.2.2.2.2.2.2.2.2.2.2.2.2.2.2.2.2.2.2.2.2.2.2.2.2.2.2.2.2.2.2.1, (h2.2.2.2.2.2.2.2.2.2.2.2.2.2.2.2.2.2.2.2.2.2.2.2.2.2.2.2.2.2.2.2.2.2.2.2.1).trans h1.2.2.2.2.2.2.2.2.2.2.2.2.2.2.2.2.2.2.2.2.2.2.2.2.2.2.2.2.2.2.2.2.2.2.2.1, (h2.2.2.2.2.2.2.2.2.2.2.2.2.2.2.2.2.2.2.2.2.2.2.2.2.2.2.2.2.2.2.2.2.2.2.2.2.1).trans h1.2.2.2.2.2.2.2.2.2.2.2.2.2.2.2.2.2.2.2.2.2.2.2.2.2.2.2.2.2.2.2.2.2.2.2.2.1, (h2.2.2.2.2.2.2.2.2.2.2.2.2.2.2.2.2.2.2.2.2.2.2.2.2.2.2.2.2.2.2.2.2.2.2.2.2.2.1).trans h1.2.2.2.2.2.2.2.2.2.2.2.2.2.2.2.2.2.2.2.2.2.2.2.2.2.2.2.2.2.2.2.2.2.2.2.2.2.1, (h2.2.2.2.2.2.2.2.2.2.2.2.2.2.2.2.2.2.2.2.2.2.2.2.2.2.2.2.2.2.2.2.2.2.2.2.2.2.2.1).trans h1.2.2.2.2.2.2.2.2.2.2.2.2.2.2.2.2.2.2.2.2.2.2.2.2.2.2.2.2.2.2.2.2.2.2.2.2.2.2.1, (h2.2.2.2.2.2.2.2.2.2.2.2.2.2.2.2.2.2.2.2.2.2.2.2.2.2.2.2.2.2.2.2.2.2.2.2.2.2.2.2.1).trans h1.2.2.2.2.2.2.2.2.2.2.2.2.2.2.2.2.2.2.2.2.2.2.2.2.2.2.2.2.2.2.2.2.2.2.2.2.2.2.2.1, (h2.2.2.2.2.2.2.2.2.2.2.2.2.2.2.2.2.2.2.2.2.2.2.2.2.2.2.2.2.2.2.2.2.2.2.2.2.2.2.2.2.1).trans h1.2.2.2.2.2.2.2.2.2.2.2.2.2.2.2.2.2.2.2.2.2.2.2.2.2.2.2.2.2.2.2.2.2.2.2.2.2.2.2.2.1, (h2.2.2.2.2.2.2.2.2.2.2.2.2.2.2.2.2.2.2.2.2.2.2.2.2.2.2.2.2.2.2.2.2.2.2.2.2.2.2.2.2.2.1).trans h1.2.2.2.2.2.2.2.2.2.2.2.2.2.2.2.2.2.2.2.2.2.2.2.2.2.2.2.2.2.2.2.2.2.2.2.2.2.2.2.2.2.1, (h2.2.2.2.2.2.2.2.2.2.2.2.2.2.2.2.2.2.2.2.2.2.2.2.2.2.2.2.2.2.2.2.2.2.2.2.2.2.2.2.2.2.2.1).trans h1.2.2.2.2.2.2.2.2.2.2.2.2.2.2.2.2.2.2.2.2.2.2.2.2.2.2.2.2.2.2.2.2.2.2.2.2.2.2.2.2.2.2.1, (h2.2.2.2.2.2.2.2.2.2.2.2.2.2.2.2.2.2.2.2.2.2.2.2.2.2.2.2.2.2.2.2.2.2.2.2.2.2.2.2.2.2.2.2.1).trans h1.2.2.2.2.2.2.2.2.2.2.2.2.2.2.2.2.2.2.2.2.2.2.2.2.2.2.2.2.2.2.2.2.2.2.2.2.2.2.2.2.2.2.2.1, (h2.2.2.2.2.2.2.2.2.2.2.2.2.2.2.2.2.2.2.2.2.2.2.2.2.2.2.2.2.2.2.2.2.2.2.2.2.2.2.2.2.2.2.2.2.1).trans h1.2.2.2.2.2.2.2.2.2.2.2.2.2.2.2.2.2.2.2.2.2.2.2.2.2.2.2.2.2.2.2.2.2.2.2.2.2.2.2.2.2.2.2.2.1, (h2.2.2.2.2.2.2.2.2.2.2.2.2.2.2.2.2.2.2.2.2.2.2.2.2.2.2.2.2.2.2.2.2.2.2.2.2.2.2.2.2.2.2.2.2.2.1).trans h1.2.2.2.2.2.2.2.2.2.2.2.2.2.2.2.2.2.2.2.2.2.2.2.2.2.2.2.2.2.2.2.2.2.2.2.2.2.2.2.2.2.2.2.2.2.1, (h2.2.2.2.2.2.2.2.2.2.2.2.2.2.2.2.2.2.2.2.2.2.2.2.2.2.2.2.2.2.2.2.2.2.2.2.2.2.2.2.2.2.2.2.2.2.2.1).trans h1.2.2.2.2.2.2.2.2.2.2.2.2.2.2.2.2.2.2.2.2.2.2.2.2.2.2.2.2.2.2.2.2.2.2.2.2.2.2.2.2.2.2.2.2.2.2.1, (h2.2.2.2.2.2.2.2.2.2.2.2.2.2.2.2.2.2.2.2.2.2.2.2.2.2.2.2.2.2.2.2.2.2.2.2.2.2.2.2.2.2.2.2.2.2.2.2.1).trans h1.2.2.2.2.2.2.2.2.2.2.2.2.2.2.2.2.2.2.2.2.2.2.2.2.2.2.2.2.2.2.2.2.2.2.2.2.2.2.2.2.2.2.2.2.2.2.2.1, (h2.2.2.2.2.2.2.2.2.2.2.2.2.2.2.2.2.2.2.2.2.2.2.2.2.2.2.2.2.2.2.2.2.2.2.2.2.2.2.2.2.2.2.2.2.2.2.2.2.1).trans h1.2.2.2.2.2.2.2.2.2.2.2.2.2.2.2.2.2.2.2.2.2.2.2.2.2.2.2.2.2.2.2.2.2.2.2.2.2.2.2.2.2.2.2.2.2.2.2.2.1, (h2.2.2.2.2.2.2.2.2.2.2.2.2.2.2.2.2.2.2.2.2.2.2.2.2.2.2.2.2.2.2.2.2.2.2.2.2.2.2.2.2.2.2.2.2.2.2.2.2.2.1).trans h1.2.2.2.2.2.2.2.2.2.2.2.2.2.2.2.2.2.2.2.2.2.2.2.2.2.2.2.2.2.2.2.2.2.2.2.2.2.2.2.2.2.2.2.2.2.2.2.2.2.1, (h2.2.2.2.2.2.2.2.2.2.2.2.2.2.2.2.2.2.2.2.2.2.2.2.2.2.2.2.2.2.2.2.2.2.2.2.2.2.2.2.2.2.2.2.2.2.2.2.2.2.2.1).trans h1.2.2.2.2.2.2.2.2.2.2.2.2.2.2.2.2.2.2.2.2.2.2.2.2.2.2.2.2.2.2.2.2.2.2.2.2.2.2.2.2.2.2.2.2.2.2.2.2.2.2.1, (h2.2.2.2.2.2.2.2.2.2.2.2.2.2.2.2.2.2.2.2.2.2.2.2.2.2.2.2.2.2.2.2.2.2.2.2.2.2.2.2.2.2.2.2.2.2.2.2.2.2.2.2.1).trans h1.2.2.2.2.2.2.2.2.2.2.2.2.2.2.2.2.2.2.2.2.2.2.2.2.2.2.2.2.2.2.2.2.2.2.2.2.2.2.2.2.2.2.2.2.2.2.2.2.2.2.2.1, (h2.2.2.2.2.2.2.2.2.2.2.2.2.2.2.2.2.2.2.2.2.2.2.2.2.2.2.2.2.2.2.2.2.2.2.2.2.2.2.2.2.2.2.2.2.2.2.2.2.2.2.2.2.1).trans h1.2.2.2.2.2.2.2.2.2.2.2.2.2.2.2.2.2.2.2.2.2.2.2.2.2.2.2.2.2.2.2.2.2.2.2.2.2.2.2.2.2.2.2.2.2.2.2.2.2.2.2.2.1, (h2.2.2.2.2.2.2.2.2.2.2.2.2.2.2.2.2.2.2.2.2.2.2.2.2.2.2.2.2.2.2.2.2.2.2.2.2.2.2.2.2.2.2.2.2.2.2.2.2.2.2.2.2.2.1).trans h1.2.2.2.2.2.2.2.2.2.2.2.2.2.2.2.2.2.2.2.2.2.2.2.2.2.2.2.2.2.2.2.2.2.2.2.2.2.2.2.2.2.2.2.2.2.2.2.2.2.2.2.2.2.1, (h2.2.2.2.2.2.2.2.2.2.2.2.2.2.2.2.2.2.2.2.2.2.2.2.2.2.2.2.2.2.2.2.2.2.2.2.2.2.2.2.2.2.2.2.2.2.2.2.2.2.2.2.2.2.2.1).trans h1.2.2.2.2.2.2.2.2.2.2.2.2.2.2.2.2.2.2.2.2.2.2.2.2.2.2.2.2.2.2.2.2.2.2.2.2.2.2.2.2.2.2.2.2.2.2.2.2.2.2.2.2.2.2.1, (h2.2.2.2.2.2.2.2.2.2.2.2.2.2.2.2.2.2.2.2.2.2.2.2.2.2.2.2.2.2.2.2.2.2.2.2.2.2.2.2.2.2.2.2.2.2.2.2.2.2.2.2.2.2.2.2.1).trans h1.2.2.2.2.2.2.2.2.2.2.2.2.2.2.2.2.2.2.2.2.2.2.2.2.2.2.2.2.2.2.2.2.2.2.2.2.2.2.2.2.2.2.2.2.2.2.2.2.2.2.2.2.2.2.2.1, (h2.2.2.2.2.2.2.2.2.2.2.2.2.2.2.2.2.2.2.2.2.2.2.2.2.2.2.2.2.2.2.2.2.2.2.2.2.2.2.2.2.2.2.2.2.2.2.2.2.2.2.2.2.2.2.2.2.1).trans h1.2.2.2.2.2.2.2.2.2.2.2.2.2.2.2.2.2.2.2.2.2.2.2.2.2.2.2.2.2.2.2.2.2.2.2.2.2.2.2.2.2.2.2.2.2.2.2.2.2.2.2.2.2.2.2.2.1, (h2.2.2.2.2.2.2.2.2.2.2.2.2.2.2.2.2.2.2.2.2.2.2.2.2.2.2.2.2.2.2.2.2.2.2.2.2.2.2.2.2.2.2.2.2.2.2.2.2.2.2.2.2.2.2.2.2.2.1).trans h1.2.2.2.2.2.2.2.2.2.2.2.2.2.2.2.2.2.2.2.2.2.2.2.2.2.2.2.2.2.2.2.2.2.2.2.2.2.2.2.2.2.2.2.2.2.2.2.2.2.2.2.2.2.2.2.2.2.1, (h2.2.2.2.2.2.2.2.2.2.2.2.2.2.2.2.2.2.2.2.2.2.2.2.2.2.2.2.2.2.2.2.2.2.2.2.2.2.2.2.2.2.2.2.2.2.2.2.2.2.2.2.2.2.2.2.2.2.2.1).trans h1.2.2.2.2.2.2.2.2.2.2.2.2.2.2.2.2.2.2.2.2.2.2.2.2.2.2.2.2.2.2.2.2.2.2.2.2.2.2.2.2.2.2.2.2.2.2.2.2.2.2.2.2.2.2.2.2.2.2.1, (h2.2.2.2.2.2.2.2.2.2.2.2.2.2.2.2.2.2.2.2.2.2.2.2.2.2.2.2.2.2.2.2.2.2.2.2.2.2.2.2.2.2.2.2.2.2.2.2.2.2.2.2.2.2.2.2.2.2.2.2.1).trans h1.2.2.2.2.2.2.2.2.2.2.2.2.2.2.2.2.2.2.2.2.2.2.2.2.2.2.2.2.2.2.2.2.2.2.2.2.2.2.2.2.2.2.2.2.2.2.2.2.2.2.2.2.2.2.2.2.2.2.2.1, (h2.2.2.2.2.2.2.2.2.2.2.2.2.2.2.2.2.2.2.2.2.2.2.2.2.2.2.2.2.2.2.2.2.2.2.2.2.2.2.2.2.2.2.2.2.2.2.2.2.2.2.2.2.2.2.2.2.2.2.2.2.1).trans h1.2.2.2.2.2.2.2.2.2.2.2.2.2.2.2.2.2.2.2.2.2.2.2.2.2.2.2.2.2.2.2.2.2.2.2.2.2.2.2.2.2.2.2.2.2.2.2.2.2.2.2.2.2.2.2.2.2.2.2.2.1, (h2.2.2.2.2.2.2.2.2.2.2.2.2.2.2.2.2.2.2.2.2.2.2.2.2.2.2.2.2.2.2.2.2.2.2.2.2.2.2.2.2.2.2.2.2.2.2.2.2.2.2.2.2.2.2.2.2.2.2.2.2.2.1).trans h1.2.2.2.2.2.2.2.2.2.2.2.2.2.2.2.2.2.2.2.2.2.2.2.2.2.2.2.2.2.2.2.2.2.2.2.2.2.2.2.2.2.2.2.2.2.2.2.2.2.2.2.2.2.2.2.2.2.2.2.2.2.1, (h2.2.2.2.2.2.2.2.2.2.2.2.2.2.2.2.2.2.2.2.2.2.2.2.2.2.2.2.2.2.2.2.2.2.2.2.2.2.2.2.2.2.2.2.2.2.2.2.2.2.2.2.2.2.2.2.2.2.2.2.2.2.2.1).trans h1.2.2.2.2.2.2.2.2.2.2.2.2.2.2.2.2.2.2.2.2.2.2.2.2.2.2.2.2.2.2.2.2.2.2.2.2.2.2.2.2.2.2.2.2.2.2.2.2.2.2.2.2.2.2.2.2.2.2.2.2.2.2.1, (h2.2.2.2.2.2.2.2.2.2.2.2.2.2.2.2.2.2.2.2.2.2.2.2.2.2.2.2.2.2.2.2.2.2.2.2.2.2.2.2.2.2.2.2.2.2.2.2.2.2.2.2.2.2.2.2.2.2.2.2.2.2.2.2).trans h1.2.2.2.2.2.2.2.2.2.2.2.2.2.2.2.2.2.2.2.2.2.2.2.2.2.2.2.2.2.2.2.2.2.2.2.2.2.2.2.2.2.2.2.2.2.2.2.2.2.2.2.2.2.2.2.2.2.2.2.2.2.2.2⟩
theorem dX11_untell_0 : decode cX11_untell 0 = .ok (.iload_n 1, 1) := by decide +kernel
theorem dX11_untell_1 : decode cX11_untell 1 = .ok (.iconst 0, 1) := by decide +kernel
theorem dX11_untell_2 : decode cX11_untell 2 = .ok (.aload_n 0, 1) := by decide +kernel
theorem dX11_untell_3 : decode cX11_untell 3 = .ok (.getfield 395, 3) := by decide +kernel
theorem dX11_untell_6 : decode cX11_untell 6 = .ok (.iconst 1, 1) := by decide +kernel
theorem dX11_untell_7 : decode cX11_untell 7 = .ok (.isub, 1) := by decide +kernel
theorem dX11_untell_8 : decode cX11_untell 8 = .ok (.invokestatic 374, 3) := by decide +kernel
theorem dX11_untell_11 : decode cX11_untell 11 = .ok (.ifCond .eq 12, 3) := by decide +kernel
theorem dX11_untell_14 : decode cX11_untell 14 = .ok (.aload_n 0, 1) := by decide +kernel
theorem dX11_untell_15 : decode cX11_untell 15 = .ok (.getfield 130, 3) := by decide +kernel
theorem dX11_untell_18 : decode cX11_untell 18 = .ok (.iload_n 1, 1) := by decide +kernel
theorem dX11_untell_19 : decode cX11_untell 19 = .ok (.iaload, 1) := by decide +kernel
theorem dX11_untell_20 : decode cX11_untell 20 = .ok (.ifCond .lt 5, 3) := by decide +kernel
theorem dX11_untell_23 : decode cX11_untell 23 = .ok (.iconst 0, 1) := by decide +kernel
theorem dX11_untell_24 : decode cX11_untell 24 = .ok (.ireturn, 1) := by decide +kernel
theorem dX11_untell_25 : decode cX11_untell 25 = .ok (.aload_n 0, 1) := by decide +kernel
theorem dX11_untell_26 : decode cX11_untell 26 = .ok (.getfield 130, 3) := by decide +kernel
theorem dX11_untell_29 : decode cX11_untell 29 = .ok (.iload_n 1, 1) := by decide +kernel
theorem dX11_untell_30 : decode cX11_untell 30 = .ok (.aload_n 0, 1) := by decide +kernel
theorem dX11_untell_31 : decode cX11_untell 31 = .ok (.getfield 484, 3) := by decide +kernel
theorem dX11_untell_34 : decode cX11_untell 34 = .ok (.iastore, 1) := by decide +kernel
theorem dX11_untell_35 : decode cX11_untell 35 = .ok (.iconst 1, 1) := by decide +kernel
theorem dX11_untell_36 : decode cX11_untell 36 = .ok (.ireturn, 1) := by decide +kernel
theorem wd_1985 : (Cond.code ⟨"WebCourtModel", "untell", "(I)Z"⟩ prog_13_method_112_code (2 : Nat) (Option.some FieldType.boolean)) ∈ gtb := gtb_c8 196 (by decide +kernel) rfl
theorem Km20_wA38 {u v : St} {D : va_G} {A : Nat → Prop} {cy : Nat → ClassId} {a : Nat → Nat} {hp H : Heap} {locs : List Loc} {f : Nat → Int32} (_ : Wo D A (mW cy a (sA v 38 f)) hp H locs) (h : Km20 u v) : Km20 u (sA v 38 f) := ⟨h.1, h.2.1, h.2.2.1, h.2.2.2.1, h.2.2.2.2.1, h.2.2.2.2.2.1, h.2.2.2.2.2.2.1, h.2.2.2.2.2.2.2.1, h.2.2.2.2.2.2.2.2.1, h.2.2.2.2.2.2.2.2.2.1, h.2.2.2.2.2.2.2.2.2.2.1, h.2.2.2.2.2.2.2.2.2.2.2.1, h.2.2.2.2.2.2.2.2.2.2.2.2.1, h.2.2.2.2.2.2.2.2.2.2.2.2.2.1, h.2.2.2.2.2.2.2.2.2.2.2.2.2.2.1, h.2.2.2.2.2.2.2.2.2.2.2.2.2.2.2.1, h.2.2.2.2.2.2.2.2.2.2.2.2.2.2.2.2.1, h.2.2.2.2.2.2.2.2.2.2.2.2.2.2.2.2.2.1, h.2.2.2.2.2.2.2.2.2.2.2.2.2.2.2.2.2.2.1, h.2.2.2.2.2.2.2.2.2.2.2.2.2.2.2.2.2.2.2.1, h.2.2.2.2.2.2.2.2.2.2.2.2.2.2.2.2.2.2.2.2.1, h.2.2.2.2.2.2.2.2.2.2.2.2.2.2.2.2.2.2.2.2.2.1, h.2.2.2.2.2.2.2.2.2.2.2.2.2.2.2.2.2.2.2.2.2.2.1, h.2.2.2.2.2.2.2.2.2.2.2.2.2.2.2.2.2.2.2.2.2.2.2.1, h.2.2.2.2.2.2.2.2.2.2.2.2.2.2.2.2.2.2.2.2.2.2.2.2.1, h.2.2.2.2.2.2.2.2.2.2.2.2.2.2.2.2.2.2.2.2.2.2.2.2.2.1, h.2.2.2.2.2.2.2.2.2.2.2.2.2.2.2.2.2.2.2.2.2.2.2.2.2.2.1, h.2.2.2.2.2.2.2.2.2.2.2.2.2.2.2.2.2.2.2.2.2.2.2.2.2.2.2.1, h.2.2.2.2.2.2.2.2.2.2.2.2.2.2.2.2.2.2.2.2.2.2.2.2.2.2.2.2.1, h.2.2.2.2.2.2.2.2.2.2.2.2.2.2.2.2.2.2.2.2.2.2.2.2.2.2.2.2.2.1, h.2.2.2.2.2.2.2.2.2.2.2.2.2.2.2.2.2.2.2.2.2.2.2.2.2.2.2.2.2.2.1, h.2.2.2.2.2.2.2.2.2.2.2.2.2.2.2.2.2.2.2.2.2.2.2.2.2.2.2.2.2.2.2.1, h.2.2.2.2.2.2.2.2.2.2.2.2.2.2.2.2.2.2.2.2.2.2.2.2.2.2.2.2.2.2.2.2.1, h.2.2.2.2.2.2.2.2.2.2.2.2.2.2.2.2.2.2.2.2.2.2.2.2.2.2.2.2.2.2.2.2.2.1, h.2.2.2.2.2.2.2.2.2.2.2.2.2.2.2.2.2.2.2.2.2.2.2.2.2.2.2.2.2.2.2.2.2.2.1, h.2.2.2.2.2.2.2.2.2.2.2.2.2.2.2.2.2.2.2.2.2.2.2.2.2.2.2.2.2.2.2.2.2.2.2.1, h.2.2.2.2.2.2.2.2.2.2.2.2.2.2.2.2.2.2.2.2.2.2.2.2.2.2.2.2.2.2.2.2.2.2.2.2.1, h.2.2.2.2.2.2.2.2.2.2.2.2.2.2.2.2.2.2.2.2.2.2.2.2.2.2.2.2.2.2.2.2.2.2.2.2.2.1, h.2.2.2.2.2.2.2.2.2.2.2.2.2.2.2.2.2.2.2.2.2.2.2.2.2.2.2.2.2.2.2.2.2.2.2.2.2.2.1, h.2.2.2.2.2.2.2.2.2.2.2.2.2.2.2.2.2.2.2.2.2.2.2.2.2.2.2.2.2.2.2.2.2.2.2.2.2.2.2.1, h.2.2.2.2.2.2.2.2.2.2.2.2.2.2.2.2.2.2.2.2.2.2.2.2.2.2.2.2.2.2.2.2.2.2.2.2.2.2.2.2.1, h.2.2.2.2.2.2.2.2.2.2.2.2.2.2.2.2.2.2.2.2.2.2.2.2.2.2.2.2.2.2.2.2.2.2.2.2.2.2.2.2.2.1, h.2.2.2.2.2.2.2.2.2.2.2.2.2.2.2.2.2.2.2.2.2.2.2.2.2.2.2.2.2.2.2.2.2.2.2.2.2.2.2.2.2.2.1, h.2.2.2.2.2.2.2.2.2.2.2.2.2.2.2.2.2.2.2.2.2.2.2.2.2.2.2.2.2.2.2.2.2.2.2.2.2.2.2.2.2.2.2.1, h.2.2.2.2.2.2.2.2.2.2.2.2.2.2.2.2.2.2.2.2.2.2.2.2.2.2.2.2.2.2.2.2.2.2.2.2.2.2.2.2.2.2.2.2.1, h.2.2.2.2.2.2.2.2.2.2.2.2.2.2.2.2.2.2.2.2.2.2.2.2.2.2.2.2.2.2.2.2.2.2.2.2.2.2.2.2.2.2.2.2.2.1, h.2.2.2.2.2.2.2.2.2.2.2.2.2.2.2.2.2.2.2.2.2.2.2.2.2.2.2.2.2.2.2.2.2.2.2.2.2.2.2.2.2.2.2.2.2.2.1, h.2.2.2.2.2.2.2.2.2.2.2.2.2.2.2.2.2.2.2.2.2.2.2.2.2.2.2.2.2.2.2.2.2.2.2.2.2.2.2.2.2.2.2.2.2.2.2.1, h.2.2.2.2.2.2.2.2.2.2.2.2.2.2.2.2.2.2.2.2.2.2.2.2.2.2.2.2.2.2.2.2.2.2.2.2.2.2.2.2.2.2.2.2.2.2.2.2.1, h.2.2.2.2.2.2.2.2.2.2.2.2.2.2.2.2.2.2.2.2.2.2.2.2.2.2.2.2.2.2.2.2.2.2.2.2.2.2.2.2.2.2.2.2.2.2.2.2.2.1, h.2.2.2.2.2.2.2.2.2.2.2.2.2.2.2.2.2.2.2.2.2.2.2.2.2.2.2.2.2.2.2.2.2.2.2.2.2.2.2.2.2.2.2.2.2.2.2.2.2.2.1, h.2.2.2.2.2.2.2.2.2.2.2.2.2.2.2.2.2.2.2.2.2.2.2.2.2.2.2.2.2.2.2.2.2.2.2.2.2.2.2.2.2.2.2.2.2.2.2.2.2.2.2.1, h.2.2.2.2.2.2.2.2.2.2.2.2.2.2.2.2.2.2.2.2.2.2.2.2.2.2.2.2.2.2.2.2.2.2.2.2.2.2.2.2.2.2.2.2.2.2.2.2.2.2.2.2.1, h.2.2.2.2.2.2.2.2.2.2.2.2.2.2.2.2.2.2.2.2.2.2.2.2.2.2.2.2.2.2.2.2.2.2.2.2.2.2.2.2.2.2.2.2.2.2.2.2.2.2.2.2.2.1, h.2.2.2.2.2.2.2.2.2.2.2.2.2.2.2.2.2.2.2.2.2.2.2.2.2.2.2.2.2.2.2.2.2.2.2.2.2.2.2.2.2.2.2.2.2.2.2.2.2.2.2.2.2.2.1, h.2.2.2.2.2.2.2.2.2.2.2.2.2.2.2.2.2.2.2.2.2.2.2.2.2.2.2.2.2.2.2.2.2.2.2.2.2.2.2.2.2.2.2.2.2.2.2.2.2.2.2.2.2.2.2.1, h.2.2.2.2.2.2.2.2.2.2.2.2.2.2.2.2.2.2.2.2.2.2.2.2.2.2.2.2.2.2.2.2.2.2.2.2.2.2.2.2.2.2.2.2.2.2.2.2.2.2.2.2.2.2.2.2.1, h.2.2.2.2.2.2.2.2.2.2.2.2.2.2.2.2.2.2.2.2.2.2.2.2.2.2.2.2.2.2.2.2.2.2.2.2.2.2.2.2.2.2.2.2.2.2.2.2.2.2.2.2.2.2.2.2.2.1, h.2.2.2.2.2.2.2.2.2.2.2.2.2.2.2.2.2.2.2.2.2.2.2.2.2.2.2.2.2.2.2.2.2.2.2.2.2.2.2.2.2.2.2.2.2.2.2.2.2.2.2.2.2.2.2.2.2.2.1, h.2.2.2.2.2.2.2.2.2.2.2.2.2.2.2.2.2.2.2.2.2.2.2.2.2.2.2.2.2.2.2.2.2.2.2.2.2.2.2.2.2.2.2.2.2.2.2.2.2.2.2.2.2.2.2.2.2.2.2.1, h.2.2.2.2.2.2.2.2.2.2.2.2.2.2.2.2.2.2.2.2.2.2.2.2.2.2.2.2.2.2.2.2.2.2.2.2.2.2.2.2.2.2.2.2.2.2.2.2.2.2.2.2.2.2.2.2.2.2.2.2.1, h.2.2.2.2.2.2.2.2.2.2.2.2.2.2.2.2.2.2.2.2.2.2.2.2.2.2.2.2.2.2.2.2.2.2.2.2.2.2.2.2.2.2.2.2.2.2.2.2.2.2.2.2.2.2.2.2.2.2.2.2.2.1, h.2.2.2.2.2.2.2.2.2.2.2.2.2.2.2.2.2.2.2.2.2.2.2.2.2.2.2.2.2.2.2.2.2.2.2.2.2.2.2.2.2.2.2.2.2.2.2.2.2.2.2.2.2.2.2.2.2.2.2.2.2.2.1, h.2.2.2.2.2.2.2.2.2.2.2.2.2.2.2.2.2.2.2.2.2.2.2.2.2.2.2.2.2.2.2.2.2.2.2.2.2.2.2.2.2.2.2.2.2.2.2.2.2.2.2.2.2.2.2.2.2.2.2.2.2.2.2⟩
set_option maxHeartbeats 4000000 in
set_option maxRecDepth 100000 in
theorem T_X11_untell (l : Launch) (D : va_G) (cy : Nat → ClassId) (a : Nat → Nat) (u : St) (hJ : MI a u) (x1 : Int32)  : Mi l D cy (mW cy a) yX11_untell (.code yX11_untell cX11_untell 2 (some .boolean)) (rmo 1 22) [.ref (a 0), .int x1] u (fun (r : Int32) (u' : St) => (r = 0 ∨ r = 1) ∧ (MI a u') ∧ (Km20 u u')) := by
  refine Mi.of (own := RX11) rfl (by decide) (Nat.le_of_ble_eq_true rfl) ?_
  have hT : Km20 u u := Km20.rf
  have hJ0 := hJ
  intro p e s m below meth c A Q ls C hret hO hl
  obtain ⟨hx, hb, hml, hown, ht, hK, hA⟩ := id C
  have hl : lv_has ls 2 [(0, .ref (a 0)), (1, .int x1)] := hl
  refine lv_iload_n hx hb dX11_untell_0 rfl (lv_at hl 1 rfl) ?_
  refine lv_iconst (v := 0) hx hb dX11_untell_1 (by decide) ?_
  refine lv_aload_n hx hb dX11_untell_2 rfl (lv_at hl 0 rfl) ?_
  have g1 : 0 ≤ (fI u 0 61).toInt ∧ (fI u 0 61).toInt ≤ 30 := by have h := MI_61 hJ0; exact h
  refine gf_RX11_395 (v := .int (fI u 0 61)) C hO 0 mW_0 rfl dX11_untell_3 ?_
  refine lv_iconst (v := 1) hx hb dX11_untell_6 (by decide) ?_
  refine lv_isub hx hb dX11_untell_7 ?_
  refine lv_topi (fun z2 ez2 => ?_)
  have e3 : z2.toInt = ((fI u 0 61)).toInt - 1 := by rw [ez2]; exact i_sub rfl rfl (by omega)
  refine cSi (w := mW cy a) (As := [.int x1, .int 0, .int z2]) (rest := []) C hO (T_X11_isIn l D cy a _ (by exact hJ) (x1) (0) (z2)) (va_cwS 3 ht (gSS wd_1722 wd_1723 wd_121 wd_1724) rfl rfl rfl hd_yX11_isIn ⟨Nat.le_of_ble_eq_true rfl, Nat.le_of_ble_eq_true rfl⟩)  rfl hl.1 (Nat.le_of_ble_eq_true rfl) dX11_untell_8 rfl ⟨Nat.zero_le _, Nat.zero_le _⟩ (fun r4 u5 H locs hp6 hO => ?_)
  obtain ⟨hr4, hu5⟩ := hp6
  rw [hu5] at hO
  have zz7 : (0 : Int32).toInt = 0 := rfl
  rcases hr4 with ⟨hcr4, hvr4⟩ | ⟨hcr4, hvr4⟩
  · subst hvr4
    refine bn_eq (X := 1) hx hb dX11_untell_11 rfl (by omega) ?_ (tgt := 23) (by decide)
    refine lv_aload_n hx hb dX11_untell_14 rfl (lv_at hl 0 rfl) ?_
    refine gf_RX11_130 (v := .ref (a 38)) C hO 0 mW_0 rfl dX11_untell_15 ?_
    refine lv_iload_n hx hb dX11_untell_18 rfl (lv_at hl 1 rfl) ?_
    refine aI C hO 38 mW_38 (i_in (X := (x1).toInt) rfl (by omega) (by omega)) dX11_untell_19 ?_
    refine tE (y := (fA u 38 (x1).toNatClampNeg)) (by exact rfl) ?_
    refine bs_lt (tgt := 25) (X := ((fA u 38 (x1).toNatClampNeg)).toInt) hx hb dX11_untell_20 (by decide) rfl (fun c8 => ?_) (fun c8 => ?_)
    · refine lv_aload_n hx hb dX11_untell_25 rfl (lv_at hl 0 rfl) ?_
      refine gf_RX11_130 (v := .ref (a 38)) C hO 0 mW_0 rfl dX11_untell_26 ?_
      refine lv_iload_n hx hb dX11_untell_29 rfl (lv_at hl 1 rfl) ?_
      refine lv_aload_n hx hb dX11_untell_30 rfl (lv_at hl 0 rfl) ?_
      have g9 : 0 ≤ (fI u 0 62).toInt ∧ (fI u 0 62).toInt ≤ 100000 := by have h := MI_62 hJ0; exact h
      refine gf_RX11_484 (v := .int (fI u 0 62)) C hO 0 mW_0 rfl dX11_untell_31 ?_
      refine aIs C hO 38 mW_38 (i_in (X := (x1).toInt) rfl (by omega) (by omega)) mW_s38 dX11_untell_34 (fun H locs hO => ?_)
      have hT := Km20_wA38 hO hT
      have hJ := MIsA_38 hO hJ
      refine lv_iconst (v := 1) hx hb dX11_untell_35 (by decide) ?_
      refine hret _ _ _ _ _ _ dX11_untell_36 rfl ?_ hO
      exact ⟨Or.inr rfl, hJ, hT⟩
    · refine lv_iconst (v := 0) hx hb dX11_untell_23 (by decide) ?_
      refine hret _ _ _ _ _ _ dX11_untell_24 rfl ?_ hO
      exact ⟨Or.inl rfl, hJ, hT⟩
  · subst hvr4
    refine bt_eq (tgt := 23) (X := 0) hx hb dX11_untell_11 (by decide) rfl (by omega) ?_
    refine lv_iconst (v := 0) hx hb dX11_untell_23 (by decide) ?_
    refine hret _ _ _ _ _ _ dX11_untell_24 rfl ?_ hO
    exact ⟨Or.inl rfl, hJ, hT⟩
def Km21 (u v : St) : Prop := fI v 0 2 = fI u 0 2 ∧ fI v 0 3 = fI u 0 3 ∧ fI v 0 4 = fI u 0 4 ∧ fI v 0 5 = fI u 0 5 ∧ fI v 0 6 = fI u 0 6 ∧ fI v 0 7 = fI u 0 7 ∧ fI v 0 8 = fI u 0 8 ∧ fI v 0 9 = fI u 0 9 ∧ fL v 0 10 = fL u 0 10 ∧ fI v 0 36 = fI u 0 36 ∧ fI v 0 37 = fI u 0 37 ∧ fI v 0 38 = fI u 0 38 ∧ fI v 0 39 = fI u 0 39 ∧ fI v 0 40 = fI u 0 40 ∧ fI v 0 41 = fI u 0 41 ∧ fI v 0 42 = fI u 0 42 ∧ fI v 0 43 = fI u 0 43 ∧ fI v 0 45 = fI u 0 45 ∧ fI v 0 47 = fI u 0 47 ∧ fI v 0 48 = fI u 0 48 ∧ fI v 0 50 = fI u 0 50 ∧ fI v 0 61 = fI u 0 61 ∧ fA v 1 = fA u 1 ∧ fA v 2 = fA u 2 ∧ fA v 3 = fA u 3 ∧ fA v 4 = fA u 4 ∧ fA v 5 = fA u 5 ∧ fA v 6 = fA u 6 ∧ fA v 7 = fA u 7 ∧ fA v 8 = fA u 8 ∧ fA v 9 = fA u 9 ∧ fA v 10 = fA u 10 ∧ fA v 11 = fA u 11 ∧ fA v 12 = fA u 12 ∧ fA v 13 = fA u 13 ∧ fA v 14 = fA u 14 ∧ fA v 15 = fA u 15 ∧ fA v 16 = fA u 16 ∧ fA v 17 = fA u 17 ∧ fA v 18 = fA u 18 ∧ fA v 19 = fA u 19 ∧ fJ v 20 = fJ u 20 ∧ fJ v 21 = fJ u 21 ∧ fJ v 22 = fJ u 22 ∧ fA v 23 = fA u 23 ∧ fA v 24 = fA u 24 ∧ fA v 25 = fA u 25 ∧ fA v 26 = fA u 26 ∧ fA v 27 = fA u 27 ∧ fA v 28 = fA u 28 ∧ fA v 29 = fA u 29 ∧ fA v 30 = fA u 30 ∧ fA v 31 = fA u 31 ∧ fA v 32 = fA u 32 ∧ fA v 33 = fA u 33 ∧ fA v 34 = fA u 34 ∧ fA v 35 = fA u 35 ∧ fA v 36 = fA u 36 ∧ fA v 37 = fA u 37 ∧ fA v 38 = fA u 38 ∧ fA v 39 = fA u 39 ∧ fA v 40 = fA u 40 ∧ fA v 41 = fA u 41 ∧ fA v 42 = fA u 42
theorem Km21.rf {u : St} : Km21 u u := ⟨rfl, rfl, rfl, rfl, rfl, rfl, rfl, rfl, rfl, rfl, rfl, rfl, rfl, rfl, rfl, rfl, rfl, rfl, rfl, rfl, rfl, rfl, rfl, rfl, rfl, rfl, rfl, rfl, rfl, rfl, rfl, rfl, rfl, rfl, rfl, rfl, rfl, rfl, rfl, rfl, rfl, rfl, rfl, rfl, rfl, rfl, rfl, rfl, rfl, rfl, rfl, rfl, rfl, rfl, rfl, rfl, rfl, rfl, rfl, rfl, rfl, rfl, rfl, rfl⟩
theorem Km21.tr {u v w : St} (h1 : Km21 u v) (h2 : Km21 v w) : Km21 u w := ⟨(h2.1).trans h1.1, (h2.2.1).trans h1.2.1, (h2.2.2.1).trans h1.2.2.1, (h2.2.2.2.1).trans h1.2.2.2.1, (h2.2.2.2.2.1).trans h1.2.2.2.2.1, (h2.2.2.2.2.2.1).trans h1.2.2.2.2.2.1, (h2.2.2.2.2.2.2.1).trans h1.2.2.2.2.2.2.1, (h2.2.2.2.2.2.2.2.1).trans h1.2.2.2.2.2.2.2.1, (h2.2.2.2.2.2.2.2.2.1).trans h1.2.2.2.2.2.2.2.2.1, (h2.2.2.2.2.2.2.2.2.2.1).trans h1.2.2.2.2.2.2.2.2.2.1, (h2.2.2.2.2.2.2.2.2.2.2.1).trans h1.2.2.2.2.2.2.2.2.2.2.1, (h2.2.2.2.2.2.2.2.2.2.2.2.1).trans h1.2.2.2.2.2.2.2.2.2.2.2.1, (h2.2.2.2.2.2.2.2.2.2.2.2.2.1).trans h1.2.2.2.2.2.2.2.2.2.2.2.2.1, (h2.2.2.2.2.2.2.2.2.2.2.2.2.2.1).trans h1.2.2.2.2.2.2.2.2.2.2.2.2.2.1, (h2.2.2.2.2.2.2.2.2.2.2.2.2.2.2.1).trans h1.2.2.2.2.2.2.2.2.2.2.2.2.2.2.1, (h2.2.2.2.2.2.2.2.2.2.2.2.2.2.2.2.1).trans h1.2.2.2.2.2.2.2.2.2.2.2.2.2.2.2.1, (h2.2.2.2.2.2.2.2.2.2.2.2.2.2.2.2.2.1).trans h1.2.2.2.2.2.2.2.2.2.2.2.2.2.2.2.2.1, (h2.2.2.2.2.2.2.2.2.2.2.2.2.2.2.2.2.2.1).trans h1.2.2.2.2.2.2.2.2.2.2.2.2.2.2.2.2.2.1, (h2.2.2.2.2.2.2.2.2.2.2.2.2.2.2.2.2.2.2.1).trans h1.2.2.2.2.2.2.2.2.2.2.2.2.2.2.2.2.2.2.1, (h2.2.2.2.2.2.2.2.2.2.2.2.2.2.2.2.2.2.2.2.1).trans h1.2.2.2.2.2.2.2.2.2.2.2.2.2.2.2.2.2.2.2.1, (h2.2.2.2.2.2.2.2.2.2.2.2.2.2.2.2.2.2.2.2.2.1).trans h1.2.2.2.2.2.2.2.2.2.2.2.2.2.2.2.2.2.2.2.2.1, (h2.2.2.2.2.2.2.2.2.2.2.2.2.2.2.2.2.2.2.2.2.2.1).trans h1.2.2.2.2.2.2.2.2.2.2.2.2.2.2.2.2.2.2.2.2.2.1, (h2.2.2.2.2.2.2.2.2.2.2.2.2.2.2.2.2.2.2.2.2.2.2.1).trans h1.2.2.2.2.2.2.2.2.2.2.2.2.2.2.2.2.2.2.2.2.2.2.1, (h2.2.2.2.2.2.2.2.2.2.2.2.2.2.2.2.2.2.2.2.2.2.2.2.1).trans h1.2.2.2.2.2.2.2.2.2.2.2.2.2.2.2.2.2.2.2.2.2.2.2.1, (h2.2.2.2.2.2.2.2.2.2.2.2.2.2.2.2.2.2.2.2.2.2.2.2.2.1).trans h1.2.2.2.2.2.2.2.2.2.2.2.2.2.2.2.2.2.2.2.2.2.2.2.2.1, (h2.2.2.2.2.2.2.2.2.2.2.2.2.2.2.2.2.2.2.2.2.2.2.2.2.2.1).trans h1.2.2.2.2.2.2.2.2.2.2.2.2.2.2.2.2.2.2.2.2.2.2.2.2.2.1, (h2.2.2.2.2.2.2.2.2.2.2.2.2.2.2.2.2.2.2.2.2.2.2.2.2.2.2.1).trans h1.2.2.2.2.2.2.2.2.2.2.2.2.2.2.2.2.2.2.2.2.2.2.2.2.2.2.1, (h2.2.2.2.2.2.2.2.2.2.2.2.2.2.2.2.2.2.2.2.2.2.2.2.2.2.2.2.1).trans h1.2.2.2.2.2.2.2.2.2.2.2.2.2.2.2.2.2.2.2.2.2.2.2.2.2.2.2.1, (h2.2.2.2.2.2.2.2.2.2.2.2.2.2.2.2.2.2.2.2.2.2.2.2.2.2.2.2.2.1).trans h1.2.2.2.2.2.2.2.2.2.2.2.2.2.2.2.2.2.2.2.2.2.2.2.2.2.2.2.2.1, (h2.2.2.2.2.2.2.2.2.2.2.2.2.2.2.2.2.2.2.2.2.2.2.2.2.2.2.2.2.2.1).trans h1.2.2.2.2.2.2.2.2.2.2.2.2.2.2.2.2.2.2.2.2.2.2.2.2.2.2.2.2.2.1, (h2.2.2.2.2.2.2.2.2.2.2.2.2.2.2.2.2.2.2.2.2.2.2.2.2.2.2.2.2.2.2.1).trans h1.2.2.2.2.2.2.2.2.2.2.2.2.2.2.2.2.2.2.2.2.2.2.2.2.2.2.2.2.2.2.1, (h2.2.2.2.2.2.2.2.2.2.2.2.2.2.2.2.2.2.2.2.2.2.2.2.2.2.2.2.2.2.2.2.1).trans h1.2.2.2.2.2.2.2.2.2.2.2.2.2.2.2.2.2.2.2.2.2.2.2.2.2.2.2.2.2.2.2.1, (h2.2.2.2.2.2.2.2.2.2.2.2.2.2.2.2.2.2.2.2.2.2.2.2.2.2.2.2.2.2.2.2.2.1).trans h1.2.2.2.2.2.2.2.2.2.2.2.2.2.2.2.2.2.2.2.2.2.2.2.2.2.2.2.2.2.2.2.2.1, (h2.2.2.2.2.2.2.2.2.2.2.2.2.2.2.2.2.2.2.2.2.2.2.2.2.2.2.2.2.2.2.2.2.2.1).trans h1.2.2.2.2.2.2.2.2.2.2.2.2.2.2.2.2.2.2.2.2.2.2.2.2.2.2.2.2.2.2.2.2.2.1, (h2.2.2.2.2.2.2.2.2.2.2.2.2.2.2.2.2.2.2.2.2.2.2.2.2.2.2.2.2.2.2.2.2.2.2.1).trans h1.2.2.2.2.2.2.2.2.2.2.2.2.2.2.2.2.2.2.2.2.2.2.2.2.2.2.2.2.2.2.2.2.2.2.1, (h2.2.2.2.2.2.2.2.2.2.2.2.2.2.2.2.2.2.2.2.2.2.2.2.2.2.2.2.2.2.2.2.2.2.2.2.1).trans h1.2.2.2.2.2.2.2.2.2.2.2.2.2.2.2.2.2.2.2.2.2.2.2.2.2.2.2.2.2.2.2.2.2.2.2.1, (h2.2.2.2.2.2.2.2.2.2.2.2.2.2.2.2.2.2.2.2.2.2.2.2.2.2.2.2.2.2.2.2.2.2.2.2.2.1).trans h1.2.2.2.2.2.2.2.2.2.2.2.2.2.2.2.2.2.2.2.2.2.2.2.2.2.2.2.2.2.2.2.2.2.2.2.2.1, (h2.2.2.2.2.2.2.2.2.2.2.2.2.2.2.2.2.2.2.2.2.2.2.2.2.2.2.2.2.2.2.2.2.2.2.2.2.2.1).trans h1.2.2.2.2.2.2.2.2.2.2.2.2.2.2.2.2.2.2.2.2.2.2.2.2.2.2.2.2.2.2.2.2.2.2.2.2.2.1, (h2.2.2.2.2.2.2.2.2.2.2.2.2.2.2.2.2.2.2.2.2.2.2.2.2.2.2.2.2.2.2.2.2.2.2.2.2.2.2.1).trans h1.2.2.2.2.2.2.2.2.2.2.2.2.2.2.2.2.2.2.2.2.2.2.2.2.2.2.2.2.2.2.2.2.2.2.2.2.2.2.1, (h2.2.2.2.2.2.2.2.2.2.2.2.2.2.2.2.2.2.2.2.2.2.2.2.2.2.2.2.2.2.2.2.2.2.2.2.2.2.2.2.1).trans h1.2.2.2.2.2.2.2.2.2.2.2.2.2.2.2.2.2.2.2.2.2.2.2.2.2.2.2.2.2.2.2.2.2.2.2.2.2.2.2.1, (h2.2.2.2.2.2.2.2.2.2.2.2.2.2.2.2.2.2.2.2.2.2.2.2.2.2.2.2.2.2.2.2.2.2.2.2.2.2.2.2.2.1).trans h1.2.2.2.2.2.2.2.2.2.2.2.2.2.2.2.2.2.2.2.2.2.2.2.2.2.2.2.2.2.2.2.2.2.2.2.2.2.2.2.2.1, (h2.2.2.2.2.2.2.2.2.2.2.2.2.2.2.2.2.2.2.2.2.2.2.2.2.2.2.2.2.2.2.2.2.2.2.2.2.2.2.2.2.2.1).trans h1.2.2.2.2.2.2.2.2.2.2.2.2.2.2.2.2.2.2.2.2.2.2.2.2.2.2.2.2.2.2.2.2.2.2.2.2.2.2.2.2.2.1, (h2.2.2.2.2.2.2.2.2.2.2.2.2.2.2.2.2.2.2.2.2.2.2.2.2.2.2.2.2.2.2.2.2.2.2.2.2.2.2.2.2.2.2.1).trans h1.2.2.2.2.2.2.2.2.2.2.2.2.2.2.2.2.2.2.2.2.2.2.2.2.2.2.2.2.2.2.2.2.2.2.2.2.2.2.2.2.2.2.1, (h2.2.2.2.2.2.2.2.2.2.2.2.2.2.2.2.2.2.2.2.2.2.2.2.2.2.2.2.2.2.2.2.2.2.2.2.2.2.2.2.2.2.2.2.1).trans h1.2.2.2.2.2.2.2.2.2.2.2.2.2.2.2.2.2.2.2.2.2.2.2.2.2.2.2.2.2.2.2.2.2.2.2.2.2.2.2.2.2.2.2.1, (h2.2.2.2.2.2.2.2.2.2.2.2.2.2.2.2.2.2.2.2.2.2.2.2.2.2.2.2.2.2.2.2.2.2.2.2.2.2.2.2.2.2.2.2.2.1).trans h1.2.2.2.2.2.2.2.2.2.2.2.2.2.2.2.2.2.2.2.2.2.2.2.2.2.2.2.2.2.2.2.2.2.2.2.2.2.2.2.2.2.2.2.2.1, (h2.2.2.2.2.2.2.2.2.2.2.2.2.2.2.2.2.2.2.2.2.2.2.2.2.2.2.2.2.2.2.2.2.2.2.2.2.2.2.2.2.2.2.2.2.2.1).trans h1.2.2.2.2.2.2.2.2.2.2.2.2.2.2.2.2.2.2.2.2.2.2.2.2.2.2.2.2.2.2.2.2.2.2.2.2.2.2.2.2.2.2.2.2.2.1, (h2.2.2.2.2.2.2.2.2.2.2.2.2.2.2.2.2.2.2.2.2.2.2.2.2.2.2.2.2.2.2.2.2.2.2.2.2.2.2.2.2.2.2.2.2.2.2.1).trans h1.2.2.2.2.2.2.2.2.2.2.2.2.2.2.2.2.2.2.2.2.2.2.2.2.2.2.2.2.2.2.2.2.2.2.2.2.2.2.2.2.2.2.2.2.2.2.1, (h2.2.2.2.2.2.2.2.2.2.2.2.2.2.2.2.2.2.2.2.2.2.2.2.2.2.2.2.2.2.2.2.2.2.2.2.2.2.2.2.2.2.2.2.2.2.2.2.1).trans h1.2.2.2.2.2.2.2.2.2.2.2.2.2.2.2.2.2.2.2.2.2.2.2.2.2.2.2.2.2.2.2.2.2.2.2.2.2.2.2.2.2.2.2.2.2.2.2.1, (h2.2.2.2.2.2.2.2.2.2.2.2.2.2.2.2.2.2.2.2.2.2.2.2.2.2.2.2.2.2.2.2.2.2.2.2.2.2.2.2.2.2.2.2.2.2.2.2.2.1).trans h1.2.2.2.2.2.2.2.2.2.2.2.2.2.2.2.2.2.2.2.2.2.2.2.2.2.2.2.2.2.2.2.2.2.2.2.2.2.2.2.2.2.2.2.2.2.2.2.2.1, (h2.2.2.2.2.2.2.2.2.2.2.2.2.2.2.2.2.2.2.2.2.2.2.2.2.2.2.2.2.2.2.2.2.2.2.2.2.2.2.2.2.2.2.2.2.2.2.2.2.2.1).trans h1.2.2.2.2.2.2.2.2.2.2.2.2.2.2.2.2.2.2.2.2.2.2.2.2.2.2.2.2.2.2.2.2.2.2.2.2.2.2.2.2.2.2.2.2.2.2.2.2.2.1, (h2.2.2.2.2.2.2.2.2.2.2.2.2.2.2.2.2.2.2.2.2.2.2.2.2.2.2.2.2.2.2.2.2.2.2.2.2.2.2.2.2.2.2.2.2.2.2.2.2.2.2.1).trans h1.2.2.2.2.2.2.2.2.2.2.2.2.2.2.2.2.2.2.2.2.2.2.2.2.2.2.2.2.2.2.2.2.2.2.2.2.2.2.2.2.2.2.2.2.2.2.2.2.2.2.1, (h2.2.2.2.2.2.2.2.2.2.2.2.2.2.2.2.2.2.2.2.2.2.2.2.2.2.2.2.2.2.2.2.2.2.2.2.2.2.2.2.2.2.2.2.2.2.2.2.2.2.2.2.1).trans h1.2.2.2.2.2.2.2.2.2.2.2.2.2.2.2.2.2.2.2.2.2.2.2.2.2.2.2.2.2.2.2.2.2.2.2.2.2.2.2.2.2.2.2.2.2.2.2.2.2.2.2.1, (h2.2.2.2.2.2.2.2.2.2.2.2.2.2.2.2.2.2.2.2.2.2.2.2.2.2.2.2.2.2.2.2.2.2.2.2.2.2.2.2.2.2.2.2.2.2.2.2.2.2.2.2.2.1).trans h1.2.2.2.2.2.2.2.2.2.2.2.2.2.2.2.2.2.2.2.2.2.2.2.2.2.2.2.2.2.2.2.2.2.2.2.2.2.2.2.2.2.2.2.2.2.2.2.2.2.2.2.2.1, (h2.2.2.2.2.2.2.2.2.2.2.2.2.2.2.2.2.2.2.2.2.2.2.2.2.2.2.2.2.2.2.2.2.2.2.2.2.2.2.2.2.2.2.2.2.2.2.2.2.2.2.2.2.2.1).trans h1.2.2.2.2.2.2.2.2.2.2.2.2.2.2.2.2.2.2.2.2.2.2.2.2.2.2.2.2.2.2.2.2.2.2.2.2.2.2.2.2.2.2.2.2.2.2.2.2.2.2.2.2.2.1, (h2.2.2.2.2.2.2.2.2.2.2.2.2.2.2.2.2.2.2.2.2.2.2.2.2.2.2.2.2.2.2.2.2.2.2.2.2.2.2.2.2.2.2.2.2.2.2.2.2.2.2.2.2.2.2.1).trans h1.2.2.2.2.2.2.2.2.2.2.2.2.2.2.2.2.2.2.2.2.2.2.2.2.2.2.2.2.2.2.2.2.2.2.2.2.2.2.2.2.2.2.2.2.2.2.2.2.2.2.2.2.2.2.1, (h2.2.2.2.2.2.2.2.2.2.2.2.2.2.2.2.2.2.2.2.2.2.2.2.2.2.2.2.2.2.2.2.2.2.2.2.2.2.2.2.2.2.2.2.2.2.2.2.2.2.2.2.2.2.2.2.1).trans h1.2.2.2.2.2.2.2.2.2.2.2.2.2.2.2.2.2.2.2.2.2.2.2.2.2.2.2.2.2.2.2.2.2.2.2.2.2.2.2.2.2.2.2.2.2.2.2.2.2.2.2.2.2.2.2.1, (h2.2.2.2.2.2.2.2.2.2.2.2.2.2.2.2.2.2.2.2.2.2.2.2.2.2.2.2.2.2.2.2.2.2.2.2.2.2.2.2.2.2.2.2.2.2.2.2.2.2.2.2.2.2.2.2.2.1).trans h1.2.2.2.2.2.2.2.2.2.2.2.2.2.2.2.2.2.2.2.2.2.2.2.2.2.2.2.2.2.2.2.2.2.2.2.2.2.2.2.2.2.2.2.2.2.2.2.2.2.2.2.2.2.2.2.2.1, (h2.2.2.2.2.2.2.2.2.2.2.2.2.2.2.2.2.2.2.2.2.2.2.2.2.2.2.2.2.2.2.2.2.2.2.2.2.2.2.2.2.2.2.2.2.2.2.2.2.2.2.2.2.2.2.2.2.2.1).trans h1.2.2.2.2.2.2.2.2.2.2.2.2.2.2.2.2.2.2.2.2.2.2.2.2.2.2.2.2.2.2.2.2.2.2.2.2.2.2.2.2.2.2.2.2.2.2.2.2.2.2.2.2.2.2.2.2.2.1, (h2.2.2.2.2.2.2.2.2.2.2.2.2.2.2.2.2.2.2.2.2.2.2.2.2.2.2.2.2.2.2.2.2.2.2.2.2.2.2.2.2.2.2.2.2.2.2.2.2.2.2.2.2.2.2.2.2.2.2.1).trans h1.2.2.2.2.2.2.2.2.2.2.2.2.2.2.2.2.2.2.2.2.2.2.2.2.2.2.2.2.2.2.2.2.2.2.2.2.2.2.2.2.2.2.2.2.2.2.2.2.2.2.2.2.2.2.2.2.2.2.1, (h2.2.2.2.2.2.2.2.2.2.2.2.2.2.2.2.2.2.2.2.2.2.2.2.2.2.2.2.2.2.2.2.2.2.2.2.2.2.2.2.2.2.2.2.2.2.2.2.2.2.2.2.2.2.2.2.2.2.2.2.1).trans h1.2.2.2.2.2.2.2.2.2.2.2.2.2.2.2.2.2.2.2.2.2.2.2.2.2.2.2.2.2.2.2.2.2.2.2.2.2.2.2.2.2.2.2.2.2.2.2.2.2.2.2.2.2.2.2.2.2.2.2.1, (h2.2.2.2.2.2.2.2.2.2.2.2.2.2.2.2.2.2.2.2.2.2.2.2.2.2.2.2.2.2.2.2.2.2.2.2.2.2.2.2.2.2.2.2.2.2.2.2.2.2.2.2.2.2.2.2.2.2.2.2.2.1).trans h1.2.2.2.2.2.2.2.2.2.2.2.2.2.2.2.2.2.2.2.2.2.2.2.2.2.2.2.2.2.2.2.2.2.2.2.2.2.2.2.2.2.2.2.2.2.2.2.2.2.2.2.2.2.2.2.2.2.2.2.2.1, (h2.2.2.2.2.2.2.2.2.2.2.2.2.2.2.2.2.2.2.2.2.2.2.2.2.2.2.2.2.2.2.2.2.2.2.2.2.2.2.2.2.2.2.2.2.2.2.2.2.2.2.2.2.2.2.2.2.2.2.2.2.2.1).trans h1.2.2.2.2.2.2.2.2.2.2.2.2.2.2.2.2.2.2.2.2.2.2.2.2.2.2.2.2.2.2.2.2.2.2.2.2.2.2.2.2.2.2.2.2.2.2.2.2.2.2.2.2.2.2.2.2.2.2.2.2.2.1, (h2.2.2.2.2.2.2.2.2.2.2.2.2.2.2.2.2.2.2.2.2.2.2.2.2.2.2.2.2.2.2.2.2.2.2.2.2.2.2.2.2.2.2.2.2.2.2.2.2.2.2.2.2.2.2.2.2.2.2.2.2.2.2.1).trans h1.2.2.2.2.2.2.2.2.2.2.2.2.2.2.2.2.2.2.2.2.2.2.2.2.2.2.2.2.2.2.2.2.2.2.2.2.2.2.2.2.2.2.2.2.2.2.2.2.2.2.2.2.2.2.2.2.2.2.2.2.2.2.1, (h2.2.2.2.2.2.2.2.2.2.2.2.2.2.2.2.2.2.2.2.2.2.2.2.2.2.2.2.2.2.2.2.2.2.2.2.2.2.2.2.2.2.2.2.2.2.2.2.2.2.2.2.2.2.2.2.2.2.2.2.2.2.2.2).trans h1.2.2.2.2.2.2.2.2.2.2.2.2.2.2.2.2.2.2.2.2.2.2.2.2.2.2.2.2.2.2.2.2.2.2.2.2.2.2.2.2.2.2.2.2.2.2.2.2.2.2.2.2.2.2.2.2.2.2.2.2.2.2.2⟩
theorem dX11_later_0 : decode cX11_later 0 = .ok (.iload_n 1, 1) := by decide +kernel
theorem dX11_later_1 : decode cX11_later 1 = .ok (.iconst 0, 1) := by decide +kernel
theorem dX11_later_2 : decode cX11_later 2 = .ok (.sipush 1000, 3) := by decide +kernel
theorem dX11_later_5 : decode cX11_later 5 = .ok (.invokestatic 374, 3) := by decide +kernel
theorem dX11_later_8 : decode cX11_later 8 = .ok (.ifCond .eq 15, 3) := by decide +kernel
theorem dX11_later_11 : decode cX11_later 11 = .ok (.aload_n 0, 1) := by decide +kernel
theorem dX11_later_12 : decode cX11_later 12 = .ok (.getfield 484, 3) := by decide +kernel
theorem dX11_later_15 : decode cX11_later 15 = .ok (.iload_n 1, 1) := by decide +kernel
theorem dX11_later_16 : decode cX11_later 16 = .ok (.iadd, 1) := by decide +kernel
theorem dX11_later_17 : decode cX11_later 17 = .ok (.ldc_w 487, 3) := by decide +kernel
theorem dX11_later_20 : decode cX11_later 20 = .ok (.if_icmp .le 5, 3) := by decide +kernel
theorem dX11_later_23 : decode cX11_later 23 = .ok (.iconst (-1), 1) := by decide +kernel
theorem dX11_later_24 : decode cX11_later 24 = .ok (.ireturn, 1) := by decide +kernel
theorem dX11_later_25 : decode cX11_later 25 = .ok (.aload_n 0, 1) := by decide +kernel
theorem dX11_later_26 : decode cX11_later 26 = .ok (.dup, 1) := by decide +kernel
theorem dX11_later_27 : decode cX11_later 27 = .ok (.getfield 484, 3) := by decide +kernel
theorem dX11_later_30 : decode cX11_later 30 = .ok (.iload_n 1, 1) := by decide +kernel
theorem dX11_later_31 : decode cX11_later 31 = .ok (.iadd, 1) := by decide +kernel
theorem dX11_later_32 : decode cX11_later 32 = .ok (.putfield 484, 3) := by decide +kernel
theorem dX11_later_35 : decode cX11_later 35 = .ok (.aload_n 0, 1) := by decide +kernel
theorem dX11_later_36 : decode cX11_later 36 = .ok (.getfield 484, 3) := by decide +kernel
theorem dX11_later_39 : decode cX11_later 39 = .ok (.ireturn, 1) := by decide +kernel
theorem wd_1989 : (Cond.code ⟨"WebCourtModel", "later", "(I)I"⟩ prog_13_method_113_code (2 : Nat) (Option.some FieldType.int)) ∈ gtb := gtb_c8 200 (by decide +kernel) rfl
theorem wd_1990 : (Cond.constant "WebCourtModel" (487 : Nat) (100000 : Int32)) ∈ gtb := gtb_c8 201 (by decide +kernel) rfl
theorem pf_RX11_484 {p : Program} {l : Launch} {e : Env} {R : Room} {s : State} {m : MethodId} {args : Array Value} {below : List Frame} {meth : Method} {c : Code} {H : Heap} {locs : List Loc} {cells slots : Nat} {Q : State → Prop} {cc : ByteArray} {pc nL : Nat} {ls : Array Slot} {rest : List Value} {D : va_G} {cy : Nat → ClassId} {A : Nat → Prop} {ws : va_W} {b : Nat} {fs : List Value} {v : Int32} {ws' : va_W} (C : Cx p s m args c cc nL RX11 D cy A) (hO : Wo D A ws s.heap H locs) (q0 : Nat) (he : ws[q0]? = some (b, .inr (11, fs))) (hlen : 62 < fs.length) (hw : ws.set q0 (b, .inr (11, fs.set 62 (.int v))) = ws') (hdg : decode cc pc = .ok (.putfield 484, 3)) (kk : ∀ (H : Heap) (locs : List Loc), Wo D A ws' s.heap H locs → W p l e R s m args below meth c H locs cells slots Q (F0 m (pc + 3) ls rest)) : W p l e R s m args below meth c H locs cells slots Q (F0 m pc ls (.int v :: .ref b :: rest)) := pF (k := 62) (ty := .int) C hO q0 he rfl inFX11 (by decide) wd_1418 rfl tyX11 tyX11_ok nmX11 rfl (by decide +kernel) rfl rfl hlen hw hdg kk
theorem Km21_wI62 {u v : St} {x : Int32} (h : Km21 u v) : Km21 u (sI v 0 62 x) := ⟨h.1, h.2.1, h.2.2.1, h.2.2.2.1, h.2.2.2.2.1, h.2.2.2.2.2.1, h.2.2.2.2.2.2.1, h.2.2.2.2.2.2.2.1, h.2.2.2.2.2.2.2.2.1, h.2.2.2.2.2.2.2.2.2.1, h.2.2.2.2.2.2.2.2.2.2.1, h.2.2.2.2.2.2.2.2.2.2.2.1, h.2.2.2.2.2.2.2.2.2.2.2.2.1, h.2.2.2.2.2.2.2.2.2.2.2.2.2.1, h.2.2.2.2.2.2.2.2.2.2.2.2.2.2.1, h.2.2.2.2.2.2.2.2.2.2.2.2.2.2.2.1, h.2.2.2.2.2.2.2.2.2.2.2.2.2.2.2.2.1, h.2.2.2.2.2.2.2.2.2.2.2.2.2.2.2.2.2.1, h.2.2.2.2.2.2.2.2.2.2.2.2.2.2.2.2.2.2.1, h.2.2.2.2.2.2.2.2.2.2.2.2.2.2.2.2.2.2.2.1, h.2.2.2.2.2.2.2.2.2.2.2.2.2.2.2.2.2.2.2.2.1, h.2.2.2.2.2.2.2.2.2.2.2.2.2.2.2.2.2.2.2.2.2.1, h.2.2.2.2.2.2.2.2.2.2.2.2.2.2.2.2.2.2.2.2.2.2.1, h.2.2.2.2.2.2.2.2.2.2.2.2.2.2.2.2.2.2.2.2.2.2.2.1, h.2.2.2.2.2.2.2.2.2.2.2.2.2.2.2.2.2.2.2.2.2.2.2.2.1, h.2.2.2.2.2.2.2.2.2.2.2.2.2.2.2.2.2.2.2.2.2.2.2.2.2.1, h.2.2.2.2.2.2.2.2.2.2.2.2.2.2.2.2.2.2.2.2.2.2.2.2.2.2.1, h.2.2.2.2.2.2.2.2.2.2.2.2.2.2.2.2.2.2.2.2.2.2.2.2.2.2.2.1, h.2.2.2.2.2.2.2.2.2.2.2.2.2.2.2.2.2.2.2.2.2.2.2.2.2.2.2.2.1, h.2.2.2.2.2.2.2.2.2.2.2.2.2.2.2.2.2.2.2.2.2.2.2.2.2.2.2.2.2.1, h.2.2.2.2.2.2.2.2.2.2.2.2.2.2.2.2.2.2.2.2.2.2.2.2.2.2.2.2.2.2.1, h.2.2.2.2.2.2.2.2.2.2.2.2.2.2.2.2.2.2.2.2.2.2.2.2.2.2.2.2.2.2.2.1, h.2.2.2.2.2.2.2.2.2.2.2.2.2.2.2.2.2.2.2.2.2.2.2.2.2.2.2.2.2.2.2.2.1, h.2.2.2.2.2.2.2.2.2.2.2.2.2.2.2.2.2.2.2.2.2.2.2.2.2.2.2.2.2.2.2.2.2.1, h.2.2.2.2.2.2.2.2.2.2.2.2.2.2.2.2.2.2.2.2.2.2.2.2.2.2.2.2.2.2.2.2.2.2.1, h.2.2.2.2.2.2.2.2.2.2.2.2.2.2.2.2.2.2.2.2.2.2.2.2.2.2.2.2.2.2.2.2.2.2.2.1, h.2.2.2.2.2.2.2.2.2.2.2.2.2.2.2.2.2.2.2.2.2.2.2.2.2.2.2.2.2.2.2.2.2.2.2.2.1, h.2.2.2.2.2.2.2.2.2.2.2.2.2.2.2.2.2.2.2.2.2.2.2.2.2.2.2.2.2.2.2.2.2.2.2.2.2.1, h.2.2.2.2.2.2.2.2.2.2.2.2.2.2.2.2.2.2.2.2.2.2.2.2.2.2.2.2.2.2.2.2.2.2.2.2.2.2.1, h.2.2.2.2.2.2.2.2.2.2.2.2.2.2.2.2.2.2.2.2.2.2.2.2.2.2.2.2.2.2.2.2.2.2.2.2.2.2.2.1, h.2.2.2.2.2.2.2.2.2.2.2.2.2.2.2.2.2.2.2.2.2.2.2.2.2.2.2.2.2.2.2.2.2.2.2.2.2.2.2.2.1, h.2.2.2.2.2.2.2.2.2.2.2.2.2.2.2.2.2.2.2.2.2.2.2.2.2.2.2.2.2.2.2.2.2.2.2.2.2.2.2.2.2.1, h.2.2.2.2.2.2.2.2.2.2.2.2.2.2.2.2.2.2.2.2.2.2.2.2.2.2.2.2.2.2.2.2.2.2.2.2.2.2.2.2.2.2.1, h.2.2.2.2.2.2.2.2.2.2.2.2.2.2.2.2.2.2.2.2.2.2.2.2.2.2.2.2.2.2.2.2.2.2.2.2.2.2.2.2.2.2.2.1, h.2.2.2.2.2.2.2.2.2.2.2.2.2.2.2.2.2.2.2.2.2.2.2.2.2.2.2.2.2.2.2.2.2.2.2.2.2.2.2.2.2.2.2.2.1, h.2.2.2.2.2.2.2.2.2.2.2.2.2.2.2.2.2.2.2.2.2.2.2.2.2.2.2.2.2.2.2.2.2.2.2.2.2.2.2.2.2.2.2.2.2.1, h.2.2.2.2.2.2.2.2.2.2.2.2.2.2.2.2.2.2.2.2.2.2.2.2.2.2.2.2.2.2.2.2.2.2.2.2.2.2.2.2.2.2.2.2.2.2.1, h.2.2.2.2.2.2.2.2.2.2.2.2.2.2.2.2.2.2.2.2.2.2.2.2.2.2.2.2.2.2.2.2.2.2.2.2.2.2.2.2.2.2.2.2.2.2.2.1, h.2.2.2.2.2.2.2.2.2.2.2.2.2.2.2.2.2.2.2.2.2.2.2.2.2.2.2.2.2.2.2.2.2.2.2.2.2.2.2.2.2.2.2.2.2.2.2.2.1, h.2.2.2.2.2.2.2.2.2.2.2.2.2.2.2.2.2.2.2.2.2.2.2.2.2.2.2.2.2.2.2.2.2.2.2.2.2.2.2.2.2.2.2.2.2.2.2.2.2.1, h.2.2.2.2.2.2.2.2.2.2.2.2.2.2.2.2.2.2.2.2.2.2.2.2.2.2.2.2.2.2.2.2.2.2.2.2.2.2.2.2.2.2.2.2.2.2.2.2.2.2.1, h.2.2.2.2.2.2.2.2.2.2.2.2.2.2.2.2.2.2.2.2.2.2.2.2.2.2.2.2.2.2.2.2.2.2.2.2.2.2.2.2.2.2.2.2.2.2.2.2.2.2.2.1, h.2.2.2.2.2.2.2.2.2.2.2.2.2.2.2.2.2.2.2.2.2.2.2.2.2.2.2.2.2.2.2.2.2.2.2.2.2.2.2.2.2.2.2.2.2.2.2.2.2.2.2.2.1, h.2.2.2.2.2.2.2.2.2.2.2.2.2.2.2.2.2.2.2.2.2.2.2.2.2.2.2.2.2.2.2.2.2.2.2.2.2.2.2.2.2.2.2.2.2.2.2.2.2.2.2.2.2.1, h.2.2.2.2.2.2.2.2.2.2.2.2.2.2.2.2.2.2.2.2.2.2.2.2.2.2.2.2.2.2.2.2.2.2.2.2.2.2.2.2.2.2.2.2.2.2.2.2.2.2.2.2.2.2.1, h.2.2.2.2.2.2.2.2.2.2.2.2.2.2.2.2.2.2.2.2.2.2.2.2.2.2.2.2.2.2.2.2.2.2.2.2.2.2.2.2.2.2.2.2.2.2.2.2.2.2.2.2.2.2.2.1, h.2.2.2.2.2.2.2.2.2.2.2.2.2.2.2.2.2.2.2.2.2.2.2.2.2.2.2.2.2.2.2.2.2.2.2.2.2.2.2.2.2.2.2.2.2.2.2.2.2.2.2.2.2.2.2.2.1, h.2.2.2.2.2.2.2.2.2.2.2.2.2.2.2.2.2.2.2.2.2.2.2.2.2.2.2.2.2.2.2.2.2.2.2.2.2.2.2.2.2.2.2.2.2.2.2.2.2.2.2.2.2.2.2.2.2.1, h.2.2.2.2.2.2.2.2.2.2.2.2.2.2.2.2.2.2.2.2.2.2.2.2.2.2.2.2.2.2.2.2.2.2.2.2.2.2.2.2.2.2.2.2.2.2.2.2.2.2.2.2.2.2.2.2.2.2.1, h.2.2.2.2.2.2.2.2.2.2.2.2.2.2.2.2.2.2.2.2.2.2.2.2.2.2.2.2.2.2.2.2.2.2.2.2.2.2.2.2.2.2.2.2.2.2.2.2.2.2.2.2.2.2.2.2.2.2.2.1, h.2.2.2.2.2.2.2.2.2.2.2.2.2.2.2.2.2.2.2.2.2.2.2.2.2.2.2.2.2.2.2.2.2.2.2.2.2.2.2.2.2.2.2.2.2.2.2.2.2.2.2.2.2.2.2.2.2.2.2.2.1, h.2.2.2.2.2.2.2.2.2.2.2.2.2.2.2.2.2.2.2.2.2.2.2.2.2.2.2.2.2.2.2.2.2.2.2.2.2.2.2.2.2.2.2.2.2.2.2.2.2.2.2.2.2.2.2.2.2.2.2.2.2.1, h.2.2.2.2.2.2.2.2.2.2.2.2.2.2.2.2.2.2.2.2.2.2.2.2.2.2.2.2.2.2.2.2.2.2.2.2.2.2.2.2.2.2.2.2.2.2.2.2.2.2.2.2.2.2.2.2.2.2.2.2.2.2.1, h.2.2.2.2.2.2.2.2.2.2.2.2.2.2.2.2.2.2.2.2.2.2.2.2.2.2.2.2.2.2.2.2.2.2.2.2.2.2.2.2.2.2.2.2.2.2.2.2.2.2.2.2.2.2.2.2.2.2.2.2.2.2.2⟩
set_option maxHeartbeats 4000000 in
set_option maxRecDepth 100000 in
theorem T_X11_later (l : Launch) (D : va_G) (cy : Nat → ClassId) (a : Nat → Nat) (u : St) (hJ : MI a u) (x1 : Int32)  : Mi l D cy (mW cy a) yX11_later (.code yX11_later cX11_later 2 (some .int)) (rmo 1 22) [.ref (a 0), .int x1] u (fun (r : Int32) (u' : St) => (MI a u') ∧ (Km21 u u') ∧ (r = ltR (fI u 0 62) x1) ∧ (fI u' 0 62 = ltT (fI u 0 62) x1)) := by
  refine Mi.of (own := RX11) rfl (by decide) (Nat.le_of_ble_eq_true rfl) ?_
  have hT : Km21 u u := Km21.rf
  have hJ0 := hJ
  intro p e s m below meth c A Q ls C hret hO hl
  obtain ⟨hx, hb, hml, hown, ht, hK, hA⟩ := id C
  have hl : lv_has ls 2 [(0, .ref (a 0)), (1, .int x1)] := hl
  refine lv_iload_n hx hb dX11_later_0 rfl (lv_at hl 1 rfl) ?_
  refine lv_iconst (v := 0) hx hb dX11_later_1 (by decide) ?_
  refine lv_sipush (v := 1000) hx hb dX11_later_2 (by decide) ?_
  refine cSi (w := mW cy a) (As := [.int x1, .int 0, .int 1000]) (rest := []) C hO (T_X11_isIn l D cy a _ (by exact hJ) (x1) (0) (1000)) (va_cwS 3 ht (gSS wd_1722 wd_1723 wd_121 wd_1724) rfl rfl rfl hd_yX11_isIn ⟨Nat.le_of_ble_eq_true rfl, Nat.le_of_ble_eq_true rfl⟩)  rfl hl.1 (Nat.le_of_ble_eq_true rfl) dX11_later_5 rfl ⟨Nat.zero_le _, Nat.zero_le _⟩ (fun r1 u2 H locs hp3 hO => ?_)
  obtain ⟨hr1, hu2⟩ := hp3
  rw [hu2] at hO
  have zz4 : (0 : Int32).toInt = 0 := rfl
  have zz5 : (1000 : Int32).toInt = 1000 := rfl
  rcases hr1 with ⟨hcr1, hvr1⟩ | ⟨hcr1, hvr1⟩
  · subst hvr1
    refine bn_eq (X := 1) hx hb dX11_later_8 rfl (by omega) ?_ (tgt := 23) (by decide)
    refine lv_aload_n hx hb dX11_later_11 rfl (lv_at hl 0 rfl) ?_
    have g6 : 0 ≤ (fI u 0 62).toInt ∧ (fI u 0 62).toInt ≤ 100000 := by have h := MI_62 hJ0; exact h
    refine gf_RX11_484 (v := .int (fI u 0 62)) C hO 0 mW_0 rfl dX11_later_12 ?_
    refine lv_iload_n hx hb dX11_later_15 rfl (lv_at hl 1 rfl) ?_
    have e7 : (((fI u 0 62) + x1)).toInt = ((fI u 0 62)).toInt + (x1).toInt := i_add rfl rfl (by omega)
    refine lv_iadd hx hb dX11_later_16 ?_
    refine lv_ldcw (v := 100000) hx hb hown (ht _ wd_1990) dX11_later_17 ?_
    refine cs_le (tgt := 25) (X := (((fI u 0 62)).toInt + (x1).toInt)) (Y := 100000) hx hb dX11_later_20 (by decide) e7 rfl (fun c8 => ?_) (fun c8 => ?_)
    · refine lv_aload_n hx hb dX11_later_25 rfl (lv_at hl 0 rfl) ?_
      refine lv_dup hx hb dX11_later_26 rfl ?_
      refine gf_RX11_484 (v := .int (fI u 0 62)) C hO 0 mW_0 rfl dX11_later_27 ?_
      refine lv_iload_n hx hb dX11_later_30 rfl (lv_at hl 1 rfl) ?_
      have e9 : (((fI u 0 62) + x1)).toInt = ((fI u 0 62)).toInt + (x1).toInt := i_add rfl rfl (by omega)
      refine lv_iadd hx hb dX11_later_31 ?_
      refine pf_RX11_484 C hO 0 mW_0 (Nat.le_of_ble_eq_true rfl) mW_s0_62 dX11_later_32 (fun H locs hO => ?_)
      have hT := Km21_wI62 (x := ((fI u 0 62) + x1)) hT
      have hJ := MIs_62 (v := ((fI u 0 62) + x1)) hJ (by first | decide | omega)
      refine lv_aload_n hx hb dX11_later_35 rfl (lv_at hl 0 rfl) ?_
      refine gf_RX11_484 (v := .int ((fI u 0 62) + x1)) C hO 0 mW_0 rfl dX11_later_36 ?_
      refine hret _ _ _ _ _ _ dX11_later_39 rfl ?_ hO
      exact ⟨hJ, hT, (by first | exact (ltR_y (by unfold ltOk; omega)).symm | exact (ltR_n (by unfold ltOk; omega)).symm), (by first | exact (ltT_y (by unfold ltOk; omega)).symm | exact (ltT_n (by unfold ltOk; omega)).symm)⟩
    · refine lv_iconst (v := (-1)) hx hb dX11_later_23 (by decide) ?_
      refine hret _ _ _ _ _ _ dX11_later_24 rfl ?_ hO
      exact ⟨hJ, hT, (by first | exact (ltR_y (by unfold ltOk; omega)).symm | exact (ltR_n (by unfold ltOk; omega)).symm), (by first | exact (ltT_y (by unfold ltOk; omega)).symm | exact (ltT_n (by unfold ltOk; omega)).symm)⟩
  · subst hvr1
    refine bt_eq (tgt := 23) (X := 0) hx hb dX11_later_8 (by decide) rfl (by omega) ?_
    refine lv_iconst (v := (-1)) hx hb dX11_later_23 (by decide) ?_
    refine hret _ _ _ _ _ _ dX11_later_24 rfl ?_ hO
    exact ⟨hJ, hT, (by first | exact (ltR_y (by unfold ltOk; omega)).symm | exact (ltR_n (by unfold ltOk; omega)).symm), (by first | exact (ltT_y (by unfold ltOk; omega)).symm | exact (ltT_n (by unfold ltOk; omega)).symm)⟩
