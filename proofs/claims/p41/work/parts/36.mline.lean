def Km37 (u v : St) : Prop := fI v 0 2 = fI u 0 2 ∧ fI v 0 3 = fI u 0 3 ∧ fI v 0 36 = fI u 0 36 ∧ fI v 0 37 = fI u 0 37 ∧ fI v 0 42 = fI u 0 42 ∧ fI v 0 43 = fI u 0 43 ∧ fI v 0 45 = fI u 0 45 ∧ fI v 0 47 = fI u 0 47 ∧ fI v 0 48 = fI u 0 48 ∧ fI v 0 50 = fI u 0 50 ∧ fI v 0 61 = fI u 0 61 ∧ fI v 0 62 = fI u 0 62 ∧ fA v 1 = fA u 1 ∧ fA v 2 = fA u 2 ∧ fA v 27 = fA u 27 ∧ fA v 28 = fA u 28 ∧ fA v 29 = fA u 29 ∧ fA v 30 = fA u 30 ∧ fA v 31 = fA u 31 ∧ fA v 32 = fA u 32 ∧ fA v 33 = fA u 33 ∧ fA v 34 = fA u 34 ∧ fA v 35 = fA u 35 ∧ fA v 36 = fA u 36 ∧ fA v 37 = fA u 37 ∧ fA v 38 = fA u 38 ∧ fA v 39 = fA u 39 ∧ fA v 40 = fA u 40 ∧ fA v 41 = fA u 41 ∧ fA v 42 = fA u 42
theorem Km37.rf {u : St} : Km37 u u := ⟨rfl, rfl, rfl, rfl, rfl, rfl, rfl, rfl, rfl, rfl, rfl, rfl, rfl, rfl, rfl, rfl, rfl, rfl, rfl, rfl, rfl, rfl, rfl, rfl, rfl, rfl, rfl, rfl, rfl, rfl⟩
theorem Km37.tr {u v w : St} (h1 : Km37 u v) (h2 : Km37 v w) : Km37 u w := ⟨(h2.1).trans h1.1, (h2.2.1).trans h1.2.1, (h2.2.2.1).trans h1.2.2.1, (h2.2.2.2.1).trans h1.2.2.2.1, (h2.2.2.2.2.1).trans h1.2.2.2.2.1, (h2.2.2.2.2.2.1).trans h1.2.2.2.2.2.1, (h2.2.2.2.2.2.2.1).trans h1.2.2.2.2.2.2.1, (h2.2.2.2.2.2.2.2.1).trans h1.2.2.2.2.2.2.2.1, (h2.2.2.2.2.2.2.2.2.1).trans h1.2.2.2.2.2.2.2.2.1, (h2.2.2.2.2.2.2.2.2.2.1).trans h1.2.2.2.2.2.2.2.2.2.1, (h2.2.2.2.2.2.2.2.2.2.2.1).trans h1.2.2.2.2.2.2.2.2.2.2.1, (h2.2.2.2.2.2.2.2.2.2.2.2.1).trans h1.2.2.2.2.2.2.2.2.2.2.2.1, (h2.2.2.2.2.2.2.2.2.2.2.2.2.1).trans h1.2.2.2.2.2.2.2.2.2.2.2.2.1, (h2.2.2.2.2.2.2.2.2.2.2.2.2.2.1).trans h1.2.2.2.2.2.2.2.2.2.2.2.2.2.1, (h2.2.2.2.2.2.2.2.2.2.2.2.2.2.2.1).trans h1.2.2.2.2.2.2.2.2.2.2.2.2.2.2.1, (h2.2.2.2.2.2.2.2.2.2.2.2.2.2.2.2.1).trans h1.2.2.2.2.2.2.2.2.2.2.2.2.2.2.2.1, (h2.2.2.2.2.2.2.2.2.2.2.2.2.2.2.2.2.1).trans h1.2.2.2.2.2.2.2.2.2.2.2.2.2.2.2.2.1, (h2.2.2.2.2.2.2.2.2.2.2.2.2.2.2.2.2.2.1).trans h1.2.2.2.2.2.2.2.2.2.2.2.2.2.2.2.2.2.1, (h2.2.2.2.2.2.2.2.2.2.2.2.2.2.2.2.2.2.2.1).trans h1.2.2.2.2.2.2.2.2.2.2.2.2.2.2.2.2.2.2.1, (h2.2.2.2.2.2.2.2.2.2.2.2.2.2.2.2.2.2.2.2.1).trans h1.2.2.2.2.2.2.2.2.2.2.2.2.2.2.2.2.2.2.2.1, (h2.2.2.2.2.2.2.2.2.2.2.2.2.2.2.2.2.2.2.2.2.1).trans h1.2.2.2.2.2.2.2.2.2.2.2.2.2.2.2.2.2.2.2.2.1, (h2.2.2.2.2.2.2.2.2.2.2.2.2.2.2.2.2.2.2.2.2.2.1).trans h1.2.2.2.2.2.2.2.2.2.2.2.2.2.2.2.2.2.2.2.2.2.1, (h2.2.2.2.2.2.2.2.2.2.2.2.2.2.2.2.2.2.2.2.2.2.2.1).trans h1.2.2.2.2.2.2.2.2.2.2.2.2.2.2.2.2.2.2.2.2.2.2.1, (h2.2.2.2.2.2.2.2.2.2.2.2.2.2.2.2.2.2.2.2.2.2.2.2.1).trans h1.2.2.2.2.2.2.2.2.2.2.2.2.2.2.2.2.2.2.2.2.2.2.2.1, (h2.2.2.2.2.2.2.2.2.2.2.2.2.2.2.2.2.2.2.2.2.2.2.2.2.1).trans h1.2.2.2.2.2.2.2.2.2.2.2.2.2.2.2.2.2.2.2.2.2.2.2.2.1, (h2.2.2.2.2.2.2.2.2.2.2.2.2.2.2.2.2.2.2.2.2.2.2.2.2.2.1).trans h1.2.2.2.2.2.2.2.2.2.2.2.2.2.2.2.2.2.2.2.2.2.2.2.2.2.1, (h2.2.2.2.2.2.2.2.2.2.2.2.2.2.2.2.2.2.2.2.2.2.2.2.2.2.2.1).trans h1.2.2.2.2.2.2.2.2.2.2.2.2.2.2.2.2.2.2.2.2.2.2.2.2.2.2.1, (h2.2.2.2.2.2.2.2.2.2.2.2.2.2.2.2.2.2.2.2.2.2.2.2.2.2.2.2.1).trans h1.2.2.2.2.2.2.2.2.2.2.2.2.2.2.2.2.2.2.2.2.2.2.2.2.2.2.2.1, (h2.2.2.2.2.2.2.2.2.2.2.2.2.2.2.2.2.2.2.2.2.2.2.2.2.2.2.2.2.1).trans h1.2.2.2.2.2.2.2.2.2.2.2.2.2.2.2.2.2.2.2.2.2.2.2.2.2.2.2.2.1, (h2.2.2.2.2.2.2.2.2.2.2.2.2.2.2.2.2.2.2.2.2.2.2.2.2.2.2.2.2.2).trans h1.2.2.2.2.2.2.2.2.2.2.2.2.2.2.2.2.2.2.2.2.2.2.2.2.2.2.2.2.2⟩
theorem dX11_readLine_0 : decode cX11_readLine 0 = .ok (.aload_n 0, 1) := by decide +kernel
theorem dX11_readLine_1 : decode cX11_readLine 1 = .ok (.getfield 215, 3) := by decide +kernel
theorem dX11_readLine_4 : decode cX11_readLine 4 = .ok (.lstore_n 1, 1) := by decide +kernel
theorem dX11_readLine_5 : decode cX11_readLine 5 = .ok (.aload_n 0, 1) := by decide +kernel
theorem dX11_readLine_6 : decode cX11_readLine 6 = .ok (.getfield 208, 3) := by decide +kernel
theorem dX11_readLine_9 : decode cX11_readLine 9 = .ok (.iconst 3, 1) := by decide +kernel
theorem dX11_readLine_10 : decode cX11_readLine 10 = .ok (.if_icmp .ne 10, 3) := by decide +kernel
theorem dX11_readLine_13 : decode cX11_readLine 13 = .ok (.aload_n 0, 1) := by decide +kernel
theorem dX11_readLine_14 : decode cX11_readLine 14 = .ok (.invokevirtual 272, 3) := by decide +kernel
theorem dX11_readLine_17 : decode cX11_readLine 17 = .ok (.ifCond .eq 7, 3) := by decide +kernel
theorem dX11_readLine_20 : decode cX11_readLine 20 = .ok (.aload_n 0, 1) := by decide +kernel
theorem dX11_readLine_21 : decode cX11_readLine 21 = .ok (.invokevirtual 243, 3) := by decide +kernel
theorem dX11_readLine_24 : decode cX11_readLine 24 = .ok (.aload_n 0, 1) := by decide +kernel
theorem dX11_readLine_25 : decode cX11_readLine 25 = .ok (.invokevirtual 236, 3) := by decide +kernel
theorem dX11_readLine_28 : decode cX11_readLine 28 = .ok (.ifCond .ne 4, 3) := by decide +kernel
theorem dX11_readLine_31 : decode cX11_readLine 31 = .ok (.return_, 1) := by decide +kernel
theorem dX11_readLine_32 : decode cX11_readLine 32 = .ok (.aload_n 0, 1) := by decide +kernel
theorem dX11_readLine_33 : decode cX11_readLine 33 = .ok (.invokevirtual 240, 3) := by decide +kernel
theorem dX11_readLine_36 : decode cX11_readLine 36 = .ok (.lload_n 1, 1) := by decide +kernel
theorem dX11_readLine_37 : decode cX11_readLine 37 = .ok (.ldc2_w 158, 3) := by decide +kernel
theorem dX11_readLine_40 : decode cX11_readLine 40 = .ok (.lcmp, 1) := by decide +kernel
theorem dX11_readLine_41 : decode cX11_readLine 41 = .ok (.ifCond .ne 46, 3) := by decide +kernel
theorem dX11_readLine_44 : decode cX11_readLine 44 = .ok (.aload_n 0, 1) := by decide +kernel
theorem dX11_readLine_45 : decode cX11_readLine 45 = .ok (.getfield 72, 3) := by decide +kernel
theorem dX11_readLine_48 : decode cX11_readLine 48 = .ok (.bipush 8, 2) := by decide +kernel
theorem dX11_readLine_50 : decode cX11_readLine 50 = .ok (.aload_n 0, 1) := by decide +kernel
theorem dX11_readLine_51 : decode cX11_readLine 51 = .ok (.getfield 246, 3) := by decide +kernel
theorem dX11_readLine_54 : decode cX11_readLine 54 = .ok (.imul, 1) := by decide +kernel
theorem dX11_readLine_55 : decode cX11_readLine 55 = .ok (.aload_n 0, 1) := by decide +kernel
theorem dX11_readLine_56 : decode cX11_readLine 56 = .ok (.getfield 20, 3) := by decide +kernel
theorem dX11_readLine_59 : decode cX11_readLine 59 = .ok (.aload_n 0, 1) := by decide +kernel
theorem dX11_readLine_60 : decode cX11_readLine 60 = .ok (.getfield 246, 3) := by decide +kernel
theorem dX11_readLine_63 : decode cX11_readLine 63 = .ok (.iaload, 1) := by decide +kernel
theorem dX11_readLine_64 : decode cX11_readLine 64 = .ok (.iadd, 1) := by decide +kernel
theorem dX11_readLine_65 : decode cX11_readLine 65 = .ok (.aload_n 0, 1) := by decide +kernel
theorem dX11_readLine_66 : decode cX11_readLine 66 = .ok (.aload_n 0, 1) := by decide +kernel
theorem dX11_readLine_67 : decode cX11_readLine 67 = .ok (.invokevirtual 275, 3) := by decide +kernel
theorem dX11_readLine_70 : decode cX11_readLine 70 = .ok (.invokevirtual 279, 3) := by decide +kernel
theorem dX11_readLine_73 : decode cX11_readLine 73 = .ok (.lastore, 1) := by decide +kernel
theorem dX11_readLine_74 : decode cX11_readLine 74 = .ok (.aload_n 0, 1) := by decide +kernel
theorem dX11_readLine_75 : decode cX11_readLine 75 = .ok (.getfield 20, 3) := by decide +kernel
theorem dX11_readLine_78 : decode cX11_readLine 78 = .ok (.aload_n 0, 1) := by decide +kernel
theorem dX11_readLine_79 : decode cX11_readLine 79 = .ok (.getfield 246, 3) := by decide +kernel
theorem dX11_readLine_82 : decode cX11_readLine 82 = .ok (.dup2, 1) := by decide +kernel
theorem dX11_readLine_83 : decode cX11_readLine 83 = .ok (.iaload, 1) := by decide +kernel
theorem dX11_readLine_84 : decode cX11_readLine 84 = .ok (.iconst 1, 1) := by decide +kernel
theorem dX11_readLine_85 : decode cX11_readLine 85 = .ok (.iadd, 1) := by decide +kernel
theorem dX11_readLine_86 : decode cX11_readLine 86 = .ok (.iastore, 1) := by decide +kernel
theorem dX11_readLine_87 : decode cX11_readLine 87 = .ok (.lload_n 1, 1) := by decide +kernel
theorem dX11_readLine_88 : decode cX11_readLine 88 = .ok (.ldc2_w 160, 3) := by decide +kernel
theorem dX11_readLine_91 : decode cX11_readLine 91 = .ok (.lcmp, 1) := by decide +kernel
theorem dX11_readLine_92 : decode cX11_readLine 92 = .ok (.ifCond .ne 7, 3) := by decide +kernel
theorem dX11_readLine_95 : decode cX11_readLine 95 = .ok (.aload_n 0, 1) := by decide +kernel
theorem dX11_readLine_96 : decode cX11_readLine 96 = .ok (.invokevirtual 283, 3) := by decide +kernel
theorem dX11_readLine_99 : decode cX11_readLine 99 = .ok (.lload_n 1, 1) := by decide +kernel
theorem dX11_readLine_100 : decode cX11_readLine 100 = .ok (.ldc2_w 164, 3) := by decide +kernel
theorem dX11_readLine_103 : decode cX11_readLine 103 = .ok (.lcmp, 1) := by decide +kernel
theorem dX11_readLine_104 : decode cX11_readLine 104 = .ok (.ifCond .ne 86, 3) := by decide +kernel
theorem dX11_readLine_107 : decode cX11_readLine 107 = .ok (.aload_n 0, 1) := by decide +kernel
theorem dX11_readLine_108 : decode cX11_readLine 108 = .ok (.getfield 76, 3) := by decide +kernel
theorem dX11_readLine_111 : decode cX11_readLine 111 = .ok (.bipush 8, 2) := by decide +kernel
theorem dX11_readLine_113 : decode cX11_readLine 113 = .ok (.aload_n 0, 1) := by decide +kernel
theorem dX11_readLine_114 : decode cX11_readLine 114 = .ok (.getfield 246, 3) := by decide +kernel
theorem dX11_readLine_117 : decode cX11_readLine 117 = .ok (.imul, 1) := by decide +kernel
theorem dX11_readLine_118 : decode cX11_readLine 118 = .ok (.aload_n 0, 1) := by decide +kernel
theorem dX11_readLine_119 : decode cX11_readLine 119 = .ok (.getfield 27, 3) := by decide +kernel
theorem dX11_readLine_122 : decode cX11_readLine 122 = .ok (.aload_n 0, 1) := by decide +kernel
theorem dX11_readLine_123 : decode cX11_readLine 123 = .ok (.getfield 246, 3) := by decide +kernel
theorem dX11_readLine_126 : decode cX11_readLine 126 = .ok (.iaload, 1) := by decide +kernel
theorem dX11_readLine_127 : decode cX11_readLine 127 = .ok (.iadd, 1) := by decide +kernel
theorem dX11_readLine_128 : decode cX11_readLine 128 = .ok (.aload_n 0, 1) := by decide +kernel
theorem dX11_readLine_129 : decode cX11_readLine 129 = .ok (.aload_n 0, 1) := by decide +kernel
theorem dX11_readLine_130 : decode cX11_readLine 130 = .ok (.invokevirtual 286, 3) := by decide +kernel
theorem dX11_readLine_133 : decode cX11_readLine 133 = .ok (.invokevirtual 279, 3) := by decide +kernel
theorem dX11_readLine_136 : decode cX11_readLine 136 = .ok (.lastore, 1) := by decide +kernel
theorem dX11_readLine_137 : decode cX11_readLine 137 = .ok (.aload_n 0, 1) := by decide +kernel
theorem dX11_readLine_138 : decode cX11_readLine 138 = .ok (.aload_n 0, 1) := by decide +kernel
theorem dX11_readLine_139 : decode cX11_readLine 139 = .ok (.ldc2_w 166, 3) := by decide +kernel
theorem dX11_readLine_142 : decode cX11_readLine 142 = .ok (.invokevirtual 261, 3) := by decide +kernel
theorem dX11_readLine_145 : decode cX11_readLine 145 = .ok (.invokevirtual 289, 3) := by decide +kernel
theorem dX11_readLine_148 : decode cX11_readLine 148 = .ok (.aload_n 0, 1) := by decide +kernel
theorem dX11_readLine_149 : decode cX11_readLine 149 = .ok (.getfield 57, 3) := by decide +kernel
theorem dX11_readLine_152 : decode cX11_readLine 152 = .ok (.bipush 8, 2) := by decide +kernel
theorem dX11_readLine_154 : decode cX11_readLine 154 = .ok (.aload_n 0, 1) := by decide +kernel
theorem dX11_readLine_155 : decode cX11_readLine 155 = .ok (.getfield 246, 3) := by decide +kernel
theorem dX11_readLine_158 : decode cX11_readLine 158 = .ok (.imul, 1) := by decide +kernel
theorem dX11_readLine_159 : decode cX11_readLine 159 = .ok (.aload_n 0, 1) := by decide +kernel
theorem dX11_readLine_160 : decode cX11_readLine 160 = .ok (.getfield 27, 3) := by decide +kernel
theorem dX11_readLine_163 : decode cX11_readLine 163 = .ok (.aload_n 0, 1) := by decide +kernel
theorem dX11_readLine_164 : decode cX11_readLine 164 = .ok (.getfield 246, 3) := by decide +kernel
theorem dX11_readLine_167 : decode cX11_readLine 167 = .ok (.iaload, 1) := by decide +kernel
theorem dX11_readLine_168 : decode cX11_readLine 168 = .ok (.iadd, 1) := by decide +kernel
theorem dX11_readLine_169 : decode cX11_readLine 169 = .ok (.aload_n 0, 1) := by decide +kernel
theorem dX11_readLine_170 : decode cX11_readLine 170 = .ok (.iconst 0, 1) := by decide +kernel
theorem dX11_readLine_171 : decode cX11_readLine 171 = .ok (.bipush 20, 2) := by decide +kernel
theorem dX11_readLine_173 : decode cX11_readLine 173 = .ok (.invokevirtual 268, 3) := by decide +kernel
theorem dX11_readLine_176 : decode cX11_readLine 176 = .ok (.iastore, 1) := by decide +kernel
theorem dX11_readLine_177 : decode cX11_readLine 177 = .ok (.aload_n 0, 1) := by decide +kernel
theorem dX11_readLine_178 : decode cX11_readLine 178 = .ok (.getfield 27, 3) := by decide +kernel
theorem dX11_readLine_181 : decode cX11_readLine 181 = .ok (.aload_n 0, 1) := by decide +kernel
theorem dX11_readLine_182 : decode cX11_readLine 182 = .ok (.getfield 246, 3) := by decide +kernel
theorem dX11_readLine_185 : decode cX11_readLine 185 = .ok (.dup2, 1) := by decide +kernel
theorem dX11_readLine_186 : decode cX11_readLine 186 = .ok (.iaload, 1) := by decide +kernel
theorem dX11_readLine_187 : decode cX11_readLine 187 = .ok (.iconst 1, 1) := by decide +kernel
theorem dX11_readLine_188 : decode cX11_readLine 188 = .ok (.iadd, 1) := by decide +kernel
theorem dX11_readLine_189 : decode cX11_readLine 189 = .ok (.iastore, 1) := by decide +kernel
theorem dX11_readLine_190 : decode cX11_readLine 190 = .ok (.lload_n 1, 1) := by decide +kernel
theorem dX11_readLine_191 : decode cX11_readLine 191 = .ok (.ldc2_w 168, 3) := by decide +kernel
theorem dX11_readLine_194 : decode cX11_readLine 194 = .ok (.lcmp, 1) := by decide +kernel
theorem dX11_readLine_195 : decode cX11_readLine 195 = .ok (.ifCond .ne 7, 3) := by decide +kernel
theorem dX11_readLine_198 : decode cX11_readLine 198 = .ok (.aload_n 0, 1) := by decide +kernel
theorem dX11_readLine_199 : decode cX11_readLine 199 = .ok (.invokevirtual 293, 3) := by decide +kernel
theorem dX11_readLine_202 : decode cX11_readLine 202 = .ok (.lload_n 1, 1) := by decide +kernel
theorem dX11_readLine_203 : decode cX11_readLine 203 = .ok (.ldc2_w 174, 3) := by decide +kernel
theorem dX11_readLine_206 : decode cX11_readLine 206 = .ok (.lcmp, 1) := by decide +kernel
theorem dX11_readLine_207 : decode cX11_readLine 207 = .ok (.ifCond .ne 33, 3) := by decide +kernel
theorem dX11_readLine_210 : decode cX11_readLine 210 = .ok (.aload_n 0, 1) := by decide +kernel
theorem dX11_readLine_211 : decode cX11_readLine 211 = .ok (.getfield 45, 3) := by decide +kernel
theorem dX11_readLine_214 : decode cX11_readLine 214 = .ok (.aload_n 0, 1) := by decide +kernel
theorem dX11_readLine_215 : decode cX11_readLine 215 = .ok (.getfield 246, 3) := by decide +kernel
theorem dX11_readLine_218 : decode cX11_readLine 218 = .ok (.dup2, 1) := by decide +kernel
theorem dX11_readLine_219 : decode cX11_readLine 219 = .ok (.iaload, 1) := by decide +kernel
theorem dX11_readLine_220 : decode cX11_readLine 220 = .ok (.iconst 2, 1) := by decide +kernel
theorem dX11_readLine_221 : decode cX11_readLine 221 = .ok (.ior, 1) := by decide +kernel
theorem dX11_readLine_222 : decode cX11_readLine 222 = .ok (.iastore, 1) := by decide +kernel
theorem dX11_readLine_223 : decode cX11_readLine 223 = .ok (.aload_n 0, 1) := by decide +kernel
theorem dX11_readLine_224 : decode cX11_readLine 224 = .ok (.getfield 36, 3) := by decide +kernel
theorem dX11_readLine_227 : decode cX11_readLine 227 = .ok (.aload_n 0, 1) := by decide +kernel
theorem dX11_readLine_228 : decode cX11_readLine 228 = .ok (.getfield 246, 3) := by decide +kernel
theorem dX11_readLine_231 : decode cX11_readLine 231 = .ok (.aload_n 0, 1) := by decide +kernel
theorem dX11_readLine_232 : decode cX11_readLine 232 = .ok (.aload_n 0, 1) := by decide +kernel
theorem dX11_readLine_233 : decode cX11_readLine 233 = .ok (.invokevirtual 275, 3) := by decide +kernel
theorem dX11_readLine_236 : decode cX11_readLine 236 = .ok (.invokevirtual 296, 3) := by decide +kernel
theorem dX11_readLine_239 : decode cX11_readLine 239 = .ok (.iastore, 1) := by decide +kernel
theorem dX11_readLine_240 : decode cX11_readLine 240 = .ok (.lload_n 1, 1) := by decide +kernel
theorem dX11_readLine_241 : decode cX11_readLine 241 = .ok (.ldc2_w 176, 3) := by decide +kernel
theorem dX11_readLine_244 : decode cX11_readLine 244 = .ok (.lcmp, 1) := by decide +kernel
theorem dX11_readLine_245 : decode cX11_readLine 245 = .ok (.ifCond .ne 7, 3) := by decide +kernel
theorem dX11_readLine_248 : decode cX11_readLine 248 = .ok (.aload_n 0, 1) := by decide +kernel
theorem dX11_readLine_249 : decode cX11_readLine 249 = .ok (.invokevirtual 299, 3) := by decide +kernel
theorem dX11_readLine_252 : decode cX11_readLine 252 = .ok (.lload_n 1, 1) := by decide +kernel
theorem dX11_readLine_253 : decode cX11_readLine 253 = .ok (.ldc2_w 178, 3) := by decide +kernel
theorem dX11_readLine_256 : decode cX11_readLine 256 = .ok (.lcmp, 1) := by decide +kernel
theorem dX11_readLine_257 : decode cX11_readLine 257 = .ok (.ifCond .ne 19, 3) := by decide +kernel
theorem dX11_readLine_260 : decode cX11_readLine 260 = .ok (.aload_n 0, 1) := by decide +kernel
theorem dX11_readLine_261 : decode cX11_readLine 261 = .ok (.getfield 39, 3) := by decide +kernel
theorem dX11_readLine_264 : decode cX11_readLine 264 = .ok (.aload_n 0, 1) := by decide +kernel
theorem dX11_readLine_265 : decode cX11_readLine 265 = .ok (.getfield 246, 3) := by decide +kernel
theorem dX11_readLine_268 : decode cX11_readLine 268 = .ok (.aload_n 0, 1) := by decide +kernel
theorem dX11_readLine_269 : decode cX11_readLine 269 = .ok (.iconst 2, 1) := by decide +kernel
theorem dX11_readLine_270 : decode cX11_readLine 270 = .ok (.bipush 100, 2) := by decide +kernel
theorem dX11_readLine_272 : decode cX11_readLine 272 = .ok (.invokevirtual 302, 3) := by decide +kernel
theorem dX11_readLine_275 : decode cX11_readLine 275 = .ok (.iastore, 1) := by decide +kernel
theorem dX11_readLine_276 : decode cX11_readLine 276 = .ok (.lload_n 1, 1) := by decide +kernel
theorem dX11_readLine_277 : decode cX11_readLine 277 = .ok (.ldc2_w 180, 3) := by decide +kernel
theorem dX11_readLine_280 : decode cX11_readLine 280 = .ok (.lcmp, 1) := by decide +kernel
theorem dX11_readLine_281 : decode cX11_readLine 281 = .ok (.ifCond .ne 20, 3) := by decide +kernel
theorem dX11_readLine_284 : decode cX11_readLine 284 = .ok (.aload_n 0, 1) := by decide +kernel
theorem dX11_readLine_285 : decode cX11_readLine 285 = .ok (.getfield 42, 3) := by decide +kernel
theorem dX11_readLine_288 : decode cX11_readLine 288 = .ok (.aload_n 0, 1) := by decide +kernel
theorem dX11_readLine_289 : decode cX11_readLine 289 = .ok (.getfield 246, 3) := by decide +kernel
theorem dX11_readLine_292 : decode cX11_readLine 292 = .ok (.aload_n 0, 1) := by decide +kernel
theorem dX11_readLine_293 : decode cX11_readLine 293 = .ok (.iconst 3, 1) := by decide +kernel
theorem dX11_readLine_294 : decode cX11_readLine 294 = .ok (.sipush 999, 3) := by decide +kernel
theorem dX11_readLine_297 : decode cX11_readLine 297 = .ok (.invokevirtual 302, 3) := by decide +kernel
theorem dX11_readLine_300 : decode cX11_readLine 300 = .ok (.iastore, 1) := by decide +kernel
theorem dX11_readLine_301 : decode cX11_readLine 301 = .ok (.aload_n 0, 1) := by decide +kernel
theorem dX11_readLine_302 : decode cX11_readLine 302 = .ok (.aload_n 0, 1) := by decide +kernel
theorem dX11_readLine_303 : decode cX11_readLine 303 = .ok (.bipush 59, 2) := by decide +kernel
theorem dX11_readLine_305 : decode cX11_readLine 305 = .ok (.invokevirtual 305, 3) := by decide +kernel
theorem dX11_readLine_308 : decode cX11_readLine 308 = .ok (.invokevirtual 289, 3) := by decide +kernel
theorem dX11_readLine_311 : decode cX11_readLine 311 = .ok (.return_, 1) := by decide +kernel
theorem wd_1603 : (Cond.code ⟨"WebCourtModel", "readLine", "()V"⟩ prog_13_method_19_code (3 : Nat) (Option.none : Option FieldType)) ∈ gtb := gtb_c7 54 (by decide +kernel) rfl
theorem Km25_to_Km37 {u v : St} (h : Km25 u v) : Km37 u v := ⟨h.1, h.2.1, h.2.2.2.2.2.2.2.1, h.2.2.2.2.2.2.2.2.1, h.2.2.2.2.2.2.2.2.2.2.2.2.2.1, h.2.2.2.2.2.2.2.2.2.2.2.2.2.2.1, h.2.2.2.2.2.2.2.2.2.2.2.2.2.2.2.1, h.2.2.2.2.2.2.2.2.2.2.2.2.2.2.2.2.1, h.2.2.2.2.2.2.2.2.2.2.2.2.2.2.2.2.2.1, h.2.2.2.2.2.2.2.2.2.2.2.2.2.2.2.2.2.2.1, h.2.2.2.2.2.2.2.2.2.2.2.2.2.2.2.2.2.2.2.1, h.2.2.2.2.2.2.2.2.2.2.2.2.2.2.2.2.2.2.2.2.1, h.2.2.2.2.2.2.2.2.2.2.2.2.2.2.2.2.2.2.2.2.2.1, h.2.2.2.2.2.2.2.2.2.2.2.2.2.2.2.2.2.2.2.2.2.2.1, h.2.2.2.2.2.2.2.2.2.2.2.2.2.2.2.2.2.2.2.2.2.2.2.2.2.2.2.2.2.2.2.2.2.2.2.2.2.2.2.2.2.2.2.2.2.2.2.1, h.2.2.2.2.2.2.2.2.2.2.2.2.2.2.2.2.2.2.2.2.2.2.2.2.2.2.2.2.2.2.2.2.2.2.2.2.2.2.2.2.2.2.2.2.2.2.2.2.1, h.2.2.2.2.2.2.2.2.2.2.2.2.2.2.2.2.2.2.2.2.2.2.2.2.2.2.2.2.2.2.2.2.2.2.2.2.2.2.2.2.2.2.2.2.2.2.2.2.2.1, h.2.2.2.2.2.2.2.2.2.2.2.2.2.2.2.2.2.2.2.2.2.2.2.2.2.2.2.2.2.2.2.2.2.2.2.2.2.2.2.2.2.2.2.2.2.2.2.2.2.2.1, h.2.2.2.2.2.2.2.2.2.2.2.2.2.2.2.2.2.2.2.2.2.2.2.2.2.2.2.2.2.2.2.2.2.2.2.2.2.2.2.2.2.2.2.2.2.2.2.2.2.2.2.1, h.2.2.2.2.2.2.2.2.2.2.2.2.2.2.2.2.2.2.2.2.2.2.2.2.2.2.2.2.2.2.2.2.2.2.2.2.2.2.2.2.2.2.2.2.2.2.2.2.2.2.2.2.1, h.2.2.2.2.2.2.2.2.2.2.2.2.2.2.2.2.2.2.2.2.2.2.2.2.2.2.2.2.2.2.2.2.2.2.2.2.2.2.2.2.2.2.2.2.2.2.2.2.2.2.2.2.2.1, h.2.2.2.2.2.2.2.2.2.2.2.2.2.2.2.2.2.2.2.2.2.2.2.2.2.2.2.2.2.2.2.2.2.2.2.2.2.2.2.2.2.2.2.2.2.2.2.2.2.2.2.2.2.2.1, h.2.2.2.2.2.2.2.2.2.2.2.2.2.2.2.2.2.2.2.2.2.2.2.2.2.2.2.2.2.2.2.2.2.2.2.2.2.2.2.2.2.2.2.2.2.2.2.2.2.2.2.2.2.2.2.1, h.2.2.2.2.2.2.2.2.2.2.2.2.2.2.2.2.2.2.2.2.2.2.2.2.2.2.2.2.2.2.2.2.2.2.2.2.2.2.2.2.2.2.2.2.2.2.2.2.2.2.2.2.2.2.2.2.1, h.2.2.2.2.2.2.2.2.2.2.2.2.2.2.2.2.2.2.2.2.2.2.2.2.2.2.2.2.2.2.2.2.2.2.2.2.2.2.2.2.2.2.2.2.2.2.2.2.2.2.2.2.2.2.2.2.2.1, h.2.2.2.2.2.2.2.2.2.2.2.2.2.2.2.2.2.2.2.2.2.2.2.2.2.2.2.2.2.2.2.2.2.2.2.2.2.2.2.2.2.2.2.2.2.2.2.2.2.2.2.2.2.2.2.2.2.2.1, h.2.2.2.2.2.2.2.2.2.2.2.2.2.2.2.2.2.2.2.2.2.2.2.2.2.2.2.2.2.2.2.2.2.2.2.2.2.2.2.2.2.2.2.2.2.2.2.2.2.2.2.2.2.2.2.2.2.2.2.1, h.2.2.2.2.2.2.2.2.2.2.2.2.2.2.2.2.2.2.2.2.2.2.2.2.2.2.2.2.2.2.2.2.2.2.2.2.2.2.2.2.2.2.2.2.2.2.2.2.2.2.2.2.2.2.2.2.2.2.2.2.1, h.2.2.2.2.2.2.2.2.2.2.2.2.2.2.2.2.2.2.2.2.2.2.2.2.2.2.2.2.2.2.2.2.2.2.2.2.2.2.2.2.2.2.2.2.2.2.2.2.2.2.2.2.2.2.2.2.2.2.2.2.2.1, h.2.2.2.2.2.2.2.2.2.2.2.2.2.2.2.2.2.2.2.2.2.2.2.2.2.2.2.2.2.2.2.2.2.2.2.2.2.2.2.2.2.2.2.2.2.2.2.2.2.2.2.2.2.2.2.2.2.2.2.2.2.2⟩
theorem Km37_I3 {u v : St} (h : Km37 u v) : fI v 0 3 = fI u 0 3 := h.2.1
theorem Km37_I36 {u v : St} (h : Km37 u v) : fI v 0 36 = fI u 0 36 := h.2.2.1
theorem Km37_I37 {u v : St} (h : Km37 u v) : fI v 0 37 = fI u 0 37 := h.2.2.2.1
theorem Km25_I38 {u v : St} (h : Km25 u v) : fI v 0 38 = fI u 0 38 := h.2.2.2.2.2.2.2.2.2.1
theorem Km25_A11 {u v : St} (h : Km25 u v) : fA v 11 = fA u 11 := h.2.2.2.2.2.2.2.2.2.2.2.2.2.2.2.2.2.2.2.2.2.2.2.2.2.2.2.2.2.2.2.1
theorem Km25_A18 {u v : St} (h : Km25 u v) : fA v 18 = fA u 18 := h.2.2.2.2.2.2.2.2.2.2.2.2.2.2.2.2.2.2.2.2.2.2.2.2.2.2.2.2.2.2.2.2.2.2.2.2.2.2.1
theorem Km25_A19 {u v : St} (h : Km25 u v) : fA v 19 = fA u 19 := h.2.2.2.2.2.2.2.2.2.2.2.2.2.2.2.2.2.2.2.2.2.2.2.2.2.2.2.2.2.2.2.2.2.2.2.2.2.2.2.1
theorem Km25_A23 {u v : St} (h : Km25 u v) : fA v 23 = fA u 23 := h.2.2.2.2.2.2.2.2.2.2.2.2.2.2.2.2.2.2.2.2.2.2.2.2.2.2.2.2.2.2.2.2.2.2.2.2.2.2.2.2.2.2.2.1
theorem Km25_A3 {u v : St} (h : Km25 u v) : fA v 3 = fA u 3 := h.2.2.2.2.2.2.2.2.2.2.2.2.2.2.2.2.2.2.2.2.2.2.2.1
theorem Km25_A6 {u v : St} (h : Km25 u v) : fA v 6 = fA u 6 := h.2.2.2.2.2.2.2.2.2.2.2.2.2.2.2.2.2.2.2.2.2.2.2.2.2.2.1
theorem wd_1604 : (Cond.methodLink "WebCourtModel" (272 : Nat) ⟨"WebCourtModel", "isFull", "()Z"⟩) ∈ gtb := gtb_c7 55 (by decide +kernel) rfl
theorem wd_1606 : (Cond.instanceMethod ⟨"WebCourtModel", "isFull", "()Z"⟩) ∈ gtb := gtb_c7 57 (by decide +kernel) rfl
theorem wd_52 : (Cond.selects "WebCourtModel" ⟨"WebCourtModel", "isFull", "()Z"⟩ ⟨"WebCourtModel", "isFull", "()Z"⟩) ∈ gtb := gtb_p 52 (by decide +kernel) rfl
theorem hd_yX11_isFull : yX11_isFull.cls = RX11 ∧ yX11_isFull.cls ≠ "java/lang/invoke/MethodHandle" ∧ yX11_isFull.cls ≠ "java/lang/invoke/VarHandle" ∧ (parseMethodDescriptor yX11_isFull.desc).map (fun d => d.parameters.length) = some 0 := by decide +kernel
theorem Km26_to_Km37 {u v : St} (h : Km26 u v) : Km37 u v := ⟨h.1, h.2.1, h.2.2.2.2.1, h.2.2.2.2.2.1, h.2.2.2.2.2.2.2.2.2.2.1, h.2.2.2.2.2.2.2.2.2.2.2.1, h.2.2.2.2.2.2.2.2.2.2.2.2.1, h.2.2.2.2.2.2.2.2.2.2.2.2.2.1, h.2.2.2.2.2.2.2.2.2.2.2.2.2.2.1, h.2.2.2.2.2.2.2.2.2.2.2.2.2.2.2.1, h.2.2.2.2.2.2.2.2.2.2.2.2.2.2.2.2.1, h.2.2.2.2.2.2.2.2.2.2.2.2.2.2.2.2.2.1, h.2.2.2.2.2.2.2.2.2.2.2.2.2.2.2.2.2.2.1, h.2.2.2.2.2.2.2.2.2.2.2.2.2.2.2.2.2.2.2.1, h.2.2.2.2.2.2.2.2.2.2.2.2.2.2.2.2.2.2.2.2.2.2.2.2.2.2.2.2.2.2.2.2.2.2.2.2.2.2.2.2.2.2.2.2.1, h.2.2.2.2.2.2.2.2.2.2.2.2.2.2.2.2.2.2.2.2.2.2.2.2.2.2.2.2.2.2.2.2.2.2.2.2.2.2.2.2.2.2.2.2.2.1, h.2.2.2.2.2.2.2.2.2.2.2.2.2.2.2.2.2.2.2.2.2.2.2.2.2.2.2.2.2.2.2.2.2.2.2.2.2.2.2.2.2.2.2.2.2.2.1, h.2.2.2.2.2.2.2.2.2.2.2.2.2.2.2.2.2.2.2.2.2.2.2.2.2.2.2.2.2.2.2.2.2.2.2.2.2.2.2.2.2.2.2.2.2.2.2.1, h.2.2.2.2.2.2.2.2.2.2.2.2.2.2.2.2.2.2.2.2.2.2.2.2.2.2.2.2.2.2.2.2.2.2.2.2.2.2.2.2.2.2.2.2.2.2.2.2.1, h.2.2.2.2.2.2.2.2.2.2.2.2.2.2.2.2.2.2.2.2.2.2.2.2.2.2.2.2.2.2.2.2.2.2.2.2.2.2.2.2.2.2.2.2.2.2.2.2.2.1, h.2.2.2.2.2.2.2.2.2.2.2.2.2.2.2.2.2.2.2.2.2.2.2.2.2.2.2.2.2.2.2.2.2.2.2.2.2.2.2.2.2.2.2.2.2.2.2.2.2.2.1, h.2.2.2.2.2.2.2.2.2.2.2.2.2.2.2.2.2.2.2.2.2.2.2.2.2.2.2.2.2.2.2.2.2.2.2.2.2.2.2.2.2.2.2.2.2.2.2.2.2.2.2.1, h.2.2.2.2.2.2.2.2.2.2.2.2.2.2.2.2.2.2.2.2.2.2.2.2.2.2.2.2.2.2.2.2.2.2.2.2.2.2.2.2.2.2.2.2.2.2.2.2.2.2.2.2.1, h.2.2.2.2.2.2.2.2.2.2.2.2.2.2.2.2.2.2.2.2.2.2.2.2.2.2.2.2.2.2.2.2.2.2.2.2.2.2.2.2.2.2.2.2.2.2.2.2.2.2.2.2.2.1, h.2.2.2.2.2.2.2.2.2.2.2.2.2.2.2.2.2.2.2.2.2.2.2.2.2.2.2.2.2.2.2.2.2.2.2.2.2.2.2.2.2.2.2.2.2.2.2.2.2.2.2.2.2.2.1, h.2.2.2.2.2.2.2.2.2.2.2.2.2.2.2.2.2.2.2.2.2.2.2.2.2.2.2.2.2.2.2.2.2.2.2.2.2.2.2.2.2.2.2.2.2.2.2.2.2.2.2.2.2.2.2.1, h.2.2.2.2.2.2.2.2.2.2.2.2.2.2.2.2.2.2.2.2.2.2.2.2.2.2.2.2.2.2.2.2.2.2.2.2.2.2.2.2.2.2.2.2.2.2.2.2.2.2.2.2.2.2.2.2.1, h.2.2.2.2.2.2.2.2.2.2.2.2.2.2.2.2.2.2.2.2.2.2.2.2.2.2.2.2.2.2.2.2.2.2.2.2.2.2.2.2.2.2.2.2.2.2.2.2.2.2.2.2.2.2.2.2.2.1, h.2.2.2.2.2.2.2.2.2.2.2.2.2.2.2.2.2.2.2.2.2.2.2.2.2.2.2.2.2.2.2.2.2.2.2.2.2.2.2.2.2.2.2.2.2.2.2.2.2.2.2.2.2.2.2.2.2.2.1, h.2.2.2.2.2.2.2.2.2.2.2.2.2.2.2.2.2.2.2.2.2.2.2.2.2.2.2.2.2.2.2.2.2.2.2.2.2.2.2.2.2.2.2.2.2.2.2.2.2.2.2.2.2.2.2.2.2.2.2⟩
theorem Km27_to_Km37 {u v : St} (h : Km27 u v) : Km37 u v := ⟨h.1, h.2.1, h.2.2.1, h.2.2.2.1, h.2.2.2.2.2.2.2.2.1, h.2.2.2.2.2.2.2.2.2.1, h.2.2.2.2.2.2.2.2.2.2.1, h.2.2.2.2.2.2.2.2.2.2.2.1, h.2.2.2.2.2.2.2.2.2.2.2.2.1, h.2.2.2.2.2.2.2.2.2.2.2.2.2.1, h.2.2.2.2.2.2.2.2.2.2.2.2.2.2.1, h.2.2.2.2.2.2.2.2.2.2.2.2.2.2.2.1, h.2.2.2.2.2.2.2.2.2.2.2.2.2.2.2.2.1, h.2.2.2.2.2.2.2.2.2.2.2.2.2.2.2.2.2.1, h.2.2.2.2.2.2.2.2.2.2.2.2.2.2.2.2.2.2.2.2.2.2.2.2.2.2.2.2.2.2.2.2.2.2.2.2.2.2.2.2.2.2.1, h.2.2.2.2.2.2.2.2.2.2.2.2.2.2.2.2.2.2.2.2.2.2.2.2.2.2.2.2.2.2.2.2.2.2.2.2.2.2.2.2.2.2.2.1, h.2.2.2.2.2.2.2.2.2.2.2.2.2.2.2.2.2.2.2.2.2.2.2.2.2.2.2.2.2.2.2.2.2.2.2.2.2.2.2.2.2.2.2.2.1, h.2.2.2.2.2.2.2.2.2.2.2.2.2.2.2.2.2.2.2.2.2.2.2.2.2.2.2.2.2.2.2.2.2.2.2.2.2.2.2.2.2.2.2.2.2.1, h.2.2.2.2.2.2.2.2.2.2.2.2.2.2.2.2.2.2.2.2.2.2.2.2.2.2.2.2.2.2.2.2.2.2.2.2.2.2.2.2.2.2.2.2.2.2.1, h.2.2.2.2.2.2.2.2.2.2.2.2.2.2.2.2.2.2.2.2.2.2.2.2.2.2.2.2.2.2.2.2.2.2.2.2.2.2.2.2.2.2.2.2.2.2.2.1, h.2.2.2.2.2.2.2.2.2.2.2.2.2.2.2.2.2.2.2.2.2.2.2.2.2.2.2.2.2.2.2.2.2.2.2.2.2.2.2.2.2.2.2.2.2.2.2.2.1, h.2.2.2.2.2.2.2.2.2.2.2.2.2.2.2.2.2.2.2.2.2.2.2.2.2.2.2.2.2.2.2.2.2.2.2.2.2.2.2.2.2.2.2.2.2.2.2.2.2.1, h.2.2.2.2.2.2.2.2.2.2.2.2.2.2.2.2.2.2.2.2.2.2.2.2.2.2.2.2.2.2.2.2.2.2.2.2.2.2.2.2.2.2.2.2.2.2.2.2.2.2.1, h.2.2.2.2.2.2.2.2.2.2.2.2.2.2.2.2.2.2.2.2.2.2.2.2.2.2.2.2.2.2.2.2.2.2.2.2.2.2.2.2.2.2.2.2.2.2.2.2.2.2.2.1, h.2.2.2.2.2.2.2.2.2.2.2.2.2.2.2.2.2.2.2.2.2.2.2.2.2.2.2.2.2.2.2.2.2.2.2.2.2.2.2.2.2.2.2.2.2.2.2.2.2.2.2.2.1, h.2.2.2.2.2.2.2.2.2.2.2.2.2.2.2.2.2.2.2.2.2.2.2.2.2.2.2.2.2.2.2.2.2.2.2.2.2.2.2.2.2.2.2.2.2.2.2.2.2.2.2.2.2.1, h.2.2.2.2.2.2.2.2.2.2.2.2.2.2.2.2.2.2.2.2.2.2.2.2.2.2.2.2.2.2.2.2.2.2.2.2.2.2.2.2.2.2.2.2.2.2.2.2.2.2.2.2.2.2.1, h.2.2.2.2.2.2.2.2.2.2.2.2.2.2.2.2.2.2.2.2.2.2.2.2.2.2.2.2.2.2.2.2.2.2.2.2.2.2.2.2.2.2.2.2.2.2.2.2.2.2.2.2.2.2.2.1, h.2.2.2.2.2.2.2.2.2.2.2.2.2.2.2.2.2.2.2.2.2.2.2.2.2.2.2.2.2.2.2.2.2.2.2.2.2.2.2.2.2.2.2.2.2.2.2.2.2.2.2.2.2.2.2.2.1, h.2.2.2.2.2.2.2.2.2.2.2.2.2.2.2.2.2.2.2.2.2.2.2.2.2.2.2.2.2.2.2.2.2.2.2.2.2.2.2.2.2.2.2.2.2.2.2.2.2.2.2.2.2.2.2.2.2⟩
theorem Km26_A11 {u v : St} (h : Km26 u v) : fA v 11 = fA u 11 := h.2.2.2.2.2.2.2.2.2.2.2.2.2.2.2.2.2.2.2.2.2.2.2.2.2.2.2.2.1
theorem Km26_A18 {u v : St} (h : Km26 u v) : fA v 18 = fA u 18 := h.2.2.2.2.2.2.2.2.2.2.2.2.2.2.2.2.2.2.2.2.2.2.2.2.2.2.2.2.2.2.2.2.2.2.2.1
theorem Km27_A18 {u v : St} (h : Km27 u v) : fA v 18 = fA u 18 := h.2.2.2.2.2.2.2.2.2.2.2.2.2.2.2.2.2.2.2.2.2.2.2.2.2.2.2.2.2.2.2.2.2.1
theorem Km26_A19 {u v : St} (h : Km26 u v) : fA v 19 = fA u 19 := h.2.2.2.2.2.2.2.2.2.2.2.2.2.2.2.2.2.2.2.2.2.2.2.2.2.2.2.2.2.2.2.2.2.2.2.2.1
theorem Km27_A19 {u v : St} (h : Km27 u v) : fA v 19 = fA u 19 := h.2.2.2.2.2.2.2.2.2.2.2.2.2.2.2.2.2.2.2.2.2.2.2.2.2.2.2.2.2.2.2.2.2.2.1
theorem Km26_A3 {u v : St} (h : Km26 u v) : fA v 3 = fA u 3 := h.2.2.2.2.2.2.2.2.2.2.2.2.2.2.2.2.2.2.2.2.1
theorem Km27_A3 {u v : St} (h : Km27 u v) : fA v 3 = fA u 3 := h.2.2.2.2.2.2.2.2.2.2.2.2.2.2.2.2.2.2.1
theorem wd_1706 : (Cond.methodLink "WebCourtModel" (302 : Nat) ⟨"WebCourtModel", "once", "(II)I"⟩) ∈ gtb := gtb_c7 157 (by decide +kernel) rfl
theorem wd_1708 : (Cond.instanceMethod ⟨"WebCourtModel", "once", "(II)I"⟩) ∈ gtb := gtb_c7 159 (by decide +kernel) rfl
theorem wd_76 : (Cond.selects "WebCourtModel" ⟨"WebCourtModel", "once", "(II)I"⟩ ⟨"WebCourtModel", "once", "(II)I"⟩) ∈ gtb := gtb_p 76 (by decide +kernel) rfl
theorem hd_yX11_once : yX11_once.cls = RX11 ∧ yX11_once.cls ≠ "java/lang/invoke/MethodHandle" ∧ yX11_once.cls ≠ "java/lang/invoke/VarHandle" ∧ (parseMethodDescriptor yX11_once.desc).map (fun d => d.parameters.length) = some 2 := by decide +kernel
theorem Km28_to_Km37 {u v : St} (h : Km28 u v) : Km37 u v := ⟨h.1, h.2.1, h.2.2.1, h.2.2.2.1, h.2.2.2.2.2.2.2.2.1, h.2.2.2.2.2.2.2.2.2.1, h.2.2.2.2.2.2.2.2.2.2.1, h.2.2.2.2.2.2.2.2.2.2.2.1, h.2.2.2.2.2.2.2.2.2.2.2.2.1, h.2.2.2.2.2.2.2.2.2.2.2.2.2.1, h.2.2.2.2.2.2.2.2.2.2.2.2.2.2.1, h.2.2.2.2.2.2.2.2.2.2.2.2.2.2.2.1, h.2.2.2.2.2.2.2.2.2.2.2.2.2.2.2.2.1, h.2.2.2.2.2.2.2.2.2.2.2.2.2.2.2.2.2.1, h.2.2.2.2.2.2.2.2.2.2.2.2.2.2.2.2.2.2.2.2.2.2.2.2.2.2.2.2.2.2.2.2.2.2.2.2.2.2.2.2.2.1, h.2.2.2.2.2.2.2.2.2.2.2.2.2.2.2.2.2.2.2.2.2.2.2.2.2.2.2.2.2.2.2.2.2.2.2.2.2.2.2.2.2.2.1, h.2.2.2.2.2.2.2.2.2.2.2.2.2.2.2.2.2.2.2.2.2.2.2.2.2.2.2.2.2.2.2.2.2.2.2.2.2.2.2.2.2.2.2.1, h.2.2.2.2.2.2.2.2.2.2.2.2.2.2.2.2.2.2.2.2.2.2.2.2.2.2.2.2.2.2.2.2.2.2.2.2.2.2.2.2.2.2.2.2.1, h.2.2.2.2.2.2.2.2.2.2.2.2.2.2.2.2.2.2.2.2.2.2.2.2.2.2.2.2.2.2.2.2.2.2.2.2.2.2.2.2.2.2.2.2.2.1, h.2.2.2.2.2.2.2.2.2.2.2.2.2.2.2.2.2.2.2.2.2.2.2.2.2.2.2.2.2.2.2.2.2.2.2.2.2.2.2.2.2.2.2.2.2.2.1, h.2.2.2.2.2.2.2.2.2.2.2.2.2.2.2.2.2.2.2.2.2.2.2.2.2.2.2.2.2.2.2.2.2.2.2.2.2.2.2.2.2.2.2.2.2.2.2.1, h.2.2.2.2.2.2.2.2.2.2.2.2.2.2.2.2.2.2.2.2.2.2.2.2.2.2.2.2.2.2.2.2.2.2.2.2.2.2.2.2.2.2.2.2.2.2.2.2.1, h.2.2.2.2.2.2.2.2.2.2.2.2.2.2.2.2.2.2.2.2.2.2.2.2.2.2.2.2.2.2.2.2.2.2.2.2.2.2.2.2.2.2.2.2.2.2.2.2.2.1, h.2.2.2.2.2.2.2.2.2.2.2.2.2.2.2.2.2.2.2.2.2.2.2.2.2.2.2.2.2.2.2.2.2.2.2.2.2.2.2.2.2.2.2.2.2.2.2.2.2.2.1, h.2.2.2.2.2.2.2.2.2.2.2.2.2.2.2.2.2.2.2.2.2.2.2.2.2.2.2.2.2.2.2.2.2.2.2.2.2.2.2.2.2.2.2.2.2.2.2.2.2.2.2.1, h.2.2.2.2.2.2.2.2.2.2.2.2.2.2.2.2.2.2.2.2.2.2.2.2.2.2.2.2.2.2.2.2.2.2.2.2.2.2.2.2.2.2.2.2.2.2.2.2.2.2.2.2.1, h.2.2.2.2.2.2.2.2.2.2.2.2.2.2.2.2.2.2.2.2.2.2.2.2.2.2.2.2.2.2.2.2.2.2.2.2.2.2.2.2.2.2.2.2.2.2.2.2.2.2.2.2.2.1, h.2.2.2.2.2.2.2.2.2.2.2.2.2.2.2.2.2.2.2.2.2.2.2.2.2.2.2.2.2.2.2.2.2.2.2.2.2.2.2.2.2.2.2.2.2.2.2.2.2.2.2.2.2.2.1, h.2.2.2.2.2.2.2.2.2.2.2.2.2.2.2.2.2.2.2.2.2.2.2.2.2.2.2.2.2.2.2.2.2.2.2.2.2.2.2.2.2.2.2.2.2.2.2.2.2.2.2.2.2.2.2.1, h.2.2.2.2.2.2.2.2.2.2.2.2.2.2.2.2.2.2.2.2.2.2.2.2.2.2.2.2.2.2.2.2.2.2.2.2.2.2.2.2.2.2.2.2.2.2.2.2.2.2.2.2.2.2.2.2⟩
theorem Km37_wA10 {u v : St} {D : va_G} {A : Nat → Prop} {cy : Nat → ClassId} {a : Nat → Nat} {hp H : Heap} {locs : List Loc} {f : Nat → Int32} (_ : Wo D A (mW cy a (sA v 10 f)) hp H locs) (h : Km37 u v) : Km37 u (sA v 10 f) := ⟨h.1, h.2.1, h.2.2.1, h.2.2.2.1, h.2.2.2.2.1, h.2.2.2.2.2.1, h.2.2.2.2.2.2.1, h.2.2.2.2.2.2.2.1, h.2.2.2.2.2.2.2.2.1, h.2.2.2.2.2.2.2.2.2.1, h.2.2.2.2.2.2.2.2.2.2.1, h.2.2.2.2.2.2.2.2.2.2.2.1, h.2.2.2.2.2.2.2.2.2.2.2.2.1, h.2.2.2.2.2.2.2.2.2.2.2.2.2.1, h.2.2.2.2.2.2.2.2.2.2.2.2.2.2.1, h.2.2.2.2.2.2.2.2.2.2.2.2.2.2.2.1, h.2.2.2.2.2.2.2.2.2.2.2.2.2.2.2.2.1, h.2.2.2.2.2.2.2.2.2.2.2.2.2.2.2.2.2.1, h.2.2.2.2.2.2.2.2.2.2.2.2.2.2.2.2.2.2.1, h.2.2.2.2.2.2.2.2.2.2.2.2.2.2.2.2.2.2.2.1, h.2.2.2.2.2.2.2.2.2.2.2.2.2.2.2.2.2.2.2.2.1, h.2.2.2.2.2.2.2.2.2.2.2.2.2.2.2.2.2.2.2.2.2.1, h.2.2.2.2.2.2.2.2.2.2.2.2.2.2.2.2.2.2.2.2.2.2.1, h.2.2.2.2.2.2.2.2.2.2.2.2.2.2.2.2.2.2.2.2.2.2.2.1, h.2.2.2.2.2.2.2.2.2.2.2.2.2.2.2.2.2.2.2.2.2.2.2.2.1, h.2.2.2.2.2.2.2.2.2.2.2.2.2.2.2.2.2.2.2.2.2.2.2.2.2.1, h.2.2.2.2.2.2.2.2.2.2.2.2.2.2.2.2.2.2.2.2.2.2.2.2.2.2.1, h.2.2.2.2.2.2.2.2.2.2.2.2.2.2.2.2.2.2.2.2.2.2.2.2.2.2.2.1, h.2.2.2.2.2.2.2.2.2.2.2.2.2.2.2.2.2.2.2.2.2.2.2.2.2.2.2.2.1, h.2.2.2.2.2.2.2.2.2.2.2.2.2.2.2.2.2.2.2.2.2.2.2.2.2.2.2.2.2⟩
theorem Km28_A3 {u v : St} (h : Km28 u v) : fA v 3 = fA u 3 := h.2.2.2.2.2.2.2.2.2.2.2.2.2.2.2.2.2.2.1
theorem Km28_A6 {u v : St} (h : Km28 u v) : fA v 6 = fA u 6 := h.2.2.2.2.2.2.2.2.2.2.2.2.2.2.2.2.2.2.2.2.2.1
theorem Km28_I38 {u v : St} (h : Km28 u v) : fI v 0 38 = fI u 0 38 := h.2.2.2.2.1
theorem Km28_A18 {u v : St} (h : Km28 u v) : fA v 18 = fA u 18 := h.2.2.2.2.2.2.2.2.2.2.2.2.2.2.2.2.2.2.2.2.2.2.2.2.2.2.2.2.2.2.2.2.1
theorem Km28_A19 {u v : St} (h : Km28 u v) : fA v 19 = fA u 19 := h.2.2.2.2.2.2.2.2.2.2.2.2.2.2.2.2.2.2.2.2.2.2.2.2.2.2.2.2.2.2.2.2.2.1
theorem Km28_A23 {u v : St} (h : Km28 u v) : fA v 23 = fA u 23 := h.2.2.2.2.2.2.2.2.2.2.2.2.2.2.2.2.2.2.2.2.2.2.2.2.2.2.2.2.2.2.2.2.2.2.2.2.2.1
theorem Km37_wA9 {u v : St} {D : va_G} {A : Nat → Prop} {cy : Nat → ClassId} {a : Nat → Nat} {hp H : Heap} {locs : List Loc} {f : Nat → Int32} (_ : Wo D A (mW cy a (sA v 9 f)) hp H locs) (h : Km37 u v) : Km37 u (sA v 9 f) := ⟨h.1, h.2.1, h.2.2.1, h.2.2.2.1, h.2.2.2.2.1, h.2.2.2.2.2.1, h.2.2.2.2.2.2.1, h.2.2.2.2.2.2.2.1, h.2.2.2.2.2.2.2.2.1, h.2.2.2.2.2.2.2.2.2.1, h.2.2.2.2.2.2.2.2.2.2.1, h.2.2.2.2.2.2.2.2.2.2.2.1, h.2.2.2.2.2.2.2.2.2.2.2.2.1, h.2.2.2.2.2.2.2.2.2.2.2.2.2.1, h.2.2.2.2.2.2.2.2.2.2.2.2.2.2.1, h.2.2.2.2.2.2.2.2.2.2.2.2.2.2.2.1, h.2.2.2.2.2.2.2.2.2.2.2.2.2.2.2.2.1, h.2.2.2.2.2.2.2.2.2.2.2.2.2.2.2.2.2.1, h.2.2.2.2.2.2.2.2.2.2.2.2.2.2.2.2.2.2.1, h.2.2.2.2.2.2.2.2.2.2.2.2.2.2.2.2.2.2.2.1, h.2.2.2.2.2.2.2.2.2.2.2.2.2.2.2.2.2.2.2.2.1, h.2.2.2.2.2.2.2.2.2.2.2.2.2.2.2.2.2.2.2.2.2.1, h.2.2.2.2.2.2.2.2.2.2.2.2.2.2.2.2.2.2.2.2.2.2.1, h.2.2.2.2.2.2.2.2.2.2.2.2.2.2.2.2.2.2.2.2.2.2.2.1, h.2.2.2.2.2.2.2.2.2.2.2.2.2.2.2.2.2.2.2.2.2.2.2.2.1, h.2.2.2.2.2.2.2.2.2.2.2.2.2.2.2.2.2.2.2.2.2.2.2.2.2.1, h.2.2.2.2.2.2.2.2.2.2.2.2.2.2.2.2.2.2.2.2.2.2.2.2.2.2.1, h.2.2.2.2.2.2.2.2.2.2.2.2.2.2.2.2.2.2.2.2.2.2.2.2.2.2.2.1, h.2.2.2.2.2.2.2.2.2.2.2.2.2.2.2.2.2.2.2.2.2.2.2.2.2.2.2.2.1, h.2.2.2.2.2.2.2.2.2.2.2.2.2.2.2.2.2.2.2.2.2.2.2.2.2.2.2.2.2⟩
theorem wd_1666 : (Cond.methodLink "WebCourtModel" (299 : Nat) ⟨"WebCourtModel", "readRule", "()V"⟩) ∈ gtb := gtb_c7 117 (by decide +kernel) rfl
theorem wd_1668 : (Cond.instanceMethod ⟨"WebCourtModel", "readRule", "()V"⟩) ∈ gtb := gtb_c7 119 (by decide +kernel) rfl
theorem wd_66 : (Cond.selects "WebCourtModel" ⟨"WebCourtModel", "readRule", "()V"⟩ ⟨"WebCourtModel", "readRule", "()V"⟩) ∈ gtb := gtb_p 66 (by decide +kernel) rfl
theorem hd_yX11_readRule : yX11_readRule.cls = RX11 ∧ yX11_readRule.cls ≠ "java/lang/invoke/MethodHandle" ∧ yX11_readRule.cls ≠ "java/lang/invoke/VarHandle" ∧ (parseMethodDescriptor yX11_readRule.desc).map (fun d => d.parameters.length) = some 0 := by decide +kernel
theorem Km35_to_Km37 {u v : St} (h : Km35 u v) : Km37 u v := ⟨h.1, h.2.1, h.2.2.1, h.2.2.2.1, h.2.2.2.2.1, h.2.2.2.2.2.1, h.2.2.2.2.2.2.1, h.2.2.2.2.2.2.2.1, h.2.2.2.2.2.2.2.2.1, h.2.2.2.2.2.2.2.2.2.1, h.2.2.2.2.2.2.2.2.2.2.1, h.2.2.2.2.2.2.2.2.2.2.2.1, h.2.2.2.2.2.2.2.2.2.2.2.2.1, h.2.2.2.2.2.2.2.2.2.2.2.2.2.1, h.2.2.2.2.2.2.2.2.2.2.2.2.2.2.2.2.2.2.2.2.2.2.2.2.2.2.2.2.2.2.1, h.2.2.2.2.2.2.2.2.2.2.2.2.2.2.2.2.2.2.2.2.2.2.2.2.2.2.2.2.2.2.2.1, h.2.2.2.2.2.2.2.2.2.2.2.2.2.2.2.2.2.2.2.2.2.2.2.2.2.2.2.2.2.2.2.2.1, h.2.2.2.2.2.2.2.2.2.2.2.2.2.2.2.2.2.2.2.2.2.2.2.2.2.2.2.2.2.2.2.2.2.1, h.2.2.2.2.2.2.2.2.2.2.2.2.2.2.2.2.2.2.2.2.2.2.2.2.2.2.2.2.2.2.2.2.2.2.1, h.2.2.2.2.2.2.2.2.2.2.2.2.2.2.2.2.2.2.2.2.2.2.2.2.2.2.2.2.2.2.2.2.2.2.2.1, h.2.2.2.2.2.2.2.2.2.2.2.2.2.2.2.2.2.2.2.2.2.2.2.2.2.2.2.2.2.2.2.2.2.2.2.2.1, h.2.2.2.2.2.2.2.2.2.2.2.2.2.2.2.2.2.2.2.2.2.2.2.2.2.2.2.2.2.2.2.2.2.2.2.2.2.1, h.2.2.2.2.2.2.2.2.2.2.2.2.2.2.2.2.2.2.2.2.2.2.2.2.2.2.2.2.2.2.2.2.2.2.2.2.2.2.1, h.2.2.2.2.2.2.2.2.2.2.2.2.2.2.2.2.2.2.2.2.2.2.2.2.2.2.2.2.2.2.2.2.2.2.2.2.2.2.2.1, h.2.2.2.2.2.2.2.2.2.2.2.2.2.2.2.2.2.2.2.2.2.2.2.2.2.2.2.2.2.2.2.2.2.2.2.2.2.2.2.2.1, h.2.2.2.2.2.2.2.2.2.2.2.2.2.2.2.2.2.2.2.2.2.2.2.2.2.2.2.2.2.2.2.2.2.2.2.2.2.2.2.2.2.1, h.2.2.2.2.2.2.2.2.2.2.2.2.2.2.2.2.2.2.2.2.2.2.2.2.2.2.2.2.2.2.2.2.2.2.2.2.2.2.2.2.2.2.1, h.2.2.2.2.2.2.2.2.2.2.2.2.2.2.2.2.2.2.2.2.2.2.2.2.2.2.2.2.2.2.2.2.2.2.2.2.2.2.2.2.2.2.2.1, h.2.2.2.2.2.2.2.2.2.2.2.2.2.2.2.2.2.2.2.2.2.2.2.2.2.2.2.2.2.2.2.2.2.2.2.2.2.2.2.2.2.2.2.2.1, h.2.2.2.2.2.2.2.2.2.2.2.2.2.2.2.2.2.2.2.2.2.2.2.2.2.2.2.2.2.2.2.2.2.2.2.2.2.2.2.2.2.2.2.2.2⟩
theorem Km35_A3 {u v : St} (h : Km35 u v) : fA v 3 = fA u 3 := h.2.2.2.2.2.2.2.2.2.2.2.2.2.2.1
theorem Km35_A6 {u v : St} (h : Km35 u v) : fA v 6 = fA u 6 := h.2.2.2.2.2.2.2.2.2.2.2.2.2.2.2.2.2.1
theorem Km37_wA11 {u v : St} {D : va_G} {A : Nat → Prop} {cy : Nat → ClassId} {a : Nat → Nat} {hp H : Heap} {locs : List Loc} {f : Nat → Int32} (_ : Wo D A (mW cy a (sA v 11 f)) hp H locs) (h : Km37 u v) : Km37 u (sA v 11 f) := ⟨h.1, h.2.1, h.2.2.1, h.2.2.2.1, h.2.2.2.2.1, h.2.2.2.2.2.1, h.2.2.2.2.2.2.1, h.2.2.2.2.2.2.2.1, h.2.2.2.2.2.2.2.2.1, h.2.2.2.2.2.2.2.2.2.1, h.2.2.2.2.2.2.2.2.2.2.1, h.2.2.2.2.2.2.2.2.2.2.2.1, h.2.2.2.2.2.2.2.2.2.2.2.2.1, h.2.2.2.2.2.2.2.2.2.2.2.2.2.1, h.2.2.2.2.2.2.2.2.2.2.2.2.2.2.1, h.2.2.2.2.2.2.2.2.2.2.2.2.2.2.2.1, h.2.2.2.2.2.2.2.2.2.2.2.2.2.2.2.2.1, h.2.2.2.2.2.2.2.2.2.2.2.2.2.2.2.2.2.1, h.2.2.2.2.2.2.2.2.2.2.2.2.2.2.2.2.2.2.1, h.2.2.2.2.2.2.2.2.2.2.2.2.2.2.2.2.2.2.2.1, h.2.2.2.2.2.2.2.2.2.2.2.2.2.2.2.2.2.2.2.2.1, h.2.2.2.2.2.2.2.2.2.2.2.2.2.2.2.2.2.2.2.2.2.1, h.2.2.2.2.2.2.2.2.2.2.2.2.2.2.2.2.2.2.2.2.2.2.1, h.2.2.2.2.2.2.2.2.2.2.2.2.2.2.2.2.2.2.2.2.2.2.2.1, h.2.2.2.2.2.2.2.2.2.2.2.2.2.2.2.2.2.2.2.2.2.2.2.2.1, h.2.2.2.2.2.2.2.2.2.2.2.2.2.2.2.2.2.2.2.2.2.2.2.2.2.1, h.2.2.2.2.2.2.2.2.2.2.2.2.2.2.2.2.2.2.2.2.2.2.2.2.2.2.1, h.2.2.2.2.2.2.2.2.2.2.2.2.2.2.2.2.2.2.2.2.2.2.2.2.2.2.2.1, h.2.2.2.2.2.2.2.2.2.2.2.2.2.2.2.2.2.2.2.2.2.2.2.2.2.2.2.2.1, h.2.2.2.2.2.2.2.2.2.2.2.2.2.2.2.2.2.2.2.2.2.2.2.2.2.2.2.2.2⟩
theorem Km37_wA8 {u v : St} {D : va_G} {A : Nat → Prop} {cy : Nat → ClassId} {a : Nat → Nat} {hp H : Heap} {locs : List Loc} {f : Nat → Int32} (_ : Wo D A (mW cy a (sA v 8 f)) hp H locs) (h : Km37 u v) : Km37 u (sA v 8 f) := ⟨h.1, h.2.1, h.2.2.1, h.2.2.2.1, h.2.2.2.2.1, h.2.2.2.2.2.1, h.2.2.2.2.2.2.1, h.2.2.2.2.2.2.2.1, h.2.2.2.2.2.2.2.2.1, h.2.2.2.2.2.2.2.2.2.1, h.2.2.2.2.2.2.2.2.2.2.1, h.2.2.2.2.2.2.2.2.2.2.2.1, h.2.2.2.2.2.2.2.2.2.2.2.2.1, h.2.2.2.2.2.2.2.2.2.2.2.2.2.1, h.2.2.2.2.2.2.2.2.2.2.2.2.2.2.1, h.2.2.2.2.2.2.2.2.2.2.2.2.2.2.2.1, h.2.2.2.2.2.2.2.2.2.2.2.2.2.2.2.2.1, h.2.2.2.2.2.2.2.2.2.2.2.2.2.2.2.2.2.1, h.2.2.2.2.2.2.2.2.2.2.2.2.2.2.2.2.2.2.1, h.2.2.2.2.2.2.2.2.2.2.2.2.2.2.2.2.2.2.2.1, h.2.2.2.2.2.2.2.2.2.2.2.2.2.2.2.2.2.2.2.2.1, h.2.2.2.2.2.2.2.2.2.2.2.2.2.2.2.2.2.2.2.2.2.1, h.2.2.2.2.2.2.2.2.2.2.2.2.2.2.2.2.2.2.2.2.2.2.1, h.2.2.2.2.2.2.2.2.2.2.2.2.2.2.2.2.2.2.2.2.2.2.2.1, h.2.2.2.2.2.2.2.2.2.2.2.2.2.2.2.2.2.2.2.2.2.2.2.2.1, h.2.2.2.2.2.2.2.2.2.2.2.2.2.2.2.2.2.2.2.2.2.2.2.2.2.1, h.2.2.2.2.2.2.2.2.2.2.2.2.2.2.2.2.2.2.2.2.2.2.2.2.2.2.1, h.2.2.2.2.2.2.2.2.2.2.2.2.2.2.2.2.2.2.2.2.2.2.2.2.2.2.2.1, h.2.2.2.2.2.2.2.2.2.2.2.2.2.2.2.2.2.2.2.2.2.2.2.2.2.2.2.2.1, h.2.2.2.2.2.2.2.2.2.2.2.2.2.2.2.2.2.2.2.2.2.2.2.2.2.2.2.2.2⟩
theorem wd_1659 : (Cond.methodLink "WebCourtModel" (293 : Nat) ⟨"WebCourtModel", "readCase", "()V"⟩) ∈ gtb := gtb_c7 110 (by decide +kernel) rfl
theorem wd_1661 : (Cond.instanceMethod ⟨"WebCourtModel", "readCase", "()V"⟩) ∈ gtb := gtb_c7 112 (by decide +kernel) rfl
theorem wd_65 : (Cond.selects "WebCourtModel" ⟨"WebCourtModel", "readCase", "()V"⟩ ⟨"WebCourtModel", "readCase", "()V"⟩) ∈ gtb := gtb_p 65 (by decide +kernel) rfl
theorem hd_yX11_readCase : yX11_readCase.cls = RX11 ∧ yX11_readCase.cls ≠ "java/lang/invoke/MethodHandle" ∧ yX11_readCase.cls ≠ "java/lang/invoke/VarHandle" ∧ (parseMethodDescriptor yX11_readCase.desc).map (fun d => d.parameters.length) = some 0 := by decide +kernel
theorem Km30_to_Km37 {u v : St} (h : Km30 u v) : Km37 u v := ⟨h.1, h.2.1, h.2.2.1, h.2.2.2.1, h.2.2.2.2.2.2.2.2.1, h.2.2.2.2.2.2.2.2.2.1, h.2.2.2.2.2.2.2.2.2.2.1, h.2.2.2.2.2.2.2.2.2.2.2.1, h.2.2.2.2.2.2.2.2.2.2.2.2.1, h.2.2.2.2.2.2.2.2.2.2.2.2.2.1, h.2.2.2.2.2.2.2.2.2.2.2.2.2.2.1, h.2.2.2.2.2.2.2.2.2.2.2.2.2.2.2.1, h.2.2.2.2.2.2.2.2.2.2.2.2.2.2.2.2.1, h.2.2.2.2.2.2.2.2.2.2.2.2.2.2.2.2.2.1, h.2.2.2.2.2.2.2.2.2.2.2.2.2.2.2.2.2.2.2.2.2.2.2.2.2.2.2.2.2.2.2.2.2.2.2.2.2.2.1, h.2.2.2.2.2.2.2.2.2.2.2.2.2.2.2.2.2.2.2.2.2.2.2.2.2.2.2.2.2.2.2.2.2.2.2.2.2.2.2.1, h.2.2.2.2.2.2.2.2.2.2.2.2.2.2.2.2.2.2.2.2.2.2.2.2.2.2.2.2.2.2.2.2.2.2.2.2.2.2.2.2.1, h.2.2.2.2.2.2.2.2.2.2.2.2.2.2.2.2.2.2.2.2.2.2.2.2.2.2.2.2.2.2.2.2.2.2.2.2.2.2.2.2.2.1, h.2.2.2.2.2.2.2.2.2.2.2.2.2.2.2.2.2.2.2.2.2.2.2.2.2.2.2.2.2.2.2.2.2.2.2.2.2.2.2.2.2.2.1, h.2.2.2.2.2.2.2.2.2.2.2.2.2.2.2.2.2.2.2.2.2.2.2.2.2.2.2.2.2.2.2.2.2.2.2.2.2.2.2.2.2.2.2.1, h.2.2.2.2.2.2.2.2.2.2.2.2.2.2.2.2.2.2.2.2.2.2.2.2.2.2.2.2.2.2.2.2.2.2.2.2.2.2.2.2.2.2.2.2.1, h.2.2.2.2.2.2.2.2.2.2.2.2.2.2.2.2.2.2.2.2.2.2.2.2.2.2.2.2.2.2.2.2.2.2.2.2.2.2.2.2.2.2.2.2.2.1, h.2.2.2.2.2.2.2.2.2.2.2.2.2.2.2.2.2.2.2.2.2.2.2.2.2.2.2.2.2.2.2.2.2.2.2.2.2.2.2.2.2.2.2.2.2.2.1, h.2.2.2.2.2.2.2.2.2.2.2.2.2.2.2.2.2.2.2.2.2.2.2.2.2.2.2.2.2.2.2.2.2.2.2.2.2.2.2.2.2.2.2.2.2.2.2.1, h.2.2.2.2.2.2.2.2.2.2.2.2.2.2.2.2.2.2.2.2.2.2.2.2.2.2.2.2.2.2.2.2.2.2.2.2.2.2.2.2.2.2.2.2.2.2.2.2.1, h.2.2.2.2.2.2.2.2.2.2.2.2.2.2.2.2.2.2.2.2.2.2.2.2.2.2.2.2.2.2.2.2.2.2.2.2.2.2.2.2.2.2.2.2.2.2.2.2.2.1, h.2.2.2.2.2.2.2.2.2.2.2.2.2.2.2.2.2.2.2.2.2.2.2.2.2.2.2.2.2.2.2.2.2.2.2.2.2.2.2.2.2.2.2.2.2.2.2.2.2.2.1, h.2.2.2.2.2.2.2.2.2.2.2.2.2.2.2.2.2.2.2.2.2.2.2.2.2.2.2.2.2.2.2.2.2.2.2.2.2.2.2.2.2.2.2.2.2.2.2.2.2.2.2.1, h.2.2.2.2.2.2.2.2.2.2.2.2.2.2.2.2.2.2.2.2.2.2.2.2.2.2.2.2.2.2.2.2.2.2.2.2.2.2.2.2.2.2.2.2.2.2.2.2.2.2.2.2.1, h.2.2.2.2.2.2.2.2.2.2.2.2.2.2.2.2.2.2.2.2.2.2.2.2.2.2.2.2.2.2.2.2.2.2.2.2.2.2.2.2.2.2.2.2.2.2.2.2.2.2.2.2.2⟩
theorem Km30_A11 {u v : St} (h : Km30 u v) : fA v 11 = fA u 11 := h.2.2.2.2.2.2.2.2.2.2.2.2.2.2.2.2.2.2.2.2.2.2.2.2.2.1
theorem Km30_I38 {u v : St} (h : Km30 u v) : fI v 0 38 = fI u 0 38 := h.2.2.2.2.1
theorem Km30_A18 {u v : St} (h : Km30 u v) : fA v 18 = fA u 18 := h.2.2.2.2.2.2.2.2.2.2.2.2.2.2.2.2.2.2.2.2.2.2.2.2.2.2.2.2.2.2.1
theorem Km30_A19 {u v : St} (h : Km30 u v) : fA v 19 = fA u 19 := h.2.2.2.2.2.2.2.2.2.2.2.2.2.2.2.2.2.2.2.2.2.2.2.2.2.2.2.2.2.2.2.1
theorem Km30_A23 {u v : St} (h : Km30 u v) : fA v 23 = fA u 23 := h.2.2.2.2.2.2.2.2.2.2.2.2.2.2.2.2.2.2.2.2.2.2.2.2.2.2.2.2.2.2.2.2.2.2.1
theorem Km26_A5 {u v : St} (h : Km26 u v) : fA v 5 = fA u 5 := h.2.2.2.2.2.2.2.2.2.2.2.2.2.2.2.2.2.2.2.2.2.2.1
theorem Km37_wJ21 {u v : St} {D : va_G} {A : Nat → Prop} {cy : Nat → ClassId} {a : Nat → Nat} {hp H : Heap} {locs : List Loc} {f : Nat → Int64} (_ : Wo D A (mW cy a (sJ v 21 f)) hp H locs) (h : Km37 u v) : Km37 u (sJ v 21 f) := ⟨h.1, h.2.1, h.2.2.1, h.2.2.2.1, h.2.2.2.2.1, h.2.2.2.2.2.1, h.2.2.2.2.2.2.1, h.2.2.2.2.2.2.2.1, h.2.2.2.2.2.2.2.2.1, h.2.2.2.2.2.2.2.2.2.1, h.2.2.2.2.2.2.2.2.2.2.1, h.2.2.2.2.2.2.2.2.2.2.2.1, h.2.2.2.2.2.2.2.2.2.2.2.2.1, h.2.2.2.2.2.2.2.2.2.2.2.2.2.1, h.2.2.2.2.2.2.2.2.2.2.2.2.2.2.1, h.2.2.2.2.2.2.2.2.2.2.2.2.2.2.2.1, h.2.2.2.2.2.2.2.2.2.2.2.2.2.2.2.2.1, h.2.2.2.2.2.2.2.2.2.2.2.2.2.2.2.2.2.1, h.2.2.2.2.2.2.2.2.2.2.2.2.2.2.2.2.2.2.1, h.2.2.2.2.2.2.2.2.2.2.2.2.2.2.2.2.2.2.2.1, h.2.2.2.2.2.2.2.2.2.2.2.2.2.2.2.2.2.2.2.2.1, h.2.2.2.2.2.2.2.2.2.2.2.2.2.2.2.2.2.2.2.2.2.1, h.2.2.2.2.2.2.2.2.2.2.2.2.2.2.2.2.2.2.2.2.2.2.1, h.2.2.2.2.2.2.2.2.2.2.2.2.2.2.2.2.2.2.2.2.2.2.2.1, h.2.2.2.2.2.2.2.2.2.2.2.2.2.2.2.2.2.2.2.2.2.2.2.2.1, h.2.2.2.2.2.2.2.2.2.2.2.2.2.2.2.2.2.2.2.2.2.2.2.2.2.1, h.2.2.2.2.2.2.2.2.2.2.2.2.2.2.2.2.2.2.2.2.2.2.2.2.2.2.1, h.2.2.2.2.2.2.2.2.2.2.2.2.2.2.2.2.2.2.2.2.2.2.2.2.2.2.2.1, h.2.2.2.2.2.2.2.2.2.2.2.2.2.2.2.2.2.2.2.2.2.2.2.2.2.2.2.2.1, h.2.2.2.2.2.2.2.2.2.2.2.2.2.2.2.2.2.2.2.2.2.2.2.2.2.2.2.2.2⟩
theorem Km27_A5 {u v : St} (h : Km27 u v) : fA v 5 = fA u 5 := h.2.2.2.2.2.2.2.2.2.2.2.2.2.2.2.2.2.2.2.2.1
theorem Km37_wA15 {u v : St} {D : va_G} {A : Nat → Prop} {cy : Nat → ClassId} {a : Nat → Nat} {hp H : Heap} {locs : List Loc} {f : Nat → Int32} (_ : Wo D A (mW cy a (sA v 15 f)) hp H locs) (h : Km37 u v) : Km37 u (sA v 15 f) := ⟨h.1, h.2.1, h.2.2.1, h.2.2.2.1, h.2.2.2.2.1, h.2.2.2.2.2.1, h.2.2.2.2.2.2.1, h.2.2.2.2.2.2.2.1, h.2.2.2.2.2.2.2.2.1, h.2.2.2.2.2.2.2.2.2.1, h.2.2.2.2.2.2.2.2.2.2.1, h.2.2.2.2.2.2.2.2.2.2.2.1, h.2.2.2.2.2.2.2.2.2.2.2.2.1, h.2.2.2.2.2.2.2.2.2.2.2.2.2.1, h.2.2.2.2.2.2.2.2.2.2.2.2.2.2.1, h.2.2.2.2.2.2.2.2.2.2.2.2.2.2.2.1, h.2.2.2.2.2.2.2.2.2.2.2.2.2.2.2.2.1, h.2.2.2.2.2.2.2.2.2.2.2.2.2.2.2.2.2.1, h.2.2.2.2.2.2.2.2.2.2.2.2.2.2.2.2.2.2.1, h.2.2.2.2.2.2.2.2.2.2.2.2.2.2.2.2.2.2.2.1, h.2.2.2.2.2.2.2.2.2.2.2.2.2.2.2.2.2.2.2.2.1, h.2.2.2.2.2.2.2.2.2.2.2.2.2.2.2.2.2.2.2.2.2.1, h.2.2.2.2.2.2.2.2.2.2.2.2.2.2.2.2.2.2.2.2.2.2.1, h.2.2.2.2.2.2.2.2.2.2.2.2.2.2.2.2.2.2.2.2.2.2.2.1, h.2.2.2.2.2.2.2.2.2.2.2.2.2.2.2.2.2.2.2.2.2.2.2.2.1, h.2.2.2.2.2.2.2.2.2.2.2.2.2.2.2.2.2.2.2.2.2.2.2.2.2.1, h.2.2.2.2.2.2.2.2.2.2.2.2.2.2.2.2.2.2.2.2.2.2.2.2.2.2.1, h.2.2.2.2.2.2.2.2.2.2.2.2.2.2.2.2.2.2.2.2.2.2.2.2.2.2.2.1, h.2.2.2.2.2.2.2.2.2.2.2.2.2.2.2.2.2.2.2.2.2.2.2.2.2.2.2.2.1, h.2.2.2.2.2.2.2.2.2.2.2.2.2.2.2.2.2.2.2.2.2.2.2.2.2.2.2.2.2⟩
theorem Km37_wA5 {u v : St} {D : va_G} {A : Nat → Prop} {cy : Nat → ClassId} {a : Nat → Nat} {hp H : Heap} {locs : List Loc} {f : Nat → Int32} (_ : Wo D A (mW cy a (sA v 5 f)) hp H locs) (h : Km37 u v) : Km37 u (sA v 5 f) := ⟨h.1, h.2.1, h.2.2.1, h.2.2.2.1, h.2.2.2.2.1, h.2.2.2.2.2.1, h.2.2.2.2.2.2.1, h.2.2.2.2.2.2.2.1, h.2.2.2.2.2.2.2.2.1, h.2.2.2.2.2.2.2.2.2.1, h.2.2.2.2.2.2.2.2.2.2.1, h.2.2.2.2.2.2.2.2.2.2.2.1, h.2.2.2.2.2.2.2.2.2.2.2.2.1, h.2.2.2.2.2.2.2.2.2.2.2.2.2.1, h.2.2.2.2.2.2.2.2.2.2.2.2.2.2.1, h.2.2.2.2.2.2.2.2.2.2.2.2.2.2.2.1, h.2.2.2.2.2.2.2.2.2.2.2.2.2.2.2.2.1, h.2.2.2.2.2.2.2.2.2.2.2.2.2.2.2.2.2.1, h.2.2.2.2.2.2.2.2.2.2.2.2.2.2.2.2.2.2.1, h.2.2.2.2.2.2.2.2.2.2.2.2.2.2.2.2.2.2.2.1, h.2.2.2.2.2.2.2.2.2.2.2.2.2.2.2.2.2.2.2.2.1, h.2.2.2.2.2.2.2.2.2.2.2.2.2.2.2.2.2.2.2.2.2.1, h.2.2.2.2.2.2.2.2.2.2.2.2.2.2.2.2.2.2.2.2.2.2.1, h.2.2.2.2.2.2.2.2.2.2.2.2.2.2.2.2.2.2.2.2.2.2.2.1, h.2.2.2.2.2.2.2.2.2.2.2.2.2.2.2.2.2.2.2.2.2.2.2.2.1, h.2.2.2.2.2.2.2.2.2.2.2.2.2.2.2.2.2.2.2.2.2.2.2.2.2.1, h.2.2.2.2.2.2.2.2.2.2.2.2.2.2.2.2.2.2.2.2.2.2.2.2.2.2.1, h.2.2.2.2.2.2.2.2.2.2.2.2.2.2.2.2.2.2.2.2.2.2.2.2.2.2.2.1, h.2.2.2.2.2.2.2.2.2.2.2.2.2.2.2.2.2.2.2.2.2.2.2.2.2.2.2.2.1, h.2.2.2.2.2.2.2.2.2.2.2.2.2.2.2.2.2.2.2.2.2.2.2.2.2.2.2.2.2⟩
theorem wd_1635 : (Cond.methodLink "WebCourtModel" (283 : Nat) ⟨"WebCourtModel", "readThread", "()V"⟩) ∈ gtb := gtb_c7 86 (by decide +kernel) rfl
theorem wd_1637 : (Cond.instanceMethod ⟨"WebCourtModel", "readThread", "()V"⟩) ∈ gtb := gtb_c7 88 (by decide +kernel) rfl
theorem wd_59 : (Cond.selects "WebCourtModel" ⟨"WebCourtModel", "readThread", "()V"⟩ ⟨"WebCourtModel", "readThread", "()V"⟩) ∈ gtb := gtb_p 59 (by decide +kernel) rfl
theorem hd_yX11_readThread : yX11_readThread.cls = RX11 ∧ yX11_readThread.cls ≠ "java/lang/invoke/MethodHandle" ∧ yX11_readThread.cls ≠ "java/lang/invoke/VarHandle" ∧ (parseMethodDescriptor yX11_readThread.desc).map (fun d => d.parameters.length) = some 0 := by decide +kernel
theorem Km29_to_Km37 {u v : St} (h : Km29 u v) : Km37 u v := ⟨h.1, h.2.1, h.2.2.1, h.2.2.2.1, h.2.2.2.2.2.2.2.2.1, h.2.2.2.2.2.2.2.2.2.1, h.2.2.2.2.2.2.2.2.2.2.1, h.2.2.2.2.2.2.2.2.2.2.2.1, h.2.2.2.2.2.2.2.2.2.2.2.2.1, h.2.2.2.2.2.2.2.2.2.2.2.2.2.1, h.2.2.2.2.2.2.2.2.2.2.2.2.2.2.1, h.2.2.2.2.2.2.2.2.2.2.2.2.2.2.2.1, h.2.2.2.2.2.2.2.2.2.2.2.2.2.2.2.2.1, h.2.2.2.2.2.2.2.2.2.2.2.2.2.2.2.2.2.1, h.2.2.2.2.2.2.2.2.2.2.2.2.2.2.2.2.2.2.2.2.2.2.2.2.2.2.2.2.2.2.2.2.2.2.2.2.2.2.1, h.2.2.2.2.2.2.2.2.2.2.2.2.2.2.2.2.2.2.2.2.2.2.2.2.2.2.2.2.2.2.2.2.2.2.2.2.2.2.2.1, h.2.2.2.2.2.2.2.2.2.2.2.2.2.2.2.2.2.2.2.2.2.2.2.2.2.2.2.2.2.2.2.2.2.2.2.2.2.2.2.2.1, h.2.2.2.2.2.2.2.2.2.2.2.2.2.2.2.2.2.2.2.2.2.2.2.2.2.2.2.2.2.2.2.2.2.2.2.2.2.2.2.2.2.1, h.2.2.2.2.2.2.2.2.2.2.2.2.2.2.2.2.2.2.2.2.2.2.2.2.2.2.2.2.2.2.2.2.2.2.2.2.2.2.2.2.2.2.1, h.2.2.2.2.2.2.2.2.2.2.2.2.2.2.2.2.2.2.2.2.2.2.2.2.2.2.2.2.2.2.2.2.2.2.2.2.2.2.2.2.2.2.2.1, h.2.2.2.2.2.2.2.2.2.2.2.2.2.2.2.2.2.2.2.2.2.2.2.2.2.2.2.2.2.2.2.2.2.2.2.2.2.2.2.2.2.2.2.2.1, h.2.2.2.2.2.2.2.2.2.2.2.2.2.2.2.2.2.2.2.2.2.2.2.2.2.2.2.2.2.2.2.2.2.2.2.2.2.2.2.2.2.2.2.2.2.1, h.2.2.2.2.2.2.2.2.2.2.2.2.2.2.2.2.2.2.2.2.2.2.2.2.2.2.2.2.2.2.2.2.2.2.2.2.2.2.2.2.2.2.2.2.2.2.1, h.2.2.2.2.2.2.2.2.2.2.2.2.2.2.2.2.2.2.2.2.2.2.2.2.2.2.2.2.2.2.2.2.2.2.2.2.2.2.2.2.2.2.2.2.2.2.2.1, h.2.2.2.2.2.2.2.2.2.2.2.2.2.2.2.2.2.2.2.2.2.2.2.2.2.2.2.2.2.2.2.2.2.2.2.2.2.2.2.2.2.2.2.2.2.2.2.2.1, h.2.2.2.2.2.2.2.2.2.2.2.2.2.2.2.2.2.2.2.2.2.2.2.2.2.2.2.2.2.2.2.2.2.2.2.2.2.2.2.2.2.2.2.2.2.2.2.2.2.1, h.2.2.2.2.2.2.2.2.2.2.2.2.2.2.2.2.2.2.2.2.2.2.2.2.2.2.2.2.2.2.2.2.2.2.2.2.2.2.2.2.2.2.2.2.2.2.2.2.2.2.1, h.2.2.2.2.2.2.2.2.2.2.2.2.2.2.2.2.2.2.2.2.2.2.2.2.2.2.2.2.2.2.2.2.2.2.2.2.2.2.2.2.2.2.2.2.2.2.2.2.2.2.2.1, h.2.2.2.2.2.2.2.2.2.2.2.2.2.2.2.2.2.2.2.2.2.2.2.2.2.2.2.2.2.2.2.2.2.2.2.2.2.2.2.2.2.2.2.2.2.2.2.2.2.2.2.2.1, h.2.2.2.2.2.2.2.2.2.2.2.2.2.2.2.2.2.2.2.2.2.2.2.2.2.2.2.2.2.2.2.2.2.2.2.2.2.2.2.2.2.2.2.2.2.2.2.2.2.2.2.2.2⟩
theorem Km29_I38 {u v : St} (h : Km29 u v) : fI v 0 38 = fI u 0 38 := h.2.2.2.2.1
theorem Km29_A11 {u v : St} (h : Km29 u v) : fA v 11 = fA u 11 := h.2.2.2.2.2.2.2.2.2.2.2.2.2.2.2.2.2.2.2.2.2.2.2.2.2.1
theorem Km29_A18 {u v : St} (h : Km29 u v) : fA v 18 = fA u 18 := h.2.2.2.2.2.2.2.2.2.2.2.2.2.2.2.2.2.2.2.2.2.2.2.2.2.2.2.2.2.1
theorem Km29_A19 {u v : St} (h : Km29 u v) : fA v 19 = fA u 19 := h.2.2.2.2.2.2.2.2.2.2.2.2.2.2.2.2.2.2.2.2.2.2.2.2.2.2.2.2.2.2.1
theorem Km29_A23 {u v : St} (h : Km29 u v) : fA v 23 = fA u 23 := h.2.2.2.2.2.2.2.2.2.2.2.2.2.2.2.2.2.2.2.2.2.2.2.2.2.2.2.2.2.2.2.2.2.2.1
theorem Km29_A6 {u v : St} (h : Km29 u v) : fA v 6 = fA u 6 := h.2.2.2.2.2.2.2.2.2.2.2.2.2.2.2.2.2.2.2.2.1
theorem Km37_wJ20 {u v : St} {D : va_G} {A : Nat → Prop} {cy : Nat → ClassId} {a : Nat → Nat} {hp H : Heap} {locs : List Loc} {f : Nat → Int64} (_ : Wo D A (mW cy a (sJ v 20 f)) hp H locs) (h : Km37 u v) : Km37 u (sJ v 20 f) := ⟨h.1, h.2.1, h.2.2.1, h.2.2.2.1, h.2.2.2.2.1, h.2.2.2.2.2.1, h.2.2.2.2.2.2.1, h.2.2.2.2.2.2.2.1, h.2.2.2.2.2.2.2.2.1, h.2.2.2.2.2.2.2.2.2.1, h.2.2.2.2.2.2.2.2.2.2.1, h.2.2.2.2.2.2.2.2.2.2.2.1, h.2.2.2.2.2.2.2.2.2.2.2.2.1, h.2.2.2.2.2.2.2.2.2.2.2.2.2.1, h.2.2.2.2.2.2.2.2.2.2.2.2.2.2.1, h.2.2.2.2.2.2.2.2.2.2.2.2.2.2.2.1, h.2.2.2.2.2.2.2.2.2.2.2.2.2.2.2.2.1, h.2.2.2.2.2.2.2.2.2.2.2.2.2.2.2.2.2.1, h.2.2.2.2.2.2.2.2.2.2.2.2.2.2.2.2.2.2.1, h.2.2.2.2.2.2.2.2.2.2.2.2.2.2.2.2.2.2.2.1, h.2.2.2.2.2.2.2.2.2.2.2.2.2.2.2.2.2.2.2.2.1, h.2.2.2.2.2.2.2.2.2.2.2.2.2.2.2.2.2.2.2.2.2.1, h.2.2.2.2.2.2.2.2.2.2.2.2.2.2.2.2.2.2.2.2.2.2.1, h.2.2.2.2.2.2.2.2.2.2.2.2.2.2.2.2.2.2.2.2.2.2.2.1, h.2.2.2.2.2.2.2.2.2.2.2.2.2.2.2.2.2.2.2.2.2.2.2.2.1, h.2.2.2.2.2.2.2.2.2.2.2.2.2.2.2.2.2.2.2.2.2.2.2.2.2.1, h.2.2.2.2.2.2.2.2.2.2.2.2.2.2.2.2.2.2.2.2.2.2.2.2.2.2.1, h.2.2.2.2.2.2.2.2.2.2.2.2.2.2.2.2.2.2.2.2.2.2.2.2.2.2.2.1, h.2.2.2.2.2.2.2.2.2.2.2.2.2.2.2.2.2.2.2.2.2.2.2.2.2.2.2.2.1, h.2.2.2.2.2.2.2.2.2.2.2.2.2.2.2.2.2.2.2.2.2.2.2.2.2.2.2.2.2⟩
theorem Km37_wA3 {u v : St} {D : va_G} {A : Nat → Prop} {cy : Nat → ClassId} {a : Nat → Nat} {hp H : Heap} {locs : List Loc} {f : Nat → Int32} (_ : Wo D A (mW cy a (sA v 3 f)) hp H locs) (h : Km37 u v) : Km37 u (sA v 3 f) := ⟨h.1, h.2.1, h.2.2.1, h.2.2.2.1, h.2.2.2.2.1, h.2.2.2.2.2.1, h.2.2.2.2.2.2.1, h.2.2.2.2.2.2.2.1, h.2.2.2.2.2.2.2.2.1, h.2.2.2.2.2.2.2.2.2.1, h.2.2.2.2.2.2.2.2.2.2.1, h.2.2.2.2.2.2.2.2.2.2.2.1, h.2.2.2.2.2.2.2.2.2.2.2.2.1, h.2.2.2.2.2.2.2.2.2.2.2.2.2.1, h.2.2.2.2.2.2.2.2.2.2.2.2.2.2.1, h.2.2.2.2.2.2.2.2.2.2.2.2.2.2.2.1, h.2.2.2.2.2.2.2.2.2.2.2.2.2.2.2.2.1, h.2.2.2.2.2.2.2.2.2.2.2.2.2.2.2.2.2.1, h.2.2.2.2.2.2.2.2.2.2.2.2.2.2.2.2.2.2.1, h.2.2.2.2.2.2.2.2.2.2.2.2.2.2.2.2.2.2.2.1, h.2.2.2.2.2.2.2.2.2.2.2.2.2.2.2.2.2.2.2.2.1, h.2.2.2.2.2.2.2.2.2.2.2.2.2.2.2.2.2.2.2.2.2.1, h.2.2.2.2.2.2.2.2.2.2.2.2.2.2.2.2.2.2.2.2.2.2.1, h.2.2.2.2.2.2.2.2.2.2.2.2.2.2.2.2.2.2.2.2.2.2.2.1, h.2.2.2.2.2.2.2.2.2.2.2.2.2.2.2.2.2.2.2.2.2.2.2.2.1, h.2.2.2.2.2.2.2.2.2.2.2.2.2.2.2.2.2.2.2.2.2.2.2.2.2.1, h.2.2.2.2.2.2.2.2.2.2.2.2.2.2.2.2.2.2.2.2.2.2.2.2.2.2.1, h.2.2.2.2.2.2.2.2.2.2.2.2.2.2.2.2.2.2.2.2.2.2.2.2.2.2.2.1, h.2.2.2.2.2.2.2.2.2.2.2.2.2.2.2.2.2.2.2.2.2.2.2.2.2.2.2.2.1, h.2.2.2.2.2.2.2.2.2.2.2.2.2.2.2.2.2.2.2.2.2.2.2.2.2.2.2.2.2⟩
set_option maxHeartbeats 4000000 in
set_option maxRecDepth 100000 in
theorem T_X11_readLine (l : Launch) (D : va_G) (cy : Nat → ClassId) (a : Nat → Nat) (u : St) (hJ : MI a u) (hp0 : (fI u 0 7).toInt ≤ (fI u 0 3).toInt) (hp1 : (fI u 0 6).toInt ≤ (fI u 0 7).toInt) (hp2 : (fI u 0 8).toInt = 0 ∨ (fI u 0 6).toInt < (fI u 0 7).toInt) (hp3 : (fI u 0 4).toInt = 0) (hp4 : (fI u 0 36).toInt + (fI u 0 37).toInt = 1) (hp5 : ¬ (fI u 0 8).toInt = 0) (hPQ : PQ u)   : Mv l D cy (mW cy a) yX11_readLine (.code yX11_readLine cX11_readLine 3 none) (rmo 6 127) [.ref (a 0)] u (fun (u' : St) => (MI a u') ∧ (Km37 u u') ∧ ((fI u' 0 7).toInt ≤ (fI u' 0 3).toInt) ∧ ((fI u' 0 6).toInt ≤ (fI u' 0 7).toInt) ∧ ((fI u' 0 8).toInt = 0 ∨ (fI u' 0 6).toInt < (fI u' 0 7).toInt) ∧ (¬ (fI u' 0 4).toInt = 0 ∨ (fI u 0 6).toInt < (fI u' 0 6).toInt) ∧ (PQ u')) := by
  refine Mv.of (own := RX11) rfl (by decide) (Nat.le_of_ble_eq_true rfl) ?_
  have hT : Km37 u u := Km37.rf
  have hJ0 := hJ
  intro p e s m below meth c A Q ls C hret hO hl
  obtain ⟨hx, hb, hml, hown, ht, hK, hA⟩ := id C
  have hl : lv_has ls 3 [(0, .ref (a 0))] := hl
  have g1 : 0 ≤ (fI u 0 3).toInt ∧ (fI u 0 3).toInt ≤ 1600 := by have h := MI_3 hJ0; exact h
  have g2 : 0 ≤ (fI u 0 4).toInt ∧ (fI u 0 4).toInt ≤ 5 := by have h := MI_4 hJ0; exact h
  have g3 : 0 ≤ (fI u 0 6).toInt ∧ (fI u 0 6).toInt ≤ 1600 := by have h := MI_6 hJ0; exact h
  have g4 : 0 ≤ (fI u 0 7).toInt ∧ (fI u 0 7).toInt ≤ 1601 := by have h := MI_7 hJ0; exact h
  have g5 : 0 ≤ (fI u 0 8).toInt ∧ (fI u 0 8).toInt ≤ 5 := by have h := MI_8 hJ0; exact h
  have g6 : 0 ≤ (fI u 0 36).toInt ∧ (fI u 0 36).toInt ≤ 1 := by have h := MI_36 hJ0; exact h
  have g7 : 0 ≤ (fI u 0 37).toInt ∧ (fI u 0 37).toInt ≤ 1 := by have h := MI_37 hJ0; exact h
  refine lv_aload_n hx hb dX11_readLine_0 rfl (lv_at hl 0 rfl) ?_
  refine gf_RX11_215 (v := .long ((fL u 0 10))) C hO 0 mW_0 rfl dX11_readLine_1 ?_
  refine lv_lstore_n (lv' := [(1, .long ((fL u 0 10))), (0, .ref (a 0))]) hx hb dX11_readLine_4 rfl hl (by decide) rfl (fun ls hl => ?_)
  refine lv_aload_n hx hb dX11_readLine_5 rfl (lv_at hl 1 rfl) ?_
  refine gf_RX11_208 (v := .int (fI u 0 8)) C hO 0 mW_0 rfl dX11_readLine_6 ?_
  refine lv_iconst (v := 3) hx hb dX11_readLine_9 (by decide) ?_
  refine cs_ne (tgt := 20) (X := ((fI u 0 8)).toInt) (Y := 3) hx hb dX11_readLine_10 (by decide) rfl rfl (fun c8 => ?_) (fun c8 => ?_)
  · refine lv_aload_n hx hb dX11_readLine_20 rfl (lv_at hl 1 rfl) ?_
    refine cVv (w := mW cy a) (As := []) (rest := []) C hO (T_X11_misplaced l D cy a _ (by exact hJ)) (cwV 0 ht (gV wd_1615 wd_1617 wd_54 wd_121 wd_1618) rfl rfl rfl hd_yX11_misplaced ⟨Nat.le_of_ble_eq_true rfl, Nat.le_of_ble_eq_true rfl⟩) 0 rfl mW_0 rfl rfl hl.1 (Nat.le_of_ble_eq_true rfl) dX11_readLine_21 rfl ⟨Nat.zero_le _, Nat.zero_le _⟩ (fun u10 H locs hp11 hO => ?_)
    obtain ⟨hJ, hTu10, hx0u10⟩ := hp11
    have hT : Km37 u u10 := Km37.tr (by exact hT) (Km25_to_Km37 hTu10)
    have g12 : 0 ≤ (fI u10 0 4).toInt ∧ (fI u10 0 4).toInt ≤ 5 := by have h := MI_4 hJ; exact h
    have y0u10 : ¬ ((fI u10 0 4) : Int32).toInt = 0 := by exact hx0u10
    refine lv_aload_n hx hb dX11_readLine_24 rfl (lv_at hl 1 rfl) ?_
    refine cVi (w := mW cy a) (As := []) (rest := []) C hO (T_X11_isGood l D cy a _ (by exact hJ) ((fI u10 0 4)) (by exact rfl)) (cwV 0 ht (gV wd_1596 wd_1598 wd_50 wd_121 wd_1599) rfl rfl rfl hd_yX11_isGood ⟨Nat.le_of_ble_eq_true rfl, Nat.le_of_ble_eq_true rfl⟩) 0 rfl mW_0 rfl rfl hl.1 (Nat.le_of_ble_eq_true rfl) dX11_readLine_25 rfl ⟨Nat.zero_le _, Nat.zero_le _⟩ (fun r13 u14 H locs hp15 hO => ?_)
    obtain ⟨hr13, hu14⟩ := hp15
    rw [hu14] at hO
    rcases hr13 with ⟨hcr13, hvr13⟩ | ⟨hcr13, hvr13⟩
    · exfalso
      omega
    · subst hvr13
      refine bn_ne (X := 0) hx hb dX11_readLine_28 rfl (by omega) ?_ (tgt := 32) (by decide)
      have q16 : ((fI u 0 7) : Int32).toInt ≤ ((fI u 0 3) : Int32).toInt := by first | assumption | omega | decide
      have q17 : ((fI u 0 6) : Int32).toInt ≤ ((fI u 0 7) : Int32).toInt := by first | assumption | omega | decide
      have q18 : ((fI u 0 8) : Int32).toInt = 0 ∨ ((fI u 0 6) : Int32).toInt < ((fI u 0 7) : Int32).toInt := by first | assumption | omega | decide
      have q19 : ¬ ((fI u10 0 4) : Int32).toInt = 0 ∨ ((fI u 0 6) : Int32).toInt < ((fI u 0 6) : Int32).toInt := by first | assumption | omega | decide
      refine hret _ _ _ _ _ dX11_readLine_31 ?_ hO
      exact ⟨hJ, hT, (show (fI u10 0 7 : Int32).toInt ≤ (fI u10 0 3 : Int32).toInt from by rw [show fI u10 0 7 = (fI u 0 7) from (Km25_I7 hTu10), show fI u10 0 3 = (fI u 0 3) from (Km37_I3 hT)]; first | done | exact q16), (show (fI u10 0 6 : Int32).toInt ≤ (fI u10 0 7 : Int32).toInt from by rw [show fI u10 0 6 = (fI u 0 6) from (Km25_I6 hTu10), show fI u10 0 7 = (fI u 0 7) from (Km25_I7 hTu10)]; first | done | exact q17), (show (fI u10 0 8 : Int32).toInt = 0 ∨ (fI u10 0 6 : Int32).toInt < (fI u10 0 7 : Int32).toInt from by rw [show fI u10 0 8 = (fI u 0 8) from (Km25_I8 hTu10), show fI u10 0 6 = (fI u 0 6) from (Km25_I6 hTu10), show fI u10 0 7 = (fI u 0 7) from (Km25_I7 hTu10)]; first | done | exact q18), (show ¬ ((fI u10 0 4) : Int32).toInt = 0 ∨ ((fI u 0 6) : Int32).toInt < (fI u10 0 6 : Int32).toInt from by rw [show fI u10 0 6 = (fI u 0 6) from (Km25_I6 hTu10)]; first | done | exact q19), (PQ.lex hPQ (by exact (Km37_I36 hT)) (by exact (Km37_I37 hT)) (by exact (Km25_I38 hTu10)) (by exact (Km25_A11 hTu10)) (by exact (Km25_A18 hTu10)) (by exact (Km25_A19 hTu10)) (by exact (Km25_A23 hTu10)) (by exact (Km25_A3 hTu10)) (by exact (Km25_A6 hTu10)) (Or.inl (by omega)))⟩
  · refine lv_aload_n hx hb dX11_readLine_13 rfl (lv_at hl 1 rfl) ?_
    have g20 : 0 ≤ (fA u 3 ((fI u 0 37)).toNatClampNeg).toInt ∧ (fA u 3 ((fI u 0 37)).toNatClampNeg).toInt ≤ 8 := by have h := MI_A3 hJ0 ((fI u 0 37)).toNatClampNeg; exact h
    have g21 : 0 ≤ (fA u 4 ((fI u 0 37)).toNatClampNeg).toInt ∧ (fA u 4 ((fI u 0 37)).toNatClampNeg).toInt ≤ 14 := by have h := MI_A4 hJ0 ((fI u 0 37)).toNatClampNeg; exact h
    have g22 : 0 ≤ (fA u 5 ((fI u 0 37)).toNatClampNeg).toInt ∧ (fA u 5 ((fI u 0 37)).toNatClampNeg).toInt ≤ 8 := by have h := MI_A5 hJ0 ((fI u 0 37)).toNatClampNeg; exact h
    have g23 : 0 ≤ (fA u 6 ((fI u 0 37)).toNatClampNeg).toInt ∧ (fA u 6 ((fI u 0 37)).toNatClampNeg).toInt ≤ 6 := by have h := MI_A6 hJ0 ((fI u 0 37)).toNatClampNeg; exact h
    refine cVi (w := mW cy a) (As := []) (rest := []) C hO (T_X11_isFull l D cy a _ (by exact hJ) ((fI u 0 8)) (by exact rfl) ((fL u 0 10)) (by exact rfl) ((fA u 3 ((fI u 0 37)).toNatClampNeg)) (by exact rfl) ((fA u 4 ((fI u 0 37)).toNatClampNeg)) (by exact rfl) ((fA u 5 ((fI u 0 37)).toNatClampNeg)) (by exact rfl) ((fA u 6 ((fI u 0 37)).toNatClampNeg)) (by exact rfl) ((fA u 11 ((fI u 0 37)).toNatClampNeg)) (by exact rfl) (by first | omega | decide)) (cwV 0 ht (gV wd_1604 wd_1606 wd_52 wd_121 wd_1607) rfl rfl rfl hd_yX11_isFull ⟨Nat.le_of_ble_eq_true rfl, Nat.le_of_ble_eq_true rfl⟩) 0 rfl mW_0 rfl rfl hl.1 (Nat.le_of_ble_eq_true rfl) dX11_readLine_14 rfl ⟨Nat.zero_le _, Nat.zero_le _⟩ (fun r24 u25 H locs hp26 hO => ?_)
    obtain ⟨hr24, hu25⟩ := hp26
    rw [hu25] at hO
    rcases hr24 with ⟨hcr24, hvr24⟩ | ⟨hcr24, hvr24⟩
    · subst hvr24
      refine bt_eq (tgt := 24) (X := 0) hx hb dX11_readLine_17 (by decide) rfl (by omega) ?_
      refine lv_aload_n hx hb dX11_readLine_24 rfl (lv_at hl 1 rfl) ?_
      refine cVi (w := mW cy a) (As := []) (rest := []) C hO (T_X11_isGood l D cy a _ (by exact hJ) ((fI u 0 4)) (by exact rfl)) (cwV 0 ht (gV wd_1596 wd_1598 wd_50 wd_121 wd_1599) rfl rfl rfl hd_yX11_isGood ⟨Nat.le_of_ble_eq_true rfl, Nat.le_of_ble_eq_true rfl⟩) 0 rfl mW_0 rfl rfl hl.1 (Nat.le_of_ble_eq_true rfl) dX11_readLine_25 rfl ⟨Nat.zero_le _, Nat.zero_le _⟩ (fun r27 u28 H locs hp29 hO => ?_)
      obtain ⟨hr27, hu28⟩ := hp29
      rw [hu28] at hO
      rcases hr27 with ⟨hcr27, hvr27⟩ | ⟨hcr27, hvr27⟩
      · subst hvr27
        refine bt_ne (tgt := 32) (X := 1) hx hb dX11_readLine_28 (by decide) rfl (by omega) ?_
        refine lv_aload_n hx hb dX11_readLine_32 rfl (lv_at hl 1 rfl) ?_
        refine cVv (w := mW cy a) (As := []) (rest := []) C hO (T_X11_goOn l D cy a _ (by exact hJ) (by exact (show ((fI u 0 7) : Int32).toInt ≤ ((fI u 0 3) : Int32).toInt from by first | assumption | omega | decide))) (cwV 0 ht (gV wd_1556 wd_1558 wd_48 wd_121 wd_1559) rfl rfl rfl hd_yX11_goOn ⟨Nat.le_of_ble_eq_true rfl, Nat.le_of_ble_eq_true rfl⟩) 0 rfl mW_0 rfl rfl hl.1 (Nat.le_of_ble_eq_true rfl) dX11_readLine_33 rfl ⟨Nat.zero_le _, Nat.zero_le _⟩ (fun u31 H locs hp32 hO => ?_)
        obtain ⟨hJ, hTu31, hx0u31, hx1u31, hx2u31, hx3u31⟩ := hp32
        have hT : Km37 u u31 := Km37.tr (by exact hT) (Km26_to_Km37 hTu31)
        have g33 : 0 ≤ (fI u31 0 7).toInt ∧ (fI u31 0 7).toInt ≤ 1601 := by have h := MI_7 hJ; exact h
        have y0u31 : ((fI u31 0 7) : Int32).toInt ≤ ((fI u 0 3) : Int32).toInt := by have h : ((fI u31 0 7) : Int32).toInt ≤ (fI u31 0 3 : Int32).toInt := hx0u31; rw [show fI u31 0 3 = (fI u 0 3) from (Km37_I3 hT)] at h; exact h
        have g34 : 0 ≤ (fI u31 0 6).toInt ∧ (fI u31 0 6).toInt ≤ 1600 := by have h := MI_6 hJ; exact h
        have y1u31 : ((fI u31 0 6) : Int32).toInt ≤ ((fI u31 0 7) : Int32).toInt := by exact hx1u31
        have g35 : 0 ≤ (fI u31 0 8).toInt ∧ (fI u31 0 8).toInt ≤ 5 := by have h := MI_8 hJ; exact h
        have y2u31 : ((fI u31 0 8) : Int32).toInt = 0 ∨ ((fI u31 0 6) : Int32).toInt < ((fI u31 0 7) : Int32).toInt := by exact hx2u31
        have y3u31 : ((fI u 0 7) : Int32).toInt ≤ ((fI u31 0 6) : Int32).toInt := by exact hx3u31
        have hpr : (fI u 0 6).toInt < ((fI u31 0 6)).toInt := by omega
        clear hp2
        refine lv_lload_n hx hb dX11_readLine_36 rfl (lv_at hl 0 rfl) ?_
        refine lv_ldc2 (v := 1802399604) hx hb hown (ht _ wd_1570) dX11_readLine_37 ?_
        refine W.lcmp hx hb dX11_readLine_40 ?_
        refine lv_topi (fun z36 ez36 => ?_)
        refine bs_ne (tgt := 87) (X := (z36).toInt) hx hb dX11_readLine_41 (by decide) rfl (fun c37 => ?_) (fun c37 => ?_)
        · have hj38 := lc_ne ez36 (by omega)
          clear c37
          refine lv_lload_n hx hb dX11_readLine_87 rfl (lv_at hl 0 rfl) ?_
          refine lv_ldc2 (v := 1818848869) hx hb hown (ht _ wd_1571) dX11_readLine_88 ?_
          refine W.lcmp hx hb dX11_readLine_91 ?_
          refine lv_topi (fun z39 ez39 => ?_)
          refine bs_ne (tgt := 99) (X := (z39).toInt) hx hb dX11_readLine_92 (by decide) rfl (fun c40 => ?_) (fun c40 => ?_)
          · have hj41 := lc_ne ez39 (by omega)
            clear c40
            refine lv_lload_n hx hb dX11_readLine_99 rfl (lv_at hl 0 rfl) ?_
            refine lv_ldc2 (v := 1886152033) hx hb hown (ht _ wd_1573) dX11_readLine_100 ?_
            refine W.lcmp hx hb dX11_readLine_103 ?_
            refine lv_topi (fun z42 ez42 => ?_)
            refine bs_ne (tgt := 190) (X := (z42).toInt) hx hb dX11_readLine_104 (by decide) rfl (fun c43 => ?_) (fun c43 => ?_)
            · have hj44 := lc_ne ez42 (by omega)
              clear c43
              refine lv_lload_n hx hb dX11_readLine_190 rfl (lv_at hl 0 rfl) ?_
              refine lv_ldc2 (v := 1667330917) hx hb hown (ht _ wd_1575) dX11_readLine_191 ?_
              refine W.lcmp hx hb dX11_readLine_194 ?_
              refine lv_topi (fun z45 ez45 => ?_)
              refine bs_ne (tgt := 202) (X := (z45).toInt) hx hb dX11_readLine_195 (by decide) rfl (fun c46 => ?_) (fun c46 => ?_)
              · have hj47 := lc_ne ez45 (by omega)
                clear c46
                refine lv_lload_n hx hb dX11_readLine_202 rfl (lv_at hl 0 rfl) ?_
                refine lv_ldc2 (v := 422608528232) hx hb hown (ht _ wd_1578) dX11_readLine_203 ?_
                refine W.lcmp hx hb dX11_readLine_206 ?_
                refine lv_topi (fun z48 ez48 => ?_)
                refine bs_ne (tgt := 240) (X := (z48).toInt) hx hb dX11_readLine_207 (by decide) rfl (fun c49 => ?_) (fun c49 => ?_)
                · have hj50 := lc_ne ez48 (by omega)
                  clear c49
                  refine lv_lload_n hx hb dX11_readLine_240 rfl (lv_at hl 0 rfl) ?_
                  refine lv_ldc2 (v := 7102839) hx hb hown (ht _ wd_1579) dX11_readLine_241 ?_
                  refine W.lcmp hx hb dX11_readLine_244 ?_
                  refine lv_topi (fun z51 ez51 => ?_)
                  refine bs_ne (tgt := 252) (X := (z51).toInt) hx hb dX11_readLine_245 (by decide) rfl (fun c52 => ?_) (fun c52 => ?_)
                  · have hj53 := lc_ne ez51 (by omega)
                    clear c52
                    refine lv_lload_n hx hb dX11_readLine_252 rfl (lv_at hl 0 rfl) ?_
                    refine lv_ldc2 (v := 1650549611) hx hb hown (ht _ wd_1580) dX11_readLine_253 ?_
                    refine W.lcmp hx hb dX11_readLine_256 ?_
                    refine lv_topi (fun z54 ez54 => ?_)
                    refine bs_ne (tgt := 276) (X := (z54).toInt) hx hb dX11_readLine_257 (by decide) rfl (fun c55 => ?_) (fun c55 => ?_)
                    · have hj56 := lc_ne ez54 (by omega)
                      clear c55
                      refine lv_lload_n hx hb dX11_readLine_276 rfl (lv_at hl 0 rfl) ?_
                      refine lv_ldc2 (v := 1685217655) hx hb hown (ht _ wd_1581) dX11_readLine_277 ?_
                      refine W.lcmp hx hb dX11_readLine_280 ?_
                      refine lv_topi (fun z57 ez57 => ?_)
                      refine bs_ne (tgt := 301) (X := (z57).toInt) hx hb dX11_readLine_281 (by decide) rfl (fun c58 => ?_) (fun c58 => ?_)
                      · have hj59 := lc_ne ez57 (by omega)
                        clear c58
                        refine lv_aload_n hx hb dX11_readLine_301 rfl (lv_at hl 1 rfl) ?_
                        refine lv_aload_n hx hb dX11_readLine_302 rfl (lv_at hl 1 rfl) ?_
                        refine lv_bipush (v := 59) hx hb dX11_readLine_303 (by decide) ?_
                        refine cVi (w := mW cy a) (As := [.int 59]) (rest := [.ref (a 0)]) C hO (T_X11_isSignHere l D cy a _ (by exact hJ) ((fI u31 0 8)) (by exact rfl) ((sgF u31 (fI u31 0 6))) (by exact rfl) (59)) (cwV 1 ht (gV wd_1682 wd_1684 wd_70 wd_121 wd_1685) rfl rfl rfl hd_yX11_isSignHere ⟨Nat.le_of_ble_eq_true rfl, Nat.le_of_ble_eq_true rfl⟩) 0 rfl mW_0 rfl rfl hl.1 (Nat.le_of_ble_eq_true rfl) dX11_readLine_305 rfl ⟨Nat.zero_le _, Nat.zero_le _⟩ (fun r60 u61 H locs hp62 hO => ?_)
                        obtain ⟨hr60, hu61⟩ := hp62
                        rw [hu61] at hO
                        have gr60 : (r60 = 1 ∧ ((fI u31 0 8)).toInt = 5 ∧ (sgF u31 (fI u31 0 6)) = 59) ∨ r60 = 0 := by rcases hr60 with ⟨⟨h1, h2⟩, h3⟩ | ⟨_, h3⟩; exact Or.inl ⟨h3, h1, h2⟩; exact Or.inr h3
                        have kr60 : (r60.toInt = 1 ∧ ((fI u31 0 8)).toInt = 5 ∧ ((sgF u31 (fI u31 0 6))).toInt = 59) ∨ r60.toInt = 0 := by rcases gr60 with ⟨h1, h2, h3⟩ | h1; exact Or.inl ⟨by rw [h1]; rfl, h2, by rw [h3]; rfl⟩; exact Or.inr (by rw [h1]; rfl)
                        have hr60 : r60 = 0 ∨ r60 = 1 := by rcases gr60 with ⟨h1, _⟩ | h1; exact Or.inr h1; exact Or.inl h1
                        refine cVv (w := mW cy a) (As := [.int r60]) (rest := []) C hO (T_X11_must l D cy a _ (by exact hJ) (by exact (show ((fI u31 0 7) : Int32).toInt ≤ (fI u31 0 3 : Int32).toInt from by rw [show fI u31 0 3 = (fI u 0 3) from (Km37_I3 hT)]; first | done | assumption | omega | decide)) (by exact (show ((fI u31 0 6) : Int32).toInt ≤ ((fI u31 0 7) : Int32).toInt from by first | assumption | omega | decide)) (by exact (show ((fI u31 0 8) : Int32).toInt = 0 ∨ ((fI u31 0 6) : Int32).toInt < ((fI u31 0 7) : Int32).toInt from by first | assumption | omega | decide)) (r60)) (cwV 1 ht (gV wd_1651 wd_1653 wd_63 wd_121 wd_1654) rfl rfl rfl hd_yX11_must ⟨Nat.le_of_ble_eq_true rfl, Nat.le_of_ble_eq_true rfl⟩) 0 rfl mW_0 rfl rfl hl.1 (Nat.le_of_ble_eq_true rfl) dX11_readLine_308 rfl ⟨Nat.zero_le _, Nat.zero_le _⟩ (fun u64 H locs hp65 hO => ?_)
                        obtain ⟨hJ, hTu64, hx0u64, hx1u64, hx2u64, hx3u64, hx4u64⟩ := hp65
                        have hT : Km37 u u64 := Km37.tr (by exact hT) (Km27_to_Km37 hTu64)
                        have g66 : 0 ≤ (fI u64 0 7).toInt ∧ (fI u64 0 7).toInt ≤ 1601 := by have h := MI_7 hJ; exact h
                        have y0u64 : ((fI u64 0 7) : Int32).toInt ≤ ((fI u 0 3) : Int32).toInt := by have h : ((fI u64 0 7) : Int32).toInt ≤ (fI u64 0 3 : Int32).toInt := hx0u64; rw [show fI u64 0 3 = (fI u 0 3) from (Km37_I3 hT)] at h; exact h
                        have g67 : 0 ≤ (fI u64 0 6).toInt ∧ (fI u64 0 6).toInt ≤ 1600 := by have h := MI_6 hJ; exact h
                        have y1u64 : ((fI u64 0 6) : Int32).toInt ≤ ((fI u64 0 7) : Int32).toInt := by exact hx1u64
                        have g68 : 0 ≤ (fI u64 0 8).toInt ∧ (fI u64 0 8).toInt ≤ 5 := by have h := MI_8 hJ; exact h
                        have y2u64 : ((fI u64 0 8) : Int32).toInt = 0 ∨ ((fI u64 0 6) : Int32).toInt < ((fI u64 0 7) : Int32).toInt := by exact hx2u64
                        have y3u64 : ((fI u31 0 6) : Int32).toInt ≤ ((fI u64 0 6) : Int32).toInt := by exact hx3u64
                        have g69 : 0 ≤ (fI u64 0 4).toInt ∧ (fI u64 0 4).toInt ≤ 5 := by have h := MI_4 hJ; exact h
                        have y4u64 : ((fI u 0 4) : Int32).toInt = 0 ∨ ¬ ((fI u64 0 4) : Int32).toInt = 0 := by have h : (fI u31 0 4 : Int32).toInt = 0 ∨ ¬ ((fI u64 0 4) : Int32).toInt = 0 := hx4u64; rw [show fI u31 0 4 = (fI u 0 4) from (Km26_I4 hTu31)] at h; exact h
                        clear gr60 kr60 hr60 y2u31 hx2u31
                        have q70 : ((fI u64 0 7) : Int32).toInt ≤ ((fI u 0 3) : Int32).toInt := by first | assumption | omega | decide
                        have q71 : ((fI u64 0 6) : Int32).toInt ≤ ((fI u64 0 7) : Int32).toInt := by first | assumption | omega | decide
                        have q72 : ((fI u64 0 8) : Int32).toInt = 0 ∨ ((fI u64 0 6) : Int32).toInt < ((fI u64 0 7) : Int32).toInt := by first | assumption | omega | decide
                        have q73 : ¬ ((fI u64 0 4) : Int32).toInt = 0 ∨ ((fI u 0 6) : Int32).toInt < ((fI u64 0 6) : Int32).toInt := by first | assumption | omega | decide
                        refine hret _ _ _ _ _ dX11_readLine_311 ?_ hO
                        exact ⟨hJ, hT, (show ((fI u64 0 7) : Int32).toInt ≤ (fI u64 0 3 : Int32).toInt from by rw [show fI u64 0 3 = (fI u 0 3) from (Km37_I3 hT)]; first | done | exact q70), q71, q72, q73, (PQ.lex hPQ (by exact (Km37_I36 hT)) (by exact (Km37_I37 hT)) (by exact (Eq.trans (Km27_I38 hTu64) (Km26_I38 hTu31))) (by exact (Eq.trans (Km27_A11 hTu64) (Km26_A11 hTu31))) (by exact (Eq.trans (Km27_A18 hTu64) (Km26_A18 hTu31))) (by exact (Eq.trans (Km27_A19 hTu64) (Km26_A19 hTu31))) (by exact (Eq.trans (Km27_A23 hTu64) (Km26_A23 hTu31))) (by exact (Eq.trans (Km27_A3 hTu64) (Km26_A3 hTu31))) (by exact (Eq.trans (Km27_A6 hTu64) (Km26_A6 hTu31))) (Or.inl (by omega)))⟩
                      · have hj74 := lc_eq ez57 (by omega)
                        clear c58
                        refine lv_aload_n hx hb dX11_readLine_284 rfl (lv_at hl 1 rfl) ?_
                        refine gf_RX11_42 (v := .ref (a 10)) C hO 0 mW_0 rfl dX11_readLine_285 ?_
                        refine lv_aload_n hx hb dX11_readLine_288 rfl (lv_at hl 1 rfl) ?_
                        refine gf_RX11_246 (v := .int (fI u 0 37)) C hO 0 mW_0 (congrArg (fun z : Int32 => some (Value.int z)) (Km37_I37 hT)) dX11_readLine_289 ?_
                        refine lv_aload_n hx hb dX11_readLine_292 rfl (lv_at hl 1 rfl) ?_
                        refine lv_iconst (v := 3) hx hb dX11_readLine_293 (by decide) ?_
                        refine lv_sipush (v := 999) hx hb dX11_readLine_294 (by decide) ?_
                        have ho37 : fI u31 0 37 = fI u 0 37 := (Km37_I37 hT)
                        have ho11 : fA u31 11 = fA u 11 := (Km26_A11 hTu31)
                        refine cVi (w := mW cy a) (As := [.int 3, .int 999]) (rest := [.int (fI u 0 37), .ref (a 10)]) C hO (T_X11_once_3 l D cy a _ (by exact hJ) (by exact (show ((fI u31 0 7) : Int32).toInt ≤ (fI u31 0 3 : Int32).toInt from by rw [show fI u31 0 3 = (fI u 0 3) from (Km37_I3 hT)]; first | done | assumption | omega | decide)) (by exact (show ((fI u31 0 6) : Int32).toInt ≤ ((fI u31 0 7) : Int32).toInt from by first | assumption | omega | decide)) (by exact (show ((fI u31 0 8) : Int32).toInt = 0 ∨ ((fI u31 0 6) : Int32).toInt < ((fI u31 0 7) : Int32).toInt from by first | assumption | omega | decide)) (by exact (show (fI u31 0 36 : Int32).toInt + (fI u31 0 37 : Int32).toInt = 1 from by rw [show fI u31 0 36 = (fI u 0 36) from (Km37_I36 hT), show fI u31 0 37 = (fI u 0 37) from (Km37_I37 hT)]; first | done | assumption | omega | decide))) (cwV 2 ht (gV wd_1706 wd_1708 wd_76 wd_121 wd_1709) rfl rfl rfl hd_yX11_once ⟨Nat.le_of_ble_eq_true rfl, Nat.le_of_ble_eq_true rfl⟩) 0 rfl mW_0 rfl rfl hl.1 (Nat.le_of_ble_eq_true rfl) dX11_readLine_297 rfl ⟨Nat.zero_le _, Nat.zero_le _⟩ (fun r75 u76 H locs hp77 hO => ?_)
                        obtain ⟨hJ, hTu76, hx0u76, hx1u76, hx2u76, hx3u76, hx4u76, hx5u76⟩ := hp77
                        have hT : Km37 u u76 := Km37.tr (by exact hT) (Km28_to_Km37 hTu76)
                        have g78 : 0 ≤ (fI u76 0 7).toInt ∧ (fI u76 0 7).toInt ≤ 1601 := by have h := MI_7 hJ; exact h
                        have y0u76 : ((fI u76 0 7) : Int32).toInt ≤ ((fI u 0 3) : Int32).toInt := by have h : ((fI u76 0 7) : Int32).toInt ≤ (fI u76 0 3 : Int32).toInt := hx0u76; rw [show fI u76 0 3 = (fI u 0 3) from (Km37_I3 hT)] at h; exact h
                        have g79 : 0 ≤ (fI u76 0 6).toInt ∧ (fI u76 0 6).toInt ≤ 1600 := by have h := MI_6 hJ; exact h
                        have y1u76 : ((fI u76 0 6) : Int32).toInt ≤ ((fI u76 0 7) : Int32).toInt := by exact hx1u76
                        have g80 : 0 ≤ (fI u76 0 8).toInt ∧ (fI u76 0 8).toInt ≤ 5 := by have h := MI_8 hJ; exact h
                        have y2u76 : ((fI u76 0 8) : Int32).toInt = 0 ∨ ((fI u76 0 6) : Int32).toInt < ((fI u76 0 7) : Int32).toInt := by exact hx2u76
                        have y3u76 : ((fI u31 0 6) : Int32).toInt ≤ ((fI u76 0 6) : Int32).toInt := by exact hx3u76
                        have g81 : 0 ≤ (fI u76 0 4).toInt ∧ (fI u76 0 4).toInt ≤ 5 := by have h := MI_4 hJ; exact h
                        have y4u76 : ((fI u 0 4) : Int32).toInt = 0 ∨ ¬ ((fI u76 0 4) : Int32).toInt = 0 := by have h : (fI u31 0 4 : Int32).toInt = 0 ∨ ¬ ((fI u76 0 4) : Int32).toInt = 0 := hx4u76; rw [show fI u31 0 4 = (fI u 0 4) from (Km26_I4 hTu31)] at h; exact h
                        clear y2u31 hx2u31
                        have hon : bitF (fA u76 11 (fI u 0 37).toNatClampNeg) 0 = bitF (fA u 11 (fI u 0 37).toNatClampNeg) 0 := by have h := hx5u76; rw [ho37, ho11] at h; exact h
                        refine aIs C hO 10 mW_10 (i_in (X := ((fI u 0 37)).toInt) rfl (by omega) (by omega)) mW_s10 dX11_readLine_300 (fun H locs hO => ?_)
                        have hT := Km37_wA10 hO hT
                        have hJ := MIsA_10 hO hJ
                        refine lv_aload_n hx hb dX11_readLine_301 rfl (lv_at hl 1 rfl) ?_
                        refine lv_aload_n hx hb dX11_readLine_302 rfl (lv_at hl 1 rfl) ?_
                        refine lv_bipush (v := 59) hx hb dX11_readLine_303 (by decide) ?_
                        refine cVi (w := mW cy a) (As := [.int 59]) (rest := [.ref (a 0)]) C hO (T_X11_isSignHere l D cy a _ (by exact hJ) ((fI u76 0 8)) (by exact rfl) ((sgF u76 (fI u76 0 6))) (by exact rfl) (59)) (cwV 1 ht (gV wd_1682 wd_1684 wd_70 wd_121 wd_1685) rfl rfl rfl hd_yX11_isSignHere ⟨Nat.le_of_ble_eq_true rfl, Nat.le_of_ble_eq_true rfl⟩) 0 rfl mW_0 rfl rfl hl.1 (Nat.le_of_ble_eq_true rfl) dX11_readLine_305 rfl ⟨Nat.zero_le _, Nat.zero_le _⟩ (fun r82 u83 H locs hp84 hO => ?_)
                        obtain ⟨hr82, hu83⟩ := hp84
                        rw [hu83] at hO
                        have gr82 : (r82 = 1 ∧ ((fI u76 0 8)).toInt = 5 ∧ (sgF u76 (fI u76 0 6)) = 59) ∨ r82 = 0 := by rcases hr82 with ⟨⟨h1, h2⟩, h3⟩ | ⟨_, h3⟩; exact Or.inl ⟨h3, h1, h2⟩; exact Or.inr h3
                        have kr82 : (r82.toInt = 1 ∧ ((fI u76 0 8)).toInt = 5 ∧ ((sgF u76 (fI u76 0 6))).toInt = 59) ∨ r82.toInt = 0 := by rcases gr82 with ⟨h1, h2, h3⟩ | h1; exact Or.inl ⟨by rw [h1]; rfl, h2, by rw [h3]; rfl⟩; exact Or.inr (by rw [h1]; rfl)
                        have hr82 : r82 = 0 ∨ r82 = 1 := by rcases gr82 with ⟨h1, _⟩ | h1; exact Or.inr h1; exact Or.inl h1
                        refine cVv (w := mW cy a) (As := [.int r82]) (rest := []) C hO (T_X11_must l D cy a _ (by exact hJ) (by exact (show ((fI u76 0 7) : Int32).toInt ≤ (fI u76 0 3 : Int32).toInt from by rw [show fI u76 0 3 = (fI u 0 3) from (Km37_I3 hT)]; first | done | assumption | omega | decide)) (by exact (show ((fI u76 0 6) : Int32).toInt ≤ ((fI u76 0 7) : Int32).toInt from by first | assumption | omega | decide)) (by exact (show ((fI u76 0 8) : Int32).toInt = 0 ∨ ((fI u76 0 6) : Int32).toInt < ((fI u76 0 7) : Int32).toInt from by first | assumption | omega | decide)) (r82)) (cwV 1 ht (gV wd_1651 wd_1653 wd_63 wd_121 wd_1654) rfl rfl rfl hd_yX11_must ⟨Nat.le_of_ble_eq_true rfl, Nat.le_of_ble_eq_true rfl⟩) 0 rfl mW_0 rfl rfl hl.1 (Nat.le_of_ble_eq_true rfl) dX11_readLine_308 rfl ⟨Nat.zero_le _, Nat.zero_le _⟩ (fun u86 H locs hp87 hO => ?_)
                        obtain ⟨hJ, hTu86, hx0u86, hx1u86, hx2u86, hx3u86, hx4u86⟩ := hp87
                        have hT : Km37 u u86 := Km37.tr (by exact hT) (Km27_to_Km37 hTu86)
                        have g88 : 0 ≤ (fI u86 0 7).toInt ∧ (fI u86 0 7).toInt ≤ 1601 := by have h := MI_7 hJ; exact h
                        have y0u86 : ((fI u86 0 7) : Int32).toInt ≤ ((fI u 0 3) : Int32).toInt := by have h : ((fI u86 0 7) : Int32).toInt ≤ (fI u86 0 3 : Int32).toInt := hx0u86; rw [show fI u86 0 3 = (fI u 0 3) from (Km37_I3 hT)] at h; exact h
                        have g89 : 0 ≤ (fI u86 0 6).toInt ∧ (fI u86 0 6).toInt ≤ 1600 := by have h := MI_6 hJ; exact h
                        have y1u86 : ((fI u86 0 6) : Int32).toInt ≤ ((fI u86 0 7) : Int32).toInt := by exact hx1u86
                        have g90 : 0 ≤ (fI u86 0 8).toInt ∧ (fI u86 0 8).toInt ≤ 5 := by have h := MI_8 hJ; exact h
                        have y2u86 : ((fI u86 0 8) : Int32).toInt = 0 ∨ ((fI u86 0 6) : Int32).toInt < ((fI u86 0 7) : Int32).toInt := by exact hx2u86
                        have y3u86 : ((fI u76 0 6) : Int32).toInt ≤ ((fI u86 0 6) : Int32).toInt := by exact hx3u86
                        have g91 : 0 ≤ (fI u86 0 4).toInt ∧ (fI u86 0 4).toInt ≤ 5 := by have h := MI_4 hJ; exact h
                        have y4u86 : ((fI u76 0 4) : Int32).toInt = 0 ∨ ¬ ((fI u86 0 4) : Int32).toInt = 0 := by exact hx4u86
                        clear gr82 kr82 hr82 y2u76 hx2u76 y4u76 hx4u76
                        have q92 : ((fI u86 0 7) : Int32).toInt ≤ ((fI u 0 3) : Int32).toInt := by first | assumption | omega | decide
                        have q93 : ((fI u86 0 6) : Int32).toInt ≤ ((fI u86 0 7) : Int32).toInt := by first | assumption | omega | decide
                        have q94 : ((fI u86 0 8) : Int32).toInt = 0 ∨ ((fI u86 0 6) : Int32).toInt < ((fI u86 0 7) : Int32).toInt := by first | assumption | omega | decide
                        have q95 : ¬ ((fI u86 0 4) : Int32).toInt = 0 ∨ ((fI u 0 6) : Int32).toInt < ((fI u86 0 6) : Int32).toInt := by first | assumption | omega | decide
                        refine hret _ _ _ _ _ dX11_readLine_311 ?_ hO
                        exact ⟨hJ, hT, (show ((fI u86 0 7) : Int32).toInt ≤ (fI u86 0 3 : Int32).toInt from by rw [show fI u86 0 3 = (fI u 0 3) from (Km37_I3 hT)]; first | done | exact q92), q93, q94, q95, (PQ.go hPQ (by exact (Km37_I36 hT)) (by exact (Km37_I37 hT)) (by exact (Eq.trans (by have h9 := (Km27_I38 hTu86); exact h9) (Eq.trans (by have h9 := (Km28_I38 hTu76); exact h9) (Km26_I38 hTu31)))) (by rw [(Km27_A11 hTu86)]; exact hon) (by exact (Eq.trans (by have h9 := (Km27_A18 hTu86); exact h9) (Eq.trans (by have h9 := (Km28_A18 hTu76); exact h9) (Km26_A18 hTu31)))) (by exact (Eq.trans (by have h9 := (Km27_A19 hTu86); exact h9) (Eq.trans (by have h9 := (Km28_A19 hTu76); exact h9) (Km26_A19 hTu31)))) (by exact (Eq.trans (by have h9 := (Km27_A23 hTu86); exact h9) (Eq.trans (by have h9 := (Km28_A23 hTu76); exact h9) (Km26_A23 hTu31)))) (Or.inl (by omega)) (by have h4 := hPQ.2.2.2; rw [show fA _ 3 = fA u 3 from (Eq.trans (by have h9 := (Km27_A3 hTu86); exact h9) (Eq.trans (by have h9 := (Km28_A3 hTu76); exact h9) (Km26_A3 hTu31))), show fA _ 6 = fA u 6 from (Eq.trans (by have h9 := (Km27_A6 hTu86); exact h9) (Eq.trans (by have h9 := (Km28_A6 hTu76); exact h9) (Km26_A6 hTu31)))]; omega))⟩
                    · have hj96 := lc_eq ez54 (by omega)
                      clear c55
                      refine lv_aload_n hx hb dX11_readLine_260 rfl (lv_at hl 1 rfl) ?_
                      refine gf_RX11_39 (v := .ref (a 9)) C hO 0 mW_0 rfl dX11_readLine_261 ?_
                      refine lv_aload_n hx hb dX11_readLine_264 rfl (lv_at hl 1 rfl) ?_
                      refine gf_RX11_246 (v := .int (fI u 0 37)) C hO 0 mW_0 (congrArg (fun z : Int32 => some (Value.int z)) (Km37_I37 hT)) dX11_readLine_265 ?_
                      refine lv_aload_n hx hb dX11_readLine_268 rfl (lv_at hl 1 rfl) ?_
                      refine lv_iconst (v := 2) hx hb dX11_readLine_269 (by decide) ?_
                      refine lv_bipush (v := 100) hx hb dX11_readLine_270 (by decide) ?_
                      have ho37 : fI u31 0 37 = fI u 0 37 := (Km37_I37 hT)
                      have ho11 : fA u31 11 = fA u 11 := (Km26_A11 hTu31)
                      refine cVi (w := mW cy a) (As := [.int 2, .int 100]) (rest := [.int (fI u 0 37), .ref (a 9)]) C hO (T_X11_once_2 l D cy a _ (by exact hJ) (by exact (show ((fI u31 0 7) : Int32).toInt ≤ (fI u31 0 3 : Int32).toInt from by rw [show fI u31 0 3 = (fI u 0 3) from (Km37_I3 hT)]; first | done | assumption | omega | decide)) (by exact (show ((fI u31 0 6) : Int32).toInt ≤ ((fI u31 0 7) : Int32).toInt from by first | assumption | omega | decide)) (by exact (show ((fI u31 0 8) : Int32).toInt = 0 ∨ ((fI u31 0 6) : Int32).toInt < ((fI u31 0 7) : Int32).toInt from by first | assumption | omega | decide)) (by exact (show (fI u31 0 36 : Int32).toInt + (fI u31 0 37 : Int32).toInt = 1 from by rw [show fI u31 0 36 = (fI u 0 36) from (Km37_I36 hT), show fI u31 0 37 = (fI u 0 37) from (Km37_I37 hT)]; first | done | assumption | omega | decide))) (cwV 2 ht (gV wd_1706 wd_1708 wd_76 wd_121 wd_1709) rfl rfl rfl hd_yX11_once ⟨Nat.le_of_ble_eq_true rfl, Nat.le_of_ble_eq_true rfl⟩) 0 rfl mW_0 rfl rfl hl.1 (Nat.le_of_ble_eq_true rfl) dX11_readLine_272 rfl ⟨Nat.zero_le _, Nat.zero_le _⟩ (fun r97 u98 H locs hp99 hO => ?_)
                      obtain ⟨hJ, hTu98, hx0u98, hx1u98, hx2u98, hx3u98, hx4u98, hx5u98⟩ := hp99
                      have hT : Km37 u u98 := Km37.tr (by exact hT) (Km28_to_Km37 hTu98)
                      have g100 : 0 ≤ (fI u98 0 7).toInt ∧ (fI u98 0 7).toInt ≤ 1601 := by have h := MI_7 hJ; exact h
                      have y0u98 : ((fI u98 0 7) : Int32).toInt ≤ ((fI u 0 3) : Int32).toInt := by have h : ((fI u98 0 7) : Int32).toInt ≤ (fI u98 0 3 : Int32).toInt := hx0u98; rw [show fI u98 0 3 = (fI u 0 3) from (Km37_I3 hT)] at h; exact h
                      have g101 : 0 ≤ (fI u98 0 6).toInt ∧ (fI u98 0 6).toInt ≤ 1600 := by have h := MI_6 hJ; exact h
                      have y1u98 : ((fI u98 0 6) : Int32).toInt ≤ ((fI u98 0 7) : Int32).toInt := by exact hx1u98
                      have g102 : 0 ≤ (fI u98 0 8).toInt ∧ (fI u98 0 8).toInt ≤ 5 := by have h := MI_8 hJ; exact h
                      have y2u98 : ((fI u98 0 8) : Int32).toInt = 0 ∨ ((fI u98 0 6) : Int32).toInt < ((fI u98 0 7) : Int32).toInt := by exact hx2u98
                      have y3u98 : ((fI u31 0 6) : Int32).toInt ≤ ((fI u98 0 6) : Int32).toInt := by exact hx3u98
                      have g103 : 0 ≤ (fI u98 0 4).toInt ∧ (fI u98 0 4).toInt ≤ 5 := by have h := MI_4 hJ; exact h
                      have y4u98 : ((fI u 0 4) : Int32).toInt = 0 ∨ ¬ ((fI u98 0 4) : Int32).toInt = 0 := by have h : (fI u31 0 4 : Int32).toInt = 0 ∨ ¬ ((fI u98 0 4) : Int32).toInt = 0 := hx4u98; rw [show fI u31 0 4 = (fI u 0 4) from (Km26_I4 hTu31)] at h; exact h
                      clear y2u31 hx2u31
                      have hon : bitF (fA u98 11 (fI u 0 37).toNatClampNeg) 0 = bitF (fA u 11 (fI u 0 37).toNatClampNeg) 0 := by have h := hx5u98; rw [ho37, ho11] at h; exact h
                      refine aIs C hO 9 mW_9 (i_in (X := ((fI u 0 37)).toInt) rfl (by omega) (by omega)) mW_s9 dX11_readLine_275 (fun H locs hO => ?_)
                      have hT := Km37_wA9 hO hT
                      have hJ := MIsA_9 hO hJ
                      refine lv_lload_n hx hb dX11_readLine_276 rfl (lv_at hl 0 rfl) ?_
                      refine lv_ldc2 (v := 1685217655) hx hb hown (ht _ wd_1581) dX11_readLine_277 ?_
                      refine W.lcmp hx hb dX11_readLine_280 ?_
                      refine tE (y := (-1)) (by rw [hj96]; decide +kernel) ?_
                      refine bt_ne (tgt := 301) (X := (-1)) hx hb dX11_readLine_281 (by decide) rfl (by omega) ?_
                      refine lv_aload_n hx hb dX11_readLine_301 rfl (lv_at hl 1 rfl) ?_
                      refine lv_aload_n hx hb dX11_readLine_302 rfl (lv_at hl 1 rfl) ?_
                      refine lv_bipush (v := 59) hx hb dX11_readLine_303 (by decide) ?_
                      refine cVi (w := mW cy a) (As := [.int 59]) (rest := [.ref (a 0)]) C hO (T_X11_isSignHere l D cy a _ (by exact hJ) ((fI u98 0 8)) (by exact rfl) ((sgF u98 (fI u98 0 6))) (by exact rfl) (59)) (cwV 1 ht (gV wd_1682 wd_1684 wd_70 wd_121 wd_1685) rfl rfl rfl hd_yX11_isSignHere ⟨Nat.le_of_ble_eq_true rfl, Nat.le_of_ble_eq_true rfl⟩) 0 rfl mW_0 rfl rfl hl.1 (Nat.le_of_ble_eq_true rfl) dX11_readLine_305 rfl ⟨Nat.zero_le _, Nat.zero_le _⟩ (fun r104 u105 H locs hp106 hO => ?_)
                      obtain ⟨hr104, hu105⟩ := hp106
                      rw [hu105] at hO
                      have gr104 : (r104 = 1 ∧ ((fI u98 0 8)).toInt = 5 ∧ (sgF u98 (fI u98 0 6)) = 59) ∨ r104 = 0 := by rcases hr104 with ⟨⟨h1, h2⟩, h3⟩ | ⟨_, h3⟩; exact Or.inl ⟨h3, h1, h2⟩; exact Or.inr h3
                      have kr104 : (r104.toInt = 1 ∧ ((fI u98 0 8)).toInt = 5 ∧ ((sgF u98 (fI u98 0 6))).toInt = 59) ∨ r104.toInt = 0 := by rcases gr104 with ⟨h1, h2, h3⟩ | h1; exact Or.inl ⟨by rw [h1]; rfl, h2, by rw [h3]; rfl⟩; exact Or.inr (by rw [h1]; rfl)
                      have hr104 : r104 = 0 ∨ r104 = 1 := by rcases gr104 with ⟨h1, _⟩ | h1; exact Or.inr h1; exact Or.inl h1
                      refine cVv (w := mW cy a) (As := [.int r104]) (rest := []) C hO (T_X11_must l D cy a _ (by exact hJ) (by exact (show ((fI u98 0 7) : Int32).toInt ≤ (fI u98 0 3 : Int32).toInt from by rw [show fI u98 0 3 = (fI u 0 3) from (Km37_I3 hT)]; first | done | assumption | omega | decide)) (by exact (show ((fI u98 0 6) : Int32).toInt ≤ ((fI u98 0 7) : Int32).toInt from by first | assumption | omega | decide)) (by exact (show ((fI u98 0 8) : Int32).toInt = 0 ∨ ((fI u98 0 6) : Int32).toInt < ((fI u98 0 7) : Int32).toInt from by first | assumption | omega | decide)) (r104)) (cwV 1 ht (gV wd_1651 wd_1653 wd_63 wd_121 wd_1654) rfl rfl rfl hd_yX11_must ⟨Nat.le_of_ble_eq_true rfl, Nat.le_of_ble_eq_true rfl⟩) 0 rfl mW_0 rfl rfl hl.1 (Nat.le_of_ble_eq_true rfl) dX11_readLine_308 rfl ⟨Nat.zero_le _, Nat.zero_le _⟩ (fun u108 H locs hp109 hO => ?_)
                      obtain ⟨hJ, hTu108, hx0u108, hx1u108, hx2u108, hx3u108, hx4u108⟩ := hp109
                      have hT : Km37 u u108 := Km37.tr (by exact hT) (Km27_to_Km37 hTu108)
                      have g110 : 0 ≤ (fI u108 0 7).toInt ∧ (fI u108 0 7).toInt ≤ 1601 := by have h := MI_7 hJ; exact h
                      have y0u108 : ((fI u108 0 7) : Int32).toInt ≤ ((fI u 0 3) : Int32).toInt := by have h : ((fI u108 0 7) : Int32).toInt ≤ (fI u108 0 3 : Int32).toInt := hx0u108; rw [show fI u108 0 3 = (fI u 0 3) from (Km37_I3 hT)] at h; exact h
                      have g111 : 0 ≤ (fI u108 0 6).toInt ∧ (fI u108 0 6).toInt ≤ 1600 := by have h := MI_6 hJ; exact h
                      have y1u108 : ((fI u108 0 6) : Int32).toInt ≤ ((fI u108 0 7) : Int32).toInt := by exact hx1u108
                      have g112 : 0 ≤ (fI u108 0 8).toInt ∧ (fI u108 0 8).toInt ≤ 5 := by have h := MI_8 hJ; exact h
                      have y2u108 : ((fI u108 0 8) : Int32).toInt = 0 ∨ ((fI u108 0 6) : Int32).toInt < ((fI u108 0 7) : Int32).toInt := by exact hx2u108
                      have y3u108 : ((fI u98 0 6) : Int32).toInt ≤ ((fI u108 0 6) : Int32).toInt := by exact hx3u108
                      have g113 : 0 ≤ (fI u108 0 4).toInt ∧ (fI u108 0 4).toInt ≤ 5 := by have h := MI_4 hJ; exact h
                      have y4u108 : ((fI u98 0 4) : Int32).toInt = 0 ∨ ¬ ((fI u108 0 4) : Int32).toInt = 0 := by exact hx4u108
                      clear gr104 kr104 hr104 y2u98 hx2u98 y4u98 hx4u98
                      have q114 : ((fI u108 0 7) : Int32).toInt ≤ ((fI u 0 3) : Int32).toInt := by first | assumption | omega | decide
                      have q115 : ((fI u108 0 6) : Int32).toInt ≤ ((fI u108 0 7) : Int32).toInt := by first | assumption | omega | decide
                      have q116 : ((fI u108 0 8) : Int32).toInt = 0 ∨ ((fI u108 0 6) : Int32).toInt < ((fI u108 0 7) : Int32).toInt := by first | assumption | omega | decide
                      have q117 : ¬ ((fI u108 0 4) : Int32).toInt = 0 ∨ ((fI u 0 6) : Int32).toInt < ((fI u108 0 6) : Int32).toInt := by first | assumption | omega | decide
                      refine hret _ _ _ _ _ dX11_readLine_311 ?_ hO
                      exact ⟨hJ, hT, (show ((fI u108 0 7) : Int32).toInt ≤ (fI u108 0 3 : Int32).toInt from by rw [show fI u108 0 3 = (fI u 0 3) from (Km37_I3 hT)]; first | done | exact q114), q115, q116, q117, (PQ.go hPQ (by exact (Km37_I36 hT)) (by exact (Km37_I37 hT)) (by exact (Eq.trans (by have h9 := (Km27_I38 hTu108); exact h9) (Eq.trans (by have h9 := (Km28_I38 hTu98); exact h9) (Km26_I38 hTu31)))) (by rw [(Km27_A11 hTu108)]; exact hon) (by exact (Eq.trans (by have h9 := (Km27_A18 hTu108); exact h9) (Eq.trans (by have h9 := (Km28_A18 hTu98); exact h9) (Km26_A18 hTu31)))) (by exact (Eq.trans (by have h9 := (Km27_A19 hTu108); exact h9) (Eq.trans (by have h9 := (Km28_A19 hTu98); exact h9) (Km26_A19 hTu31)))) (by exact (Eq.trans (by have h9 := (Km27_A23 hTu108); exact h9) (Eq.trans (by have h9 := (Km28_A23 hTu98); exact h9) (Km26_A23 hTu31)))) (Or.inl (by omega)) (by have h4 := hPQ.2.2.2; rw [show fA _ 3 = fA u 3 from (Eq.trans (by have h9 := (Km27_A3 hTu108); exact h9) (Eq.trans (by have h9 := (Km28_A3 hTu98); exact h9) (Km26_A3 hTu31))), show fA _ 6 = fA u 6 from (Eq.trans (by have h9 := (Km27_A6 hTu108); exact h9) (Eq.trans (by have h9 := (Km28_A6 hTu98); exact h9) (Km26_A6 hTu31)))]; omega))⟩
                  · have hj118 := lc_eq ez51 (by omega)
                    clear c52
                    have hf119 := FullOk.p4 hcr24 hj118
                    have hco120 := hPQ.2.1 hf119
                    have ho37 : fI u31 0 37 = fI u 0 37 := (Km37_I37 hT)
                    refine lv_aload_n hx hb dX11_readLine_248 rfl (lv_at hl 1 rfl) ?_
                    refine cVv (w := mW cy a) (As := []) (rest := []) C hO (T_X11_readRule l D cy a _ (by exact hJ) (by exact (show ((fI u31 0 7) : Int32).toInt ≤ (fI u31 0 3 : Int32).toInt from by rw [show fI u31 0 3 = (fI u 0 3) from (Km37_I3 hT)]; first | done | assumption | omega | decide)) (by exact (show ((fI u31 0 6) : Int32).toInt ≤ ((fI u31 0 7) : Int32).toInt from by first | assumption | omega | decide)) (by exact (show ((fI u31 0 8) : Int32).toInt = 0 ∨ ((fI u31 0 6) : Int32).toInt < ((fI u31 0 7) : Int32).toInt from by first | assumption | omega | decide)) (by exact (show (fI u31 0 4 : Int32).toInt = 0 from by rw [show fI u31 0 4 = (fI u 0 4) from (Km26_I4 hTu31)]; first | done | assumption | omega | decide)) (by exact (show (fI u31 0 36 : Int32).toInt + (fI u31 0 37 : Int32).toInt = 1 from by rw [show fI u31 0 36 = (fI u 0 36) from (Km37_I36 hT), show fI u31 0 37 = (fI u 0 37) from (Km37_I37 hT)]; first | done | assumption | omega | decide)) (by exact (show (fI u31 0 38 : Int32).toInt = 560 * (fI u31 0 37 : Int32).toInt from by rw [show fI u31 0 38 = (fI u 0 38) from (Km26_I38 hTu31), show fI u31 0 37 = (fI u 0 37) from (Km37_I37 hT)]; first | done | assumption | omega | decide))) (cwV 0 ht (gV wd_1666 wd_1668 wd_66 wd_121 wd_1669) rfl rfl rfl hd_yX11_readRule ⟨Nat.le_of_ble_eq_true rfl, Nat.le_of_ble_eq_true rfl⟩) 0 rfl mW_0 rfl rfl hl.1 (Nat.le_of_ble_eq_true rfl) dX11_readLine_249 rfl ⟨Nat.zero_le _, Nat.zero_le _⟩ (fun u122 H locs hp123 hO => ?_)
                    obtain ⟨hJ, hTu122, hx0u122, hx1u122, hx2u122, hx3u122, hx4u122, hx5u122⟩ := hp123
                    have hT : Km37 u u122 := Km37.tr (by exact hT) (Km35_to_Km37 hTu122)
                    have g124 : 0 ≤ (fI u122 0 7).toInt ∧ (fI u122 0 7).toInt ≤ 1601 := by have h := MI_7 hJ; exact h
                    have y0u122 : ((fI u122 0 7) : Int32).toInt ≤ ((fI u 0 3) : Int32).toInt := by have h : ((fI u122 0 7) : Int32).toInt ≤ (fI u122 0 3 : Int32).toInt := hx0u122; rw [show fI u122 0 3 = (fI u 0 3) from (Km37_I3 hT)] at h; exact h
                    have g125 : 0 ≤ (fI u122 0 6).toInt ∧ (fI u122 0 6).toInt ≤ 1600 := by have h := MI_6 hJ; exact h
                    have y1u122 : ((fI u122 0 6) : Int32).toInt ≤ ((fI u122 0 7) : Int32).toInt := by exact hx1u122
                    have g126 : 0 ≤ (fI u122 0 8).toInt ∧ (fI u122 0 8).toInt ≤ 5 := by have h := MI_8 hJ; exact h
                    have y2u122 : ((fI u122 0 8) : Int32).toInt = 0 ∨ ((fI u122 0 6) : Int32).toInt < ((fI u122 0 7) : Int32).toInt := by exact hx2u122
                    have y3u122 : ((fI u31 0 6) : Int32).toInt ≤ ((fI u122 0 6) : Int32).toInt := by exact hx3u122
                    clear y2u31 hx2u31
                    have hl5 : bitF (fA u122 11 (fI u 0 37).toNatClampNeg) 0 = 1 := by have h := hx5u122; rw [ho37] at h; exact h
                    have hl4 : ¬ (fI u122 0 4).toInt = 0 ∨ LawOk u122 (fI u 0 37) := by have h := hx4u122; rw [ho37] at h; exact h
                    clear hx5u122 hx4u122
                    refine lv_lload_n hx hb dX11_readLine_252 rfl (lv_at hl 0 rfl) ?_
                    refine lv_ldc2 (v := 1650549611) hx hb hown (ht _ wd_1580) dX11_readLine_253 ?_
                    refine W.lcmp hx hb dX11_readLine_256 ?_
                    refine tE (y := (-1)) (by rw [hj118]; decide +kernel) ?_
                    refine bt_ne (tgt := 276) (X := (-1)) hx hb dX11_readLine_257 (by decide) rfl (by omega) ?_
                    refine lv_lload_n hx hb dX11_readLine_276 rfl (lv_at hl 0 rfl) ?_
                    refine lv_ldc2 (v := 1685217655) hx hb hown (ht _ wd_1581) dX11_readLine_277 ?_
                    refine W.lcmp hx hb dX11_readLine_280 ?_
                    refine tE (y := (-1)) (by rw [hj118]; decide +kernel) ?_
                    refine bt_ne (tgt := 301) (X := (-1)) hx hb dX11_readLine_281 (by decide) rfl (by omega) ?_
                    refine lv_aload_n hx hb dX11_readLine_301 rfl (lv_at hl 1 rfl) ?_
                    refine lv_aload_n hx hb dX11_readLine_302 rfl (lv_at hl 1 rfl) ?_
                    refine lv_bipush (v := 59) hx hb dX11_readLine_303 (by decide) ?_
                    refine cVi (w := mW cy a) (As := [.int 59]) (rest := [.ref (a 0)]) C hO (T_X11_isSignHere l D cy a _ (by exact hJ) ((fI u122 0 8)) (by exact rfl) ((sgF u122 (fI u122 0 6))) (by exact rfl) (59)) (cwV 1 ht (gV wd_1682 wd_1684 wd_70 wd_121 wd_1685) rfl rfl rfl hd_yX11_isSignHere ⟨Nat.le_of_ble_eq_true rfl, Nat.le_of_ble_eq_true rfl⟩) 0 rfl mW_0 rfl rfl hl.1 (Nat.le_of_ble_eq_true rfl) dX11_readLine_305 rfl ⟨Nat.zero_le _, Nat.zero_le _⟩ (fun r127 u128 H locs hp129 hO => ?_)
                    obtain ⟨hr127, hu128⟩ := hp129
                    rw [hu128] at hO
                    have gr127 : (r127 = 1 ∧ ((fI u122 0 8)).toInt = 5 ∧ (sgF u122 (fI u122 0 6)) = 59) ∨ r127 = 0 := by rcases hr127 with ⟨⟨h1, h2⟩, h3⟩ | ⟨_, h3⟩; exact Or.inl ⟨h3, h1, h2⟩; exact Or.inr h3
                    have kr127 : (r127.toInt = 1 ∧ ((fI u122 0 8)).toInt = 5 ∧ ((sgF u122 (fI u122 0 6))).toInt = 59) ∨ r127.toInt = 0 := by rcases gr127 with ⟨h1, h2, h3⟩ | h1; exact Or.inl ⟨by rw [h1]; rfl, h2, by rw [h3]; rfl⟩; exact Or.inr (by rw [h1]; rfl)
                    have hr127 : r127 = 0 ∨ r127 = 1 := by rcases gr127 with ⟨h1, _⟩ | h1; exact Or.inr h1; exact Or.inl h1
                    refine cVv (w := mW cy a) (As := [.int r127]) (rest := []) C hO (T_X11_must l D cy a _ (by exact hJ) (by exact (show ((fI u122 0 7) : Int32).toInt ≤ (fI u122 0 3 : Int32).toInt from by rw [show fI u122 0 3 = (fI u 0 3) from (Km37_I3 hT)]; first | done | assumption | omega | decide)) (by exact (show ((fI u122 0 6) : Int32).toInt ≤ ((fI u122 0 7) : Int32).toInt from by first | assumption | omega | decide)) (by exact (show ((fI u122 0 8) : Int32).toInt = 0 ∨ ((fI u122 0 6) : Int32).toInt < ((fI u122 0 7) : Int32).toInt from by first | assumption | omega | decide)) (r127)) (cwV 1 ht (gV wd_1651 wd_1653 wd_63 wd_121 wd_1654) rfl rfl rfl hd_yX11_must ⟨Nat.le_of_ble_eq_true rfl, Nat.le_of_ble_eq_true rfl⟩) 0 rfl mW_0 rfl rfl hl.1 (Nat.le_of_ble_eq_true rfl) dX11_readLine_308 rfl ⟨Nat.zero_le _, Nat.zero_le _⟩ (fun u131 H locs hp132 hO => ?_)
                    have g133 : 0 ≤ (fI u122 0 4).toInt ∧ (fI u122 0 4).toInt ≤ 5 := by have h := MI_4 hJ; exact h
                    obtain ⟨hJ, hTu131, hx0u131, hx1u131, hx2u131, hx3u131, hx4u131⟩ := hp132
                    have hT : Km37 u u131 := Km37.tr (by exact hT) (Km27_to_Km37 hTu131)
                    have g134 : 0 ≤ (fI u131 0 7).toInt ∧ (fI u131 0 7).toInt ≤ 1601 := by have h := MI_7 hJ; exact h
                    have y0u131 : ((fI u131 0 7) : Int32).toInt ≤ ((fI u 0 3) : Int32).toInt := by have h : ((fI u131 0 7) : Int32).toInt ≤ (fI u131 0 3 : Int32).toInt := hx0u131; rw [show fI u131 0 3 = (fI u 0 3) from (Km37_I3 hT)] at h; exact h
                    have g135 : 0 ≤ (fI u131 0 6).toInt ∧ (fI u131 0 6).toInt ≤ 1600 := by have h := MI_6 hJ; exact h
                    have y1u131 : ((fI u131 0 6) : Int32).toInt ≤ ((fI u131 0 7) : Int32).toInt := by exact hx1u131
                    have g136 : 0 ≤ (fI u131 0 8).toInt ∧ (fI u131 0 8).toInt ≤ 5 := by have h := MI_8 hJ; exact h
                    have y2u131 : ((fI u131 0 8) : Int32).toInt = 0 ∨ ((fI u131 0 6) : Int32).toInt < ((fI u131 0 7) : Int32).toInt := by exact hx2u131
                    have y3u131 : ((fI u122 0 6) : Int32).toInt ≤ ((fI u131 0 6) : Int32).toInt := by exact hx3u131
                    have g137 : 0 ≤ (fI u131 0 4).toInt ∧ (fI u131 0 4).toInt ≤ 5 := by have h := MI_4 hJ; exact h
                    have y4u131 : ((fI u122 0 4) : Int32).toInt = 0 ∨ ¬ ((fI u131 0 4) : Int32).toInt = 0 := by exact hx4u131
                    clear gr127 kr127 hr127 y2u122 hx2u122
                    have q138 : ((fI u131 0 7) : Int32).toInt ≤ ((fI u 0 3) : Int32).toInt := by first | assumption | omega | decide
                    have q139 : ((fI u131 0 6) : Int32).toInt ≤ ((fI u131 0 7) : Int32).toInt := by first | assumption | omega | decide
                    have q140 : ((fI u131 0 8) : Int32).toInt = 0 ∨ ((fI u131 0 6) : Int32).toInt < ((fI u131 0 7) : Int32).toInt := by first | assumption | omega | decide
                    have q141 : ¬ ((fI u131 0 4) : Int32).toInt = 0 ∨ ((fI u 0 6) : Int32).toInt < ((fI u131 0 6) : Int32).toInt := by first | assumption | omega | decide
                    refine hret _ _ _ _ _ dX11_readLine_311 ?_ hO
                    exact ⟨hJ, hT, (show ((fI u131 0 7) : Int32).toInt ≤ (fI u131 0 3 : Int32).toInt from by rw [show fI u131 0 3 = (fI u 0 3) from (Km37_I3 hT)]; first | done | exact q138), q139, q140, q141, (PQ.law hPQ (by exact (Km37_I36 hT)) (by exact (Km37_I37 hT)) (by rw [(Km27_A11 hTu131)]; exact hl5) (by rcases hl4 with h | h; exact Or.inl (by have y := y4u131; omega); exact Or.inr (LawOk_eq h (by exact (Km27_A11 hTu131)) (by exact (Km27_A18 hTu131)) (by exact (Km27_A19 hTu131)) (by exact (Km27_A23 hTu131)))) (by have h4 := hPQ.2.2.2; rw [show fA _ 3 = fA u 3 from (Eq.trans (Km27_A3 hTu131) (Eq.trans (Km35_A3 hTu122) (Km26_A3 hTu31))), show fA _ 6 = fA u 6 from (Eq.trans (Km27_A6 hTu131) (Eq.trans (Km35_A6 hTu122) (Km26_A6 hTu31)))]; omega))⟩
                · have hj142 := lc_eq ez48 (by omega)
                  clear c49
                  refine lv_aload_n hx hb dX11_readLine_210 rfl (lv_at hl 1 rfl) ?_
                  refine gf_RX11_45 (v := .ref (a 11)) C hO 0 mW_0 rfl dX11_readLine_211 ?_
                  refine lv_aload_n hx hb dX11_readLine_214 rfl (lv_at hl 1 rfl) ?_
                  refine gf_RX11_246 (v := .int (fI u 0 37)) C hO 0 mW_0 (congrArg (fun z : Int32 => some (Value.int z)) (Km37_I37 hT)) dX11_readLine_215 ?_
                  have ho11 : fA u31 11 = fA u 11 := (Km26_A11 hTu31)
                  refine lv_dup2_11 hx hb dX11_readLine_218 rfl rfl ?_
                  refine aI C hO 11 mW_11 (i_in (X := ((fI u 0 37)).toInt) rfl (by omega) (by omega)) dX11_readLine_219 ?_
                  refine tE (y := (fA u 11 ((fI u 0 37)).toNatClampNeg)) (by exact (congrFun (Km26_A11 hTu31) _)) ?_
                  refine lv_iconst (v := 2) hx hb dX11_readLine_220 (by decide) ?_
                  refine lv_ior hx hb dX11_readLine_221 ?_
                  refine lv_topi (fun z143 ez143 => ?_)
                  refine aIs C hO 11 mW_11 (i_in (X := ((fI u 0 37)).toInt) rfl (by omega) (by omega)) mW_s11 dX11_readLine_222 (fun H locs hO => ?_)
                  have hT := Km37_wA11 hO hT
                  have hJ := MIsA_11 hO hJ (show ¬ (fI u31 0 36).toNatClampNeg = (fI u 0 37).toNatClampNeg from by rw [show fI u31 0 36 = fI u 0 36 from (Km37_I36 hT)]; exact (rb_ne (b := fI u 0 36) (r := fI u 0 37) (by omega) (by omega) (by omega)))
                  refine lv_aload_n hx hb dX11_readLine_223 rfl (lv_at hl 1 rfl) ?_
                  refine gf_RX11_36 (v := .ref (a 8)) C hO 0 mW_0 rfl dX11_readLine_224 ?_
                  refine lv_aload_n hx hb dX11_readLine_227 rfl (lv_at hl 1 rfl) ?_
                  refine gf_RX11_246 (v := .int (fI u 0 37)) C hO 0 mW_0 (congrArg (fun z : Int32 => some (Value.int z)) (Km37_I37 hT)) dX11_readLine_228 ?_
                  refine lv_aload_n hx hb dX11_readLine_231 rfl (lv_at hl 1 rfl) ?_
                  refine lv_aload_n hx hb dX11_readLine_232 rfl (lv_at hl 1 rfl) ?_
                  refine cVi (w := mW cy a) (As := []) (rest := [.ref (a 0), .int (fI u 0 37), .ref (a 8)]) C hO (T_X11_knotHere l D cy a _ (by exact hJ) ((fA u 3 ((fI u 0 37)).toNatClampNeg)) (by exact (Eq.trans (congrArg (fun z : Int32 => fA _ 3 z.toNatClampNeg) (Km37_I37 hT)) (congrFun (by have h9 := (Km26_A3 hTu31); exact h9) _)))) (cwV 0 ht (gV wd_1623 wd_1625 wd_56 wd_121 wd_1626) rfl rfl rfl hd_yX11_knotHere ⟨Nat.le_of_ble_eq_true rfl, Nat.le_of_ble_eq_true rfl⟩) 0 rfl mW_0 rfl rfl hl.1 (Nat.le_of_ble_eq_true rfl) dX11_readLine_233 rfl ⟨Nat.zero_le _, Nat.zero_le _⟩ (fun r144 u145 H locs hp146 hO => ?_)
                  obtain ⟨hr144, hu145⟩ := hp146
                  rw [hu145] at hO
                  refine cVi (w := mW cy a) (As := [.int r144]) (rest := [.int (fI u 0 37), .ref (a 8)]) C hO (T_X11_known l D cy a _ (by exact hJ) (by exact (show ((fI u31 0 7) : Int32).toInt ≤ (fI u31 0 3 : Int32).toInt from by rw [show fI u31 0 3 = (fI u 0 3) from (Km37_I3 hT)]; first | done | assumption | omega | decide)) (by exact (show ((fI u31 0 6) : Int32).toInt ≤ ((fI u31 0 7) : Int32).toInt from by first | assumption | omega | decide)) (by exact (show ((fI u31 0 8) : Int32).toInt = 0 ∨ ((fI u31 0 6) : Int32).toInt < ((fI u31 0 7) : Int32).toInt from by first | assumption | omega | decide)) (r144) (by first | omega | decide)) (cwV 1 ht (gV wd_1639 wd_1641 wd_60 wd_121 wd_1642) rfl rfl rfl hd_yX11_known ⟨Nat.le_of_ble_eq_true rfl, Nat.le_of_ble_eq_true rfl⟩) 0 rfl mW_0 rfl rfl hl.1 (Nat.le_of_ble_eq_true rfl) dX11_readLine_236 rfl ⟨Nat.zero_le _, Nat.zero_le _⟩ (fun r147 u148 H locs hp149 hO => ?_)
                  obtain ⟨hr147, hJ, hTu148, hx0u148, hx1u148, hx2u148, hx3u148, hx4u148, hx5u148⟩ := hp149
                  have hT : Km37 u u148 := Km37.tr (by exact hT) (Km27_to_Km37 hTu148)
                  have g150 : 0 ≤ (fI u148 0 7).toInt ∧ (fI u148 0 7).toInt ≤ 1601 := by have h := MI_7 hJ; exact h
                  have y0u148 : ((fI u148 0 7) : Int32).toInt ≤ ((fI u 0 3) : Int32).toInt := by have h : ((fI u148 0 7) : Int32).toInt ≤ (fI u148 0 3 : Int32).toInt := hx0u148; rw [show fI u148 0 3 = (fI u 0 3) from (Km37_I3 hT)] at h; exact h
                  have g151 : 0 ≤ (fI u148 0 6).toInt ∧ (fI u148 0 6).toInt ≤ 1600 := by have h := MI_6 hJ; exact h
                  have y1u148 : ((fI u148 0 6) : Int32).toInt ≤ ((fI u148 0 7) : Int32).toInt := by exact hx1u148
                  have g152 : 0 ≤ (fI u148 0 8).toInt ∧ (fI u148 0 8).toInt ≤ 5 := by have h := MI_8 hJ; exact h
                  have y2u148 : ((fI u148 0 8) : Int32).toInt = 0 ∨ ((fI u148 0 6) : Int32).toInt < ((fI u148 0 7) : Int32).toInt := by exact hx2u148
                  have y3u148 : ((fI u31 0 6) : Int32).toInt ≤ ((fI u148 0 6) : Int32).toInt := by exact hx3u148
                  have g153 : 0 ≤ (fI u148 0 4).toInt ∧ (fI u148 0 4).toInt ≤ 5 := by have h := MI_4 hJ; exact h
                  have y4u148 : ((fI u 0 4) : Int32).toInt = 0 ∨ ¬ ((fI u148 0 4) : Int32).toInt = 0 := by have h : (fI u31 0 4 : Int32).toInt = 0 ∨ ¬ ((fI u148 0 4) : Int32).toInt = 0 := hx4u148; rw [show fI u31 0 4 = (fI u 0 4) from (by have h9 := (Km26_I4 hTu31); exact h9)] at h; exact h
                  have y5u148 : ¬ ((fI u148 0 4) : Int32).toInt = 0 ∨ 0 ≤ (r144 : Int32).toInt := by exact hx5u148
                  clear hr144 y2u31 hx2u31
                  refine aIs C hO 8 mW_8 (i_in (X := ((fI u 0 37)).toInt) rfl (by omega) (by omega)) mW_s8 dX11_readLine_239 (fun H locs hO => ?_)
                  have hT := Km37_wA8 hO hT
                  have hJ := MIsA_8 hO hJ (by first | decide | omega)
                  refine lv_lload_n hx hb dX11_readLine_240 rfl (lv_at hl 0 rfl) ?_
                  refine lv_ldc2 (v := 7102839) hx hb hown (ht _ wd_1579) dX11_readLine_241 ?_
                  refine W.lcmp hx hb dX11_readLine_244 ?_
                  refine tE (y := 1) (by rw [hj142]; decide +kernel) ?_
                  refine bt_ne (tgt := 252) (X := 1) hx hb dX11_readLine_245 (by decide) rfl (by omega) ?_
                  refine lv_lload_n hx hb dX11_readLine_252 rfl (lv_at hl 0 rfl) ?_
                  refine lv_ldc2 (v := 1650549611) hx hb hown (ht _ wd_1580) dX11_readLine_253 ?_
                  refine W.lcmp hx hb dX11_readLine_256 ?_
                  refine tE (y := 1) (by rw [hj142]; decide +kernel) ?_
                  refine bt_ne (tgt := 276) (X := 1) hx hb dX11_readLine_257 (by decide) rfl (by omega) ?_
                  refine lv_lload_n hx hb dX11_readLine_276 rfl (lv_at hl 0 rfl) ?_
                  refine lv_ldc2 (v := 1685217655) hx hb hown (ht _ wd_1581) dX11_readLine_277 ?_
                  refine W.lcmp hx hb dX11_readLine_280 ?_
                  refine tE (y := 1) (by rw [hj142]; decide +kernel) ?_
                  refine bt_ne (tgt := 301) (X := 1) hx hb dX11_readLine_281 (by decide) rfl (by omega) ?_
                  refine lv_aload_n hx hb dX11_readLine_301 rfl (lv_at hl 1 rfl) ?_
                  refine lv_aload_n hx hb dX11_readLine_302 rfl (lv_at hl 1 rfl) ?_
                  refine lv_bipush (v := 59) hx hb dX11_readLine_303 (by decide) ?_
                  refine cVi (w := mW cy a) (As := [.int 59]) (rest := [.ref (a 0)]) C hO (T_X11_isSignHere l D cy a _ (by exact hJ) ((fI u148 0 8)) (by exact rfl) ((sgF u148 (fI u148 0 6))) (by exact rfl) (59)) (cwV 1 ht (gV wd_1682 wd_1684 wd_70 wd_121 wd_1685) rfl rfl rfl hd_yX11_isSignHere ⟨Nat.le_of_ble_eq_true rfl, Nat.le_of_ble_eq_true rfl⟩) 0 rfl mW_0 rfl rfl hl.1 (Nat.le_of_ble_eq_true rfl) dX11_readLine_305 rfl ⟨Nat.zero_le _, Nat.zero_le _⟩ (fun r154 u155 H locs hp156 hO => ?_)
                  obtain ⟨hr154, hu155⟩ := hp156
                  rw [hu155] at hO
                  have gr154 : (r154 = 1 ∧ ((fI u148 0 8)).toInt = 5 ∧ (sgF u148 (fI u148 0 6)) = 59) ∨ r154 = 0 := by rcases hr154 with ⟨⟨h1, h2⟩, h3⟩ | ⟨_, h3⟩; exact Or.inl ⟨h3, h1, h2⟩; exact Or.inr h3
                  have kr154 : (r154.toInt = 1 ∧ ((fI u148 0 8)).toInt = 5 ∧ ((sgF u148 (fI u148 0 6))).toInt = 59) ∨ r154.toInt = 0 := by rcases gr154 with ⟨h1, h2, h3⟩ | h1; exact Or.inl ⟨by rw [h1]; rfl, h2, by rw [h3]; rfl⟩; exact Or.inr (by rw [h1]; rfl)
                  have hr154 : r154 = 0 ∨ r154 = 1 := by rcases gr154 with ⟨h1, _⟩ | h1; exact Or.inr h1; exact Or.inl h1
                  refine cVv (w := mW cy a) (As := [.int r154]) (rest := []) C hO (T_X11_must l D cy a _ (by exact hJ) (by exact (show ((fI u148 0 7) : Int32).toInt ≤ (fI u148 0 3 : Int32).toInt from by rw [show fI u148 0 3 = (fI u 0 3) from (Km37_I3 hT)]; first | done | assumption | omega | decide)) (by exact (show ((fI u148 0 6) : Int32).toInt ≤ ((fI u148 0 7) : Int32).toInt from by first | assumption | omega | decide)) (by exact (show ((fI u148 0 8) : Int32).toInt = 0 ∨ ((fI u148 0 6) : Int32).toInt < ((fI u148 0 7) : Int32).toInt from by first | assumption | omega | decide)) (r154)) (cwV 1 ht (gV wd_1651 wd_1653 wd_63 wd_121 wd_1654) rfl rfl rfl hd_yX11_must ⟨Nat.le_of_ble_eq_true rfl, Nat.le_of_ble_eq_true rfl⟩) 0 rfl mW_0 rfl rfl hl.1 (Nat.le_of_ble_eq_true rfl) dX11_readLine_308 rfl ⟨Nat.zero_le _, Nat.zero_le _⟩ (fun u158 H locs hp159 hO => ?_)
                  obtain ⟨hJ, hTu158, hx0u158, hx1u158, hx2u158, hx3u158, hx4u158⟩ := hp159
                  have hT : Km37 u u158 := Km37.tr (by exact hT) (Km27_to_Km37 hTu158)
                  have g160 : 0 ≤ (fI u158 0 7).toInt ∧ (fI u158 0 7).toInt ≤ 1601 := by have h := MI_7 hJ; exact h
                  have y0u158 : ((fI u158 0 7) : Int32).toInt ≤ ((fI u 0 3) : Int32).toInt := by have h : ((fI u158 0 7) : Int32).toInt ≤ (fI u158 0 3 : Int32).toInt := hx0u158; rw [show fI u158 0 3 = (fI u 0 3) from (Km37_I3 hT)] at h; exact h
                  have g161 : 0 ≤ (fI u158 0 6).toInt ∧ (fI u158 0 6).toInt ≤ 1600 := by have h := MI_6 hJ; exact h
                  have y1u158 : ((fI u158 0 6) : Int32).toInt ≤ ((fI u158 0 7) : Int32).toInt := by exact hx1u158
                  have g162 : 0 ≤ (fI u158 0 8).toInt ∧ (fI u158 0 8).toInt ≤ 5 := by have h := MI_8 hJ; exact h
                  have y2u158 : ((fI u158 0 8) : Int32).toInt = 0 ∨ ((fI u158 0 6) : Int32).toInt < ((fI u158 0 7) : Int32).toInt := by exact hx2u158
                  have y3u158 : ((fI u148 0 6) : Int32).toInt ≤ ((fI u158 0 6) : Int32).toInt := by exact hx3u158
                  have g163 : 0 ≤ (fI u158 0 4).toInt ∧ (fI u158 0 4).toInt ≤ 5 := by have h := MI_4 hJ; exact h
                  have y4u158 : ((fI u148 0 4) : Int32).toInt = 0 ∨ ¬ ((fI u158 0 4) : Int32).toInt = 0 := by exact hx4u158
                  clear gr154 kr154 hr154 y2u148 hx2u148 y4u148 hx4u148
                  have q164 : ((fI u158 0 7) : Int32).toInt ≤ ((fI u 0 3) : Int32).toInt := by first | assumption | omega | decide
                  have q165 : ((fI u158 0 6) : Int32).toInt ≤ ((fI u158 0 7) : Int32).toInt := by first | assumption | omega | decide
                  have q166 : ((fI u158 0 8) : Int32).toInt = 0 ∨ ((fI u158 0 6) : Int32).toInt < ((fI u158 0 7) : Int32).toInt := by first | assumption | omega | decide
                  have q167 : ¬ ((fI u158 0 4) : Int32).toInt = 0 ∨ ((fI u 0 6) : Int32).toInt < ((fI u158 0 6) : Int32).toInt := by first | assumption | omega | decide
                  refine hret _ _ _ _ _ dX11_readLine_311 ?_ hO
                  exact ⟨hJ, hT, (show ((fI u158 0 7) : Int32).toInt ≤ (fI u158 0 3 : Int32).toInt from by rw [show fI u158 0 3 = (fI u 0 3) from (Km37_I3 hT)]; first | done | exact q164), q165, q166, q167, (PQ.go hPQ (by exact (Km37_I36 hT)) (by exact (Km37_I37 hT)) (by exact (Eq.trans (by have h9 := (Km27_I38 hTu158); exact h9) (Eq.trans (by have h9 := (Km27_I38 hTu148); exact h9) (by have h9 := (Km26_I38 hTu31); exact h9)))) (by rw [(Km27_A11 hTu158)]; exact ((show bitF (fA u148 11 (fI u 0 37).toNatClampNeg) 0 = _ from by rw [(Km27_A11 hTu148)]; exact (show bitF (upd (fA u31 11) (fI u 0 37).toNatClampNeg z143 (fI u 0 37).toNatClampNeg) 0 = _ from by rw [upd_at, ez143]; exact bit0_orb)))) (by exact (Eq.trans (by have h9 := (Km27_A18 hTu158); exact h9) (Eq.trans (by have h9 := (Km27_A18 hTu148); exact h9) (by have h9 := (Km26_A18 hTu31); exact h9)))) (by exact (Eq.trans (by have h9 := (Km27_A19 hTu158); exact h9) (Eq.trans (by have h9 := (Km27_A19 hTu148); exact h9) (by have h9 := (Km26_A19 hTu31); exact h9)))) (by exact (Eq.trans (by have h9 := (Km27_A23 hTu158); exact h9) (Eq.trans (by have h9 := (Km27_A23 hTu148); exact h9) (by have h9 := (Km26_A23 hTu31); exact h9)))) (Or.inl (by omega)) (by have h4 := hPQ.2.2.2; rw [show fA _ 3 = fA u 3 from (Eq.trans (by have h9 := (Km27_A3 hTu158); exact h9) (Eq.trans (by have h9 := (Km27_A3 hTu148); exact h9) (by have h9 := (Km26_A3 hTu31); exact h9))), show fA _ 6 = fA u 6 from (Eq.trans (by have h9 := (Km27_A6 hTu158); exact h9) (Eq.trans (by have h9 := (Km27_A6 hTu148); exact h9) (by have h9 := (Km26_A6 hTu31); exact h9)))]; omega))⟩
              · have hj168 := lc_eq ez45 (by omega)
                clear c46
                have hf169 := FullOk.p3 hcr24 hj168
                refine lv_aload_n hx hb dX11_readLine_198 rfl (lv_at hl 1 rfl) ?_
                refine cVv (w := mW cy a) (As := []) (rest := []) C hO (T_X11_readCase l D cy a _ (by exact hJ) ((fA u 3 ((fI u 0 37)).toNatClampNeg)) (by exact (Eq.trans (congrArg (fun z : Int32 => fA _ 3 z.toNatClampNeg) (Km37_I37 hT)) (congrFun (Km26_A3 hTu31) _))) ((fA u 6 ((fI u 0 37)).toNatClampNeg)) (by exact (Eq.trans (congrArg (fun z : Int32 => fA _ 6 z.toNatClampNeg) (Km37_I37 hT)) (congrFun (Km26_A6 hTu31) _))) (by exact (show ((fI u31 0 7) : Int32).toInt ≤ (fI u31 0 3 : Int32).toInt from by rw [show fI u31 0 3 = (fI u 0 3) from (Km37_I3 hT)]; first | done | assumption | omega | decide)) (by exact (show ((fI u31 0 6) : Int32).toInt ≤ ((fI u31 0 7) : Int32).toInt from by first | assumption | omega | decide)) (by exact (show ((fI u31 0 8) : Int32).toInt = 0 ∨ ((fI u31 0 6) : Int32).toInt < ((fI u31 0 7) : Int32).toInt from by first | assumption | omega | decide)) (by exact (show (fI u31 0 36 : Int32).toInt + (fI u31 0 37 : Int32).toInt = 1 from by rw [show fI u31 0 36 = (fI u 0 36) from (Km37_I36 hT), show fI u31 0 37 = (fI u 0 37) from (Km37_I37 hT)]; first | done | assumption | omega | decide)) (by first | omega | decide)) (cwV 0 ht (gV wd_1659 wd_1661 wd_65 wd_121 wd_1662) rfl rfl rfl hd_yX11_readCase ⟨Nat.le_of_ble_eq_true rfl, Nat.le_of_ble_eq_true rfl⟩) 0 rfl mW_0 rfl rfl hl.1 (Nat.le_of_ble_eq_true rfl) dX11_readLine_199 rfl ⟨Nat.zero_le _, Nat.zero_le _⟩ (fun u171 H locs hp172 hO => ?_)
                obtain ⟨hJ, hTu171, hx0u171, hx1u171, hx2u171, hx3u171, hx4u171, hx5u171⟩ := hp172
                have hT : Km37 u u171 := Km37.tr (by exact hT) (Km30_to_Km37 hTu171)
                have g173 : 0 ≤ (fI u171 0 7).toInt ∧ (fI u171 0 7).toInt ≤ 1601 := by have h := MI_7 hJ; exact h
                have y0u171 : ((fI u171 0 7) : Int32).toInt ≤ ((fI u 0 3) : Int32).toInt := by have h : ((fI u171 0 7) : Int32).toInt ≤ (fI u171 0 3 : Int32).toInt := hx0u171; rw [show fI u171 0 3 = (fI u 0 3) from (Km37_I3 hT)] at h; exact h
                have g174 : 0 ≤ (fI u171 0 6).toInt ∧ (fI u171 0 6).toInt ≤ 1600 := by have h := MI_6 hJ; exact h
                have y1u171 : ((fI u171 0 6) : Int32).toInt ≤ ((fI u171 0 7) : Int32).toInt := by exact hx1u171
                have g175 : 0 ≤ (fI u171 0 8).toInt ∧ (fI u171 0 8).toInt ≤ 5 := by have h := MI_8 hJ; exact h
                have y2u171 : ((fI u171 0 8) : Int32).toInt = 0 ∨ ((fI u171 0 6) : Int32).toInt < ((fI u171 0 7) : Int32).toInt := by exact hx2u171
                have y3u171 : ((fI u31 0 6) : Int32).toInt ≤ ((fI u171 0 6) : Int32).toInt := by exact hx3u171
                have g176 : 0 ≤ (fI u171 0 4).toInt ∧ (fI u171 0 4).toInt ≤ 5 := by have h := MI_4 hJ; exact h
                have y4u171 : ((fI u 0 4) : Int32).toInt = 0 ∨ ¬ ((fI u171 0 4) : Int32).toInt = 0 := by have h : (fI u31 0 4 : Int32).toInt = 0 ∨ ¬ ((fI u171 0 4) : Int32).toInt = 0 := hx4u171; rw [show fI u31 0 4 = (fI u 0 4) from (Km26_I4 hTu31)] at h; exact h
                have y5u171 : ¬ ((fI u171 0 4) : Int32).toInt = 0 ∨ 0 < ((fA u 3 ((fI u 0 37)).toNatClampNeg)).toInt := by exact hx5u171
                clear y2u31 hx2u31
                refine lv_lload_n hx hb dX11_readLine_202 rfl (lv_at hl 0 rfl) ?_
                refine lv_ldc2 (v := 422608528232) hx hb hown (ht _ wd_1578) dX11_readLine_203 ?_
                refine W.lcmp hx hb dX11_readLine_206 ?_
                refine tE (y := (-1)) (by rw [hj168]; decide +kernel) ?_
                refine bt_ne (tgt := 240) (X := (-1)) hx hb dX11_readLine_207 (by decide) rfl (by omega) ?_
                refine lv_lload_n hx hb dX11_readLine_240 rfl (lv_at hl 0 rfl) ?_
                refine lv_ldc2 (v := 7102839) hx hb hown (ht _ wd_1579) dX11_readLine_241 ?_
                refine W.lcmp hx hb dX11_readLine_244 ?_
                refine tE (y := 1) (by rw [hj168]; decide +kernel) ?_
                refine bt_ne (tgt := 252) (X := 1) hx hb dX11_readLine_245 (by decide) rfl (by omega) ?_
                refine lv_lload_n hx hb dX11_readLine_252 rfl (lv_at hl 0 rfl) ?_
                refine lv_ldc2 (v := 1650549611) hx hb hown (ht _ wd_1580) dX11_readLine_253 ?_
                refine W.lcmp hx hb dX11_readLine_256 ?_
                refine tE (y := 1) (by rw [hj168]; decide +kernel) ?_
                refine bt_ne (tgt := 276) (X := 1) hx hb dX11_readLine_257 (by decide) rfl (by omega) ?_
                refine lv_lload_n hx hb dX11_readLine_276 rfl (lv_at hl 0 rfl) ?_
                refine lv_ldc2 (v := 1685217655) hx hb hown (ht _ wd_1581) dX11_readLine_277 ?_
                refine W.lcmp hx hb dX11_readLine_280 ?_
                refine tE (y := (-1)) (by rw [hj168]; decide +kernel) ?_
                refine bt_ne (tgt := 301) (X := (-1)) hx hb dX11_readLine_281 (by decide) rfl (by omega) ?_
                refine lv_aload_n hx hb dX11_readLine_301 rfl (lv_at hl 1 rfl) ?_
                refine lv_aload_n hx hb dX11_readLine_302 rfl (lv_at hl 1 rfl) ?_
                refine lv_bipush (v := 59) hx hb dX11_readLine_303 (by decide) ?_
                refine cVi (w := mW cy a) (As := [.int 59]) (rest := [.ref (a 0)]) C hO (T_X11_isSignHere l D cy a _ (by exact hJ) ((fI u171 0 8)) (by exact rfl) ((sgF u171 (fI u171 0 6))) (by exact rfl) (59)) (cwV 1 ht (gV wd_1682 wd_1684 wd_70 wd_121 wd_1685) rfl rfl rfl hd_yX11_isSignHere ⟨Nat.le_of_ble_eq_true rfl, Nat.le_of_ble_eq_true rfl⟩) 0 rfl mW_0 rfl rfl hl.1 (Nat.le_of_ble_eq_true rfl) dX11_readLine_305 rfl ⟨Nat.zero_le _, Nat.zero_le _⟩ (fun r177 u178 H locs hp179 hO => ?_)
                obtain ⟨hr177, hu178⟩ := hp179
                rw [hu178] at hO
                have gr177 : (r177 = 1 ∧ ((fI u171 0 8)).toInt = 5 ∧ (sgF u171 (fI u171 0 6)) = 59) ∨ r177 = 0 := by rcases hr177 with ⟨⟨h1, h2⟩, h3⟩ | ⟨_, h3⟩; exact Or.inl ⟨h3, h1, h2⟩; exact Or.inr h3
                have kr177 : (r177.toInt = 1 ∧ ((fI u171 0 8)).toInt = 5 ∧ ((sgF u171 (fI u171 0 6))).toInt = 59) ∨ r177.toInt = 0 := by rcases gr177 with ⟨h1, h2, h3⟩ | h1; exact Or.inl ⟨by rw [h1]; rfl, h2, by rw [h3]; rfl⟩; exact Or.inr (by rw [h1]; rfl)
                have hr177 : r177 = 0 ∨ r177 = 1 := by rcases gr177 with ⟨h1, _⟩ | h1; exact Or.inr h1; exact Or.inl h1
                refine cVv (w := mW cy a) (As := [.int r177]) (rest := []) C hO (T_X11_must l D cy a _ (by exact hJ) (by exact (show ((fI u171 0 7) : Int32).toInt ≤ (fI u171 0 3 : Int32).toInt from by rw [show fI u171 0 3 = (fI u 0 3) from (Km37_I3 hT)]; first | done | assumption | omega | decide)) (by exact (show ((fI u171 0 6) : Int32).toInt ≤ ((fI u171 0 7) : Int32).toInt from by first | assumption | omega | decide)) (by exact (show ((fI u171 0 8) : Int32).toInt = 0 ∨ ((fI u171 0 6) : Int32).toInt < ((fI u171 0 7) : Int32).toInt from by first | assumption | omega | decide)) (r177)) (cwV 1 ht (gV wd_1651 wd_1653 wd_63 wd_121 wd_1654) rfl rfl rfl hd_yX11_must ⟨Nat.le_of_ble_eq_true rfl, Nat.le_of_ble_eq_true rfl⟩) 0 rfl mW_0 rfl rfl hl.1 (Nat.le_of_ble_eq_true rfl) dX11_readLine_308 rfl ⟨Nat.zero_le _, Nat.zero_le _⟩ (fun u181 H locs hp182 hO => ?_)
                obtain ⟨hJ, hTu181, hx0u181, hx1u181, hx2u181, hx3u181, hx4u181⟩ := hp182
                have hT : Km37 u u181 := Km37.tr (by exact hT) (Km27_to_Km37 hTu181)
                have g183 : 0 ≤ (fI u181 0 7).toInt ∧ (fI u181 0 7).toInt ≤ 1601 := by have h := MI_7 hJ; exact h
                have y0u181 : ((fI u181 0 7) : Int32).toInt ≤ ((fI u 0 3) : Int32).toInt := by have h : ((fI u181 0 7) : Int32).toInt ≤ (fI u181 0 3 : Int32).toInt := hx0u181; rw [show fI u181 0 3 = (fI u 0 3) from (Km37_I3 hT)] at h; exact h
                have g184 : 0 ≤ (fI u181 0 6).toInt ∧ (fI u181 0 6).toInt ≤ 1600 := by have h := MI_6 hJ; exact h
                have y1u181 : ((fI u181 0 6) : Int32).toInt ≤ ((fI u181 0 7) : Int32).toInt := by exact hx1u181
                have g185 : 0 ≤ (fI u181 0 8).toInt ∧ (fI u181 0 8).toInt ≤ 5 := by have h := MI_8 hJ; exact h
                have y2u181 : ((fI u181 0 8) : Int32).toInt = 0 ∨ ((fI u181 0 6) : Int32).toInt < ((fI u181 0 7) : Int32).toInt := by exact hx2u181
                have y3u181 : ((fI u171 0 6) : Int32).toInt ≤ ((fI u181 0 6) : Int32).toInt := by exact hx3u181
                have g186 : 0 ≤ (fI u181 0 4).toInt ∧ (fI u181 0 4).toInt ≤ 5 := by have h := MI_4 hJ; exact h
                have y4u181 : ((fI u171 0 4) : Int32).toInt = 0 ∨ ¬ ((fI u181 0 4) : Int32).toInt = 0 := by exact hx4u181
                clear gr177 kr177 hr177 y2u171 hx2u171
                have q187 : ((fI u181 0 7) : Int32).toInt ≤ ((fI u 0 3) : Int32).toInt := by first | assumption | omega | decide
                have q188 : ((fI u181 0 6) : Int32).toInt ≤ ((fI u181 0 7) : Int32).toInt := by first | assumption | omega | decide
                have q189 : ((fI u181 0 8) : Int32).toInt = 0 ∨ ((fI u181 0 6) : Int32).toInt < ((fI u181 0 7) : Int32).toInt := by first | assumption | omega | decide
                have q190 : ¬ ((fI u181 0 4) : Int32).toInt = 0 ∨ ((fI u 0 6) : Int32).toInt < ((fI u181 0 6) : Int32).toInt := by first | assumption | omega | decide
                refine hret _ _ _ _ _ dX11_readLine_311 ?_ hO
                exact ⟨hJ, hT, (show ((fI u181 0 7) : Int32).toInt ≤ (fI u181 0 3 : Int32).toInt from by rw [show fI u181 0 3 = (fI u 0 3) from (Km37_I3 hT)]; first | done | exact q187), q188, q189, q190, (PQ.go hPQ (by exact (Km37_I36 hT)) (by exact (Km37_I37 hT)) (by exact (Eq.trans (Km27_I38 hTu181) (Eq.trans (Km30_I38 hTu171) (Km26_I38 hTu31)))) (by rw [show fA _ 11 = fA u 11 from (Eq.trans (Km27_A11 hTu181) (Eq.trans (Km30_A11 hTu171) (Km26_A11 hTu31)))]) (by exact (Eq.trans (Km27_A18 hTu181) (Eq.trans (Km30_A18 hTu171) (Km26_A18 hTu31)))) (by exact (Eq.trans (Km27_A19 hTu181) (Eq.trans (Km30_A19 hTu171) (Km26_A19 hTu31)))) (by exact (Eq.trans (Km27_A23 hTu181) (Eq.trans (Km30_A23 hTu171) (Km26_A23 hTu31)))) (Or.inl (by omega)) (by rw [show fA _ 3 = fA u 3 from (Eq.trans (Km27_A3 hTu181) (Eq.trans (Km30_A3 hTu171) (Km26_A3 hTu31)))]; omega))⟩
            · have hj191 := lc_eq ez42 (by omega)
              clear c43
              have hf192 := FullOk.p2 hcr24 hj191
              refine lv_aload_n hx hb dX11_readLine_107 rfl (lv_at hl 1 rfl) ?_
              refine gf_RX11_76 (v := .ref (a 21)) C hO 0 mW_0 rfl dX11_readLine_108 ?_
              refine lv_bipush (v := 8) hx hb dX11_readLine_111 (by decide) ?_
              refine lv_aload_n hx hb dX11_readLine_113 rfl (lv_at hl 1 rfl) ?_
              refine gf_RX11_246 (v := .int (fI u 0 37)) C hO 0 mW_0 (congrArg (fun z : Int32 => some (Value.int z)) (Km37_I37 hT)) dX11_readLine_114 ?_
              refine lv_imul hx hb dX11_readLine_117 ?_
              refine lv_topi (fun z193 ez193 => ?_)
              have e194 : z193.toInt = 8 * ((fI u 0 37)).toInt := by rw [ez193]; exact i_mul rfl rfl (by omega)
              refine lv_aload_n hx hb dX11_readLine_118 rfl (lv_at hl 1 rfl) ?_
              refine gf_RX11_27 (v := .ref (a 5)) C hO 0 mW_0 rfl dX11_readLine_119 ?_
              refine lv_aload_n hx hb dX11_readLine_122 rfl (lv_at hl 1 rfl) ?_
              refine gf_RX11_246 (v := .int (fI u 0 37)) C hO 0 mW_0 (congrArg (fun z : Int32 => some (Value.int z)) (Km37_I37 hT)) dX11_readLine_123 ?_
              refine aI C hO 5 mW_5 (i_in (X := ((fI u 0 37)).toInt) rfl (by omega) (by omega)) dX11_readLine_126 ?_
              refine tE (y := (fA u 5 ((fI u 0 37)).toNatClampNeg)) (by exact (congrFun (Km26_A5 hTu31) _)) ?_
              refine lv_iadd hx hb dX11_readLine_127 ?_
              refine lv_topi (fun z195 ez195 => ?_)
              have e196 : z195.toInt = (8 * ((fI u 0 37)).toInt) + ((fA u 5 ((fI u 0 37)).toNatClampNeg)).toInt := by rw [ez195]; exact i_add e194 rfl (by omega)
              refine lv_aload_n hx hb dX11_readLine_128 rfl (lv_at hl 1 rfl) ?_
              refine lv_aload_n hx hb dX11_readLine_129 rfl (lv_at hl 1 rfl) ?_
              refine cVi (w := mW cy a) (As := []) (rest := [.ref (a 0), .int z195, .ref (a 21)]) C hO (T_X11_pleaHere l D cy a _ (by exact hJ) ((fA u 5 ((fI u 0 37)).toNatClampNeg)) (by exact (Eq.trans (congrArg (fun z : Int32 => fA _ 5 z.toNatClampNeg) (Km37_I37 hT)) (congrFun (Km26_A5 hTu31) _)))) (cwV 0 ht (gV wd_1647 wd_1649 wd_62 wd_121 wd_1650) rfl rfl rfl hd_yX11_pleaHere ⟨Nat.le_of_ble_eq_true rfl, Nat.le_of_ble_eq_true rfl⟩) 0 rfl mW_0 rfl rfl hl.1 (Nat.le_of_ble_eq_true rfl) dX11_readLine_130 rfl ⟨Nat.zero_le _, Nat.zero_le _⟩ (fun r197 u198 H locs hp199 hO => ?_)
              obtain ⟨hr197, hu198⟩ := hp199
              rw [hu198] at hO
              refine cVj (w := mW cy a) (As := [.int r197]) (rest := [.int z195, .ref (a 21)]) C hO (T_X11_fresh l D cy a _ (by exact hJ) (by exact (show ((fI u31 0 7) : Int32).toInt ≤ (fI u31 0 3 : Int32).toInt from by rw [show fI u31 0 3 = (fI u 0 3) from (Km37_I3 hT)]; first | done | assumption | omega | decide)) (by exact (show ((fI u31 0 6) : Int32).toInt ≤ ((fI u31 0 7) : Int32).toInt from by first | assumption | omega | decide)) (by exact (show ((fI u31 0 8) : Int32).toInt = 0 ∨ ((fI u31 0 6) : Int32).toInt < ((fI u31 0 7) : Int32).toInt from by first | assumption | omega | decide)) (r197)) (cwV 1 ht (gV wd_1631 wd_1633 wd_58 wd_121 wd_1634) rfl rfl rfl hd_yX11_fresh ⟨Nat.le_of_ble_eq_true rfl, Nat.le_of_ble_eq_true rfl⟩) 0 rfl mW_0 rfl rfl hl.1 (Nat.le_of_ble_eq_true rfl) dX11_readLine_133 rfl ⟨Nat.zero_le _, Nat.zero_le _⟩ (fun r200 u201 H locs hp202 hO => ?_)
              obtain ⟨hJ, hTu201, hx0u201, hx1u201, hx2u201, hx3u201, hx4u201⟩ := hp202
              have hT : Km37 u u201 := Km37.tr (by exact hT) (Km27_to_Km37 hTu201)
              have g203 : 0 ≤ (fI u201 0 7).toInt ∧ (fI u201 0 7).toInt ≤ 1601 := by have h := MI_7 hJ; exact h
              have y0u201 : ((fI u201 0 7) : Int32).toInt ≤ ((fI u 0 3) : Int32).toInt := by have h : ((fI u201 0 7) : Int32).toInt ≤ (fI u201 0 3 : Int32).toInt := hx0u201; rw [show fI u201 0 3 = (fI u 0 3) from (Km37_I3 hT)] at h; exact h
              have g204 : 0 ≤ (fI u201 0 6).toInt ∧ (fI u201 0 6).toInt ≤ 1600 := by have h := MI_6 hJ; exact h
              have y1u201 : ((fI u201 0 6) : Int32).toInt ≤ ((fI u201 0 7) : Int32).toInt := by exact hx1u201
              have g205 : 0 ≤ (fI u201 0 8).toInt ∧ (fI u201 0 8).toInt ≤ 5 := by have h := MI_8 hJ; exact h
              have y2u201 : ((fI u201 0 8) : Int32).toInt = 0 ∨ ((fI u201 0 6) : Int32).toInt < ((fI u201 0 7) : Int32).toInt := by exact hx2u201
              have y3u201 : ((fI u31 0 6) : Int32).toInt ≤ ((fI u201 0 6) : Int32).toInt := by exact hx3u201
              have g206 : 0 ≤ (fI u201 0 4).toInt ∧ (fI u201 0 4).toInt ≤ 5 := by have h := MI_4 hJ; exact h
              have y4u201 : ((fI u 0 4) : Int32).toInt = 0 ∨ ¬ ((fI u201 0 4) : Int32).toInt = 0 := by have h : (fI u31 0 4 : Int32).toInt = 0 ∨ ¬ ((fI u201 0 4) : Int32).toInt = 0 := hx4u201; rw [show fI u31 0 4 = (fI u 0 4) from (Km26_I4 hTu31)] at h; exact h
              clear hr197 y2u31 hx2u31
              refine aJs C hO 21 mW_21 (i_in (X := ((8 * ((fI u 0 37)).toInt) + ((fA u 5 ((fI u 0 37)).toNatClampNeg)).toInt)) e196 (by omega) (by omega)) mW_s21 dX11_readLine_136 (fun H locs hO => ?_)
              have hT := Km37_wJ21 hO hT
              have hJ := MIsJ_21 hO hJ
              refine lv_aload_n hx hb dX11_readLine_137 rfl (lv_at hl 1 rfl) ?_
              refine lv_aload_n hx hb dX11_readLine_138 rfl (lv_at hl 1 rfl) ?_
              refine lv_ldc2 (v := 126943973305959) hx hb hown (ht _ wd_1574) dX11_readLine_139 ?_
              refine cVi (w := mW cy a) (As := [.long 126943973305959]) (rest := [.ref (a 0)]) C hO (T_X11_isWord_n l D cy a _ (by exact hJ) (126943973305959)) (cwV 1 ht (gV wd_1608 wd_1610 wd_53 wd_121 wd_1611) rfl rfl rfl hd_yX11_isWord ⟨Nat.le_of_ble_eq_true rfl, Nat.le_of_ble_eq_true rfl⟩) 0 rfl mW_0 rfl rfl hl.1 (Nat.le_of_ble_eq_true rfl) dX11_readLine_142 rfl ⟨Nat.zero_le _, Nat.zero_le _⟩ (fun r207 u208 H locs hp209 hO => ?_)
              obtain ⟨hr207, hu208⟩ := hp209
              have gr207 : 0 ≤ r207.toInt ∧ r207.toInt ≤ 1 := by rcases hr207 with h | h <;> rw [h] <;> decide
              rw [hu208] at hO
              refine cVv (w := mW cy a) (As := [.int r207]) (rest := []) C hO (T_X11_must l D cy a _ (by exact hJ) (by exact (show ((fI u201 0 7) : Int32).toInt ≤ (fI u201 0 3 : Int32).toInt from by rw [show fI u201 0 3 = (fI u 0 3) from (Km37_I3 hT)]; first | done | assumption | omega | decide)) (by exact (show ((fI u201 0 6) : Int32).toInt ≤ ((fI u201 0 7) : Int32).toInt from by first | assumption | omega | decide)) (by exact (show ((fI u201 0 8) : Int32).toInt = 0 ∨ ((fI u201 0 6) : Int32).toInt < ((fI u201 0 7) : Int32).toInt from by first | assumption | omega | decide)) (r207)) (cwV 1 ht (gV wd_1651 wd_1653 wd_63 wd_121 wd_1654) rfl rfl rfl hd_yX11_must ⟨Nat.le_of_ble_eq_true rfl, Nat.le_of_ble_eq_true rfl⟩) 0 rfl mW_0 rfl rfl hl.1 (Nat.le_of_ble_eq_true rfl) dX11_readLine_145 rfl ⟨Nat.zero_le _, Nat.zero_le _⟩ (fun u211 H locs hp212 hO => ?_)
              obtain ⟨hJ, hTu211, hx0u211, hx1u211, hx2u211, hx3u211, hx4u211⟩ := hp212
              have hT : Km37 u u211 := Km37.tr (by exact hT) (Km27_to_Km37 hTu211)
              have g213 : 0 ≤ (fI u211 0 7).toInt ∧ (fI u211 0 7).toInt ≤ 1601 := by have h := MI_7 hJ; exact h
              have y0u211 : ((fI u211 0 7) : Int32).toInt ≤ ((fI u 0 3) : Int32).toInt := by have h : ((fI u211 0 7) : Int32).toInt ≤ (fI u211 0 3 : Int32).toInt := hx0u211; rw [show fI u211 0 3 = (fI u 0 3) from (Km37_I3 hT)] at h; exact h
              have g214 : 0 ≤ (fI u211 0 6).toInt ∧ (fI u211 0 6).toInt ≤ 1600 := by have h := MI_6 hJ; exact h
              have y1u211 : ((fI u211 0 6) : Int32).toInt ≤ ((fI u211 0 7) : Int32).toInt := by exact hx1u211
              have g215 : 0 ≤ (fI u211 0 8).toInt ∧ (fI u211 0 8).toInt ≤ 5 := by have h := MI_8 hJ; exact h
              have y2u211 : ((fI u211 0 8) : Int32).toInt = 0 ∨ ((fI u211 0 6) : Int32).toInt < ((fI u211 0 7) : Int32).toInt := by exact hx2u211
              have y3u211 : ((fI u201 0 6) : Int32).toInt ≤ ((fI u211 0 6) : Int32).toInt := by exact hx3u211
              have g216 : 0 ≤ (fI u211 0 4).toInt ∧ (fI u211 0 4).toInt ≤ 5 := by have h := MI_4 hJ; exact h
              have y4u211 : ((fI u201 0 4) : Int32).toInt = 0 ∨ ¬ ((fI u211 0 4) : Int32).toInt = 0 := by exact hx4u211
              clear hr207 y2u201 hx2u201 y4u201 hx4u201
              refine lv_aload_n hx hb dX11_readLine_148 rfl (lv_at hl 1 rfl) ?_
              refine gf_RX11_57 (v := .ref (a 15)) C hO 0 mW_0 rfl dX11_readLine_149 ?_
              refine lv_bipush (v := 8) hx hb dX11_readLine_152 (by decide) ?_
              refine lv_aload_n hx hb dX11_readLine_154 rfl (lv_at hl 1 rfl) ?_
              refine gf_RX11_246 (v := .int (fI u 0 37)) C hO 0 mW_0 (congrArg (fun z : Int32 => some (Value.int z)) (Km37_I37 hT)) dX11_readLine_155 ?_
              refine lv_imul hx hb dX11_readLine_158 ?_
              refine lv_topi (fun z217 ez217 => ?_)
              have e218 : z217.toInt = 8 * ((fI u 0 37)).toInt := by rw [ez217]; exact i_mul rfl rfl (by omega)
              refine lv_aload_n hx hb dX11_readLine_159 rfl (lv_at hl 1 rfl) ?_
              refine gf_RX11_27 (v := .ref (a 5)) C hO 0 mW_0 rfl dX11_readLine_160 ?_
              refine lv_aload_n hx hb dX11_readLine_163 rfl (lv_at hl 1 rfl) ?_
              refine gf_RX11_246 (v := .int (fI u 0 37)) C hO 0 mW_0 (congrArg (fun z : Int32 => some (Value.int z)) (Km37_I37 hT)) dX11_readLine_164 ?_
              refine aI C hO 5 mW_5 (i_in (X := ((fI u 0 37)).toInt) rfl (by omega) (by omega)) dX11_readLine_167 ?_
              refine tE (y := (fA u 5 ((fI u 0 37)).toNatClampNeg)) (by exact (congrFun (Eq.trans (by have h9 := (Km27_A5 hTu211); exact h9) (Eq.trans (by have h9 := (Km27_A5 hTu201); exact h9) (Km26_A5 hTu31))) _)) ?_
              refine lv_iadd hx hb dX11_readLine_168 ?_
              refine lv_topi (fun z219 ez219 => ?_)
              have e220 : z219.toInt = (8 * ((fI u 0 37)).toInt) + ((fA u 5 ((fI u 0 37)).toNatClampNeg)).toInt := by rw [ez219]; exact i_add e218 rfl (by omega)
              refine lv_aload_n hx hb dX11_readLine_169 rfl (lv_at hl 1 rfl) ?_
              refine lv_iconst (v := 0) hx hb dX11_readLine_170 (by decide) ?_
              refine lv_bipush (v := 20) hx hb dX11_readLine_171 (by decide) ?_
              refine cVi (w := mW cy a) (As := [.int 0, .int 20]) (rest := [.int z219, .ref (a 15)]) C hO (T_X11_numeral l D cy a _ (by exact hJ) (by exact (show ((fI u211 0 7) : Int32).toInt ≤ (fI u211 0 3 : Int32).toInt from by rw [show fI u211 0 3 = (fI u 0 3) from (Km37_I3 hT)]; first | done | assumption | omega | decide)) (by exact (show ((fI u211 0 6) : Int32).toInt ≤ ((fI u211 0 7) : Int32).toInt from by first | assumption | omega | decide)) (by exact (show ((fI u211 0 8) : Int32).toInt = 0 ∨ ((fI u211 0 6) : Int32).toInt < ((fI u211 0 7) : Int32).toInt from by first | assumption | omega | decide)) (0) (20)) (cwV 2 ht (gV wd_1655 wd_1657 wd_64 wd_121 wd_1658) rfl rfl rfl hd_yX11_numeral ⟨Nat.le_of_ble_eq_true rfl, Nat.le_of_ble_eq_true rfl⟩) 0 rfl mW_0 rfl rfl hl.1 (Nat.le_of_ble_eq_true rfl) dX11_readLine_173 rfl ⟨Nat.zero_le _, Nat.zero_le _⟩ (fun r221 u222 H locs hp223 hO => ?_)
              obtain ⟨hJ, hTu222, hx0u222, hx1u222, hx2u222, hx3u222, hx4u222⟩ := hp223
              have hT : Km37 u u222 := Km37.tr (by exact hT) (Km27_to_Km37 hTu222)
              have g224 : 0 ≤ (fI u222 0 7).toInt ∧ (fI u222 0 7).toInt ≤ 1601 := by have h := MI_7 hJ; exact h
              have y0u222 : ((fI u222 0 7) : Int32).toInt ≤ ((fI u 0 3) : Int32).toInt := by have h : ((fI u222 0 7) : Int32).toInt ≤ (fI u222 0 3 : Int32).toInt := hx0u222; rw [show fI u222 0 3 = (fI u 0 3) from (Km37_I3 hT)] at h; exact h
              have g225 : 0 ≤ (fI u222 0 6).toInt ∧ (fI u222 0 6).toInt ≤ 1600 := by have h := MI_6 hJ; exact h
              have y1u222 : ((fI u222 0 6) : Int32).toInt ≤ ((fI u222 0 7) : Int32).toInt := by exact hx1u222
              have g226 : 0 ≤ (fI u222 0 8).toInt ∧ (fI u222 0 8).toInt ≤ 5 := by have h := MI_8 hJ; exact h
              have y2u222 : ((fI u222 0 8) : Int32).toInt = 0 ∨ ((fI u222 0 6) : Int32).toInt < ((fI u222 0 7) : Int32).toInt := by exact hx2u222
              have y3u222 : ((fI u211 0 6) : Int32).toInt ≤ ((fI u222 0 6) : Int32).toInt := by exact hx3u222
              have g227 : 0 ≤ (fI u222 0 4).toInt ∧ (fI u222 0 4).toInt ≤ 5 := by have h := MI_4 hJ; exact h
              have y4u222 : ((fI u211 0 4) : Int32).toInt = 0 ∨ ¬ ((fI u222 0 4) : Int32).toInt = 0 := by exact hx4u222
              clear y2u211 hx2u211 y4u211 hx4u211
              refine aIs C hO 15 mW_15 (i_in (X := ((8 * ((fI u 0 37)).toInt) + ((fA u 5 ((fI u 0 37)).toNatClampNeg)).toInt)) e220 (by omega) (by omega)) mW_s15 dX11_readLine_176 (fun H locs hO => ?_)
              have hT := Km37_wA15 hO hT
              have hJ := MIsA_15 hO hJ
              refine lv_aload_n hx hb dX11_readLine_177 rfl (lv_at hl 1 rfl) ?_
              refine gf_RX11_27 (v := .ref (a 5)) C hO 0 mW_0 rfl dX11_readLine_178 ?_
              refine lv_aload_n hx hb dX11_readLine_181 rfl (lv_at hl 1 rfl) ?_
              refine gf_RX11_246 (v := .int (fI u 0 37)) C hO 0 mW_0 (congrArg (fun z : Int32 => some (Value.int z)) (Km37_I37 hT)) dX11_readLine_182 ?_
              refine lv_dup2_11 hx hb dX11_readLine_185 rfl rfl ?_
              refine aI C hO 5 mW_5 (i_in (X := ((fI u 0 37)).toInt) rfl (by omega) (by omega)) dX11_readLine_186 ?_
              refine tE (y := (fA u 5 ((fI u 0 37)).toNatClampNeg)) (by exact (congrFun (Eq.trans (by have h9 := (Km27_A5 hTu222); exact h9) (Eq.trans (by have h9 := (Km27_A5 hTu211); exact h9) (Eq.trans (by have h9 := (Km27_A5 hTu201); exact h9) (Km26_A5 hTu31)))) _)) ?_
              refine lv_iconst (v := 1) hx hb dX11_readLine_187 (by decide) ?_
              refine lv_iadd hx hb dX11_readLine_188 ?_
              refine lv_topi (fun z228 ez228 => ?_)
              have e229 : z228.toInt = ((fA u 5 ((fI u 0 37)).toNatClampNeg)).toInt + 1 := by rw [ez228]; exact i_add rfl rfl (by omega)
              refine aIs C hO 5 mW_5 (i_in (X := ((fI u 0 37)).toInt) rfl (by omega) (by omega)) mW_s5 dX11_readLine_189 (fun H locs hO => ?_)
              have hT := Km37_wA5 hO hT
              have hJ := MIsA_5 hO hJ (by first | decide | omega)
              refine lv_lload_n hx hb dX11_readLine_190 rfl (lv_at hl 0 rfl) ?_
              refine lv_ldc2 (v := 1667330917) hx hb hown (ht _ wd_1575) dX11_readLine_191 ?_
              refine W.lcmp hx hb dX11_readLine_194 ?_
              refine tE (y := 1) (by rw [hj191]; decide +kernel) ?_
              refine bt_ne (tgt := 202) (X := 1) hx hb dX11_readLine_195 (by decide) rfl (by omega) ?_
              refine lv_lload_n hx hb dX11_readLine_202 rfl (lv_at hl 0 rfl) ?_
              refine lv_ldc2 (v := 422608528232) hx hb hown (ht _ wd_1578) dX11_readLine_203 ?_
              refine W.lcmp hx hb dX11_readLine_206 ?_
              refine tE (y := (-1)) (by rw [hj191]; decide +kernel) ?_
              refine bt_ne (tgt := 240) (X := (-1)) hx hb dX11_readLine_207 (by decide) rfl (by omega) ?_
              refine lv_lload_n hx hb dX11_readLine_240 rfl (lv_at hl 0 rfl) ?_
              refine lv_ldc2 (v := 7102839) hx hb hown (ht _ wd_1579) dX11_readLine_241 ?_
              refine W.lcmp hx hb dX11_readLine_244 ?_
              refine tE (y := 1) (by rw [hj191]; decide +kernel) ?_
              refine bt_ne (tgt := 252) (X := 1) hx hb dX11_readLine_245 (by decide) rfl (by omega) ?_
              refine lv_lload_n hx hb dX11_readLine_252 rfl (lv_at hl 0 rfl) ?_
              refine lv_ldc2 (v := 1650549611) hx hb hown (ht _ wd_1580) dX11_readLine_253 ?_
              refine W.lcmp hx hb dX11_readLine_256 ?_
              refine tE (y := 1) (by rw [hj191]; decide +kernel) ?_
              refine bt_ne (tgt := 276) (X := 1) hx hb dX11_readLine_257 (by decide) rfl (by omega) ?_
              refine lv_lload_n hx hb dX11_readLine_276 rfl (lv_at hl 0 rfl) ?_
              refine lv_ldc2 (v := 1685217655) hx hb hown (ht _ wd_1581) dX11_readLine_277 ?_
              refine W.lcmp hx hb dX11_readLine_280 ?_
              refine tE (y := 1) (by rw [hj191]; decide +kernel) ?_
              refine bt_ne (tgt := 301) (X := 1) hx hb dX11_readLine_281 (by decide) rfl (by omega) ?_
              refine lv_aload_n hx hb dX11_readLine_301 rfl (lv_at hl 1 rfl) ?_
              refine lv_aload_n hx hb dX11_readLine_302 rfl (lv_at hl 1 rfl) ?_
              refine lv_bipush (v := 59) hx hb dX11_readLine_303 (by decide) ?_
              refine cVi (w := mW cy a) (As := [.int 59]) (rest := [.ref (a 0)]) C hO (T_X11_isSignHere l D cy a _ (by exact hJ) ((fI u222 0 8)) (by exact rfl) ((sgF u222 (fI u222 0 6))) (by exact rfl) (59)) (cwV 1 ht (gV wd_1682 wd_1684 wd_70 wd_121 wd_1685) rfl rfl rfl hd_yX11_isSignHere ⟨Nat.le_of_ble_eq_true rfl, Nat.le_of_ble_eq_true rfl⟩) 0 rfl mW_0 rfl rfl hl.1 (Nat.le_of_ble_eq_true rfl) dX11_readLine_305 rfl ⟨Nat.zero_le _, Nat.zero_le _⟩ (fun r230 u231 H locs hp232 hO => ?_)
              obtain ⟨hr230, hu231⟩ := hp232
              rw [hu231] at hO
              have gr230 : (r230 = 1 ∧ ((fI u222 0 8)).toInt = 5 ∧ (sgF u222 (fI u222 0 6)) = 59) ∨ r230 = 0 := by rcases hr230 with ⟨⟨h1, h2⟩, h3⟩ | ⟨_, h3⟩; exact Or.inl ⟨h3, h1, h2⟩; exact Or.inr h3
              have kr230 : (r230.toInt = 1 ∧ ((fI u222 0 8)).toInt = 5 ∧ ((sgF u222 (fI u222 0 6))).toInt = 59) ∨ r230.toInt = 0 := by rcases gr230 with ⟨h1, h2, h3⟩ | h1; exact Or.inl ⟨by rw [h1]; rfl, h2, by rw [h3]; rfl⟩; exact Or.inr (by rw [h1]; rfl)
              have hr230 : r230 = 0 ∨ r230 = 1 := by rcases gr230 with ⟨h1, _⟩ | h1; exact Or.inr h1; exact Or.inl h1
              refine cVv (w := mW cy a) (As := [.int r230]) (rest := []) C hO (T_X11_must l D cy a _ (by exact hJ) (by exact (show ((fI u222 0 7) : Int32).toInt ≤ (fI u222 0 3 : Int32).toInt from by rw [show fI u222 0 3 = (fI u 0 3) from (Km37_I3 hT)]; first | done | assumption | omega | decide)) (by exact (show ((fI u222 0 6) : Int32).toInt ≤ ((fI u222 0 7) : Int32).toInt from by first | assumption | omega | decide)) (by exact (show ((fI u222 0 8) : Int32).toInt = 0 ∨ ((fI u222 0 6) : Int32).toInt < ((fI u222 0 7) : Int32).toInt from by first | assumption | omega | decide)) (r230)) (cwV 1 ht (gV wd_1651 wd_1653 wd_63 wd_121 wd_1654) rfl rfl rfl hd_yX11_must ⟨Nat.le_of_ble_eq_true rfl, Nat.le_of_ble_eq_true rfl⟩) 0 rfl mW_0 rfl rfl hl.1 (Nat.le_of_ble_eq_true rfl) dX11_readLine_308 rfl ⟨Nat.zero_le _, Nat.zero_le _⟩ (fun u234 H locs hp235 hO => ?_)
              obtain ⟨hJ, hTu234, hx0u234, hx1u234, hx2u234, hx3u234, hx4u234⟩ := hp235
              have hT : Km37 u u234 := Km37.tr (by exact hT) (Km27_to_Km37 hTu234)
              have g236 : 0 ≤ (fI u234 0 7).toInt ∧ (fI u234 0 7).toInt ≤ 1601 := by have h := MI_7 hJ; exact h
              have y0u234 : ((fI u234 0 7) : Int32).toInt ≤ ((fI u 0 3) : Int32).toInt := by have h : ((fI u234 0 7) : Int32).toInt ≤ (fI u234 0 3 : Int32).toInt := hx0u234; rw [show fI u234 0 3 = (fI u 0 3) from (Km37_I3 hT)] at h; exact h
              have g237 : 0 ≤ (fI u234 0 6).toInt ∧ (fI u234 0 6).toInt ≤ 1600 := by have h := MI_6 hJ; exact h
              have y1u234 : ((fI u234 0 6) : Int32).toInt ≤ ((fI u234 0 7) : Int32).toInt := by exact hx1u234
              have g238 : 0 ≤ (fI u234 0 8).toInt ∧ (fI u234 0 8).toInt ≤ 5 := by have h := MI_8 hJ; exact h
              have y2u234 : ((fI u234 0 8) : Int32).toInt = 0 ∨ ((fI u234 0 6) : Int32).toInt < ((fI u234 0 7) : Int32).toInt := by exact hx2u234
              have y3u234 : ((fI u222 0 6) : Int32).toInt ≤ ((fI u234 0 6) : Int32).toInt := by exact hx3u234
              have g239 : 0 ≤ (fI u234 0 4).toInt ∧ (fI u234 0 4).toInt ≤ 5 := by have h := MI_4 hJ; exact h
              have y4u234 : ((fI u222 0 4) : Int32).toInt = 0 ∨ ¬ ((fI u234 0 4) : Int32).toInt = 0 := by exact hx4u234
              clear gr230 kr230 hr230 y2u222 hx2u222 y4u222 hx4u222
              have q240 : ((fI u234 0 7) : Int32).toInt ≤ ((fI u 0 3) : Int32).toInt := by first | assumption | omega | decide
              have q241 : ((fI u234 0 6) : Int32).toInt ≤ ((fI u234 0 7) : Int32).toInt := by first | assumption | omega | decide
              have q242 : ((fI u234 0 8) : Int32).toInt = 0 ∨ ((fI u234 0 6) : Int32).toInt < ((fI u234 0 7) : Int32).toInt := by first | assumption | omega | decide
              have q243 : ¬ ((fI u234 0 4) : Int32).toInt = 0 ∨ ((fI u 0 6) : Int32).toInt < ((fI u234 0 6) : Int32).toInt := by first | assumption | omega | decide
              refine hret _ _ _ _ _ dX11_readLine_311 ?_ hO
              exact ⟨hJ, hT, (show ((fI u234 0 7) : Int32).toInt ≤ (fI u234 0 3 : Int32).toInt from by rw [show fI u234 0 3 = (fI u 0 3) from (Km37_I3 hT)]; first | done | exact q240), q241, q242, q243, (PQ.lex hPQ (by exact (Km37_I36 hT)) (by exact (Km37_I37 hT)) (by exact (Eq.trans (by have h9 := (Km27_I38 hTu234); exact h9) (Eq.trans (by have h9 := (Km27_I38 hTu222); exact h9) (Eq.trans (by have h9 := (Km27_I38 hTu211); exact h9) (Eq.trans (by have h9 := (Km27_I38 hTu201); exact h9) (Km26_I38 hTu31)))))) (by exact (Eq.trans (by have h9 := (Km27_A11 hTu234); exact h9) (Eq.trans (by have h9 := (Km27_A11 hTu222); exact h9) (Eq.trans (by have h9 := (Km27_A11 hTu211); exact h9) (Eq.trans (by have h9 := (Km27_A11 hTu201); exact h9) (Km26_A11 hTu31)))))) (by exact (Eq.trans (by have h9 := (Km27_A18 hTu234); exact h9) (Eq.trans (by have h9 := (Km27_A18 hTu222); exact h9) (Eq.trans (by have h9 := (Km27_A18 hTu211); exact h9) (Eq.trans (by have h9 := (Km27_A18 hTu201); exact h9) (Km26_A18 hTu31)))))) (by exact (Eq.trans (by have h9 := (Km27_A19 hTu234); exact h9) (Eq.trans (by have h9 := (Km27_A19 hTu222); exact h9) (Eq.trans (by have h9 := (Km27_A19 hTu211); exact h9) (Eq.trans (by have h9 := (Km27_A19 hTu201); exact h9) (Km26_A19 hTu31)))))) (by exact (Eq.trans (by have h9 := (Km27_A23 hTu234); exact h9) (Eq.trans (by have h9 := (Km27_A23 hTu222); exact h9) (Eq.trans (by have h9 := (Km27_A23 hTu211); exact h9) (Eq.trans (by have h9 := (Km27_A23 hTu201); exact h9) (Km26_A23 hTu31)))))) (by exact (Eq.trans (by have h9 := (Km27_A3 hTu234); exact h9) (Eq.trans (by have h9 := (Km27_A3 hTu222); exact h9) (Eq.trans (by have h9 := (Km27_A3 hTu211); exact h9) (Eq.trans (by have h9 := (Km27_A3 hTu201); exact h9) (Km26_A3 hTu31)))))) (by exact (Eq.trans (by have h9 := (Km27_A6 hTu234); exact h9) (Eq.trans (by have h9 := (Km27_A6 hTu222); exact h9) (Eq.trans (by have h9 := (Km27_A6 hTu211); exact h9) (Eq.trans (by have h9 := (Km27_A6 hTu201); exact h9) (Km26_A6 hTu31)))))) (Or.inl (by omega)))⟩
          · have hj244 := lc_eq ez39 (by omega)
            clear c40
            have hf245 := FullOk.p1 hcr24 hj244
            refine lv_aload_n hx hb dX11_readLine_95 rfl (lv_at hl 1 rfl) ?_
            refine cVv (w := mW cy a) (As := []) (rest := []) C hO (T_X11_readThread l D cy a _ (by exact hJ) ((fA u 4 ((fI u 0 37)).toNatClampNeg)) (by exact (Eq.trans (congrArg (fun z : Int32 => fA _ 4 z.toNatClampNeg) (Km37_I37 hT)) (congrFun (Km26_A4 hTu31) _))) (by exact (show ((fI u31 0 7) : Int32).toInt ≤ (fI u31 0 3 : Int32).toInt from by rw [show fI u31 0 3 = (fI u 0 3) from (Km37_I3 hT)]; first | done | assumption | omega | decide)) (by exact (show ((fI u31 0 6) : Int32).toInt ≤ ((fI u31 0 7) : Int32).toInt from by first | assumption | omega | decide)) (by exact (show ((fI u31 0 8) : Int32).toInt = 0 ∨ ((fI u31 0 6) : Int32).toInt < ((fI u31 0 7) : Int32).toInt from by first | assumption | omega | decide)) (by first | omega | decide)) (cwV 0 ht (gV wd_1635 wd_1637 wd_59 wd_121 wd_1638) rfl rfl rfl hd_yX11_readThread ⟨Nat.le_of_ble_eq_true rfl, Nat.le_of_ble_eq_true rfl⟩) 0 rfl mW_0 rfl rfl hl.1 (Nat.le_of_ble_eq_true rfl) dX11_readLine_96 rfl ⟨Nat.zero_le _, Nat.zero_le _⟩ (fun u247 H locs hp248 hO => ?_)
            obtain ⟨hJ, hTu247, hx0u247, hx1u247, hx2u247, hx3u247, hx4u247⟩ := hp248
            have hT : Km37 u u247 := Km37.tr (by exact hT) (Km29_to_Km37 hTu247)
            have g249 : 0 ≤ (fI u247 0 7).toInt ∧ (fI u247 0 7).toInt ≤ 1601 := by have h := MI_7 hJ; exact h
            have y0u247 : ((fI u247 0 7) : Int32).toInt ≤ ((fI u 0 3) : Int32).toInt := by have h : ((fI u247 0 7) : Int32).toInt ≤ (fI u247 0 3 : Int32).toInt := hx0u247; rw [show fI u247 0 3 = (fI u 0 3) from (Km37_I3 hT)] at h; exact h
            have g250 : 0 ≤ (fI u247 0 6).toInt ∧ (fI u247 0 6).toInt ≤ 1600 := by have h := MI_6 hJ; exact h
            have y1u247 : ((fI u247 0 6) : Int32).toInt ≤ ((fI u247 0 7) : Int32).toInt := by exact hx1u247
            have g251 : 0 ≤ (fI u247 0 8).toInt ∧ (fI u247 0 8).toInt ≤ 5 := by have h := MI_8 hJ; exact h
            have y2u247 : ((fI u247 0 8) : Int32).toInt = 0 ∨ ((fI u247 0 6) : Int32).toInt < ((fI u247 0 7) : Int32).toInt := by exact hx2u247
            have y3u247 : ((fI u31 0 6) : Int32).toInt ≤ ((fI u247 0 6) : Int32).toInt := by exact hx3u247
            have g252 : 0 ≤ (fI u247 0 4).toInt ∧ (fI u247 0 4).toInt ≤ 5 := by have h := MI_4 hJ; exact h
            have y4u247 : ((fI u 0 4) : Int32).toInt = 0 ∨ ¬ ((fI u247 0 4) : Int32).toInt = 0 := by have h : (fI u31 0 4 : Int32).toInt = 0 ∨ ¬ ((fI u247 0 4) : Int32).toInt = 0 := hx4u247; rw [show fI u31 0 4 = (fI u 0 4) from (Km26_I4 hTu31)] at h; exact h
            clear y2u31 hx2u31
            refine lv_lload_n hx hb dX11_readLine_99 rfl (lv_at hl 0 rfl) ?_
            refine lv_ldc2 (v := 1886152033) hx hb hown (ht _ wd_1573) dX11_readLine_100 ?_
            refine W.lcmp hx hb dX11_readLine_103 ?_
            refine tE (y := (-1)) (by rw [hj244]; decide +kernel) ?_
            refine bt_ne (tgt := 190) (X := (-1)) hx hb dX11_readLine_104 (by decide) rfl (by omega) ?_
            refine lv_lload_n hx hb dX11_readLine_190 rfl (lv_at hl 0 rfl) ?_
            refine lv_ldc2 (v := 1667330917) hx hb hown (ht _ wd_1575) dX11_readLine_191 ?_
            refine W.lcmp hx hb dX11_readLine_194 ?_
            refine tE (y := 1) (by rw [hj244]; decide +kernel) ?_
            refine bt_ne (tgt := 202) (X := 1) hx hb dX11_readLine_195 (by decide) rfl (by omega) ?_
            refine lv_lload_n hx hb dX11_readLine_202 rfl (lv_at hl 0 rfl) ?_
            refine lv_ldc2 (v := 422608528232) hx hb hown (ht _ wd_1578) dX11_readLine_203 ?_
            refine W.lcmp hx hb dX11_readLine_206 ?_
            refine tE (y := (-1)) (by rw [hj244]; decide +kernel) ?_
            refine bt_ne (tgt := 240) (X := (-1)) hx hb dX11_readLine_207 (by decide) rfl (by omega) ?_
            refine lv_lload_n hx hb dX11_readLine_240 rfl (lv_at hl 0 rfl) ?_
            refine lv_ldc2 (v := 7102839) hx hb hown (ht _ wd_1579) dX11_readLine_241 ?_
            refine W.lcmp hx hb dX11_readLine_244 ?_
            refine tE (y := 1) (by rw [hj244]; decide +kernel) ?_
            refine bt_ne (tgt := 252) (X := 1) hx hb dX11_readLine_245 (by decide) rfl (by omega) ?_
            refine lv_lload_n hx hb dX11_readLine_252 rfl (lv_at hl 0 rfl) ?_
            refine lv_ldc2 (v := 1650549611) hx hb hown (ht _ wd_1580) dX11_readLine_253 ?_
            refine W.lcmp hx hb dX11_readLine_256 ?_
            refine tE (y := 1) (by rw [hj244]; decide +kernel) ?_
            refine bt_ne (tgt := 276) (X := 1) hx hb dX11_readLine_257 (by decide) rfl (by omega) ?_
            refine lv_lload_n hx hb dX11_readLine_276 rfl (lv_at hl 0 rfl) ?_
            refine lv_ldc2 (v := 1685217655) hx hb hown (ht _ wd_1581) dX11_readLine_277 ?_
            refine W.lcmp hx hb dX11_readLine_280 ?_
            refine tE (y := 1) (by rw [hj244]; decide +kernel) ?_
            refine bt_ne (tgt := 301) (X := 1) hx hb dX11_readLine_281 (by decide) rfl (by omega) ?_
            refine lv_aload_n hx hb dX11_readLine_301 rfl (lv_at hl 1 rfl) ?_
            refine lv_aload_n hx hb dX11_readLine_302 rfl (lv_at hl 1 rfl) ?_
            refine lv_bipush (v := 59) hx hb dX11_readLine_303 (by decide) ?_
            refine cVi (w := mW cy a) (As := [.int 59]) (rest := [.ref (a 0)]) C hO (T_X11_isSignHere l D cy a _ (by exact hJ) ((fI u247 0 8)) (by exact rfl) ((sgF u247 (fI u247 0 6))) (by exact rfl) (59)) (cwV 1 ht (gV wd_1682 wd_1684 wd_70 wd_121 wd_1685) rfl rfl rfl hd_yX11_isSignHere ⟨Nat.le_of_ble_eq_true rfl, Nat.le_of_ble_eq_true rfl⟩) 0 rfl mW_0 rfl rfl hl.1 (Nat.le_of_ble_eq_true rfl) dX11_readLine_305 rfl ⟨Nat.zero_le _, Nat.zero_le _⟩ (fun r253 u254 H locs hp255 hO => ?_)
            obtain ⟨hr253, hu254⟩ := hp255
            rw [hu254] at hO
            have gr253 : (r253 = 1 ∧ ((fI u247 0 8)).toInt = 5 ∧ (sgF u247 (fI u247 0 6)) = 59) ∨ r253 = 0 := by rcases hr253 with ⟨⟨h1, h2⟩, h3⟩ | ⟨_, h3⟩; exact Or.inl ⟨h3, h1, h2⟩; exact Or.inr h3
            have kr253 : (r253.toInt = 1 ∧ ((fI u247 0 8)).toInt = 5 ∧ ((sgF u247 (fI u247 0 6))).toInt = 59) ∨ r253.toInt = 0 := by rcases gr253 with ⟨h1, h2, h3⟩ | h1; exact Or.inl ⟨by rw [h1]; rfl, h2, by rw [h3]; rfl⟩; exact Or.inr (by rw [h1]; rfl)
            have hr253 : r253 = 0 ∨ r253 = 1 := by rcases gr253 with ⟨h1, _⟩ | h1; exact Or.inr h1; exact Or.inl h1
            refine cVv (w := mW cy a) (As := [.int r253]) (rest := []) C hO (T_X11_must l D cy a _ (by exact hJ) (by exact (show ((fI u247 0 7) : Int32).toInt ≤ (fI u247 0 3 : Int32).toInt from by rw [show fI u247 0 3 = (fI u 0 3) from (Km37_I3 hT)]; first | done | assumption | omega | decide)) (by exact (show ((fI u247 0 6) : Int32).toInt ≤ ((fI u247 0 7) : Int32).toInt from by first | assumption | omega | decide)) (by exact (show ((fI u247 0 8) : Int32).toInt = 0 ∨ ((fI u247 0 6) : Int32).toInt < ((fI u247 0 7) : Int32).toInt from by first | assumption | omega | decide)) (r253)) (cwV 1 ht (gV wd_1651 wd_1653 wd_63 wd_121 wd_1654) rfl rfl rfl hd_yX11_must ⟨Nat.le_of_ble_eq_true rfl, Nat.le_of_ble_eq_true rfl⟩) 0 rfl mW_0 rfl rfl hl.1 (Nat.le_of_ble_eq_true rfl) dX11_readLine_308 rfl ⟨Nat.zero_le _, Nat.zero_le _⟩ (fun u257 H locs hp258 hO => ?_)
            obtain ⟨hJ, hTu257, hx0u257, hx1u257, hx2u257, hx3u257, hx4u257⟩ := hp258
            have hT : Km37 u u257 := Km37.tr (by exact hT) (Km27_to_Km37 hTu257)
            have g259 : 0 ≤ (fI u257 0 7).toInt ∧ (fI u257 0 7).toInt ≤ 1601 := by have h := MI_7 hJ; exact h
            have y0u257 : ((fI u257 0 7) : Int32).toInt ≤ ((fI u 0 3) : Int32).toInt := by have h : ((fI u257 0 7) : Int32).toInt ≤ (fI u257 0 3 : Int32).toInt := hx0u257; rw [show fI u257 0 3 = (fI u 0 3) from (Km37_I3 hT)] at h; exact h
            have g260 : 0 ≤ (fI u257 0 6).toInt ∧ (fI u257 0 6).toInt ≤ 1600 := by have h := MI_6 hJ; exact h
            have y1u257 : ((fI u257 0 6) : Int32).toInt ≤ ((fI u257 0 7) : Int32).toInt := by exact hx1u257
            have g261 : 0 ≤ (fI u257 0 8).toInt ∧ (fI u257 0 8).toInt ≤ 5 := by have h := MI_8 hJ; exact h
            have y2u257 : ((fI u257 0 8) : Int32).toInt = 0 ∨ ((fI u257 0 6) : Int32).toInt < ((fI u257 0 7) : Int32).toInt := by exact hx2u257
            have y3u257 : ((fI u247 0 6) : Int32).toInt ≤ ((fI u257 0 6) : Int32).toInt := by exact hx3u257
            have g262 : 0 ≤ (fI u257 0 4).toInt ∧ (fI u257 0 4).toInt ≤ 5 := by have h := MI_4 hJ; exact h
            have y4u257 : ((fI u247 0 4) : Int32).toInt = 0 ∨ ¬ ((fI u257 0 4) : Int32).toInt = 0 := by exact hx4u257
            clear gr253 kr253 hr253 y2u247 hx2u247 y4u247 hx4u247
            have q263 : ((fI u257 0 7) : Int32).toInt ≤ ((fI u 0 3) : Int32).toInt := by first | assumption | omega | decide
            have q264 : ((fI u257 0 6) : Int32).toInt ≤ ((fI u257 0 7) : Int32).toInt := by first | assumption | omega | decide
            have q265 : ((fI u257 0 8) : Int32).toInt = 0 ∨ ((fI u257 0 6) : Int32).toInt < ((fI u257 0 7) : Int32).toInt := by first | assumption | omega | decide
            have q266 : ¬ ((fI u257 0 4) : Int32).toInt = 0 ∨ ((fI u 0 6) : Int32).toInt < ((fI u257 0 6) : Int32).toInt := by first | assumption | omega | decide
            refine hret _ _ _ _ _ dX11_readLine_311 ?_ hO
            exact ⟨hJ, hT, (show ((fI u257 0 7) : Int32).toInt ≤ (fI u257 0 3 : Int32).toInt from by rw [show fI u257 0 3 = (fI u 0 3) from (Km37_I3 hT)]; first | done | exact q263), q264, q265, q266, (PQ.lex hPQ (by exact (Km37_I36 hT)) (by exact (Km37_I37 hT)) (by exact (Eq.trans (Km27_I38 hTu257) (Eq.trans (Km29_I38 hTu247) (Km26_I38 hTu31)))) (by exact (Eq.trans (Km27_A11 hTu257) (Eq.trans (Km29_A11 hTu247) (Km26_A11 hTu31)))) (by exact (Eq.trans (Km27_A18 hTu257) (Eq.trans (Km29_A18 hTu247) (Km26_A18 hTu31)))) (by exact (Eq.trans (Km27_A19 hTu257) (Eq.trans (Km29_A19 hTu247) (Km26_A19 hTu31)))) (by exact (Eq.trans (Km27_A23 hTu257) (Eq.trans (Km29_A23 hTu247) (Km26_A23 hTu31)))) (by exact (Eq.trans (Km27_A3 hTu257) (Eq.trans (Km29_A3 hTu247) (Km26_A3 hTu31)))) (by exact (Eq.trans (Km27_A6 hTu257) (Eq.trans (Km29_A6 hTu247) (Km26_A6 hTu31)))) (Or.inl (by omega)))⟩
        · have hj267 := lc_eq ez36 (by omega)
          clear c37
          have hf268 := FullOk.p0 hcr24 hj267
          refine lv_aload_n hx hb dX11_readLine_44 rfl (lv_at hl 1 rfl) ?_
          refine gf_RX11_72 (v := .ref (a 20)) C hO 0 mW_0 rfl dX11_readLine_45 ?_
          refine lv_bipush (v := 8) hx hb dX11_readLine_48 (by decide) ?_
          refine lv_aload_n hx hb dX11_readLine_50 rfl (lv_at hl 1 rfl) ?_
          refine gf_RX11_246 (v := .int (fI u 0 37)) C hO 0 mW_0 (congrArg (fun z : Int32 => some (Value.int z)) (Km37_I37 hT)) dX11_readLine_51 ?_
          refine lv_imul hx hb dX11_readLine_54 ?_
          refine lv_topi (fun z269 ez269 => ?_)
          have e270 : z269.toInt = 8 * ((fI u 0 37)).toInt := by rw [ez269]; exact i_mul rfl rfl (by omega)
          refine lv_aload_n hx hb dX11_readLine_55 rfl (lv_at hl 1 rfl) ?_
          refine gf_RX11_20 (v := .ref (a 3)) C hO 0 mW_0 rfl dX11_readLine_56 ?_
          refine lv_aload_n hx hb dX11_readLine_59 rfl (lv_at hl 1 rfl) ?_
          refine gf_RX11_246 (v := .int (fI u 0 37)) C hO 0 mW_0 (congrArg (fun z : Int32 => some (Value.int z)) (Km37_I37 hT)) dX11_readLine_60 ?_
          refine aI C hO 3 mW_3 (i_in (X := ((fI u 0 37)).toInt) rfl (by omega) (by omega)) dX11_readLine_63 ?_
          refine tE (y := (fA u 3 ((fI u 0 37)).toNatClampNeg)) (by exact (congrFun (Km26_A3 hTu31) _)) ?_
          refine lv_iadd hx hb dX11_readLine_64 ?_
          refine lv_topi (fun z271 ez271 => ?_)
          have e272 : z271.toInt = (8 * ((fI u 0 37)).toInt) + ((fA u 3 ((fI u 0 37)).toNatClampNeg)).toInt := by rw [ez271]; exact i_add e270 rfl (by omega)
          refine lv_aload_n hx hb dX11_readLine_65 rfl (lv_at hl 1 rfl) ?_
          refine lv_aload_n hx hb dX11_readLine_66 rfl (lv_at hl 1 rfl) ?_
          refine cVi (w := mW cy a) (As := []) (rest := [.ref (a 0), .int z271, .ref (a 20)]) C hO (T_X11_knotHere l D cy a _ (by exact hJ) ((fA u 3 ((fI u 0 37)).toNatClampNeg)) (by exact (Eq.trans (congrArg (fun z : Int32 => fA _ 3 z.toNatClampNeg) (Km37_I37 hT)) (congrFun (Km26_A3 hTu31) _)))) (cwV 0 ht (gV wd_1623 wd_1625 wd_56 wd_121 wd_1626) rfl rfl rfl hd_yX11_knotHere ⟨Nat.le_of_ble_eq_true rfl, Nat.le_of_ble_eq_true rfl⟩) 0 rfl mW_0 rfl rfl hl.1 (Nat.le_of_ble_eq_true rfl) dX11_readLine_67 rfl ⟨Nat.zero_le _, Nat.zero_le _⟩ (fun r273 u274 H locs hp275 hO => ?_)
          obtain ⟨hr273, hu274⟩ := hp275
          rw [hu274] at hO
          refine cVj (w := mW cy a) (As := [.int r273]) (rest := [.int z271, .ref (a 20)]) C hO (T_X11_fresh l D cy a _ (by exact hJ) (by exact (show ((fI u31 0 7) : Int32).toInt ≤ (fI u31 0 3 : Int32).toInt from by rw [show fI u31 0 3 = (fI u 0 3) from (Km37_I3 hT)]; first | done | assumption | omega | decide)) (by exact (show ((fI u31 0 6) : Int32).toInt ≤ ((fI u31 0 7) : Int32).toInt from by first | assumption | omega | decide)) (by exact (show ((fI u31 0 8) : Int32).toInt = 0 ∨ ((fI u31 0 6) : Int32).toInt < ((fI u31 0 7) : Int32).toInt from by first | assumption | omega | decide)) (r273)) (cwV 1 ht (gV wd_1631 wd_1633 wd_58 wd_121 wd_1634) rfl rfl rfl hd_yX11_fresh ⟨Nat.le_of_ble_eq_true rfl, Nat.le_of_ble_eq_true rfl⟩) 0 rfl mW_0 rfl rfl hl.1 (Nat.le_of_ble_eq_true rfl) dX11_readLine_70 rfl ⟨Nat.zero_le _, Nat.zero_le _⟩ (fun r276 u277 H locs hp278 hO => ?_)
          obtain ⟨hJ, hTu277, hx0u277, hx1u277, hx2u277, hx3u277, hx4u277⟩ := hp278
          have hT : Km37 u u277 := Km37.tr (by exact hT) (Km27_to_Km37 hTu277)
          have g279 : 0 ≤ (fI u277 0 7).toInt ∧ (fI u277 0 7).toInt ≤ 1601 := by have h := MI_7 hJ; exact h
          have y0u277 : ((fI u277 0 7) : Int32).toInt ≤ ((fI u 0 3) : Int32).toInt := by have h : ((fI u277 0 7) : Int32).toInt ≤ (fI u277 0 3 : Int32).toInt := hx0u277; rw [show fI u277 0 3 = (fI u 0 3) from (Km37_I3 hT)] at h; exact h
          have g280 : 0 ≤ (fI u277 0 6).toInt ∧ (fI u277 0 6).toInt ≤ 1600 := by have h := MI_6 hJ; exact h
          have y1u277 : ((fI u277 0 6) : Int32).toInt ≤ ((fI u277 0 7) : Int32).toInt := by exact hx1u277
          have g281 : 0 ≤ (fI u277 0 8).toInt ∧ (fI u277 0 8).toInt ≤ 5 := by have h := MI_8 hJ; exact h
          have y2u277 : ((fI u277 0 8) : Int32).toInt = 0 ∨ ((fI u277 0 6) : Int32).toInt < ((fI u277 0 7) : Int32).toInt := by exact hx2u277
          have y3u277 : ((fI u31 0 6) : Int32).toInt ≤ ((fI u277 0 6) : Int32).toInt := by exact hx3u277
          have g282 : 0 ≤ (fI u277 0 4).toInt ∧ (fI u277 0 4).toInt ≤ 5 := by have h := MI_4 hJ; exact h
          have y4u277 : ((fI u 0 4) : Int32).toInt = 0 ∨ ¬ ((fI u277 0 4) : Int32).toInt = 0 := by have h : (fI u31 0 4 : Int32).toInt = 0 ∨ ¬ ((fI u277 0 4) : Int32).toInt = 0 := hx4u277; rw [show fI u31 0 4 = (fI u 0 4) from (Km26_I4 hTu31)] at h; exact h
          clear hr273 y2u31 hx2u31
          refine aJs C hO 20 mW_20 (i_in (X := ((8 * ((fI u 0 37)).toInt) + ((fA u 3 ((fI u 0 37)).toNatClampNeg)).toInt)) e272 (by omega) (by omega)) mW_s20 dX11_readLine_73 (fun H locs hO => ?_)
          have hT := Km37_wJ20 hO hT
          have hJ := MIsJ_20 hO hJ
          refine lv_aload_n hx hb dX11_readLine_74 rfl (lv_at hl 1 rfl) ?_
          refine gf_RX11_20 (v := .ref (a 3)) C hO 0 mW_0 rfl dX11_readLine_75 ?_
          refine lv_aload_n hx hb dX11_readLine_78 rfl (lv_at hl 1 rfl) ?_
          refine gf_RX11_246 (v := .int (fI u 0 37)) C hO 0 mW_0 (congrArg (fun z : Int32 => some (Value.int z)) (Km37_I37 hT)) dX11_readLine_79 ?_
          refine lv_dup2_11 hx hb dX11_readLine_82 rfl rfl ?_
          refine aI C hO 3 mW_3 (i_in (X := ((fI u 0 37)).toInt) rfl (by omega) (by omega)) dX11_readLine_83 ?_
          refine tE (y := (fA u 3 ((fI u 0 37)).toNatClampNeg)) (by exact (congrFun (Eq.trans (by have h9 := (Km27_A3 hTu277); exact h9) (Km26_A3 hTu31)) _)) ?_
          refine lv_iconst (v := 1) hx hb dX11_readLine_84 (by decide) ?_
          refine lv_iadd hx hb dX11_readLine_85 ?_
          refine lv_topi (fun z283 ez283 => ?_)
          have e284 : z283.toInt = ((fA u 3 ((fI u 0 37)).toNatClampNeg)).toInt + 1 := by rw [ez283]; exact i_add rfl rfl (by omega)
          refine aIs C hO 3 mW_3 (i_in (X := ((fI u 0 37)).toInt) rfl (by omega) (by omega)) mW_s3 dX11_readLine_86 (fun H locs hO => ?_)
          have hT := Km37_wA3 hO hT
          have hJ := MIsA_3 hO hJ (by omega) (show ¬ (fI u277 0 36).toNatClampNeg = (fI u 0 37).toNatClampNeg from by rw [show fI u277 0 36 = fI u 0 36 from (Km37_I36 hT)]; exact (rb_ne (b := fI u 0 36) (r := fI u 0 37) (by omega) (by omega) (by omega)))
          refine lv_lload_n hx hb dX11_readLine_87 rfl (lv_at hl 0 rfl) ?_
          refine lv_ldc2 (v := 1818848869) hx hb hown (ht _ wd_1571) dX11_readLine_88 ?_
          refine W.lcmp hx hb dX11_readLine_91 ?_
          refine tE (y := (-1)) (by rw [hj267]; decide +kernel) ?_
          refine bt_ne (tgt := 99) (X := (-1)) hx hb dX11_readLine_92 (by decide) rfl (by omega) ?_
          refine lv_lload_n hx hb dX11_readLine_99 rfl (lv_at hl 0 rfl) ?_
          refine lv_ldc2 (v := 1886152033) hx hb hown (ht _ wd_1573) dX11_readLine_100 ?_
          refine W.lcmp hx hb dX11_readLine_103 ?_
          refine tE (y := (-1)) (by rw [hj267]; decide +kernel) ?_
          refine bt_ne (tgt := 190) (X := (-1)) hx hb dX11_readLine_104 (by decide) rfl (by omega) ?_
          refine lv_lload_n hx hb dX11_readLine_190 rfl (lv_at hl 0 rfl) ?_
          refine lv_ldc2 (v := 1667330917) hx hb hown (ht _ wd_1575) dX11_readLine_191 ?_
          refine W.lcmp hx hb dX11_readLine_194 ?_
          refine tE (y := 1) (by rw [hj267]; decide +kernel) ?_
          refine bt_ne (tgt := 202) (X := 1) hx hb dX11_readLine_195 (by decide) rfl (by omega) ?_
          refine lv_lload_n hx hb dX11_readLine_202 rfl (lv_at hl 0 rfl) ?_
          refine lv_ldc2 (v := 422608528232) hx hb hown (ht _ wd_1578) dX11_readLine_203 ?_
          refine W.lcmp hx hb dX11_readLine_206 ?_
          refine tE (y := (-1)) (by rw [hj267]; decide +kernel) ?_
          refine bt_ne (tgt := 240) (X := (-1)) hx hb dX11_readLine_207 (by decide) rfl (by omega) ?_
          refine lv_lload_n hx hb dX11_readLine_240 rfl (lv_at hl 0 rfl) ?_
          refine lv_ldc2 (v := 7102839) hx hb hown (ht _ wd_1579) dX11_readLine_241 ?_
          refine W.lcmp hx hb dX11_readLine_244 ?_
          refine tE (y := 1) (by rw [hj267]; decide +kernel) ?_
          refine bt_ne (tgt := 252) (X := 1) hx hb dX11_readLine_245 (by decide) rfl (by omega) ?_
          refine lv_lload_n hx hb dX11_readLine_252 rfl (lv_at hl 0 rfl) ?_
          refine lv_ldc2 (v := 1650549611) hx hb hown (ht _ wd_1580) dX11_readLine_253 ?_
          refine W.lcmp hx hb dX11_readLine_256 ?_
          refine tE (y := 1) (by rw [hj267]; decide +kernel) ?_
          refine bt_ne (tgt := 276) (X := 1) hx hb dX11_readLine_257 (by decide) rfl (by omega) ?_
          refine lv_lload_n hx hb dX11_readLine_276 rfl (lv_at hl 0 rfl) ?_
          refine lv_ldc2 (v := 1685217655) hx hb hown (ht _ wd_1581) dX11_readLine_277 ?_
          refine W.lcmp hx hb dX11_readLine_280 ?_
          refine tE (y := 1) (by rw [hj267]; decide +kernel) ?_
          refine bt_ne (tgt := 301) (X := 1) hx hb dX11_readLine_281 (by decide) rfl (by omega) ?_
          refine lv_aload_n hx hb dX11_readLine_301 rfl (lv_at hl 1 rfl) ?_
          refine lv_aload_n hx hb dX11_readLine_302 rfl (lv_at hl 1 rfl) ?_
          refine lv_bipush (v := 59) hx hb dX11_readLine_303 (by decide) ?_
          refine cVi (w := mW cy a) (As := [.int 59]) (rest := [.ref (a 0)]) C hO (T_X11_isSignHere l D cy a _ (by exact hJ) ((fI u277 0 8)) (by exact rfl) ((sgF u277 (fI u277 0 6))) (by exact rfl) (59)) (cwV 1 ht (gV wd_1682 wd_1684 wd_70 wd_121 wd_1685) rfl rfl rfl hd_yX11_isSignHere ⟨Nat.le_of_ble_eq_true rfl, Nat.le_of_ble_eq_true rfl⟩) 0 rfl mW_0 rfl rfl hl.1 (Nat.le_of_ble_eq_true rfl) dX11_readLine_305 rfl ⟨Nat.zero_le _, Nat.zero_le _⟩ (fun r285 u286 H locs hp287 hO => ?_)
          obtain ⟨hr285, hu286⟩ := hp287
          rw [hu286] at hO
          have gr285 : (r285 = 1 ∧ ((fI u277 0 8)).toInt = 5 ∧ (sgF u277 (fI u277 0 6)) = 59) ∨ r285 = 0 := by rcases hr285 with ⟨⟨h1, h2⟩, h3⟩ | ⟨_, h3⟩; exact Or.inl ⟨h3, h1, h2⟩; exact Or.inr h3
          have kr285 : (r285.toInt = 1 ∧ ((fI u277 0 8)).toInt = 5 ∧ ((sgF u277 (fI u277 0 6))).toInt = 59) ∨ r285.toInt = 0 := by rcases gr285 with ⟨h1, h2, h3⟩ | h1; exact Or.inl ⟨by rw [h1]; rfl, h2, by rw [h3]; rfl⟩; exact Or.inr (by rw [h1]; rfl)
          have hr285 : r285 = 0 ∨ r285 = 1 := by rcases gr285 with ⟨h1, _⟩ | h1; exact Or.inr h1; exact Or.inl h1
          refine cVv (w := mW cy a) (As := [.int r285]) (rest := []) C hO (T_X11_must l D cy a _ (by exact hJ) (by exact (show ((fI u277 0 7) : Int32).toInt ≤ (fI u277 0 3 : Int32).toInt from by rw [show fI u277 0 3 = (fI u 0 3) from (Km37_I3 hT)]; first | done | assumption | omega | decide)) (by exact (show ((fI u277 0 6) : Int32).toInt ≤ ((fI u277 0 7) : Int32).toInt from by first | assumption | omega | decide)) (by exact (show ((fI u277 0 8) : Int32).toInt = 0 ∨ ((fI u277 0 6) : Int32).toInt < ((fI u277 0 7) : Int32).toInt from by first | assumption | omega | decide)) (r285)) (cwV 1 ht (gV wd_1651 wd_1653 wd_63 wd_121 wd_1654) rfl rfl rfl hd_yX11_must ⟨Nat.le_of_ble_eq_true rfl, Nat.le_of_ble_eq_true rfl⟩) 0 rfl mW_0 rfl rfl hl.1 (Nat.le_of_ble_eq_true rfl) dX11_readLine_308 rfl ⟨Nat.zero_le _, Nat.zero_le _⟩ (fun u289 H locs hp290 hO => ?_)
          obtain ⟨hJ, hTu289, hx0u289, hx1u289, hx2u289, hx3u289, hx4u289⟩ := hp290
          have hT : Km37 u u289 := Km37.tr (by exact hT) (Km27_to_Km37 hTu289)
          have g291 : 0 ≤ (fI u289 0 7).toInt ∧ (fI u289 0 7).toInt ≤ 1601 := by have h := MI_7 hJ; exact h
          have y0u289 : ((fI u289 0 7) : Int32).toInt ≤ ((fI u 0 3) : Int32).toInt := by have h : ((fI u289 0 7) : Int32).toInt ≤ (fI u289 0 3 : Int32).toInt := hx0u289; rw [show fI u289 0 3 = (fI u 0 3) from (Km37_I3 hT)] at h; exact h
          have g292 : 0 ≤ (fI u289 0 6).toInt ∧ (fI u289 0 6).toInt ≤ 1600 := by have h := MI_6 hJ; exact h
          have y1u289 : ((fI u289 0 6) : Int32).toInt ≤ ((fI u289 0 7) : Int32).toInt := by exact hx1u289
          have g293 : 0 ≤ (fI u289 0 8).toInt ∧ (fI u289 0 8).toInt ≤ 5 := by have h := MI_8 hJ; exact h
          have y2u289 : ((fI u289 0 8) : Int32).toInt = 0 ∨ ((fI u289 0 6) : Int32).toInt < ((fI u289 0 7) : Int32).toInt := by exact hx2u289
          have y3u289 : ((fI u277 0 6) : Int32).toInt ≤ ((fI u289 0 6) : Int32).toInt := by exact hx3u289
          have g294 : 0 ≤ (fI u289 0 4).toInt ∧ (fI u289 0 4).toInt ≤ 5 := by have h := MI_4 hJ; exact h
          have y4u289 : ((fI u277 0 4) : Int32).toInt = 0 ∨ ¬ ((fI u289 0 4) : Int32).toInt = 0 := by exact hx4u289
          clear gr285 kr285 hr285 y2u277 hx2u277 y4u277 hx4u277
          have q295 : ((fI u289 0 7) : Int32).toInt ≤ ((fI u 0 3) : Int32).toInt := by first | assumption | omega | decide
          have q296 : ((fI u289 0 6) : Int32).toInt ≤ ((fI u289 0 7) : Int32).toInt := by first | assumption | omega | decide
          have q297 : ((fI u289 0 8) : Int32).toInt = 0 ∨ ((fI u289 0 6) : Int32).toInt < ((fI u289 0 7) : Int32).toInt := by first | assumption | omega | decide
          have q298 : ¬ ((fI u289 0 4) : Int32).toInt = 0 ∨ ((fI u 0 6) : Int32).toInt < ((fI u289 0 6) : Int32).toInt := by first | assumption | omega | decide
          refine hret _ _ _ _ _ dX11_readLine_311 ?_ hO
          exact ⟨hJ, hT, (show ((fI u289 0 7) : Int32).toInt ≤ (fI u289 0 3 : Int32).toInt from by rw [show fI u289 0 3 = (fI u 0 3) from (Km37_I3 hT)]; first | done | exact q295), q296, q297, q298, (PQ.go hPQ (by exact (Km37_I36 hT)) (by exact (Km37_I37 hT)) (by exact (Eq.trans (by have h9 := (Km27_I38 hTu289); exact h9) (Eq.trans (by have h9 := (Km27_I38 hTu277); exact h9) (Km26_I38 hTu31)))) (by rw [show fA _ 11 = fA u 11 from (Eq.trans (by have h9 := (Km27_A11 hTu289); exact h9) (Eq.trans (by have h9 := (Km27_A11 hTu277); exact h9) (Km26_A11 hTu31)))]) (by exact (Eq.trans (by have h9 := (Km27_A18 hTu289); exact h9) (Eq.trans (by have h9 := (Km27_A18 hTu277); exact h9) (Km26_A18 hTu31)))) (by exact (Eq.trans (by have h9 := (Km27_A19 hTu289); exact h9) (Eq.trans (by have h9 := (Km27_A19 hTu277); exact h9) (Km26_A19 hTu31)))) (by exact (Eq.trans (by have h9 := (Km27_A23 hTu289); exact h9) (Eq.trans (by have h9 := (Km27_A23 hTu277); exact h9) (Km26_A23 hTu31)))) (Or.inl (by omega)) (Or.inr (Or.inr (by rw [(Km27_A3 hTu289)]; exact (show 0 < (upd (fA u277 3) (fI u 0 37).toNatClampNeg z283 (fI u 0 37).toNatClampNeg).toInt from by rw [upd_at]; omega)))))⟩
      · subst hvr27
        refine bn_ne (X := 0) hx hb dX11_readLine_28 rfl (by omega) ?_ (tgt := 32) (by decide)
        have q299 : ((fI u 0 7) : Int32).toInt ≤ ((fI u 0 3) : Int32).toInt := by first | assumption | omega | decide
        have q300 : ((fI u 0 6) : Int32).toInt ≤ ((fI u 0 7) : Int32).toInt := by first | assumption | omega | decide
        have q301 : ((fI u 0 8) : Int32).toInt = 0 ∨ ((fI u 0 6) : Int32).toInt < ((fI u 0 7) : Int32).toInt := by first | assumption | omega | decide
        have q302 : ¬ ((fI u 0 4) : Int32).toInt = 0 ∨ ((fI u 0 6) : Int32).toInt < ((fI u 0 6) : Int32).toInt := by first | assumption | omega | decide
        refine hret _ _ _ _ _ dX11_readLine_31 ?_ hO
        exact ⟨hJ, hT, q299, q300, q301, q302, (PQ.lex hPQ (by exact rfl) (by exact rfl) (by exact rfl) (by exact rfl) (by exact rfl) (by exact rfl) (by exact rfl) (by exact rfl) (by exact rfl) (Or.inl (by omega)))⟩
    · subst hvr24
      refine bn_eq (X := 1) hx hb dX11_readLine_17 rfl (by omega) ?_ (tgt := 24) (by decide)
      refine lv_aload_n hx hb dX11_readLine_20 rfl (lv_at hl 1 rfl) ?_
      refine cVv (w := mW cy a) (As := []) (rest := []) C hO (T_X11_misplaced l D cy a _ (by exact hJ)) (cwV 0 ht (gV wd_1615 wd_1617 wd_54 wd_121 wd_1618) rfl rfl rfl hd_yX11_misplaced ⟨Nat.le_of_ble_eq_true rfl, Nat.le_of_ble_eq_true rfl⟩) 0 rfl mW_0 rfl rfl hl.1 (Nat.le_of_ble_eq_true rfl) dX11_readLine_21 rfl ⟨Nat.zero_le _, Nat.zero_le _⟩ (fun u304 H locs hp305 hO => ?_)
      obtain ⟨hJ, hTu304, hx0u304⟩ := hp305
      have hT : Km37 u u304 := Km37.tr (by exact hT) (Km25_to_Km37 hTu304)
      have g306 : 0 ≤ (fI u304 0 4).toInt ∧ (fI u304 0 4).toInt ≤ 5 := by have h := MI_4 hJ; exact h
      have y0u304 : ¬ ((fI u304 0 4) : Int32).toInt = 0 := by exact hx0u304
      refine lv_aload_n hx hb dX11_readLine_24 rfl (lv_at hl 1 rfl) ?_
      refine cVi (w := mW cy a) (As := []) (rest := []) C hO (T_X11_isGood l D cy a _ (by exact hJ) ((fI u304 0 4)) (by exact rfl)) (cwV 0 ht (gV wd_1596 wd_1598 wd_50 wd_121 wd_1599) rfl rfl rfl hd_yX11_isGood ⟨Nat.le_of_ble_eq_true rfl, Nat.le_of_ble_eq_true rfl⟩) 0 rfl mW_0 rfl rfl hl.1 (Nat.le_of_ble_eq_true rfl) dX11_readLine_25 rfl ⟨Nat.zero_le _, Nat.zero_le _⟩ (fun r307 u308 H locs hp309 hO => ?_)
      obtain ⟨hr307, hu308⟩ := hp309
      rw [hu308] at hO
      rcases hr307 with ⟨hcr307, hvr307⟩ | ⟨hcr307, hvr307⟩
      · exfalso
        omega
      · subst hvr307
        refine bn_ne (X := 0) hx hb dX11_readLine_28 rfl (by omega) ?_ (tgt := 32) (by decide)
        have q310 : ((fI u 0 7) : Int32).toInt ≤ ((fI u 0 3) : Int32).toInt := by first | assumption | omega | decide
        have q311 : ((fI u 0 6) : Int32).toInt ≤ ((fI u 0 7) : Int32).toInt := by first | assumption | omega | decide
        have q312 : ((fI u 0 8) : Int32).toInt = 0 ∨ ((fI u 0 6) : Int32).toInt < ((fI u 0 7) : Int32).toInt := by first | assumption | omega | decide
        have q313 : ¬ ((fI u304 0 4) : Int32).toInt = 0 ∨ ((fI u 0 6) : Int32).toInt < ((fI u 0 6) : Int32).toInt := by first | assumption | omega | decide
        refine hret _ _ _ _ _ dX11_readLine_31 ?_ hO
        exact ⟨hJ, hT, (show (fI u304 0 7 : Int32).toInt ≤ (fI u304 0 3 : Int32).toInt from by rw [show fI u304 0 7 = (fI u 0 7) from (Km25_I7 hTu304), show fI u304 0 3 = (fI u 0 3) from (Km37_I3 hT)]; first | done | exact q310), (show (fI u304 0 6 : Int32).toInt ≤ (fI u304 0 7 : Int32).toInt from by rw [show fI u304 0 6 = (fI u 0 6) from (Km25_I6 hTu304), show fI u304 0 7 = (fI u 0 7) from (Km25_I7 hTu304)]; first | done | exact q311), (show (fI u304 0 8 : Int32).toInt = 0 ∨ (fI u304 0 6 : Int32).toInt < (fI u304 0 7 : Int32).toInt from by rw [show fI u304 0 8 = (fI u 0 8) from (Km25_I8 hTu304), show fI u304 0 6 = (fI u 0 6) from (Km25_I6 hTu304), show fI u304 0 7 = (fI u 0 7) from (Km25_I7 hTu304)]; first | done | exact q312), (show ¬ ((fI u304 0 4) : Int32).toInt = 0 ∨ ((fI u 0 6) : Int32).toInt < (fI u304 0 6 : Int32).toInt from by rw [show fI u304 0 6 = (fI u 0 6) from (Km25_I6 hTu304)]; first | done | exact q313), (PQ.lex hPQ (by exact (Km37_I36 hT)) (by exact (Km37_I37 hT)) (by exact (Km25_I38 hTu304)) (by exact (Km25_A11 hTu304)) (by exact (Km25_A18 hTu304)) (by exact (Km25_A19 hTu304)) (by exact (Km25_A23 hTu304)) (by exact (Km25_A3 hTu304)) (by exact (Km25_A6 hTu304)) (Or.inl (by omega)))⟩
