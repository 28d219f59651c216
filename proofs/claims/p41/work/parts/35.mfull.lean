def FullOk (gN : Int64) (hk hl_ hp_ hc_ ht_ : Int32) : Prop := (gN = 1802399604 → hk.toInt < 8) ∧ (gN = 1818848869 → hl_.toInt < 14) ∧ (gN = 1886152033 → hp_.toInt < 8) ∧ (gN = 1667330917 → hc_.toInt < 6) ∧ (gN = 7102839 → bitF ht_ 0 = 0)
theorem FullOk.mk {gN : Int64} {hk hl_ hp_ hc_ ht_ : Int32} (h0 : gN = 1802399604 → hk.toInt < 8) (h1 : gN = 1818848869 → hl_.toInt < 14) (h2 : gN = 1886152033 → hp_.toInt < 8) (h3 : gN = 1667330917 → hc_.toInt < 6) (h4 : gN = 7102839 → bitF ht_ 0 = 0) : FullOk gN hk hl_ hp_ hc_ ht_ := by
  unfold FullOk
  exact ⟨h0, h1, h2, h3, h4⟩
theorem FullOk.p0 {gN : Int64} {hk hl_ hp_ hc_ ht_ : Int32} (h : FullOk gN hk hl_ hp_ hc_ ht_) : gN = 1802399604 → hk.toInt < 8 := h.1
theorem FullOk.p1 {gN : Int64} {hk hl_ hp_ hc_ ht_ : Int32} (h : FullOk gN hk hl_ hp_ hc_ ht_) : gN = 1818848869 → hl_.toInt < 14 := h.2.1
theorem FullOk.p2 {gN : Int64} {hk hl_ hp_ hc_ ht_ : Int32} (h : FullOk gN hk hl_ hp_ hc_ ht_) : gN = 1886152033 → hp_.toInt < 8 := h.2.2.1
theorem FullOk.p3 {gN : Int64} {hk hl_ hp_ hc_ ht_ : Int32} (h : FullOk gN hk hl_ hp_ hc_ ht_) : gN = 1667330917 → hc_.toInt < 6 := h.2.2.2.1
theorem FullOk.p4 {gN : Int64} {hk hl_ hp_ hc_ ht_ : Int32} (h : FullOk gN hk hl_ hp_ hc_ ht_) : gN = 7102839 → bitF ht_ 0 = 0 := h.2.2.2.2
theorem LawOk_eq {u v : St} {b : Int32} (h : LawOk u b) (e11 : fA v 11 = fA u 11) (e18 : fA v 18 = fA u 18) (e19 : fA v 19 = fA u 19) (e23 : fA v 23 = fA u 23) : LawOk v b := by
  rcases h with h | ⟨L, g1, g2, g3, g4⟩
  · exact Or.inl (by rw [e11]; exact h)
  · exact Or.inr ⟨L, by rw [e18]; exact g1, by rw [e19]; exact g2, g3, by rw [e23]; exact g4⟩
theorem PQ.law {u v : St} (h : PQ u) (e36 : fI v 0 36 = fI u 0 36) (e37 : fI v 0 37 = fI u 0 37) (eb : bitF (fA v 11 (fI u 0 37).toNatClampNeg) 0 = 1) (hl : ¬ (fI v 0 4).toInt = 0 ∨ LawOk v (fI u 0 37)) (hc : ¬ (fI v 0 4).toInt = 0 ∨ (fA v 6 (fI u 0 37).toNatClampNeg).toInt ≤ 0 ∨ 0 < (fA v 3 (fI u 0 37).toNatClampNeg).toInt) : PQ v := by
  refine ⟨by rw [e36, e37]; exact h.1, ?_, by rw [e37]; exact hl, by rw [e37]; exact hc⟩
  intro q
  rw [e37, eb] at q
  exact absurd q (by decide)
theorem MBs_36 {a : Nat → Nat} {u : St} {v : Int32} (h : MI a u) (hv : 0 ≤ v.toInt ∧ v.toInt ≤ 1) (hl : LawOk u v) (hc : (fA u 6 v.toNatClampNeg).toInt ≤ 0 ∨ 0 < (fA u 3 v.toNatClampNeg).toInt) : MB a (sI u 0 36 v) := by
  obtain ⟨h0, h1, h2, h3, h4, h5, h6, h7, h8, h9, h10, h11, h12, h13, h14, h15, h16, h17, h18, h19, h20, h21, h22, h23, h24, h25, h26, h27, h28⟩ := h.b
  exact ⟨h0, h1, h2, h3, h4, h5, hv, h7, h8, h9, h10, h11, h12, h13, h14, h15, h16, h17, h18, h19, h20, h21, h22, h23, h24, h25, h26, hl, hc⟩
theorem dX11_isFull_0 : decode cX11_isFull 0 = .ok (.aload_n 0, 1) := by decide +kernel
theorem dX11_isFull_1 : decode cX11_isFull 1 = .ok (.ldc2_w 158, 3) := by decide +kernel
theorem dX11_isFull_4 : decode cX11_isFull 4 = .ok (.invokevirtual 261, 3) := by decide +kernel
theorem dX11_isFull_7 : decode cX11_isFull 7 = .ok (.ifCond .eq 23, 3) := by decide +kernel
theorem dX11_isFull_10 : decode cX11_isFull 10 = .ok (.aload_n 0, 1) := by decide +kernel
theorem dX11_isFull_11 : decode cX11_isFull 11 = .ok (.getfield 20, 3) := by decide +kernel
theorem dX11_isFull_14 : decode cX11_isFull 14 = .ok (.aload_n 0, 1) := by decide +kernel
theorem dX11_isFull_15 : decode cX11_isFull 15 = .ok (.getfield 246, 3) := by decide +kernel
theorem dX11_isFull_18 : decode cX11_isFull 18 = .ok (.iaload, 1) := by decide +kernel
theorem dX11_isFull_19 : decode cX11_isFull 19 = .ok (.bipush 8, 2) := by decide +kernel
theorem dX11_isFull_21 : decode cX11_isFull 21 = .ok (.if_icmp .ne 7, 3) := by decide +kernel
theorem dX11_isFull_24 : decode cX11_isFull 24 = .ok (.iconst 1, 1) := by decide +kernel
theorem dX11_isFull_25 : decode cX11_isFull 25 = .ok (.goto 4, 3) := by decide +kernel
theorem dX11_isFull_28 : decode cX11_isFull 28 = .ok (.iconst 0, 1) := by decide +kernel
theorem dX11_isFull_29 : decode cX11_isFull 29 = .ok (.ireturn, 1) := by decide +kernel
theorem dX11_isFull_30 : decode cX11_isFull 30 = .ok (.aload_n 0, 1) := by decide +kernel
theorem dX11_isFull_31 : decode cX11_isFull 31 = .ok (.ldc2_w 160, 3) := by decide +kernel
theorem dX11_isFull_34 : decode cX11_isFull 34 = .ok (.invokevirtual 261, 3) := by decide +kernel
theorem dX11_isFull_37 : decode cX11_isFull 37 = .ok (.ifCond .eq 23, 3) := by decide +kernel
theorem dX11_isFull_40 : decode cX11_isFull 40 = .ok (.aload_n 0, 1) := by decide +kernel
theorem dX11_isFull_41 : decode cX11_isFull 41 = .ok (.getfield 24, 3) := by decide +kernel
theorem dX11_isFull_44 : decode cX11_isFull 44 = .ok (.aload_n 0, 1) := by decide +kernel
theorem dX11_isFull_45 : decode cX11_isFull 45 = .ok (.getfield 246, 3) := by decide +kernel
theorem dX11_isFull_48 : decode cX11_isFull 48 = .ok (.iaload, 1) := by decide +kernel
theorem dX11_isFull_49 : decode cX11_isFull 49 = .ok (.bipush 14, 2) := by decide +kernel
theorem dX11_isFull_51 : decode cX11_isFull 51 = .ok (.if_icmp .ne 7, 3) := by decide +kernel
theorem dX11_isFull_54 : decode cX11_isFull 54 = .ok (.iconst 1, 1) := by decide +kernel
theorem dX11_isFull_55 : decode cX11_isFull 55 = .ok (.goto 4, 3) := by decide +kernel
theorem dX11_isFull_58 : decode cX11_isFull 58 = .ok (.iconst 0, 1) := by decide +kernel
theorem dX11_isFull_59 : decode cX11_isFull 59 = .ok (.ireturn, 1) := by decide +kernel
theorem dX11_isFull_60 : decode cX11_isFull 60 = .ok (.aload_n 0, 1) := by decide +kernel
theorem dX11_isFull_61 : decode cX11_isFull 61 = .ok (.ldc2_w 164, 3) := by decide +kernel
theorem dX11_isFull_64 : decode cX11_isFull 64 = .ok (.invokevirtual 261, 3) := by decide +kernel
theorem dX11_isFull_67 : decode cX11_isFull 67 = .ok (.ifCond .eq 23, 3) := by decide +kernel
theorem dX11_isFull_70 : decode cX11_isFull 70 = .ok (.aload_n 0, 1) := by decide +kernel
theorem dX11_isFull_71 : decode cX11_isFull 71 = .ok (.getfield 27, 3) := by decide +kernel
theorem dX11_isFull_74 : decode cX11_isFull 74 = .ok (.aload_n 0, 1) := by decide +kernel
theorem dX11_isFull_75 : decode cX11_isFull 75 = .ok (.getfield 246, 3) := by decide +kernel
theorem dX11_isFull_78 : decode cX11_isFull 78 = .ok (.iaload, 1) := by decide +kernel
theorem dX11_isFull_79 : decode cX11_isFull 79 = .ok (.bipush 8, 2) := by decide +kernel
theorem dX11_isFull_81 : decode cX11_isFull 81 = .ok (.if_icmp .ne 7, 3) := by decide +kernel
theorem dX11_isFull_84 : decode cX11_isFull 84 = .ok (.iconst 1, 1) := by decide +kernel
theorem dX11_isFull_85 : decode cX11_isFull 85 = .ok (.goto 4, 3) := by decide +kernel
theorem dX11_isFull_88 : decode cX11_isFull 88 = .ok (.iconst 0, 1) := by decide +kernel
theorem dX11_isFull_89 : decode cX11_isFull 89 = .ok (.ireturn, 1) := by decide +kernel
theorem dX11_isFull_90 : decode cX11_isFull 90 = .ok (.aload_n 0, 1) := by decide +kernel
theorem dX11_isFull_91 : decode cX11_isFull 91 = .ok (.ldc2_w 168, 3) := by decide +kernel
theorem dX11_isFull_94 : decode cX11_isFull 94 = .ok (.invokevirtual 261, 3) := by decide +kernel
theorem dX11_isFull_97 : decode cX11_isFull 97 = .ok (.ifCond .eq 23, 3) := by decide +kernel
theorem dX11_isFull_100 : decode cX11_isFull 100 = .ok (.aload_n 0, 1) := by decide +kernel
theorem dX11_isFull_101 : decode cX11_isFull 101 = .ok (.getfield 30, 3) := by decide +kernel
theorem dX11_isFull_104 : decode cX11_isFull 104 = .ok (.aload_n 0, 1) := by decide +kernel
theorem dX11_isFull_105 : decode cX11_isFull 105 = .ok (.getfield 246, 3) := by decide +kernel
theorem dX11_isFull_108 : decode cX11_isFull 108 = .ok (.iaload, 1) := by decide +kernel
theorem dX11_isFull_109 : decode cX11_isFull 109 = .ok (.bipush 6, 2) := by decide +kernel
theorem dX11_isFull_111 : decode cX11_isFull 111 = .ok (.if_icmp .ne 7, 3) := by decide +kernel
theorem dX11_isFull_114 : decode cX11_isFull 114 = .ok (.iconst 1, 1) := by decide +kernel
theorem dX11_isFull_115 : decode cX11_isFull 115 = .ok (.goto 4, 3) := by decide +kernel
theorem dX11_isFull_118 : decode cX11_isFull 118 = .ok (.iconst 0, 1) := by decide +kernel
theorem dX11_isFull_119 : decode cX11_isFull 119 = .ok (.ireturn, 1) := by decide +kernel
theorem dX11_isFull_120 : decode cX11_isFull 120 = .ok (.aload_n 0, 1) := by decide +kernel
theorem dX11_isFull_121 : decode cX11_isFull 121 = .ok (.ldc2_w 174, 3) := by decide +kernel
theorem dX11_isFull_124 : decode cX11_isFull 124 = .ok (.invokevirtual 261, 3) := by decide +kernel
theorem dX11_isFull_127 : decode cX11_isFull 127 = .ok (.ifCond .eq 17, 3) := by decide +kernel
theorem dX11_isFull_130 : decode cX11_isFull 130 = .ok (.aload_n 0, 1) := by decide +kernel
theorem dX11_isFull_131 : decode cX11_isFull 131 = .ok (.getfield 45, 3) := by decide +kernel
theorem dX11_isFull_134 : decode cX11_isFull 134 = .ok (.aload_n 0, 1) := by decide +kernel
theorem dX11_isFull_135 : decode cX11_isFull 135 = .ok (.getfield 246, 3) := by decide +kernel
theorem dX11_isFull_138 : decode cX11_isFull 138 = .ok (.iaload, 1) := by decide +kernel
theorem dX11_isFull_139 : decode cX11_isFull 139 = .ok (.iconst 1, 1) := by decide +kernel
theorem dX11_isFull_140 : decode cX11_isFull 140 = .ok (.invokestatic 264, 3) := by decide +kernel
theorem dX11_isFull_143 : decode cX11_isFull 143 = .ok (.ireturn, 1) := by decide +kernel
theorem dX11_isFull_144 : decode cX11_isFull 144 = .ok (.aload_n 0, 1) := by decide +kernel
theorem dX11_isFull_145 : decode cX11_isFull 145 = .ok (.ldc2_w 176, 3) := by decide +kernel
theorem dX11_isFull_148 : decode cX11_isFull 148 = .ok (.invokevirtual 261, 3) := by decide +kernel
theorem dX11_isFull_151 : decode cX11_isFull 151 = .ok (.ifCond .eq 17, 3) := by decide +kernel
theorem dX11_isFull_154 : decode cX11_isFull 154 = .ok (.aload_n 0, 1) := by decide +kernel
theorem dX11_isFull_155 : decode cX11_isFull 155 = .ok (.getfield 45, 3) := by decide +kernel
theorem dX11_isFull_158 : decode cX11_isFull 158 = .ok (.aload_n 0, 1) := by decide +kernel
theorem dX11_isFull_159 : decode cX11_isFull 159 = .ok (.getfield 246, 3) := by decide +kernel
theorem dX11_isFull_162 : decode cX11_isFull 162 = .ok (.iaload, 1) := by decide +kernel
theorem dX11_isFull_163 : decode cX11_isFull 163 = .ok (.iconst 0, 1) := by decide +kernel
theorem dX11_isFull_164 : decode cX11_isFull 164 = .ok (.invokestatic 264, 3) := by decide +kernel
theorem dX11_isFull_167 : decode cX11_isFull 167 = .ok (.ireturn, 1) := by decide +kernel
theorem dX11_isFull_168 : decode cX11_isFull 168 = .ok (.aload_n 0, 1) := by decide +kernel
theorem dX11_isFull_169 : decode cX11_isFull 169 = .ok (.ldc2_w 178, 3) := by decide +kernel
theorem dX11_isFull_172 : decode cX11_isFull 172 = .ok (.invokevirtual 261, 3) := by decide +kernel
theorem dX11_isFull_175 : decode cX11_isFull 175 = .ok (.ifCond .eq 17, 3) := by decide +kernel
theorem dX11_isFull_178 : decode cX11_isFull 178 = .ok (.aload_n 0, 1) := by decide +kernel
theorem dX11_isFull_179 : decode cX11_isFull 179 = .ok (.getfield 45, 3) := by decide +kernel
theorem dX11_isFull_182 : decode cX11_isFull 182 = .ok (.aload_n 0, 1) := by decide +kernel
theorem dX11_isFull_183 : decode cX11_isFull 183 = .ok (.getfield 246, 3) := by decide +kernel
theorem dX11_isFull_186 : decode cX11_isFull 186 = .ok (.iaload, 1) := by decide +kernel
theorem dX11_isFull_187 : decode cX11_isFull 187 = .ok (.iconst 2, 1) := by decide +kernel
theorem dX11_isFull_188 : decode cX11_isFull 188 = .ok (.invokestatic 264, 3) := by decide +kernel
theorem dX11_isFull_191 : decode cX11_isFull 191 = .ok (.ireturn, 1) := by decide +kernel
theorem dX11_isFull_192 : decode cX11_isFull 192 = .ok (.aload_n 0, 1) := by decide +kernel
theorem dX11_isFull_193 : decode cX11_isFull 193 = .ok (.ldc2_w 180, 3) := by decide +kernel
theorem dX11_isFull_196 : decode cX11_isFull 196 = .ok (.invokevirtual 261, 3) := by decide +kernel
theorem dX11_isFull_199 : decode cX11_isFull 199 = .ok (.ifCond .eq 19, 3) := by decide +kernel
theorem dX11_isFull_202 : decode cX11_isFull 202 = .ok (.aload_n 0, 1) := by decide +kernel
theorem dX11_isFull_203 : decode cX11_isFull 203 = .ok (.getfield 45, 3) := by decide +kernel
theorem dX11_isFull_206 : decode cX11_isFull 206 = .ok (.aload_n 0, 1) := by decide +kernel
theorem dX11_isFull_207 : decode cX11_isFull 207 = .ok (.getfield 246, 3) := by decide +kernel
theorem dX11_isFull_210 : decode cX11_isFull 210 = .ok (.iaload, 1) := by decide +kernel
theorem dX11_isFull_211 : decode cX11_isFull 211 = .ok (.iconst 3, 1) := by decide +kernel
theorem dX11_isFull_212 : decode cX11_isFull 212 = .ok (.invokestatic 264, 3) := by decide +kernel
theorem dX11_isFull_215 : decode cX11_isFull 215 = .ok (.ifCond .eq 7, 3) := by decide +kernel
theorem dX11_isFull_218 : decode cX11_isFull 218 = .ok (.iconst 1, 1) := by decide +kernel
theorem dX11_isFull_219 : decode cX11_isFull 219 = .ok (.goto 4, 3) := by decide +kernel
theorem dX11_isFull_222 : decode cX11_isFull 222 = .ok (.iconst 0, 1) := by decide +kernel
theorem dX11_isFull_223 : decode cX11_isFull 223 = .ok (.ireturn, 1) := by decide +kernel
theorem wd_1607 : (Cond.code ⟨"WebCourtModel", "isFull", "()Z"⟩ prog_13_method_17_code (1 : Nat) (Option.some FieldType.boolean)) ∈ gtb := gtb_c7 58 (by decide +kernel) rfl
set_option maxHeartbeats 4000000 in
set_option maxRecDepth 100000 in
theorem T_X11_isFull (l : Launch) (D : va_G) (cy : Nat → ClassId) (a : Nat → Nat) (u : St) (hJ : MI a u) (gt : Int32) (hgt : fI u 0 8 = gt) (gN : Int64) (hgN : fL u 0 10 = gN) (hk : Int32) (hhk : fA u 3 (fI u 0 37).toNatClampNeg = hk) (hl_ : Int32) (hhl_ : fA u 4 (fI u 0 37).toNatClampNeg = hl_) (hp_ : Int32) (hhp_ : fA u 5 (fI u 0 37).toNatClampNeg = hp_) (hc_ : Int32) (hhc_ : fA u 6 (fI u 0 37).toNatClampNeg = hc_) (ht_ : Int32) (hht_ : fA u 11 (fI u 0 37).toNatClampNeg = ht_)  (hg3 : gt.toInt = 3) : Mi l D cy (mW cy a) yX11_isFull (.code yX11_isFull cX11_isFull 1 (some .boolean)) (rmo 1 22) [.ref (a 0)] u (fun (r : Int32) (u' : St) => (((FullOk gN hk hl_ hp_ hc_ ht_) ∧ r = 0) ∨ (True ∧ r = 1)) ∧ (u' = u)) := by
  refine Mi.of (own := RX11) rfl (by decide) (Nat.le_of_ble_eq_true rfl) ?_
  have hT : Km0 u u := Km0.rf
  have hJ0 := hJ
  intro p e s m below meth c A Q ls C hret hO hl
  obtain ⟨hx, hb, hml, hown, ht, hK, hA⟩ := id C
  have hl : lv_has ls 1 [(0, .ref (a 0))] := hl
  refine lv_aload_n hx hb dX11_isFull_0 rfl (lv_at hl 0 rfl) ?_
  refine lv_ldc2 (v := 1802399604) hx hb hown (ht _ wd_1570) dX11_isFull_1 ?_
  have g1 : 0 ≤ gt.toInt ∧ gt.toInt ≤ 5 := by have h := MI_8 hJ0; rw [hgt] at h; exact h
  refine cVi (w := mW cy a) (As := [.long 1802399604]) (rest := []) C hO (T_X11_isWord l D cy a _ (by exact hJ) (gt) (by exact hgt) (gN) (by exact hgN) (1802399604)) (cwV 1 ht (gV wd_1608 wd_1610 wd_53 wd_121 wd_1611) rfl rfl rfl hd_yX11_isWord ⟨Nat.le_of_ble_eq_true rfl, Nat.le_of_ble_eq_true rfl⟩) 0 rfl mW_0 rfl rfl hl.1 (Nat.le_of_ble_eq_true rfl) dX11_isFull_4 rfl ⟨Nat.zero_le _, Nat.zero_le _⟩ (fun r2 u3 H locs hp4 hO => ?_)
  obtain ⟨hr2, hu3⟩ := hp4
  rw [hu3] at hO
  rcases hr2 with ⟨hcr2, hvr2⟩ | ⟨hcr2, hvr2⟩
  · subst hvr2
    have hw5 := (hcr2).2
    refine bn_eq (X := 1) hx hb dX11_isFull_7 rfl (by omega) ?_ (tgt := 30) (by decide)
    refine lv_aload_n hx hb dX11_isFull_10 rfl (lv_at hl 0 rfl) ?_
    refine gf_RX11_20 (v := .ref (a 3)) C hO 0 mW_0 rfl dX11_isFull_11 ?_
    refine lv_aload_n hx hb dX11_isFull_14 rfl (lv_at hl 0 rfl) ?_
    have g6 : 0 ≤ (fI u 0 37).toInt ∧ (fI u 0 37).toInt ≤ 1 := by have h := MI_37 hJ0; exact h
    refine gf_RX11_246 (v := .int (fI u 0 37)) C hO 0 mW_0 rfl dX11_isFull_15 ?_
    refine aI C hO 3 mW_3 (i_in (X := ((fI u 0 37)).toInt) rfl (by omega) (by omega)) dX11_isFull_18 ?_
    have g7 : 0 ≤ hk.toInt ∧ hk.toInt ≤ 8 := by have h := MI_A3 hJ0 (fI u 0 37).toNatClampNeg; rw [hhk] at h; exact h
    refine tE (y := hk) (by exact hhk) ?_
    refine lv_bipush (v := 8) hx hb dX11_isFull_19 (by decide) ?_
    refine cs_ne (tgt := 28) (X := (hk).toInt) (Y := 8) hx hb dX11_isFull_21 (by decide) rfl rfl (fun c8 => ?_) (fun c8 => ?_)
    · refine lv_iconst (v := 0) hx hb dX11_isFull_28 (by decide) ?_
      refine hret _ _ _ _ _ _ dX11_isFull_29 rfl ?_ hO
      exact ⟨Or.inl ⟨(FullOk.mk (fun _ => (by omega)) (fun h => absurd (Eq.trans (Eq.symm hw5) h) (by decide)) (fun h => absurd (Eq.trans (Eq.symm hw5) h) (by decide)) (fun h => absurd (Eq.trans (Eq.symm hw5) h) (by decide)) (fun h => absurd (Eq.trans (Eq.symm hw5) h) (by decide))), rfl⟩, rfl⟩
    · refine lv_iconst (v := 1) hx hb dX11_isFull_24 (by decide) ?_
      refine lv_goto (tgt := 29) hx hb dX11_isFull_25 (by decide) ?_
      refine hret _ _ _ _ _ _ dX11_isFull_29 rfl ?_ hO
      exact ⟨Or.inr ⟨trivial, rfl⟩, rfl⟩
  · subst hvr2
    have hw9 : ¬ gN = 1802399604 := by rcases hcr2 with h | h; exact absurd hg3 h; exact h
    refine bt_eq (tgt := 30) (X := 0) hx hb dX11_isFull_7 (by decide) rfl (by omega) ?_
    refine lv_aload_n hx hb dX11_isFull_30 rfl (lv_at hl 0 rfl) ?_
    refine lv_ldc2 (v := 1818848869) hx hb hown (ht _ wd_1571) dX11_isFull_31 ?_
    refine cVi (w := mW cy a) (As := [.long 1818848869]) (rest := []) C hO (T_X11_isWord l D cy a _ (by exact hJ) (gt) (by exact hgt) (gN) (by exact hgN) (1818848869)) (cwV 1 ht (gV wd_1608 wd_1610 wd_53 wd_121 wd_1611) rfl rfl rfl hd_yX11_isWord ⟨Nat.le_of_ble_eq_true rfl, Nat.le_of_ble_eq_true rfl⟩) 0 rfl mW_0 rfl rfl hl.1 (Nat.le_of_ble_eq_true rfl) dX11_isFull_34 rfl ⟨Nat.zero_le _, Nat.zero_le _⟩ (fun r10 u11 H locs hp12 hO => ?_)
    obtain ⟨hr10, hu11⟩ := hp12
    rw [hu11] at hO
    rcases hr10 with ⟨hcr10, hvr10⟩ | ⟨hcr10, hvr10⟩
    · subst hvr10
      have hw13 := (hcr10).2
      refine bn_eq (X := 1) hx hb dX11_isFull_37 rfl (by omega) ?_ (tgt := 60) (by decide)
      refine lv_aload_n hx hb dX11_isFull_40 rfl (lv_at hl 0 rfl) ?_
      refine gf_RX11_24 (v := .ref (a 4)) C hO 0 mW_0 rfl dX11_isFull_41 ?_
      refine lv_aload_n hx hb dX11_isFull_44 rfl (lv_at hl 0 rfl) ?_
      have g14 : 0 ≤ (fI u 0 37).toInt ∧ (fI u 0 37).toInt ≤ 1 := by have h := MI_37 hJ0; exact h
      refine gf_RX11_246 (v := .int (fI u 0 37)) C hO 0 mW_0 rfl dX11_isFull_45 ?_
      refine aI C hO 4 mW_4 (i_in (X := ((fI u 0 37)).toInt) rfl (by omega) (by omega)) dX11_isFull_48 ?_
      have g15 : 0 ≤ hl_.toInt ∧ hl_.toInt ≤ 14 := by have h := MI_A4 hJ0 (fI u 0 37).toNatClampNeg; rw [hhl_] at h; exact h
      refine tE (y := hl_) (by exact hhl_) ?_
      refine lv_bipush (v := 14) hx hb dX11_isFull_49 (by decide) ?_
      refine cs_ne (tgt := 58) (X := (hl_).toInt) (Y := 14) hx hb dX11_isFull_51 (by decide) rfl rfl (fun c16 => ?_) (fun c16 => ?_)
      · refine lv_iconst (v := 0) hx hb dX11_isFull_58 (by decide) ?_
        refine hret _ _ _ _ _ _ dX11_isFull_59 rfl ?_ hO
        exact ⟨Or.inl ⟨(FullOk.mk (fun h => absurd h hw9) (fun _ => (by omega)) (fun h => absurd (Eq.trans (Eq.symm hw13) h) (by decide)) (fun h => absurd (Eq.trans (Eq.symm hw13) h) (by decide)) (fun h => absurd (Eq.trans (Eq.symm hw13) h) (by decide))), rfl⟩, rfl⟩
      · refine lv_iconst (v := 1) hx hb dX11_isFull_54 (by decide) ?_
        refine lv_goto (tgt := 59) hx hb dX11_isFull_55 (by decide) ?_
        refine hret _ _ _ _ _ _ dX11_isFull_59 rfl ?_ hO
        exact ⟨Or.inr ⟨trivial, rfl⟩, rfl⟩
    · subst hvr10
      have hw17 : ¬ gN = 1818848869 := by rcases hcr10 with h | h; exact absurd hg3 h; exact h
      refine bt_eq (tgt := 60) (X := 0) hx hb dX11_isFull_37 (by decide) rfl (by omega) ?_
      refine lv_aload_n hx hb dX11_isFull_60 rfl (lv_at hl 0 rfl) ?_
      refine lv_ldc2 (v := 1886152033) hx hb hown (ht _ wd_1573) dX11_isFull_61 ?_
      refine cVi (w := mW cy a) (As := [.long 1886152033]) (rest := []) C hO (T_X11_isWord l D cy a _ (by exact hJ) (gt) (by exact hgt) (gN) (by exact hgN) (1886152033)) (cwV 1 ht (gV wd_1608 wd_1610 wd_53 wd_121 wd_1611) rfl rfl rfl hd_yX11_isWord ⟨Nat.le_of_ble_eq_true rfl, Nat.le_of_ble_eq_true rfl⟩) 0 rfl mW_0 rfl rfl hl.1 (Nat.le_of_ble_eq_true rfl) dX11_isFull_64 rfl ⟨Nat.zero_le _, Nat.zero_le _⟩ (fun r18 u19 H locs hp20 hO => ?_)
      obtain ⟨hr18, hu19⟩ := hp20
      rw [hu19] at hO
      rcases hr18 with ⟨hcr18, hvr18⟩ | ⟨hcr18, hvr18⟩
      · subst hvr18
        have hw21 := (hcr18).2
        refine bn_eq (X := 1) hx hb dX11_isFull_67 rfl (by omega) ?_ (tgt := 90) (by decide)
        refine lv_aload_n hx hb dX11_isFull_70 rfl (lv_at hl 0 rfl) ?_
        refine gf_RX11_27 (v := .ref (a 5)) C hO 0 mW_0 rfl dX11_isFull_71 ?_
        refine lv_aload_n hx hb dX11_isFull_74 rfl (lv_at hl 0 rfl) ?_
        have g22 : 0 ≤ (fI u 0 37).toInt ∧ (fI u 0 37).toInt ≤ 1 := by have h := MI_37 hJ0; exact h
        refine gf_RX11_246 (v := .int (fI u 0 37)) C hO 0 mW_0 rfl dX11_isFull_75 ?_
        refine aI C hO 5 mW_5 (i_in (X := ((fI u 0 37)).toInt) rfl (by omega) (by omega)) dX11_isFull_78 ?_
        have g23 : 0 ≤ hp_.toInt ∧ hp_.toInt ≤ 8 := by have h := MI_A5 hJ0 (fI u 0 37).toNatClampNeg; rw [hhp_] at h; exact h
        refine tE (y := hp_) (by exact hhp_) ?_
        refine lv_bipush (v := 8) hx hb dX11_isFull_79 (by decide) ?_
        refine cs_ne (tgt := 88) (X := (hp_).toInt) (Y := 8) hx hb dX11_isFull_81 (by decide) rfl rfl (fun c24 => ?_) (fun c24 => ?_)
        · refine lv_iconst (v := 0) hx hb dX11_isFull_88 (by decide) ?_
          refine hret _ _ _ _ _ _ dX11_isFull_89 rfl ?_ hO
          exact ⟨Or.inl ⟨(FullOk.mk (fun h => absurd h hw9) (fun h => absurd h hw17) (fun _ => (by omega)) (fun h => absurd (Eq.trans (Eq.symm hw21) h) (by decide)) (fun h => absurd (Eq.trans (Eq.symm hw21) h) (by decide))), rfl⟩, rfl⟩
        · refine lv_iconst (v := 1) hx hb dX11_isFull_84 (by decide) ?_
          refine lv_goto (tgt := 89) hx hb dX11_isFull_85 (by decide) ?_
          refine hret _ _ _ _ _ _ dX11_isFull_89 rfl ?_ hO
          exact ⟨Or.inr ⟨trivial, rfl⟩, rfl⟩
      · subst hvr18
        have hw25 : ¬ gN = 1886152033 := by rcases hcr18 with h | h; exact absurd hg3 h; exact h
        refine bt_eq (tgt := 90) (X := 0) hx hb dX11_isFull_67 (by decide) rfl (by omega) ?_
        refine lv_aload_n hx hb dX11_isFull_90 rfl (lv_at hl 0 rfl) ?_
        refine lv_ldc2 (v := 1667330917) hx hb hown (ht _ wd_1575) dX11_isFull_91 ?_
        refine cVi (w := mW cy a) (As := [.long 1667330917]) (rest := []) C hO (T_X11_isWord l D cy a _ (by exact hJ) (gt) (by exact hgt) (gN) (by exact hgN) (1667330917)) (cwV 1 ht (gV wd_1608 wd_1610 wd_53 wd_121 wd_1611) rfl rfl rfl hd_yX11_isWord ⟨Nat.le_of_ble_eq_true rfl, Nat.le_of_ble_eq_true rfl⟩) 0 rfl mW_0 rfl rfl hl.1 (Nat.le_of_ble_eq_true rfl) dX11_isFull_94 rfl ⟨Nat.zero_le _, Nat.zero_le _⟩ (fun r26 u27 H locs hp28 hO => ?_)
        obtain ⟨hr26, hu27⟩ := hp28
        rw [hu27] at hO
        rcases hr26 with ⟨hcr26, hvr26⟩ | ⟨hcr26, hvr26⟩
        · subst hvr26
          have hw29 := (hcr26).2
          refine bn_eq (X := 1) hx hb dX11_isFull_97 rfl (by omega) ?_ (tgt := 120) (by decide)
          refine lv_aload_n hx hb dX11_isFull_100 rfl (lv_at hl 0 rfl) ?_
          refine gf_RX11_30 (v := .ref (a 6)) C hO 0 mW_0 rfl dX11_isFull_101 ?_
          refine lv_aload_n hx hb dX11_isFull_104 rfl (lv_at hl 0 rfl) ?_
          have g30 : 0 ≤ (fI u 0 37).toInt ∧ (fI u 0 37).toInt ≤ 1 := by have h := MI_37 hJ0; exact h
          refine gf_RX11_246 (v := .int (fI u 0 37)) C hO 0 mW_0 rfl dX11_isFull_105 ?_
          refine aI C hO 6 mW_6 (i_in (X := ((fI u 0 37)).toInt) rfl (by omega) (by omega)) dX11_isFull_108 ?_
          have g31 : 0 ≤ hc_.toInt ∧ hc_.toInt ≤ 6 := by have h := MI_A6 hJ0 (fI u 0 37).toNatClampNeg; rw [hhc_] at h; exact h
          refine tE (y := hc_) (by exact hhc_) ?_
          refine lv_bipush (v := 6) hx hb dX11_isFull_109 (by decide) ?_
          refine cs_ne (tgt := 118) (X := (hc_).toInt) (Y := 6) hx hb dX11_isFull_111 (by decide) rfl rfl (fun c32 => ?_) (fun c32 => ?_)
          · refine lv_iconst (v := 0) hx hb dX11_isFull_118 (by decide) ?_
            refine hret _ _ _ _ _ _ dX11_isFull_119 rfl ?_ hO
            exact ⟨Or.inl ⟨(FullOk.mk (fun h => absurd h hw9) (fun h => absurd h hw17) (fun h => absurd h hw25) (fun _ => (by omega)) (fun h => absurd (Eq.trans (Eq.symm hw29) h) (by decide))), rfl⟩, rfl⟩
          · refine lv_iconst (v := 1) hx hb dX11_isFull_114 (by decide) ?_
            refine lv_goto (tgt := 119) hx hb dX11_isFull_115 (by decide) ?_
            refine hret _ _ _ _ _ _ dX11_isFull_119 rfl ?_ hO
            exact ⟨Or.inr ⟨trivial, rfl⟩, rfl⟩
        · subst hvr26
          have hw33 : ¬ gN = 1667330917 := by rcases hcr26 with h | h; exact absurd hg3 h; exact h
          refine bt_eq (tgt := 120) (X := 0) hx hb dX11_isFull_97 (by decide) rfl (by omega) ?_
          refine lv_aload_n hx hb dX11_isFull_120 rfl (lv_at hl 0 rfl) ?_
          refine lv_ldc2 (v := 422608528232) hx hb hown (ht _ wd_1578) dX11_isFull_121 ?_
          refine cVi (w := mW cy a) (As := [.long 422608528232]) (rest := []) C hO (T_X11_isWord l D cy a _ (by exact hJ) (gt) (by exact hgt) (gN) (by exact hgN) (422608528232)) (cwV 1 ht (gV wd_1608 wd_1610 wd_53 wd_121 wd_1611) rfl rfl rfl hd_yX11_isWord ⟨Nat.le_of_ble_eq_true rfl, Nat.le_of_ble_eq_true rfl⟩) 0 rfl mW_0 rfl rfl hl.1 (Nat.le_of_ble_eq_true rfl) dX11_isFull_124 rfl ⟨Nat.zero_le _, Nat.zero_le _⟩ (fun r34 u35 H locs hp36 hO => ?_)
          obtain ⟨hr34, hu35⟩ := hp36
          rw [hu35] at hO
          rcases hr34 with ⟨hcr34, hvr34⟩ | ⟨hcr34, hvr34⟩
          · subst hvr34
            have hw37 := (hcr34).2
            refine bn_eq (X := 1) hx hb dX11_isFull_127 rfl (by omega) ?_ (tgt := 144) (by decide)
            refine lv_aload_n hx hb dX11_isFull_130 rfl (lv_at hl 0 rfl) ?_
            refine gf_RX11_45 (v := .ref (a 11)) C hO 0 mW_0 rfl dX11_isFull_131 ?_
            refine lv_aload_n hx hb dX11_isFull_134 rfl (lv_at hl 0 rfl) ?_
            have g38 : 0 ≤ (fI u 0 37).toInt ∧ (fI u 0 37).toInt ≤ 1 := by have h := MI_37 hJ0; exact h
            refine gf_RX11_246 (v := .int (fI u 0 37)) C hO 0 mW_0 rfl dX11_isFull_135 ?_
            refine aI C hO 11 mW_11 (i_in (X := ((fI u 0 37)).toInt) rfl (by omega) (by omega)) dX11_isFull_138 ?_
            refine tE (y := ht_) (by exact hht_) ?_
            refine lv_iconst (v := 1) hx hb dX11_isFull_139 (by decide) ?_
            refine cSi (w := mW cy a) (As := [.int ht_, .int 1]) (rest := []) C hO (T_X11_bit l D cy a _ (by exact hJ) (ht_) (1)) (va_cwS 2 ht (gSS wd_1612 wd_1613 wd_121 wd_1614) rfl rfl rfl hd_yX11_bit ⟨Nat.le_of_ble_eq_true rfl, Nat.le_of_ble_eq_true rfl⟩)  rfl hl.1 (Nat.le_of_ble_eq_true rfl) dX11_isFull_140 rfl ⟨Nat.zero_le _, Nat.zero_le _⟩ (fun r39 u40 H locs hp41 hO => ?_)
            obtain ⟨hr39, hu40⟩ := hp41
            rw [hu40] at hO
            obtain ⟨hr39, hbr39⟩ := hr39
            have gr39 : 0 ≤ r39.toInt ∧ r39.toInt ≤ 1 := by rcases hr39 with h | h <;> rw [h] <;> decide
            refine hret _ _ _ _ _ _ dX11_isFull_143 (by rcases hr39 with h | h <;> rw [h] <;> rfl) ?_ hO
            exact ⟨(by rcases hr39 with h | h; exact Or.inl ⟨(FullOk.mk (fun h => absurd h hw9) (fun h => absurd h hw17) (fun h => absurd h hw25) (fun h => absurd h hw33) (fun h => absurd (Eq.trans (Eq.symm hw37) h) (by decide))), h⟩; exact Or.inr ⟨trivial, h⟩), rfl⟩
          · subst hvr34
            have hw42 : ¬ gN = 422608528232 := by rcases hcr34 with h | h; exact absurd hg3 h; exact h
            refine bt_eq (tgt := 144) (X := 0) hx hb dX11_isFull_127 (by decide) rfl (by omega) ?_
            refine lv_aload_n hx hb dX11_isFull_144 rfl (lv_at hl 0 rfl) ?_
            refine lv_ldc2 (v := 7102839) hx hb hown (ht _ wd_1579) dX11_isFull_145 ?_
            refine cVi (w := mW cy a) (As := [.long 7102839]) (rest := []) C hO (T_X11_isWord l D cy a _ (by exact hJ) (gt) (by exact hgt) (gN) (by exact hgN) (7102839)) (cwV 1 ht (gV wd_1608 wd_1610 wd_53 wd_121 wd_1611) rfl rfl rfl hd_yX11_isWord ⟨Nat.le_of_ble_eq_true rfl, Nat.le_of_ble_eq_true rfl⟩) 0 rfl mW_0 rfl rfl hl.1 (Nat.le_of_ble_eq_true rfl) dX11_isFull_148 rfl ⟨Nat.zero_le _, Nat.zero_le _⟩ (fun r43 u44 H locs hp45 hO => ?_)
            obtain ⟨hr43, hu44⟩ := hp45
            rw [hu44] at hO
            rcases hr43 with ⟨hcr43, hvr43⟩ | ⟨hcr43, hvr43⟩
            · subst hvr43
              have hw46 := (hcr43).2
              refine bn_eq (X := 1) hx hb dX11_isFull_151 rfl (by omega) ?_ (tgt := 168) (by decide)
              refine lv_aload_n hx hb dX11_isFull_154 rfl (lv_at hl 0 rfl) ?_
              refine gf_RX11_45 (v := .ref (a 11)) C hO 0 mW_0 rfl dX11_isFull_155 ?_
              refine lv_aload_n hx hb dX11_isFull_158 rfl (lv_at hl 0 rfl) ?_
              have g47 : 0 ≤ (fI u 0 37).toInt ∧ (fI u 0 37).toInt ≤ 1 := by have h := MI_37 hJ0; exact h
              refine gf_RX11_246 (v := .int (fI u 0 37)) C hO 0 mW_0 rfl dX11_isFull_159 ?_
              refine aI C hO 11 mW_11 (i_in (X := ((fI u 0 37)).toInt) rfl (by omega) (by omega)) dX11_isFull_162 ?_
              refine tE (y := ht_) (by exact hht_) ?_
              refine lv_iconst (v := 0) hx hb dX11_isFull_163 (by decide) ?_
              refine cSi (w := mW cy a) (As := [.int ht_, .int 0]) (rest := []) C hO (T_X11_bit l D cy a _ (by exact hJ) (ht_) (0)) (va_cwS 2 ht (gSS wd_1612 wd_1613 wd_121 wd_1614) rfl rfl rfl hd_yX11_bit ⟨Nat.le_of_ble_eq_true rfl, Nat.le_of_ble_eq_true rfl⟩)  rfl hl.1 (Nat.le_of_ble_eq_true rfl) dX11_isFull_164 rfl ⟨Nat.zero_le _, Nat.zero_le _⟩ (fun r48 u49 H locs hp50 hO => ?_)
              obtain ⟨hr48, hu49⟩ := hp50
              rw [hu49] at hO
              obtain ⟨hr48, hbr48⟩ := hr48
              have gr48 : 0 ≤ r48.toInt ∧ r48.toInt ≤ 1 := by rcases hr48 with h | h <;> rw [h] <;> decide
              refine hret _ _ _ _ _ _ dX11_isFull_167 (by rcases hr48 with h | h <;> rw [h] <;> rfl) ?_ hO
              exact ⟨(by rcases hr48 with h | h; exact Or.inl ⟨(FullOk.mk (fun h => absurd h hw9) (fun h => absurd h hw17) (fun h => absurd h hw25) (fun h => absurd h hw33) (fun _ => hbr48.symm.trans h)), h⟩; exact Or.inr ⟨trivial, h⟩), rfl⟩
            · subst hvr43
              have hw51 : ¬ gN = 7102839 := by rcases hcr43 with h | h; exact absurd hg3 h; exact h
              refine bt_eq (tgt := 168) (X := 0) hx hb dX11_isFull_151 (by decide) rfl (by omega) ?_
              refine lv_aload_n hx hb dX11_isFull_168 rfl (lv_at hl 0 rfl) ?_
              refine lv_ldc2 (v := 1650549611) hx hb hown (ht _ wd_1580) dX11_isFull_169 ?_
              refine cVi (w := mW cy a) (As := [.long 1650549611]) (rest := []) C hO (T_X11_isWord l D cy a _ (by exact hJ) (gt) (by exact hgt) (gN) (by exact hgN) (1650549611)) (cwV 1 ht (gV wd_1608 wd_1610 wd_53 wd_121 wd_1611) rfl rfl rfl hd_yX11_isWord ⟨Nat.le_of_ble_eq_true rfl, Nat.le_of_ble_eq_true rfl⟩) 0 rfl mW_0 rfl rfl hl.1 (Nat.le_of_ble_eq_true rfl) dX11_isFull_172 rfl ⟨Nat.zero_le _, Nat.zero_le _⟩ (fun r52 u53 H locs hp54 hO => ?_)
              obtain ⟨hr52, hu53⟩ := hp54
              rw [hu53] at hO
              rcases hr52 with ⟨hcr52, hvr52⟩ | ⟨hcr52, hvr52⟩
              · subst hvr52
                have hw55 := (hcr52).2
                refine bn_eq (X := 1) hx hb dX11_isFull_175 rfl (by omega) ?_ (tgt := 192) (by decide)
                refine lv_aload_n hx hb dX11_isFull_178 rfl (lv_at hl 0 rfl) ?_
                refine gf_RX11_45 (v := .ref (a 11)) C hO 0 mW_0 rfl dX11_isFull_179 ?_
                refine lv_aload_n hx hb dX11_isFull_182 rfl (lv_at hl 0 rfl) ?_
                have g56 : 0 ≤ (fI u 0 37).toInt ∧ (fI u 0 37).toInt ≤ 1 := by have h := MI_37 hJ0; exact h
                refine gf_RX11_246 (v := .int (fI u 0 37)) C hO 0 mW_0 rfl dX11_isFull_183 ?_
                refine aI C hO 11 mW_11 (i_in (X := ((fI u 0 37)).toInt) rfl (by omega) (by omega)) dX11_isFull_186 ?_
                refine tE (y := ht_) (by exact hht_) ?_
                refine lv_iconst (v := 2) hx hb dX11_isFull_187 (by decide) ?_
                refine cSi (w := mW cy a) (As := [.int ht_, .int 2]) (rest := []) C hO (T_X11_bit l D cy a _ (by exact hJ) (ht_) (2)) (va_cwS 2 ht (gSS wd_1612 wd_1613 wd_121 wd_1614) rfl rfl rfl hd_yX11_bit ⟨Nat.le_of_ble_eq_true rfl, Nat.le_of_ble_eq_true rfl⟩)  rfl hl.1 (Nat.le_of_ble_eq_true rfl) dX11_isFull_188 rfl ⟨Nat.zero_le _, Nat.zero_le _⟩ (fun r57 u58 H locs hp59 hO => ?_)
                obtain ⟨hr57, hu58⟩ := hp59
                rw [hu58] at hO
                obtain ⟨hr57, hbr57⟩ := hr57
                have gr57 : 0 ≤ r57.toInt ∧ r57.toInt ≤ 1 := by rcases hr57 with h | h <;> rw [h] <;> decide
                refine hret _ _ _ _ _ _ dX11_isFull_191 (by rcases hr57 with h | h <;> rw [h] <;> rfl) ?_ hO
                exact ⟨(by rcases hr57 with h | h; exact Or.inl ⟨(FullOk.mk (fun h => absurd h hw9) (fun h => absurd h hw17) (fun h => absurd h hw25) (fun h => absurd h hw33) (fun h => absurd h hw51)), h⟩; exact Or.inr ⟨trivial, h⟩), rfl⟩
              · subst hvr52
                have hw60 : ¬ gN = 1650549611 := by rcases hcr52 with h | h; exact absurd hg3 h; exact h
                refine bt_eq (tgt := 192) (X := 0) hx hb dX11_isFull_175 (by decide) rfl (by omega) ?_
                refine lv_aload_n hx hb dX11_isFull_192 rfl (lv_at hl 0 rfl) ?_
                refine lv_ldc2 (v := 1685217655) hx hb hown (ht _ wd_1581) dX11_isFull_193 ?_
                refine cVi (w := mW cy a) (As := [.long 1685217655]) (rest := []) C hO (T_X11_isWord l D cy a _ (by exact hJ) (gt) (by exact hgt) (gN) (by exact hgN) (1685217655)) (cwV 1 ht (gV wd_1608 wd_1610 wd_53 wd_121 wd_1611) rfl rfl rfl hd_yX11_isWord ⟨Nat.le_of_ble_eq_true rfl, Nat.le_of_ble_eq_true rfl⟩) 0 rfl mW_0 rfl rfl hl.1 (Nat.le_of_ble_eq_true rfl) dX11_isFull_196 rfl ⟨Nat.zero_le _, Nat.zero_le _⟩ (fun r61 u62 H locs hp63 hO => ?_)
                obtain ⟨hr61, hu62⟩ := hp63
                rw [hu62] at hO
                rcases hr61 with ⟨hcr61, hvr61⟩ | ⟨hcr61, hvr61⟩
                · subst hvr61
                  have hw64 := (hcr61).2
                  refine bn_eq (X := 1) hx hb dX11_isFull_199 rfl (by omega) ?_ (tgt := 218) (by decide)
                  refine lv_aload_n hx hb dX11_isFull_202 rfl (lv_at hl 0 rfl) ?_
                  refine gf_RX11_45 (v := .ref (a 11)) C hO 0 mW_0 rfl dX11_isFull_203 ?_
                  refine lv_aload_n hx hb dX11_isFull_206 rfl (lv_at hl 0 rfl) ?_
                  have g65 : 0 ≤ (fI u 0 37).toInt ∧ (fI u 0 37).toInt ≤ 1 := by have h := MI_37 hJ0; exact h
                  refine gf_RX11_246 (v := .int (fI u 0 37)) C hO 0 mW_0 rfl dX11_isFull_207 ?_
                  refine aI C hO 11 mW_11 (i_in (X := ((fI u 0 37)).toInt) rfl (by omega) (by omega)) dX11_isFull_210 ?_
                  refine tE (y := ht_) (by exact hht_) ?_
                  refine lv_iconst (v := 3) hx hb dX11_isFull_211 (by decide) ?_
                  refine cSi (w := mW cy a) (As := [.int ht_, .int 3]) (rest := []) C hO (T_X11_bit l D cy a _ (by exact hJ) (ht_) (3)) (va_cwS 2 ht (gSS wd_1612 wd_1613 wd_121 wd_1614) rfl rfl rfl hd_yX11_bit ⟨Nat.le_of_ble_eq_true rfl, Nat.le_of_ble_eq_true rfl⟩)  rfl hl.1 (Nat.le_of_ble_eq_true rfl) dX11_isFull_212 rfl ⟨Nat.zero_le _, Nat.zero_le _⟩ (fun r66 u67 H locs hp68 hO => ?_)
                  obtain ⟨hr66, hu67⟩ := hp68
                  rw [hu67] at hO
                  obtain ⟨hr66, hbr66⟩ := hr66
                  have gr66 : 0 ≤ r66.toInt ∧ r66.toInt ≤ 1 := by rcases hr66 with h | h <;> rw [h] <;> decide
                  refine bs_eq (tgt := 222) (X := (r66).toInt) hx hb dX11_isFull_215 (by decide) rfl (fun c69 => ?_) (fun c69 => ?_)
                  · refine lv_iconst (v := 0) hx hb dX11_isFull_222 (by decide) ?_
                    refine hret _ _ _ _ _ _ dX11_isFull_223 rfl ?_ hO
                    exact ⟨Or.inl ⟨(FullOk.mk (fun h => absurd h hw9) (fun h => absurd h hw17) (fun h => absurd h hw25) (fun h => absurd h hw33) (fun h => absurd h hw51)), rfl⟩, rfl⟩
                  · refine lv_iconst (v := 1) hx hb dX11_isFull_218 (by decide) ?_
                    refine lv_goto (tgt := 223) hx hb dX11_isFull_219 (by decide) ?_
                    refine hret _ _ _ _ _ _ dX11_isFull_223 rfl ?_ hO
                    exact ⟨Or.inr ⟨trivial, rfl⟩, rfl⟩
                · subst hvr61
                  have hw70 : ¬ gN = 1685217655 := by rcases hcr61 with h | h; exact absurd hg3 h; exact h
                  refine bt_eq (tgt := 218) (X := 0) hx hb dX11_isFull_199 (by decide) rfl (by omega) ?_
                  refine lv_iconst (v := 1) hx hb dX11_isFull_218 (by decide) ?_
                  refine lv_goto (tgt := 223) hx hb dX11_isFull_219 (by decide) ?_
                  refine hret _ _ _ _ _ _ dX11_isFull_223 rfl ?_ hO
                  exact ⟨Or.inr ⟨trivial, rfl⟩, rfl⟩
def Km36 (u v : St) : Prop := fI v 0 2 = fI u 0 2 ∧ fI v 0 3 = fI u 0 3 ∧ fI v 0 4 = fI u 0 4 ∧ fI v 0 5 = fI u 0 5 ∧ fI v 0 6 = fI u 0 6 ∧ fI v 0 7 = fI u 0 7 ∧ fI v 0 8 = fI u 0 8 ∧ fI v 0 9 = fI u 0 9 ∧ fL v 0 10 = fL u 0 10 ∧ fI v 0 36 = fI u 0 36 ∧ fI v 0 37 = fI u 0 37 ∧ fI v 0 39 = fI u 0 39 ∧ fI v 0 40 = fI u 0 40 ∧ fI v 0 41 = fI u 0 41 ∧ fI v 0 42 = fI u 0 42 ∧ fI v 0 43 = fI u 0 43 ∧ fI v 0 45 = fI u 0 45 ∧ fI v 0 47 = fI u 0 47 ∧ fI v 0 48 = fI u 0 48 ∧ fI v 0 50 = fI u 0 50 ∧ fI v 0 61 = fI u 0 61 ∧ fI v 0 62 = fI u 0 62 ∧ fA v 1 = fA u 1 ∧ fA v 2 = fA u 2 ∧ fA v 13 = fA u 13 ∧ fA v 14 = fA u 14 ∧ fA v 15 = fA u 15 ∧ fA v 16 = fA u 16 ∧ fA v 17 = fA u 17 ∧ fA v 18 = fA u 18 ∧ fA v 19 = fA u 19 ∧ fJ v 20 = fJ u 20 ∧ fJ v 21 = fJ u 21 ∧ fJ v 22 = fJ u 22 ∧ fA v 23 = fA u 23 ∧ fA v 24 = fA u 24 ∧ fA v 25 = fA u 25 ∧ fA v 26 = fA u 26 ∧ fA v 27 = fA u 27 ∧ fA v 28 = fA u 28 ∧ fA v 29 = fA u 29 ∧ fA v 30 = fA u 30 ∧ fA v 31 = fA u 31 ∧ fA v 32 = fA u 32 ∧ fA v 33 = fA u 33 ∧ fA v 34 = fA u 34 ∧ fA v 35 = fA u 35 ∧ fA v 36 = fA u 36 ∧ fA v 37 = fA u 37 ∧ fA v 38 = fA u 38 ∧ fA v 39 = fA u 39 ∧ fA v 40 = fA u 40 ∧ fA v 41 = fA u 41 ∧ fA v 42 = fA u 42
theorem Km36.rf {u : St} : Km36 u u := ⟨rfl, rfl, rfl, rfl, rfl, rfl, rfl, rfl, rfl, rfl, rfl, rfl, rfl, rfl, rfl, rfl, rfl, rfl, rfl, rfl, rfl, rfl, rfl, rfl, rfl, rfl, rfl, rfl, rfl, rfl, rfl, rfl, rfl, rfl, rfl, rfl, rfl, rfl, rfl, rfl, rfl, rfl, rfl, rfl, rfl, rfl, rfl, rfl, rfl, rfl, rfl, rfl, rfl, rfl⟩
theorem Km36.tr {u v w : St} (h1 : Km36 u v) (h2 : Km36 v w) : Km36 u w := ⟨(h2.1).trans h1.1, (h2.2.1).trans h1.2.1, (h2.2.2.1).trans h1.2.2.1, (h2.2.2.2.1).trans h1.2.2.2.1, (h2.2.2.2.2.1).trans h1.2.2.2.2.1, (h2.2.2.2.2.2.1).trans h1.2.2.2.2.2.1, (h2.2.2.2.2.2.2.1).trans h1.2.2.2.2.2.2.1, (h2.2.2.2.2.2.2.2.1).trans h1.2.2.2.2.2.2.2.1, (h2.2.2.2.2.2.2.2.2.1).trans h1.2.2.2.2.2.2.2.2.1, (h2.2.2.2.2.2.2.2.2.2.1).trans h1.2.2.2.2.2.2.2.2.2.1, (h2.2.2.2.2.2.2.2.2.2.2.1).trans h1.2.2.2.2.2.2.2.2.2.2.1, (h2.2.2.2.2.2.2.2.2.2.2.2.1).trans h1.2.2.2.2.2.2.2.2.2.2.2.1, (h2.2.2.2.2.2.2.2.2.2.2.2.2.1).trans h1.2.2.2.2.2.2.2.2.2.2.2.2.1, (h2.2.2.2.2.2.2.2.2.2.2.2.2.2.1).trans h1.2.2.2.2.2.2.2.2.2.2.2.2.2.1, (h2.2.2.2.2.2.2.2.2.2.2.2.2.2.2.1).trans h1.2.2.2.2.2.2.2.2.2.2.2.2.2.2.1, (h2.2.2.2.2.2.2.2.2.2.2.2.2.2.2.2.1).trans h1.2.2.2.2.2.2.2.2.2.2.2.2.2.2.2.1, (h2.2.2.2.2.2.2.2.2.2.2.2.2.2.2.2.2.1).trans h1.2.2.2.2.2.2.2.2.2.2.2.2.2.2.2.2.1, (h2.2.2.2.2.2.2.2.2.2.2.2.2.2.2.2.2.2.1).trans h1.2.2.2.2.2.2.2.2.2.2.2.2.2.2.2.2.2.1, (h2.2.2.2.2.2.2.2.2.2.2.2.2.2.2.2.2.2.2.1).trans h1.2.2.2.2.2.2.2.2.2.2.2.2.2.2.2.2.2.2.1, (h2.2.2.2.2.2.2.2.2.2.2.2.2.2.2.2.2.2.2.2.1).trans h1.2.2.2.2.2.2.2.2.2.2.2.2.2.2.2.2.2.2.2.1, (h2.2.2.2.2.2.2.2.2.2.2.2.2.2.2.2.2.2.2.2.2.1).trans h1.2.2.2.2.2.2.2.2.2.2.2.2.2.2.2.2.2.2.2.2.1, (h2.2.2.2.2.2.2.2.2.2.2.2.2.2.2.2.2.2.2.2.2.2.1).trans h1.2.2.2.2.2.2.2.2.2.2.2.2.2.2.2.2.2.2.2.2.2.1, (h2.2.2.2.2.2.2.2.2.2.2.2.2.2.2.2.2.2.2.2.2.2.2.1).trans h1.2.2.2.2.2.2.2.2.2.2.2.2.2.2.2.2.2.2.2.2.2.2.1, (h2.2.2.2.2.2.2.2.2.2.2.2.2.2.2.2.2.2.2.2.2.2.2.2.1).trans h1.2.2.2.2.2.2.2.2.2.2.2.2.2.2.2.2.2.2.2.2.2.2.2.1, (h2.2.2.2.2.2.2.2.2.2.2.2.2.2.2.2.2.2.2.2.2.2.2.2.2.1).trans h1.2.2.2.2.2.2.2.2.2.2.2.2.2.2.2.2.2.2.2.2.2.2.2.2.1, (h2.2.2.2.2.2.2.2.2.2.2.2.2.2.2.2.2.2.2.2.2.2.2.2.2.2.1).trans h1.2.2.2.2.2.2.2.2.2.2.2.2.2.2.2.2.2.2.2.2.2.2.2.2.2.1, (h2.2.2.2.2.2.2.2.2.2.2.2.2.2.2.2.2.2.2.2.2.2.2.2.2.2.2.1).trans h1.2.2.2.2.2.2.2.2.2.2.2.2.2.2.2.2.2.2.2.2.2.2.2.2.2.2.1, (h2.2.2.2.2.2.2.2.2.2.2.2.2.2.2.2.2.2.2.2.2.2.2.2.2.2.2.2.1).trans h1.2.2.2.2.2.2.2.2.2.2.2.2.2.2.2.2.2.2.2.2.2.2.2.2.2.2.2.1, (h2.2.2.2.2.2.2.2.2.2.2.2.2.2.2.2.2.2.2.2.2.2.2.2.2.2.2.2.2.1).trans h1.2.2.2.2.2.2.2.2.2.2.2.2.2.2.2.2.2.2.2.2.2.2.2.2.2.2.2.2.1, (h2.2.2.2.2.2.2.2.2.2.2.2.2.2.2.2.2.2.2.2.2.2.2.2.2.2.2.2.2.2.1).trans h1.2.2.2.2.2.2.2.2.2.2.2.2.2.2.2.2.2.2.2.2.2.2.2.2.2.2.2.2.2.1, (h2.2.2.2.2.2.2.2.2.2.2.2.2.2.2.2.2.2.2.2.2.2.2.2.2.2.2.2.2.2.2.1).trans h1.2.2.2.2.2.2.2.2.2.2.2.2.2.2.2.2.2.2.2.2.2.2.2.2.2.2.2.2.2.2.1, (h2.2.2.2.2.2.2.2.2.2.2.2.2.2.2.2.2.2.2.2.2.2.2.2.2.2.2.2.2.2.2.2.1).trans h1.2.2.2.2.2.2.2.2.2.2.2.2.2.2.2.2.2.2.2.2.2.2.2.2.2.2.2.2.2.2.2.1, (h2.2.2.2.2.2.2.2.2.2.2.2.2.2.2.2.2.2.2.2.2.2.2.2.2.2.2.2.2.2.2.2.2.1).trans h1.2.2.2.2.2.2.2.2.2.2.2.2.2.2.2.2.2.2.2.2.2.2.2.2.2.2.2.2.2.2.2.2.1, (h2.2.2.2.2.2.2.2.2.2.2.2.2.2.2.2.2.2.2.2.2.2.2.2.2.2.2.2.2.2.2.2.2.2.1).trans h1.2.2.2.2.2.2.2.2.2.2.2.2.2.2.2.2.2.2.2.2.2.2.2.2.2.2.2.2.2.2.2.2.2.1, (h2.2.2.2.2.2.2.2.2.2.2.2.2.2.2.2.2.2.2.2.2.2.2.2.2.2.2.2.2.2.2.2.2.2.2.1).trans h1.2.2.2.2.2.2.2.2.2.2.2.2.2.2.2.2.2.2.2.2.2.2.2.2.2.2.2.2.2.2.2.2.2.2.1, (h2.2.2.2.2.2.2.2.2.2.2.2.2.2.2.2.2.2.2.2.2.2.2.2.2.2.2.2.2.2.2.2.2.2.2.2.1).trans h1.2.2.2.2.2.2.2.2.2.2.2.2.2.2.2.2.2.2.2.2.2.2.2.2.2.2.2.2.2.2.2.2.2.2.2.1, (h2.2.2.2.2.2.2.2.2.2.2.2.2.2.2.2.2.2.2.2.2.2.2.2.2.2.2.2.2.2.2.2.2.2.2.2.2.1).trans h1.2.2.2.2.2.2.2.2.2.2.2.2.2.2.2.2.2.2.2.2.2.2.2.2.2.2.2.2.2.2.2.2.2.2.2.2.1, (h2.2.2.2.2.2.2.2.2.2.2.2.2.2.2.2.2.2.2.2.2.2.2.2.2.2.2.2.2.2.2.2.2.2.2.2.2.2.1).trans h1.2.2.2.2.2.2.2.2.2.2.2.2.2.2.2.2.2.2.2.2.2.2.2.2.2.2.2.2.2.2.2.2.2.2.2.2.2.1, (h2.2.2.2.2.2.2.2.2.2.2.2.2.2.2.2.2.2.2.2.2.2.2.2.2.2.2.2.2.2.2.2.2.2.2.2.2.2.2.1).trans h1.2.2.2.2.2.2.2.2.2.2.2.2.2.2.2.2.2.2.2.2.2.2.2.2.2.2.2.2.2.2.2.2.2.2.2.2.2.2.1, (h2.2.2.2.2.2.2.2.2.2.2.2.2.2.2.2.2.2.2.2.2.2.2.2.2.2.2.2.2.2.2.2.2.2.2.2.2.2.2.2.1).trans h1.2.2.2.2.2.2.2.2.2.2.2.2.2.2.2.2.2.2.2.2.2.2.2.2.2.2.2.2.2.2.2.2.2.2.2.2.2.2.2.1, (h2.2.2.2.2.2.2.2.2.2.2.2.2.2.2.2.2.2.2.2.2.2.2.2.2.2.2.2.2.2.2.2.2.2.2.2.2.2.2.2.2.1).trans h1.2.2.2.2.2.2.2.2.2.2.2.2.2.2.2.2.2.2.2.2.2.2.2.2.2.2.2.2.2.2.2.2.2.2.2.2.2.2.2.2.1, (h2.2.2.2.2.2.2.2.2.2.2.2.2.2.2.2.2.2.2.2.2.2.2.2.2.2.2.2.2.2.2.2.2.2.2.2.2.2.2.2.2.2.1).trans h1.2.2.2.2.2.2.2.2.2.2.2.2.2.2.2.2.2.2.2.2.2.2.2.2.2.2.2.2.2.2.2.2.2.2.2.2.2.2.2.2.2.1, (h2.2.2.2.2.2.2.2.2.2.2.2.2.2.2.2.2.2.2.2.2.2.2.2.2.2.2.2.2.2.2.2.2.2.2.2.2.2.2.2.2.2.2.1).trans h1.2.2.2.2.2.2.2.2.2.2.2.2.2.2.2.2.2.2.2.2.2.2.2.2.2.2.2.2.2.2.2.2.2.2.2.2.2.2.2.2.2.2.1, (h2.2.2.2.2.2.2.2.2.2.2.2.2.2.2.2.2.2.2.2.2.2.2.2.2.2.2.2.2.2.2.2.2.2.2.2.2.2.2.2.2.2.2.2.1).trans h1.2.2.2.2.2.2.2.2.2.2.2.2.2.2.2.2.2.2.2.2.2.2.2.2.2.2.2.2.2.2.2.2.2.2.2.2.2.2.2.2.2.2.2.1, (h2.2.2.2.2.2.2.2.2.2.2.2.2.2.2.2.2.2.2.2.2.2.2.2.2.2.2.2.2.2.2.2.2.2.2.2.2.2.2.2.2.2.2.2.2.1).trans h1.2.2.2.2.2.2.2.2.2.2.2.2.2.2.2.2.2.2.2.2.2.2.2.2.2.2.2.2.2.2.2.2.2.2.2.2.2.2.2.2.2.2.2.2.1, (h2.2.2.2.2.2.2.2.2.2.2.2.2.2.2.2.2.2.2.2.2.2.2.2.2.2.2.2.2.2.2.2.2.2.2.2.2.2.2.2.2.2.2.2.2.2.1).trans h1.2.2.2.2.2.2.2.2.2.2.2.2.2.2.2.2.2.2.2.2.2.2.2.2.2.2.2.2.2.2.2.2.2.2.2.2.2.2.2.2.2.2.2.2.2.1, (h2.2.2.2.2.2.2.2.2.2.2.2.2.2.2.2.2.2.2.2.2.2.2.2.2.2.2.2.2.2.2.2.2.2.2.2.2.2.2.2.2.2.2.2.2.2.2.1).trans h1.2.2.2.2.2.2.2.2.2.2.2.2.2.2.2.2.2.2.2.2.2.2.2.2.2.2.2.2.2.2.2.2.2.2.2.2.2.2.2.2.2.2.2.2.2.2.1, (h2.2.2.2.2.2.2.2.2.2.2.2.2.2.2.2.2.2.2.2.2.2.2.2.2.2.2.2.2.2.2.2.2.2.2.2.2.2.2.2.2.2.2.2.2.2.2.2.1).trans h1.2.2.2.2.2.2.2.2.2.2.2.2.2.2.2.2.2.2.2.2.2.2.2.2.2.2.2.2.2.2.2.2.2.2.2.2.2.2.2.2.2.2.2.2.2.2.2.1, (h2.2.2.2.2.2.2.2.2.2.2.2.2.2.2.2.2.2.2.2.2.2.2.2.2.2.2.2.2.2.2.2.2.2.2.2.2.2.2.2.2.2.2.2.2.2.2.2.2.1).trans h1.2.2.2.2.2.2.2.2.2.2.2.2.2.2.2.2.2.2.2.2.2.2.2.2.2.2.2.2.2.2.2.2.2.2.2.2.2.2.2.2.2.2.2.2.2.2.2.2.1, (h2.2.2.2.2.2.2.2.2.2.2.2.2.2.2.2.2.2.2.2.2.2.2.2.2.2.2.2.2.2.2.2.2.2.2.2.2.2.2.2.2.2.2.2.2.2.2.2.2.2.1).trans h1.2.2.2.2.2.2.2.2.2.2.2.2.2.2.2.2.2.2.2.2.2.2.2.2.2.2.2.2.2.2.2.2.2.2.2.2.2.2.2.2.2.2.2.2.2.2.2.2.2.1, (h2.2.2.2.2.2.2.2.2.2.2.2.2.2.2.2.2.2.2.2.2.2.2.2.2.2.2.2.2.2.2.2.2.2.2.2.2.2.2.2.2.2.2.2.2.2.2.2.2.2.2.1).trans h1.2.2.2.2.2.2.2.2.2.2.2.2.2.2.2.2.2.2.2.2.2.2.2.2.2.2.2.2.2.2.2.2.2.2.2.2.2.2.2.2.2.2.2.2.2.2.2.2.2.2.1, (h2.2.2.2.2.2.2.2.2.2.2.2.2.2.2.2.2.2.2.2.2.2.2.2.2.2.2.2.2.2.2.2.2.2.2.2.2.2.2.2.2.2.2.2.2.2.2.2.2.2.2.2.1).trans h1.2.2.2.2.2.2.2.2.2.2.2.2.2.2.2.2.2.2.2.2.2.2.2.2.2.2.2.2.2.2.2.2.2.2.2.2.2.2.2.2.2.2.2.2.2.2.2.2.2.2.2.1, (h2.2.2.2.2.2.2.2.2.2.2.2.2.2.2.2.2.2.2.2.2.2.2.2.2.2.2.2.2.2.2.2.2.2.2.2.2.2.2.2.2.2.2.2.2.2.2.2.2.2.2.2.2.1).trans h1.2.2.2.2.2.2.2.2.2.2.2.2.2.2.2.2.2.2.2.2.2.2.2.2.2.2.2.2.2.2.2.2.2.2.2.2.2.2.2.2.2.2.2.2.2.2.2.2.2.2.2.2.1, (h2.2.2.2.2.2.2.2.2.2.2.2.2.2.2.2.2.2.2.2.2.2.2.2.2.2.2.2.2.2.2.2.2.2.2.2.2.2.2.2.2.2.2.2.2.2.2.2.2.2.2.2.2.2).trans h1.2.2.2.2.2.2.2.2.2.2.2.2.2.2.2.2.2.2.2.2.2.2.2.2.2.2.2.2.2.2.2.2.2.2.2.2.2.2.2.2.2.2.2.2.2.2.2.2.2.2.2.2.2⟩
theorem dX11_clearBank_0 : decode cX11_clearBank 0 = .ok (.aload_n 0, 1) := by decide +kernel
theorem dX11_clearBank_1 : decode cX11_clearBank 1 = .ok (.getfield 20, 3) := by decide +kernel
theorem dX11_clearBank_4 : decode cX11_clearBank 4 = .ok (.aload_n 0, 1) := by decide +kernel
theorem dX11_clearBank_5 : decode cX11_clearBank 5 = .ok (.getfield 246, 3) := by decide +kernel
theorem dX11_clearBank_8 : decode cX11_clearBank 8 = .ok (.iconst 0, 1) := by decide +kernel
theorem dX11_clearBank_9 : decode cX11_clearBank 9 = .ok (.iastore, 1) := by decide +kernel
theorem dX11_clearBank_10 : decode cX11_clearBank 10 = .ok (.aload_n 0, 1) := by decide +kernel
theorem dX11_clearBank_11 : decode cX11_clearBank 11 = .ok (.getfield 24, 3) := by decide +kernel
theorem dX11_clearBank_14 : decode cX11_clearBank 14 = .ok (.aload_n 0, 1) := by decide +kernel
theorem dX11_clearBank_15 : decode cX11_clearBank 15 = .ok (.getfield 246, 3) := by decide +kernel
theorem dX11_clearBank_18 : decode cX11_clearBank 18 = .ok (.iconst 0, 1) := by decide +kernel
theorem dX11_clearBank_19 : decode cX11_clearBank 19 = .ok (.iastore, 1) := by decide +kernel
theorem dX11_clearBank_20 : decode cX11_clearBank 20 = .ok (.aload_n 0, 1) := by decide +kernel
theorem dX11_clearBank_21 : decode cX11_clearBank 21 = .ok (.getfield 27, 3) := by decide +kernel
theorem dX11_clearBank_24 : decode cX11_clearBank 24 = .ok (.aload_n 0, 1) := by decide +kernel
theorem dX11_clearBank_25 : decode cX11_clearBank 25 = .ok (.getfield 246, 3) := by decide +kernel
theorem dX11_clearBank_28 : decode cX11_clearBank 28 = .ok (.iconst 0, 1) := by decide +kernel
theorem dX11_clearBank_29 : decode cX11_clearBank 29 = .ok (.iastore, 1) := by decide +kernel
theorem dX11_clearBank_30 : decode cX11_clearBank 30 = .ok (.aload_n 0, 1) := by decide +kernel
theorem dX11_clearBank_31 : decode cX11_clearBank 31 = .ok (.getfield 30, 3) := by decide +kernel
theorem dX11_clearBank_34 : decode cX11_clearBank 34 = .ok (.aload_n 0, 1) := by decide +kernel
theorem dX11_clearBank_35 : decode cX11_clearBank 35 = .ok (.getfield 246, 3) := by decide +kernel
theorem dX11_clearBank_38 : decode cX11_clearBank 38 = .ok (.iconst 0, 1) := by decide +kernel
theorem dX11_clearBank_39 : decode cX11_clearBank 39 = .ok (.iastore, 1) := by decide +kernel
theorem dX11_clearBank_40 : decode cX11_clearBank 40 = .ok (.aload_n 0, 1) := by decide +kernel
theorem dX11_clearBank_41 : decode cX11_clearBank 41 = .ok (.getfield 33, 3) := by decide +kernel
theorem dX11_clearBank_44 : decode cX11_clearBank 44 = .ok (.aload_n 0, 1) := by decide +kernel
theorem dX11_clearBank_45 : decode cX11_clearBank 45 = .ok (.getfield 246, 3) := by decide +kernel
theorem dX11_clearBank_48 : decode cX11_clearBank 48 = .ok (.iconst 0, 1) := by decide +kernel
theorem dX11_clearBank_49 : decode cX11_clearBank 49 = .ok (.iastore, 1) := by decide +kernel
theorem dX11_clearBank_50 : decode cX11_clearBank 50 = .ok (.aload_n 0, 1) := by decide +kernel
theorem dX11_clearBank_51 : decode cX11_clearBank 51 = .ok (.getfield 36, 3) := by decide +kernel
theorem dX11_clearBank_54 : decode cX11_clearBank 54 = .ok (.aload_n 0, 1) := by decide +kernel
theorem dX11_clearBank_55 : decode cX11_clearBank 55 = .ok (.getfield 246, 3) := by decide +kernel
theorem dX11_clearBank_58 : decode cX11_clearBank 58 = .ok (.iconst 0, 1) := by decide +kernel
theorem dX11_clearBank_59 : decode cX11_clearBank 59 = .ok (.iastore, 1) := by decide +kernel
theorem dX11_clearBank_60 : decode cX11_clearBank 60 = .ok (.aload_n 0, 1) := by decide +kernel
theorem dX11_clearBank_61 : decode cX11_clearBank 61 = .ok (.getfield 39, 3) := by decide +kernel
theorem dX11_clearBank_64 : decode cX11_clearBank 64 = .ok (.aload_n 0, 1) := by decide +kernel
theorem dX11_clearBank_65 : decode cX11_clearBank 65 = .ok (.getfield 246, 3) := by decide +kernel
theorem dX11_clearBank_68 : decode cX11_clearBank 68 = .ok (.iconst 0, 1) := by decide +kernel
theorem dX11_clearBank_69 : decode cX11_clearBank 69 = .ok (.iastore, 1) := by decide +kernel
theorem dX11_clearBank_70 : decode cX11_clearBank 70 = .ok (.aload_n 0, 1) := by decide +kernel
theorem dX11_clearBank_71 : decode cX11_clearBank 71 = .ok (.getfield 42, 3) := by decide +kernel
theorem dX11_clearBank_74 : decode cX11_clearBank 74 = .ok (.aload_n 0, 1) := by decide +kernel
theorem dX11_clearBank_75 : decode cX11_clearBank 75 = .ok (.getfield 246, 3) := by decide +kernel
theorem dX11_clearBank_78 : decode cX11_clearBank 78 = .ok (.iconst 0, 1) := by decide +kernel
theorem dX11_clearBank_79 : decode cX11_clearBank 79 = .ok (.iastore, 1) := by decide +kernel
theorem dX11_clearBank_80 : decode cX11_clearBank 80 = .ok (.aload_n 0, 1) := by decide +kernel
theorem dX11_clearBank_81 : decode cX11_clearBank 81 = .ok (.getfield 45, 3) := by decide +kernel
theorem dX11_clearBank_84 : decode cX11_clearBank 84 = .ok (.aload_n 0, 1) := by decide +kernel
theorem dX11_clearBank_85 : decode cX11_clearBank 85 = .ok (.getfield 246, 3) := by decide +kernel
theorem dX11_clearBank_88 : decode cX11_clearBank 88 = .ok (.iconst 0, 1) := by decide +kernel
theorem dX11_clearBank_89 : decode cX11_clearBank 89 = .ok (.iastore, 1) := by decide +kernel
theorem dX11_clearBank_90 : decode cX11_clearBank 90 = .ok (.aload_n 0, 1) := by decide +kernel
theorem dX11_clearBank_91 : decode cX11_clearBank 91 = .ok (.getfield 48, 3) := by decide +kernel
theorem dX11_clearBank_94 : decode cX11_clearBank 94 = .ok (.aload_n 0, 1) := by decide +kernel
theorem dX11_clearBank_95 : decode cX11_clearBank 95 = .ok (.getfield 246, 3) := by decide +kernel
theorem dX11_clearBank_98 : decode cX11_clearBank 98 = .ok (.iconst 0, 1) := by decide +kernel
theorem dX11_clearBank_99 : decode cX11_clearBank 99 = .ok (.iastore, 1) := by decide +kernel
theorem dX11_clearBank_100 : decode cX11_clearBank 100 = .ok (.aload_n 0, 1) := by decide +kernel
theorem dX11_clearBank_101 : decode cX11_clearBank 101 = .ok (.sipush 560, 3) := by decide +kernel
theorem dX11_clearBank_104 : decode cX11_clearBank 104 = .ok (.aload_n 0, 1) := by decide +kernel
theorem dX11_clearBank_105 : decode cX11_clearBank 105 = .ok (.getfield 246, 3) := by decide +kernel
theorem dX11_clearBank_108 : decode cX11_clearBank 108 = .ok (.imul, 1) := by decide +kernel
theorem dX11_clearBank_109 : decode cX11_clearBank 109 = .ok (.putfield 249, 3) := by decide +kernel
theorem dX11_clearBank_112 : decode cX11_clearBank 112 = .ok (.return_, 1) := by decide +kernel
theorem wd_1339 : (Cond.code ⟨"WebCourtModel", "clearBank", "()V"⟩ prog_13_method_15_code (1 : Nat) (Option.none : Option FieldType)) ∈ gtb := gtb_c6 30 (by decide +kernel) rfl
theorem Km36_wA3 {u v : St} {D : va_G} {A : Nat → Prop} {cy : Nat → ClassId} {a : Nat → Nat} {hp H : Heap} {locs : List Loc} {f : Nat → Int32} (_ : Wo D A (mW cy a (sA v 3 f)) hp H locs) (h : Km36 u v) : Km36 u (sA v 3 f) := ⟨h.1, h.2.1, h.2.2.1, h.2.2.2.1, h.2.2.2.2.1, h.2.2.2.2.2.1, h.2.2.2.2.2.2.1, h.2.2.2.2.2.2.2.1, h.2.2.2.2.2.2.2.2.1, h.2.2.2.2.2.2.2.2.2.1, h.2.2.2.2.2.2.2.2.2.2.1, h.2.2.2.2.2.2.2.2.2.2.2.1, h.2.2.2.2.2.2.2.2.2.2.2.2.1, h.2.2.2.2.2.2.2.2.2.2.2.2.2.1, h.2.2.2.2.2.2.2.2.2.2.2.2.2.2.1, h.2.2.2.2.2.2.2.2.2.2.2.2.2.2.2.1, h.2.2.2.2.2.2.2.2.2.2.2.2.2.2.2.2.1, h.2.2.2.2.2.2.2.2.2.2.2.2.2.2.2.2.2.1, h.2.2.2.2.2.2.2.2.2.2.2.2.2.2.2.2.2.2.1, h.2.2.2.2.2.2.2.2.2.2.2.2.2.2.2.2.2.2.2.1, h.2.2.2.2.2.2.2.2.2.2.2.2.2.2.2.2.2.2.2.2.1, h.2.2.2.2.2.2.2.2.2.2.2.2.2.2.2.2.2.2.2.2.2.1, h.2.2.2.2.2.2.2.2.2.2.2.2.2.2.2.2.2.2.2.2.2.2.1, h.2.2.2.2.2.2.2.2.2.2.2.2.2.2.2.2.2.2.2.2.2.2.2.1, h.2.2.2.2.2.2.2.2.2.2.2.2.2.2.2.2.2.2.2.2.2.2.2.2.1, h.2.2.2.2.2.2.2.2.2.2.2.2.2.2.2.2.2.2.2.2.2.2.2.2.2.1, h.2.2.2.2.2.2.2.2.2.2.2.2.2.2.2.2.2.2.2.2.2.2.2.2.2.2.1, h.2.2.2.2.2.2.2.2.2.2.2.2.2.2.2.2.2.2.2.2.2.2.2.2.2.2.2.1, h.2.2.2.2.2.2.2.2.2.2.2.2.2.2.2.2.2.2.2.2.2.2.2.2.2.2.2.2.1, h.2.2.2.2.2.2.2.2.2.2.2.2.2.2.2.2.2.2.2.2.2.2.2.2.2.2.2.2.2.1, h.2.2.2.2.2.2.2.2.2.2.2.2.2.2.2.2.2.2.2.2.2.2.2.2.2.2.2.2.2.2.1, h.2.2.2.2.2.2.2.2.2.2.2.2.2.2.2.2.2.2.2.2.2.2.2.2.2.2.2.2.2.2.2.1, h.2.2.2.2.2.2.2.2.2.2.2.2.2.2.2.2.2.2.2.2.2.2.2.2.2.2.2.2.2.2.2.2.1, h.2.2.2.2.2.2.2.2.2.2.2.2.2.2.2.2.2.2.2.2.2.2.2.2.2.2.2.2.2.2.2.2.2.1, h.2.2.2.2.2.2.2.2.2.2.2.2.2.2.2.2.2.2.2.2.2.2.2.2.2.2.2.2.2.2.2.2.2.2.1, h.2.2.2.2.2.2.2.2.2.2.2.2.2.2.2.2.2.2.2.2.2.2.2.2.2.2.2.2.2.2.2.2.2.2.2.1, h.2.2.2.2.2.2.2.2.2.2.2.2.2.2.2.2.2.2.2.2.2.2.2.2.2.2.2.2.2.2.2.2.2.2.2.2.1, h.2.2.2.2.2.2.2.2.2.2.2.2.2.2.2.2.2.2.2.2.2.2.2.2.2.2.2.2.2.2.2.2.2.2.2.2.2.1, h.2.2.2.2.2.2.2.2.2.2.2.2.2.2.2.2.2.2.2.2.2.2.2.2.2.2.2.2.2.2.2.2.2.2.2.2.2.2.1, h.2.2.2.2.2.2.2.2.2.2.2.2.2.2.2.2.2.2.2.2.2.2.2.2.2.2.2.2.2.2.2.2.2.2.2.2.2.2.2.1, h.2.2.2.2.2.2.2.2.2.2.2.2.2.2.2.2.2.2.2.2.2.2.2.2.2.2.2.2.2.2.2.2.2.2.2.2.2.2.2.2.1, h.2.2.2.2.2.2.2.2.2.2.2.2.2.2.2.2.2.2.2.2.2.2.2.2.2.2.2.2.2.2.2.2.2.2.2.2.2.2.2.2.2.1, h.2.2.2.2.2.2.2.2.2.2.2.2.2.2.2.2.2.2.2.2.2.2.2.2.2.2.2.2.2.2.2.2.2.2.2.2.2.2.2.2.2.2.1, h.2.2.2.2.2.2.2.2.2.2.2.2.2.2.2.2.2.2.2.2.2.2.2.2.2.2.2.2.2.2.2.2.2.2.2.2.2.2.2.2.2.2.2.1, h.2.2.2.2.2.2.2.2.2.2.2.2.2.2.2.2.2.2.2.2.2.2.2.2.2.2.2.2.2.2.2.2.2.2.2.2.2.2.2.2.2.2.2.2.1, h.2.2.2.2.2.2.2.2.2.2.2.2.2.2.2.2.2.2.2.2.2.2.2.2.2.2.2.2.2.2.2.2.2.2.2.2.2.2.2.2.2.2.2.2.2.1, h.2.2.2.2.2.2.2.2.2.2.2.2.2.2.2.2.2.2.2.2.2.2.2.2.2.2.2.2.2.2.2.2.2.2.2.2.2.2.2.2.2.2.2.2.2.2.1, h.2.2.2.2.2.2.2.2.2.2.2.2.2.2.2.2.2.2.2.2.2.2.2.2.2.2.2.2.2.2.2.2.2.2.2.2.2.2.2.2.2.2.2.2.2.2.2.1, h.2.2.2.2.2.2.2.2.2.2.2.2.2.2.2.2.2.2.2.2.2.2.2.2.2.2.2.2.2.2.2.2.2.2.2.2.2.2.2.2.2.2.2.2.2.2.2.2.1, h.2.2.2.2.2.2.2.2.2.2.2.2.2.2.2.2.2.2.2.2.2.2.2.2.2.2.2.2.2.2.2.2.2.2.2.2.2.2.2.2.2.2.2.2.2.2.2.2.2.1, h.2.2.2.2.2.2.2.2.2.2.2.2.2.2.2.2.2.2.2.2.2.2.2.2.2.2.2.2.2.2.2.2.2.2.2.2.2.2.2.2.2.2.2.2.2.2.2.2.2.2.1, h.2.2.2.2.2.2.2.2.2.2.2.2.2.2.2.2.2.2.2.2.2.2.2.2.2.2.2.2.2.2.2.2.2.2.2.2.2.2.2.2.2.2.2.2.2.2.2.2.2.2.2.1, h.2.2.2.2.2.2.2.2.2.2.2.2.2.2.2.2.2.2.2.2.2.2.2.2.2.2.2.2.2.2.2.2.2.2.2.2.2.2.2.2.2.2.2.2.2.2.2.2.2.2.2.2.1, h.2.2.2.2.2.2.2.2.2.2.2.2.2.2.2.2.2.2.2.2.2.2.2.2.2.2.2.2.2.2.2.2.2.2.2.2.2.2.2.2.2.2.2.2.2.2.2.2.2.2.2.2.2⟩
theorem Km36_wA4 {u v : St} {D : va_G} {A : Nat → Prop} {cy : Nat → ClassId} {a : Nat → Nat} {hp H : Heap} {locs : List Loc} {f : Nat → Int32} (_ : Wo D A (mW cy a (sA v 4 f)) hp H locs) (h : Km36 u v) : Km36 u (sA v 4 f) := ⟨h.1, h.2.1, h.2.2.1, h.2.2.2.1, h.2.2.2.2.1, h.2.2.2.2.2.1, h.2.2.2.2.2.2.1, h.2.2.2.2.2.2.2.1, h.2.2.2.2.2.2.2.2.1, h.2.2.2.2.2.2.2.2.2.1, h.2.2.2.2.2.2.2.2.2.2.1, h.2.2.2.2.2.2.2.2.2.2.2.1, h.2.2.2.2.2.2.2.2.2.2.2.2.1, h.2.2.2.2.2.2.2.2.2.2.2.2.2.1, h.2.2.2.2.2.2.2.2.2.2.2.2.2.2.1, h.2.2.2.2.2.2.2.2.2.2.2.2.2.2.2.1, h.2.2.2.2.2.2.2.2.2.2.2.2.2.2.2.2.1, h.2.2.2.2.2.2.2.2.2.2.2.2.2.2.2.2.2.1, h.2.2.2.2.2.2.2.2.2.2.2.2.2.2.2.2.2.2.1, h.2.2.2.2.2.2.2.2.2.2.2.2.2.2.2.2.2.2.2.1, h.2.2.2.2.2.2.2.2.2.2.2.2.2.2.2.2.2.2.2.2.1, h.2.2.2.2.2.2.2.2.2.2.2.2.2.2.2.2.2.2.2.2.2.1, h.2.2.2.2.2.2.2.2.2.2.2.2.2.2.2.2.2.2.2.2.2.2.1, h.2.2.2.2.2.2.2.2.2.2.2.2.2.2.2.2.2.2.2.2.2.2.2.1, h.2.2.2.2.2.2.2.2.2.2.2.2.2.2.2.2.2.2.2.2.2.2.2.2.1, h.2.2.2.2.2.2.2.2.2.2.2.2.2.2.2.2.2.2.2.2.2.2.2.2.2.1, h.2.2.2.2.2.2.2.2.2.2.2.2.2.2.2.2.2.2.2.2.2.2.2.2.2.2.1, h.2.2.2.2.2.2.2.2.2.2.2.2.2.2.2.2.2.2.2.2.2.2.2.2.2.2.2.1, h.2.2.2.2.2.2.2.2.2.2.2.2.2.2.2.2.2.2.2.2.2.2.2.2.2.2.2.2.1, h.2.2.2.2.2.2.2.2.2.2.2.2.2.2.2.2.2.2.2.2.2.2.2.2.2.2.2.2.2.1, h.2.2.2.2.2.2.2.2.2.2.2.2.2.2.2.2.2.2.2.2.2.2.2.2.2.2.2.2.2.2.1, h.2.2.2.2.2.2.2.2.2.2.2.2.2.2.2.2.2.2.2.2.2.2.2.2.2.2.2.2.2.2.2.1, h.2.2.2.2.2.2.2.2.2.2.2.2.2.2.2.2.2.2.2.2.2.2.2.2.2.2.2.2.2.2.2.2.1, h.2.2.2.2.2.2.2.2.2.2.2.2.2.2.2.2.2.2.2.2.2.2.2.2.2.2.2.2.2.2.2.2.2.1, h.2.2.2.2.2.2.2.2.2.2.2.2.2.2.2.2.2.2.2.2.2.2.2.2.2.2.2.2.2.2.2.2.2.2.1, h.2.2.2.2.2.2.2.2.2.2.2.2.2.2.2.2.2.2.2.2.2.2.2.2.2.2.2.2.2.2.2.2.2.2.2.1, h.2.2.2.2.2.2.2.2.2.2.2.2.2.2.2.2.2.2.2.2.2.2.2.2.2.2.2.2.2.2.2.2.2.2.2.2.1, h.2.2.2.2.2.2.2.2.2.2.2.2.2.2.2.2.2.2.2.2.2.2.2.2.2.2.2.2.2.2.2.2.2.2.2.2.2.1, h.2.2.2.2.2.2.2.2.2.2.2.2.2.2.2.2.2.2.2.2.2.2.2.2.2.2.2.2.2.2.2.2.2.2.2.2.2.2.1, h.2.2.2.2.2.2.2.2.2.2.2.2.2.2.2.2.2.2.2.2.2.2.2.2.2.2.2.2.2.2.2.2.2.2.2.2.2.2.2.1, h.2.2.2.2.2.2.2.2.2.2.2.2.2.2.2.2.2.2.2.2.2.2.2.2.2.2.2.2.2.2.2.2.2.2.2.2.2.2.2.2.1, h.2.2.2.2.2.2.2.2.2.2.2.2.2.2.2.2.2.2.2.2.2.2.2.2.2.2.2.2.2.2.2.2.2.2.2.2.2.2.2.2.2.1, h.2.2.2.2.2.2.2.2.2.2.2.2.2.2.2.2.2.2.2.2.2.2.2.2.2.2.2.2.2.2.2.2.2.2.2.2.2.2.2.2.2.2.1, h.2.2.2.2.2.2.2.2.2.2.2.2.2.2.2.2.2.2.2.2.2.2.2.2.2.2.2.2.2.2.2.2.2.2.2.2.2.2.2.2.2.2.2.1, h.2.2.2.2.2.2.2.2.2.2.2.2.2.2.2.2.2.2.2.2.2.2.2.2.2.2.2.2.2.2.2.2.2.2.2.2.2.2.2.2.2.2.2.2.1, h.2.2.2.2.2.2.2.2.2.2.2.2.2.2.2.2.2.2.2.2.2.2.2.2.2.2.2.2.2.2.2.2.2.2.2.2.2.2.2.2.2.2.2.2.2.1, h.2.2.2.2.2.2.2.2.2.2.2.2.2.2.2.2.2.2.2.2.2.2.2.2.2.2.2.2.2.2.2.2.2.2.2.2.2.2.2.2.2.2.2.2.2.2.1, h.2.2.2.2.2.2.2.2.2.2.2.2.2.2.2.2.2.2.2.2.2.2.2.2.2.2.2.2.2.2.2.2.2.2.2.2.2.2.2.2.2.2.2.2.2.2.2.1, h.2.2.2.2.2.2.2.2.2.2.2.2.2.2.2.2.2.2.2.2.2.2.2.2.2.2.2.2.2.2.2.2.2.2.2.2.2.2.2.2.2.2.2.2.2.2.2.2.1, h.2.2.2.2.2.2.2.2.2.2.2.2.2.2.2.2.2.2.2.2.2.2.2.2.2.2.2.2.2.2.2.2.2.2.2.2.2.2.2.2.2.2.2.2.2.2.2.2.2.1, h.2.2.2.2.2.2.2.2.2.2.2.2.2.2.2.2.2.2.2.2.2.2.2.2.2.2.2.2.2.2.2.2.2.2.2.2.2.2.2.2.2.2.2.2.2.2.2.2.2.2.1, h.2.2.2.2.2.2.2.2.2.2.2.2.2.2.2.2.2.2.2.2.2.2.2.2.2.2.2.2.2.2.2.2.2.2.2.2.2.2.2.2.2.2.2.2.2.2.2.2.2.2.2.1, h.2.2.2.2.2.2.2.2.2.2.2.2.2.2.2.2.2.2.2.2.2.2.2.2.2.2.2.2.2.2.2.2.2.2.2.2.2.2.2.2.2.2.2.2.2.2.2.2.2.2.2.2.1, h.2.2.2.2.2.2.2.2.2.2.2.2.2.2.2.2.2.2.2.2.2.2.2.2.2.2.2.2.2.2.2.2.2.2.2.2.2.2.2.2.2.2.2.2.2.2.2.2.2.2.2.2.2⟩
theorem Km36_wA5 {u v : St} {D : va_G} {A : Nat → Prop} {cy : Nat → ClassId} {a : Nat → Nat} {hp H : Heap} {locs : List Loc} {f : Nat → Int32} (_ : Wo D A (mW cy a (sA v 5 f)) hp H locs) (h : Km36 u v) : Km36 u (sA v 5 f) := ⟨h.1, h.2.1, h.2.2.1, h.2.2.2.1, h.2.2.2.2.1, h.2.2.2.2.2.1, h.2.2.2.2.2.2.1, h.2.2.2.2.2.2.2.1, h.2.2.2.2.2.2.2.2.1, h.2.2.2.2.2.2.2.2.2.1, h.2.2.2.2.2.2.2.2.2.2.1, h.2.2.2.2.2.2.2.2.2.2.2.1, h.2.2.2.2.2.2.2.2.2.2.2.2.1, h.2.2.2.2.2.2.2.2.2.2.2.2.2.1, h.2.2.2.2.2.2.2.2.2.2.2.2.2.2.1, h.2.2.2.2.2.2.2.2.2.2.2.2.2.2.2.1, h.2.2.2.2.2.2.2.2.2.2.2.2.2.2.2.2.1, h.2.2.2.2.2.2.2.2.2.2.2.2.2.2.2.2.2.1, h.2.2.2.2.2.2.2.2.2.2.2.2.2.2.2.2.2.2.1, h.2.2.2.2.2.2.2.2.2.2.2.2.2.2.2.2.2.2.2.1, h.2.2.2.2.2.2.2.2.2.2.2.2.2.2.2.2.2.2.2.2.1, h.2.2.2.2.2.2.2.2.2.2.2.2.2.2.2.2.2.2.2.2.2.1, h.2.2.2.2.2.2.2.2.2.2.2.2.2.2.2.2.2.2.2.2.2.2.1, h.2.2.2.2.2.2.2.2.2.2.2.2.2.2.2.2.2.2.2.2.2.2.2.1, h.2.2.2.2.2.2.2.2.2.2.2.2.2.2.2.2.2.2.2.2.2.2.2.2.1, h.2.2.2.2.2.2.2.2.2.2.2.2.2.2.2.2.2.2.2.2.2.2.2.2.2.1, h.2.2.2.2.2.2.2.2.2.2.2.2.2.2.2.2.2.2.2.2.2.2.2.2.2.2.1, h.2.2.2.2.2.2.2.2.2.2.2.2.2.2.2.2.2.2.2.2.2.2.2.2.2.2.2.1, h.2.2.2.2.2.2.2.2.2.2.2.2.2.2.2.2.2.2.2.2.2.2.2.2.2.2.2.2.1, h.2.2.2.2.2.2.2.2.2.2.2.2.2.2.2.2.2.2.2.2.2.2.2.2.2.2.2.2.2.1, h.2.2.2.2.2.2.2.2.2.2.2.2.2.2.2.2.2.2.2.2.2.2.2.2.2.2.2.2.2.2.1, h.2.2.2.2.2.2.2.2.2.2.2.2.2.2.2.2.2.2.2.2.2.2.2.2.2.2.2.2.2.2.2.1, h.2.2.2.2.2.2.2.2.2.2.2.2.2.2.2.2.2.2.2.2.2.2.2.2.2.2.2.2.2.2.2.2.1, h.2.2.2.2.2.2.2.2.2.2.2.2.2.2.2.2.2.2.2.2.2.2.2.2.2.2.2.2.2.2.2.2.2.1, h.2.2.2.2.2.2.2.2.2.2.2.2.2.2.2.2.2.2.2.2.2.2.2.2.2.2.2.2.2.2.2.2.2.2.1, h.2.2.2.2.2.2.2.2.2.2.2.2.2.2.2.2.2.2.2.2.2.2.2.2.2.2.2.2.2.2.2.2.2.2.2.1, h.2.2.2.2.2.2.2.2.2.2.2.2.2.2.2.2.2.2.2.2.2.2.2.2.2.2.2.2.2.2.2.2.2.2.2.2.1, h.2.2.2.2.2.2.2.2.2.2.2.2.2.2.2.2.2.2.2.2.2.2.2.2.2.2.2.2.2.2.2.2.2.2.2.2.2.1, h.2.2.2.2.2.2.2.2.2.2.2.2.2.2.2.2.2.2.2.2.2.2.2.2.2.2.2.2.2.2.2.2.2.2.2.2.2.2.1, h.2.2.2.2.2.2.2.2.2.2.2.2.2.2.2.2.2.2.2.2.2.2.2.2.2.2.2.2.2.2.2.2.2.2.2.2.2.2.2.1, h.2.2.2.2.2.2.2.2.2.2.2.2.2.2.2.2.2.2.2.2.2.2.2.2.2.2.2.2.2.2.2.2.2.2.2.2.2.2.2.2.1, h.2.2.2.2.2.2.2.2.2.2.2.2.2.2.2.2.2.2.2.2.2.2.2.2.2.2.2.2.2.2.2.2.2.2.2.2.2.2.2.2.2.1, h.2.2.2.2.2.2.2.2.2.2.2.2.2.2.2.2.2.2.2.2.2.2.2.2.2.2.2.2.2.2.2.2.2.2.2.2.2.2.2.2.2.2.1, h.2.2.2.2.2.2.2.2.2.2.2.2.2.2.2.2.2.2.2.2.2.2.2.2.2.2.2.2.2.2.2.2.2.2.2.2.2.2.2.2.2.2.2.1, h.2.2.2.2.2.2.2.2.2.2.2.2.2.2.2.2.2.2.2.2.2.2.2.2.2.2.2.2.2.2.2.2.2.2.2.2.2.2.2.2.2.2.2.2.1, h.2.2.2.2.2.2.2.2.2.2.2.2.2.2.2.2.2.2.2.2.2.2.2.2.2.2.2.2.2.2.2.2.2.2.2.2.2.2.2.2.2.2.2.2.2.1, h.2.2.2.2.2.2.2.2.2.2.2.2.2.2.2.2.2.2.2.2.2.2.2.2.2.2.2.2.2.2.2.2.2.2.2.2.2.2.2.2.2.2.2.2.2.2.1, h.2.2.2.2.2.2.2.2.2.2.2.2.2.2.2.2.2.2.2.2.2.2.2.2.2.2.2.2.2.2.2.2.2.2.2.2.2.2.2.2.2.2.2.2.2.2.2.1, h.2.2.2.2.2.2.2.2.2.2.2.2.2.2.2.2.2.2.2.2.2.2.2.2.2.2.2.2.2.2.2.2.2.2.2.2.2.2.2.2.2.2.2.2.2.2.2.2.1, h.2.2.2.2.2.2.2.2.2.2.2.2.2.2.2.2.2.2.2.2.2.2.2.2.2.2.2.2.2.2.2.2.2.2.2.2.2.2.2.2.2.2.2.2.2.2.2.2.2.1, h.2.2.2.2.2.2.2.2.2.2.2.2.2.2.2.2.2.2.2.2.2.2.2.2.2.2.2.2.2.2.2.2.2.2.2.2.2.2.2.2.2.2.2.2.2.2.2.2.2.2.1, h.2.2.2.2.2.2.2.2.2.2.2.2.2.2.2.2.2.2.2.2.2.2.2.2.2.2.2.2.2.2.2.2.2.2.2.2.2.2.2.2.2.2.2.2.2.2.2.2.2.2.2.1, h.2.2.2.2.2.2.2.2.2.2.2.2.2.2.2.2.2.2.2.2.2.2.2.2.2.2.2.2.2.2.2.2.2.2.2.2.2.2.2.2.2.2.2.2.2.2.2.2.2.2.2.2.1, h.2.2.2.2.2.2.2.2.2.2.2.2.2.2.2.2.2.2.2.2.2.2.2.2.2.2.2.2.2.2.2.2.2.2.2.2.2.2.2.2.2.2.2.2.2.2.2.2.2.2.2.2.2⟩
theorem Km36_wA6 {u v : St} {D : va_G} {A : Nat → Prop} {cy : Nat → ClassId} {a : Nat → Nat} {hp H : Heap} {locs : List Loc} {f : Nat → Int32} (_ : Wo D A (mW cy a (sA v 6 f)) hp H locs) (h : Km36 u v) : Km36 u (sA v 6 f) := ⟨h.1, h.2.1, h.2.2.1, h.2.2.2.1, h.2.2.2.2.1, h.2.2.2.2.2.1, h.2.2.2.2.2.2.1, h.2.2.2.2.2.2.2.1, h.2.2.2.2.2.2.2.2.1, h.2.2.2.2.2.2.2.2.2.1, h.2.2.2.2.2.2.2.2.2.2.1, h.2.2.2.2.2.2.2.2.2.2.2.1, h.2.2.2.2.2.2.2.2.2.2.2.2.1, h.2.2.2.2.2.2.2.2.2.2.2.2.2.1, h.2.2.2.2.2.2.2.2.2.2.2.2.2.2.1, h.2.2.2.2.2.2.2.2.2.2.2.2.2.2.2.1, h.2.2.2.2.2.2.2.2.2.2.2.2.2.2.2.2.1, h.2.2.2.2.2.2.2.2.2.2.2.2.2.2.2.2.2.1, h.2.2.2.2.2.2.2.2.2.2.2.2.2.2.2.2.2.2.1, h.2.2.2.2.2.2.2.2.2.2.2.2.2.2.2.2.2.2.2.1, h.2.2.2.2.2.2.2.2.2.2.2.2.2.2.2.2.2.2.2.2.1, h.2.2.2.2.2.2.2.2.2.2.2.2.2.2.2.2.2.2.2.2.2.1, h.2.2.2.2.2.2.2.2.2.2.2.2.2.2.2.2.2.2.2.2.2.2.1, h.2.2.2.2.2.2.2.2.2.2.2.2.2.2.2.2.2.2.2.2.2.2.2.1, h.2.2.2.2.2.2.2.2.2.2.2.2.2.2.2.2.2.2.2.2.2.2.2.2.1, h.2.2.2.2.2.2.2.2.2.2.2.2.2.2.2.2.2.2.2.2.2.2.2.2.2.1, h.2.2.2.2.2.2.2.2.2.2.2.2.2.2.2.2.2.2.2.2.2.2.2.2.2.2.1, h.2.2.2.2.2.2.2.2.2.2.2.2.2.2.2.2.2.2.2.2.2.2.2.2.2.2.2.1, h.2.2.2.2.2.2.2.2.2.2.2.2.2.2.2.2.2.2.2.2.2.2.2.2.2.2.2.2.1, h.2.2.2.2.2.2.2.2.2.2.2.2.2.2.2.2.2.2.2.2.2.2.2.2.2.2.2.2.2.1, h.2.2.2.2.2.2.2.2.2.2.2.2.2.2.2.2.2.2.2.2.2.2.2.2.2.2.2.2.2.2.1, h.2.2.2.2.2.2.2.2.2.2.2.2.2.2.2.2.2.2.2.2.2.2.2.2.2.2.2.2.2.2.2.1, h.2.2.2.2.2.2.2.2.2.2.2.2.2.2.2.2.2.2.2.2.2.2.2.2.2.2.2.2.2.2.2.2.1, h.2.2.2.2.2.2.2.2.2.2.2.2.2.2.2.2.2.2.2.2.2.2.2.2.2.2.2.2.2.2.2.2.2.1, h.2.2.2.2.2.2.2.2.2.2.2.2.2.2.2.2.2.2.2.2.2.2.2.2.2.2.2.2.2.2.2.2.2.2.1, h.2.2.2.2.2.2.2.2.2.2.2.2.2.2.2.2.2.2.2.2.2.2.2.2.2.2.2.2.2.2.2.2.2.2.2.1, h.2.2.2.2.2.2.2.2.2.2.2.2.2.2.2.2.2.2.2.2.2.2.2.2.2.2.2.2.2.2.2.2.2.2.2.2.1, h.2.2.2.2.2.2.2.2.2.2.2.2.2.2.2.2.2.2.2.2.2.2.2.2.2.2.2.2.2.2.2.2.2.2.2.2.2.1, h.2.2.2.2.2.2.2.2.2.2.2.2.2.2.2.2.2.2.2.2.2.2.2.2.2.2.2.2.2.2.2.2.2.2.2.2.2.2.1, h.2.2.2.2.2.2.2.2.2.2.2.2.2.2.2.2.2.2.2.2.2.2.2.2.2.2.2.2.2.2.2.2.2.2.2.2.2.2.2.1, h.2.2.2.2.2.2.2.2.2.2.2.2.2.2.2.2.2.2.2.2.2.2.2.2.2.2.2.2.2.2.2.2.2.2.2.2.2.2.2.2.1, h.2.2.2.2.2.2.2.2.2.2.2.2.2.2.2.2.2.2.2.2.2.2.2.2.2.2.2.2.2.2.2.2.2.2.2.2.2.2.2.2.2.1, h.2.2.2.2.2.2.2.2.2.2.2.2.2.2.2.2.2.2.2.2.2.2.2.2.2.2.2.2.2.2.2.2.2.2.2.2.2.2.2.2.2.2.1, h.2.2.2.2.2.2.2.2.2.2.2.2.2.2.2.2.2.2.2.2.2.2.2.2.2.2.2.2.2.2.2.2.2.2.2.2.2.2.2.2.2.2.2.1, h.2.2.2.2.2.2.2.2.2.2.2.2.2.2.2.2.2.2.2.2.2.2.2.2.2.2.2.2.2.2.2.2.2.2.2.2.2.2.2.2.2.2.2.2.1, h.2.2.2.2.2.2.2.2.2.2.2.2.2.2.2.2.2.2.2.2.2.2.2.2.2.2.2.2.2.2.2.2.2.2.2.2.2.2.2.2.2.2.2.2.2.1, h.2.2.2.2.2.2.2.2.2.2.2.2.2.2.2.2.2.2.2.2.2.2.2.2.2.2.2.2.2.2.2.2.2.2.2.2.2.2.2.2.2.2.2.2.2.2.1, h.2.2.2.2.2.2.2.2.2.2.2.2.2.2.2.2.2.2.2.2.2.2.2.2.2.2.2.2.2.2.2.2.2.2.2.2.2.2.2.2.2.2.2.2.2.2.2.1, h.2.2.2.2.2.2.2.2.2.2.2.2.2.2.2.2.2.2.2.2.2.2.2.2.2.2.2.2.2.2.2.2.2.2.2.2.2.2.2.2.2.2.2.2.2.2.2.2.1, h.2.2.2.2.2.2.2.2.2.2.2.2.2.2.2.2.2.2.2.2.2.2.2.2.2.2.2.2.2.2.2.2.2.2.2.2.2.2.2.2.2.2.2.2.2.2.2.2.2.1, h.2.2.2.2.2.2.2.2.2.2.2.2.2.2.2.2.2.2.2.2.2.2.2.2.2.2.2.2.2.2.2.2.2.2.2.2.2.2.2.2.2.2.2.2.2.2.2.2.2.2.1, h.2.2.2.2.2.2.2.2.2.2.2.2.2.2.2.2.2.2.2.2.2.2.2.2.2.2.2.2.2.2.2.2.2.2.2.2.2.2.2.2.2.2.2.2.2.2.2.2.2.2.2.1, h.2.2.2.2.2.2.2.2.2.2.2.2.2.2.2.2.2.2.2.2.2.2.2.2.2.2.2.2.2.2.2.2.2.2.2.2.2.2.2.2.2.2.2.2.2.2.2.2.2.2.2.2.1, h.2.2.2.2.2.2.2.2.2.2.2.2.2.2.2.2.2.2.2.2.2.2.2.2.2.2.2.2.2.2.2.2.2.2.2.2.2.2.2.2.2.2.2.2.2.2.2.2.2.2.2.2.2⟩
theorem Km36_wA7 {u v : St} {D : va_G} {A : Nat → Prop} {cy : Nat → ClassId} {a : Nat → Nat} {hp H : Heap} {locs : List Loc} {f : Nat → Int32} (_ : Wo D A (mW cy a (sA v 7 f)) hp H locs) (h : Km36 u v) : Km36 u (sA v 7 f) := ⟨h.1, h.2.1, h.2.2.1, h.2.2.2.1, h.2.2.2.2.1, h.2.2.2.2.2.1, h.2.2.2.2.2.2.1, h.2.2.2.2.2.2.2.1, h.2.2.2.2.2.2.2.2.1, h.2.2.2.2.2.2.2.2.2.1, h.2.2.2.2.2.2.2.2.2.2.1, h.2.2.2.2.2.2.2.2.2.2.2.1, h.2.2.2.2.2.2.2.2.2.2.2.2.1, h.2.2.2.2.2.2.2.2.2.2.2.2.2.1, h.2.2.2.2.2.2.2.2.2.2.2.2.2.2.1, h.2.2.2.2.2.2.2.2.2.2.2.2.2.2.2.1, h.2.2.2.2.2.2.2.2.2.2.2.2.2.2.2.2.1, h.2.2.2.2.2.2.2.2.2.2.2.2.2.2.2.2.2.1, h.2.2.2.2.2.2.2.2.2.2.2.2.2.2.2.2.2.2.1, h.2.2.2.2.2.2.2.2.2.2.2.2.2.2.2.2.2.2.2.1, h.2.2.2.2.2.2.2.2.2.2.2.2.2.2.2.2.2.2.2.2.1, h.2.2.2.2.2.2.2.2.2.2.2.2.2.2.2.2.2.2.2.2.2.1, h.2.2.2.2.2.2.2.2.2.2.2.2.2.2.2.2.2.2.2.2.2.2.1, h.2.2.2.2.2.2.2.2.2.2.2.2.2.2.2.2.2.2.2.2.2.2.2.1, h.2.2.2.2.2.2.2.2.2.2.2.2.2.2.2.2.2.2.2.2.2.2.2.2.1, h.2.2.2.2.2.2.2.2.2.2.2.2.2.2.2.2.2.2.2.2.2.2.2.2.2.1, h.2.2.2.2.2.2.2.2.2.2.2.2.2.2.2.2.2.2.2.2.2.2.2.2.2.2.1, h.2.2.2.2.2.2.2.2.2.2.2.2.2.2.2.2.2.2.2.2.2.2.2.2.2.2.2.1, h.2.2.2.2.2.2.2.2.2.2.2.2.2.2.2.2.2.2.2.2.2.2.2.2.2.2.2.2.1, h.2.2.2.2.2.2.2.2.2.2.2.2.2.2.2.2.2.2.2.2.2.2.2.2.2.2.2.2.2.1, h.2.2.2.2.2.2.2.2.2.2.2.2.2.2.2.2.2.2.2.2.2.2.2.2.2.2.2.2.2.2.1, h.2.2.2.2.2.2.2.2.2.2.2.2.2.2.2.2.2.2.2.2.2.2.2.2.2.2.2.2.2.2.2.1, h.2.2.2.2.2.2.2.2.2.2.2.2.2.2.2.2.2.2.2.2.2.2.2.2.2.2.2.2.2.2.2.2.1, h.2.2.2.2.2.2.2.2.2.2.2.2.2.2.2.2.2.2.2.2.2.2.2.2.2.2.2.2.2.2.2.2.2.1, h.2.2.2.2.2.2.2.2.2.2.2.2.2.2.2.2.2.2.2.2.2.2.2.2.2.2.2.2.2.2.2.2.2.2.1, h.2.2.2.2.2.2.2.2.2.2.2.2.2.2.2.2.2.2.2.2.2.2.2.2.2.2.2.2.2.2.2.2.2.2.2.1, h.2.2.2.2.2.2.2.2.2.2.2.2.2.2.2.2.2.2.2.2.2.2.2.2.2.2.2.2.2.2.2.2.2.2.2.2.1, h.2.2.2.2.2.2.2.2.2.2.2.2.2.2.2.2.2.2.2.2.2.2.2.2.2.2.2.2.2.2.2.2.2.2.2.2.2.1, h.2.2.2.2.2.2.2.2.2.2.2.2.2.2.2.2.2.2.2.2.2.2.2.2.2.2.2.2.2.2.2.2.2.2.2.2.2.2.1, h.2.2.2.2.2.2.2.2.2.2.2.2.2.2.2.2.2.2.2.2.2.2.2.2.2.2.2.2.2.2.2.2.2.2.2.2.2.2.2.1, h.2.2.2.2.2.2.2.2.2.2.2.2.2.2.2.2.2.2.2.2.2.2.2.2.2.2.2.2.2.2.2.2.2.2.2.2.2.2.2.2.1, h.2.2.2.2.2.2.2.2.2.2.2.2.2.2.2.2.2.2.2.2.2.2.2.2.2.2.2.2.2.2.2.2.2.2.2.2.2.2.2.2.2.1, h.2.2.2.2.2.2.2.2.2.2.2.2.2.2.2.2.2.2.2.2.2.2.2.2.2.2.2.2.2.2.2.2.2.2.2.2.2.2.2.2.2.2.1, h.2.2.2.2.2.2.2.2.2.2.2.2.2.2.2.2.2.2.2.2.2.2.2.2.2.2.2.2.2.2.2.2.2.2.2.2.2.2.2.2.2.2.2.1, h.2.2.2.2.2.2.2.2.2.2.2.2.2.2.2.2.2.2.2.2.2.2.2.2.2.2.2.2.2.2.2.2.2.2.2.2.2.2.2.2.2.2.2.2.1, h.2.2.2.2.2.2.2.2.2.2.2.2.2.2.2.2.2.2.2.2.2.2.2.2.2.2.2.2.2.2.2.2.2.2.2.2.2.2.2.2.2.2.2.2.2.1, h.2.2.2.2.2.2.2.2.2.2.2.2.2.2.2.2.2.2.2.2.2.2.2.2.2.2.2.2.2.2.2.2.2.2.2.2.2.2.2.2.2.2.2.2.2.2.1, h.2.2.2.2.2.2.2.2.2.2.2.2.2.2.2.2.2.2.2.2.2.2.2.2.2.2.2.2.2.2.2.2.2.2.2.2.2.2.2.2.2.2.2.2.2.2.2.1, h.2.2.2.2.2.2.2.2.2.2.2.2.2.2.2.2.2.2.2.2.2.2.2.2.2.2.2.2.2.2.2.2.2.2.2.2.2.2.2.2.2.2.2.2.2.2.2.2.1, h.2.2.2.2.2.2.2.2.2.2.2.2.2.2.2.2.2.2.2.2.2.2.2.2.2.2.2.2.2.2.2.2.2.2.2.2.2.2.2.2.2.2.2.2.2.2.2.2.2.1, h.2.2.2.2.2.2.2.2.2.2.2.2.2.2.2.2.2.2.2.2.2.2.2.2.2.2.2.2.2.2.2.2.2.2.2.2.2.2.2.2.2.2.2.2.2.2.2.2.2.2.1, h.2.2.2.2.2.2.2.2.2.2.2.2.2.2.2.2.2.2.2.2.2.2.2.2.2.2.2.2.2.2.2.2.2.2.2.2.2.2.2.2.2.2.2.2.2.2.2.2.2.2.2.1, h.2.2.2.2.2.2.2.2.2.2.2.2.2.2.2.2.2.2.2.2.2.2.2.2.2.2.2.2.2.2.2.2.2.2.2.2.2.2.2.2.2.2.2.2.2.2.2.2.2.2.2.2.1, h.2.2.2.2.2.2.2.2.2.2.2.2.2.2.2.2.2.2.2.2.2.2.2.2.2.2.2.2.2.2.2.2.2.2.2.2.2.2.2.2.2.2.2.2.2.2.2.2.2.2.2.2.2⟩
theorem Km36_wA8 {u v : St} {D : va_G} {A : Nat → Prop} {cy : Nat → ClassId} {a : Nat → Nat} {hp H : Heap} {locs : List Loc} {f : Nat → Int32} (_ : Wo D A (mW cy a (sA v 8 f)) hp H locs) (h : Km36 u v) : Km36 u (sA v 8 f) := ⟨h.1, h.2.1, h.2.2.1, h.2.2.2.1, h.2.2.2.2.1, h.2.2.2.2.2.1, h.2.2.2.2.2.2.1, h.2.2.2.2.2.2.2.1, h.2.2.2.2.2.2.2.2.1, h.2.2.2.2.2.2.2.2.2.1, h.2.2.2.2.2.2.2.2.2.2.1, h.2.2.2.2.2.2.2.2.2.2.2.1, h.2.2.2.2.2.2.2.2.2.2.2.2.1, h.2.2.2.2.2.2.2.2.2.2.2.2.2.1, h.2.2.2.2.2.2.2.2.2.2.2.2.2.2.1, h.2.2.2.2.2.2.2.2.2.2.2.2.2.2.2.1, h.2.2.2.2.2.2.2.2.2.2.2.2.2.2.2.2.1, h.2.2.2.2.2.2.2.2.2.2.2.2.2.2.2.2.2.1, h.2.2.2.2.2.2.2.2.2.2.2.2.2.2.2.2.2.2.1, h.2.2.2.2.2.2.2.2.2.2.2.2.2.2.2.2.2.2.2.1, h.2.2.2.2.2.2.2.2.2.2.2.2.2.2.2.2.2.2.2.2.1, h.2.2.2.2.2.2.2.2.2.2.2.2.2.2.2.2.2.2.2.2.2.1, h.2.2.2.2.2.2.2.2.2.2.2.2.2.2.2.2.2.2.2.2.2.2.1, h.2.2.2.2.2.2.2.2.2.2.2.2.2.2.2.2.2.2.2.2.2.2.2.1, h.2.2.2.2.2.2.2.2.2.2.2.2.2.2.2.2.2.2.2.2.2.2.2.2.1, h.2.2.2.2.2.2.2.2.2.2.2.2.2.2.2.2.2.2.2.2.2.2.2.2.2.1, h.2.2.2.2.2.2.2.2.2.2.2.2.2.2.2.2.2.2.2.2.2.2.2.2.2.2.1, h.2.2.2.2.2.2.2.2.2.2.2.2.2.2.2.2.2.2.2.2.2.2.2.2.2.2.2.1, h.2.2.2.2.2.2.2.2.2.2.2.2.2.2.2.2.2.2.2.2.2.2.2.2.2.2.2.2.1, h.2.2.2.2.2.2.2.2.2.2.2.2.2.2.2.2.2.2.2.2.2.2.2.2.2.2.2.2.2.1, h.2.2.2.2.2.2.2.2.2.2.2.2.2.2.2.2.2.2.2.2.2.2.2.2.2.2.2.2.2.2.1, h.2.2.2.2.2.2.2.2.2.2.2.2.2.2.2.2.2.2.2.2.2.2.2.2.2.2.2.2.2.2.2.1, h.2.2.2.2.2.2.2.2.2.2.2.2.2.2.2.2.2.2.2.2.2.2.2.2.2.2.2.2.2.2.2.2.1, h.2.2.2.2.2.2.2.2.2.2.2.2.2.2.2.2.2.2.2.2.2.2.2.2.2.2.2.2.2.2.2.2.2.1, h.2.2.2.2.2.2.2.2.2.2.2.2.2.2.2.2.2.2.2.2.2.2.2.2.2.2.2.2.2.2.2.2.2.2.1, h.2.2.2.2.2.2.2.2.2.2.2.2.2.2.2.2.2.2.2.2.2.2.2.2.2.2.2.2.2.2.2.2.2.2.2.1, h.2.2.2.2.2.2.2.2.2.2.2.2.2.2.2.2.2.2.2.2.2.2.2.2.2.2.2.2.2.2.2.2.2.2.2.2.1, h.2.2.2.2.2.2.2.2.2.2.2.2.2.2.2.2.2.2.2.2.2.2.2.2.2.2.2.2.2.2.2.2.2.2.2.2.2.1, h.2.2.2.2.2.2.2.2.2.2.2.2.2.2.2.2.2.2.2.2.2.2.2.2.2.2.2.2.2.2.2.2.2.2.2.2.2.2.1, h.2.2.2.2.2.2.2.2.2.2.2.2.2.2.2.2.2.2.2.2.2.2.2.2.2.2.2.2.2.2.2.2.2.2.2.2.2.2.2.1, h.2.2.2.2.2.2.2.2.2.2.2.2.2.2.2.2.2.2.2.2.2.2.2.2.2.2.2.2.2.2.2.2.2.2.2.2.2.2.2.2.1, h.2.2.2.2.2.2.2.2.2.2.2.2.2.2.2.2.2.2.2.2.2.2.2.2.2.2.2.2.2.2.2.2.2.2.2.2.2.2.2.2.2.1, h.2.2.2.2.2.2.2.2.2.2.2.2.2.2.2.2.2.2.2.2.2.2.2.2.2.2.2.2.2.2.2.2.2.2.2.2.2.2.2.2.2.2.1, h.2.2.2.2.2.2.2.2.2.2.2.2.2.2.2.2.2.2.2.2.2.2.2.2.2.2.2.2.2.2.2.2.2.2.2.2.2.2.2.2.2.2.2.1, h.2.2.2.2.2.2.2.2.2.2.2.2.2.2.2.2.2.2.2.2.2.2.2.2.2.2.2.2.2.2.2.2.2.2.2.2.2.2.2.2.2.2.2.2.1, h.2.2.2.2.2.2.2.2.2.2.2.2.2.2.2.2.2.2.2.2.2.2.2.2.2.2.2.2.2.2.2.2.2.2.2.2.2.2.2.2.2.2.2.2.2.1, h.2.2.2.2.2.2.2.2.2.2.2.2.2.2.2.2.2.2.2.2.2.2.2.2.2.2.2.2.2.2.2.2.2.2.2.2.2.2.2.2.2.2.2.2.2.2.1, h.2.2.2.2.2.2.2.2.2.2.2.2.2.2.2.2.2.2.2.2.2.2.2.2.2.2.2.2.2.2.2.2.2.2.2.2.2.2.2.2.2.2.2.2.2.2.2.1, h.2.2.2.2.2.2.2.2.2.2.2.2.2.2.2.2.2.2.2.2.2.2.2.2.2.2.2.2.2.2.2.2.2.2.2.2.2.2.2.2.2.2.2.2.2.2.2.2.1, h.2.2.2.2.2.2.2.2.2.2.2.2.2.2.2.2.2.2.2.2.2.2.2.2.2.2.2.2.2.2.2.2.2.2.2.2.2.2.2.2.2.2.2.2.2.2.2.2.2.1, h.2.2.2.2.2.2.2.2.2.2.2.2.2.2.2.2.2.2.2.2.2.2.2.2.2.2.2.2.2.2.2.2.2.2.2.2.2.2.2.2.2.2.2.2.2.2.2.2.2.2.1, h.2.2.2.2.2.2.2.2.2.2.2.2.2.2.2.2.2.2.2.2.2.2.2.2.2.2.2.2.2.2.2.2.2.2.2.2.2.2.2.2.2.2.2.2.2.2.2.2.2.2.2.1, h.2.2.2.2.2.2.2.2.2.2.2.2.2.2.2.2.2.2.2.2.2.2.2.2.2.2.2.2.2.2.2.2.2.2.2.2.2.2.2.2.2.2.2.2.2.2.2.2.2.2.2.2.1, h.2.2.2.2.2.2.2.2.2.2.2.2.2.2.2.2.2.2.2.2.2.2.2.2.2.2.2.2.2.2.2.2.2.2.2.2.2.2.2.2.2.2.2.2.2.2.2.2.2.2.2.2.2⟩
theorem Km36_wA9 {u v : St} {D : va_G} {A : Nat → Prop} {cy : Nat → ClassId} {a : Nat → Nat} {hp H : Heap} {locs : List Loc} {f : Nat → Int32} (_ : Wo D A (mW cy a (sA v 9 f)) hp H locs) (h : Km36 u v) : Km36 u (sA v 9 f) := ⟨h.1, h.2.1, h.2.2.1, h.2.2.2.1, h.2.2.2.2.1, h.2.2.2.2.2.1, h.2.2.2.2.2.2.1, h.2.2.2.2.2.2.2.1, h.2.2.2.2.2.2.2.2.1, h.2.2.2.2.2.2.2.2.2.1, h.2.2.2.2.2.2.2.2.2.2.1, h.2.2.2.2.2.2.2.2.2.2.2.1, h.2.2.2.2.2.2.2.2.2.2.2.2.1, h.2.2.2.2.2.2.2.2.2.2.2.2.2.1, h.2.2.2.2.2.2.2.2.2.2.2.2.2.2.1, h.2.2.2.2.2.2.2.2.2.2.2.2.2.2.2.1, h.2.2.2.2.2.2.2.2.2.2.2.2.2.2.2.2.1, h.2.2.2.2.2.2.2.2.2.2.2.2.2.2.2.2.2.1, h.2.2.2.2.2.2.2.2.2.2.2.2.2.2.2.2.2.2.1, h.2.2.2.2.2.2.2.2.2.2.2.2.2.2.2.2.2.2.2.1, h.2.2.2.2.2.2.2.2.2.2.2.2.2.2.2.2.2.2.2.2.1, h.2.2.2.2.2.2.2.2.2.2.2.2.2.2.2.2.2.2.2.2.2.1, h.2.2.2.2.2.2.2.2.2.2.2.2.2.2.2.2.2.2.2.2.2.2.1, h.2.2.2.2.2.2.2.2.2.2.2.2.2.2.2.2.2.2.2.2.2.2.2.1, h.2.2.2.2.2.2.2.2.2.2.2.2.2.2.2.2.2.2.2.2.2.2.2.2.1, h.2.2.2.2.2.2.2.2.2.2.2.2.2.2.2.2.2.2.2.2.2.2.2.2.2.1, h.2.2.2.2.2.2.2.2.2.2.2.2.2.2.2.2.2.2.2.2.2.2.2.2.2.2.1, h.2.2.2.2.2.2.2.2.2.2.2.2.2.2.2.2.2.2.2.2.2.2.2.2.2.2.2.1, h.2.2.2.2.2.2.2.2.2.2.2.2.2.2.2.2.2.2.2.2.2.2.2.2.2.2.2.2.1, h.2.2.2.2.2.2.2.2.2.2.2.2.2.2.2.2.2.2.2.2.2.2.2.2.2.2.2.2.2.1, h.2.2.2.2.2.2.2.2.2.2.2.2.2.2.2.2.2.2.2.2.2.2.2.2.2.2.2.2.2.2.1, h.2.2.2.2.2.2.2.2.2.2.2.2.2.2.2.2.2.2.2.2.2.2.2.2.2.2.2.2.2.2.2.1, h.2.2.2.2.2.2.2.2.2.2.2.2.2.2.2.2.2.2.2.2.2.2.2.2.2.2.2.2.2.2.2.2.1, h.2.2.2.2.2.2.2.2.2.2.2.2.2.2.2.2.2.2.2.2.2.2.2.2.2.2.2.2.2.2.2.2.2.1, h.2.2.2.2.2.2.2.2.2.2.2.2.2.2.2.2.2.2.2.2.2.2.2.2.2.2.2.2.2.2.2.2.2.2.1, h.2.2.2.2.2.2.2.2.2.2.2.2.2.2.2.2.2.2.2.2.2.2.2.2.2.2.2.2.2.2.2.2.2.2.2.1, h.2.2.2.2.2.2.2.2.2.2.2.2.2.2.2.2.2.2.2.2.2.2.2.2.2.2.2.2.2.2.2.2.2.2.2.2.1, h.2.2.2.2.2.2.2.2.2.2.2.2.2.2.2.2.2.2.2.2.2.2.2.2.2.2.2.2.2.2.2.2.2.2.2.2.2.1, h.2.2.2.2.2.2.2.2.2.2.2.2.2.2.2.2.2.2.2.2.2.2.2.2.2.2.2.2.2.2.2.2.2.2.2.2.2.2.1, h.2.2.2.2.2.2.2.2.2.2.2.2.2.2.2.2.2.2.2.2.2.2.2.2.2.2.2.2.2.2.2.2.2.2.2.2.2.2.2.1, h.2.2.2.2.2.2.2.2.2.2.2.2.2.2.2.2.2.2.2.2.2.2.2.2.2.2.2.2.2.2.2.2.2.2.2.2.2.2.2.2.1, h.2.2.2.2.2.2.2.2.2.2.2.2.2.2.2.2.2.2.2.2.2.2.2.2.2.2.2.2.2.2.2.2.2.2.2.2.2.2.2.2.2.1, h.2.2.2.2.2.2.2.2.2.2.2.2.2.2.2.2.2.2.2.2.2.2.2.2.2.2.2.2.2.2.2.2.2.2.2.2.2.2.2.2.2.2.1, h.2.2.2.2.2.2.2.2.2.2.2.2.2.2.2.2.2.2.2.2.2.2.2.2.2.2.2.2.2.2.2.2.2.2.2.2.2.2.2.2.2.2.2.1, h.2.2.2.2.2.2.2.2.2.2.2.2.2.2.2.2.2.2.2.2.2.2.2.2.2.2.2.2.2.2.2.2.2.2.2.2.2.2.2.2.2.2.2.2.1, h.2.2.2.2.2.2.2.2.2.2.2.2.2.2.2.2.2.2.2.2.2.2.2.2.2.2.2.2.2.2.2.2.2.2.2.2.2.2.2.2.2.2.2.2.2.1, h.2.2.2.2.2.2.2.2.2.2.2.2.2.2.2.2.2.2.2.2.2.2.2.2.2.2.2.2.2.2.2.2.2.2.2.2.2.2.2.2.2.2.2.2.2.2.1, h.2.2.2.2.2.2.2.2.2.2.2.2.2.2.2.2.2.2.2.2.2.2.2.2.2.2.2.2.2.2.2.2.2.2.2.2.2.2.2.2.2.2.2.2.2.2.2.1, h.2.2.2.2.2.2.2.2.2.2.2.2.2.2.2.2.2.2.2.2.2.2.2.2.2.2.2.2.2.2.2.2.2.2.2.2.2.2.2.2.2.2.2.2.2.2.2.2.1, h.2.2.2.2.2.2.2.2.2.2.2.2.2.2.2.2.2.2.2.2.2.2.2.2.2.2.2.2.2.2.2.2.2.2.2.2.2.2.2.2.2.2.2.2.2.2.2.2.2.1, h.2.2.2.2.2.2.2.2.2.2.2.2.2.2.2.2.2.2.2.2.2.2.2.2.2.2.2.2.2.2.2.2.2.2.2.2.2.2.2.2.2.2.2.2.2.2.2.2.2.2.1, h.2.2.2.2.2.2.2.2.2.2.2.2.2.2.2.2.2.2.2.2.2.2.2.2.2.2.2.2.2.2.2.2.2.2.2.2.2.2.2.2.2.2.2.2.2.2.2.2.2.2.2.1, h.2.2.2.2.2.2.2.2.2.2.2.2.2.2.2.2.2.2.2.2.2.2.2.2.2.2.2.2.2.2.2.2.2.2.2.2.2.2.2.2.2.2.2.2.2.2.2.2.2.2.2.2.1, h.2.2.2.2.2.2.2.2.2.2.2.2.2.2.2.2.2.2.2.2.2.2.2.2.2.2.2.2.2.2.2.2.2.2.2.2.2.2.2.2.2.2.2.2.2.2.2.2.2.2.2.2.2⟩
theorem Km36_wA10 {u v : St} {D : va_G} {A : Nat → Prop} {cy : Nat → ClassId} {a : Nat → Nat} {hp H : Heap} {locs : List Loc} {f : Nat → Int32} (_ : Wo D A (mW cy a (sA v 10 f)) hp H locs) (h : Km36 u v) : Km36 u (sA v 10 f) := ⟨h.1, h.2.1, h.2.2.1, h.2.2.2.1, h.2.2.2.2.1, h.2.2.2.2.2.1, h.2.2.2.2.2.2.1, h.2.2.2.2.2.2.2.1, h.2.2.2.2.2.2.2.2.1, h.2.2.2.2.2.2.2.2.2.1, h.2.2.2.2.2.2.2.2.2.2.1, h.2.2.2.2.2.2.2.2.2.2.2.1, h.2.2.2.2.2.2.2.2.2.2.2.2.1, h.2.2.2.2.2.2.2.2.2.2.2.2.2.1, h.2.2.2.2.2.2.2.2.2.2.2.2.2.2.1, h.2.2.2.2.2.2.2.2.2.2.2.2.2.2.2.1, h.2.2.2.2.2.2.2.2.2.2.2.2.2.2.2.2.1, h.2.2.2.2.2.2.2.2.2.2.2.2.2.2.2.2.2.1, h.2.2.2.2.2.2.2.2.2.2.2.2.2.2.2.2.2.2.1, h.2.2.2.2.2.2.2.2.2.2.2.2.2.2.2.2.2.2.2.1, h.2.2.2.2.2.2.2.2.2.2.2.2.2.2.2.2.2.2.2.2.1, h.2.2.2.2.2.2.2.2.2.2.2.2.2.2.2.2.2.2.2.2.2.1, h.2.2.2.2.2.2.2.2.2.2.2.2.2.2.2.2.2.2.2.2.2.2.1, h.2.2.2.2.2.2.2.2.2.2.2.2.2.2.2.2.2.2.2.2.2.2.2.1, h.2.2.2.2.2.2.2.2.2.2.2.2.2.2.2.2.2.2.2.2.2.2.2.2.1, h.2.2.2.2.2.2.2.2.2.2.2.2.2.2.2.2.2.2.2.2.2.2.2.2.2.1, h.2.2.2.2.2.2.2.2.2.2.2.2.2.2.2.2.2.2.2.2.2.2.2.2.2.2.1, h.2.2.2.2.2.2.2.2.2.2.2.2.2.2.2.2.2.2.2.2.2.2.2.2.2.2.2.1, h.2.2.2.2.2.2.2.2.2.2.2.2.2.2.2.2.2.2.2.2.2.2.2.2.2.2.2.2.1, h.2.2.2.2.2.2.2.2.2.2.2.2.2.2.2.2.2.2.2.2.2.2.2.2.2.2.2.2.2.1, h.2.2.2.2.2.2.2.2.2.2.2.2.2.2.2.2.2.2.2.2.2.2.2.2.2.2.2.2.2.2.1, h.2.2.2.2.2.2.2.2.2.2.2.2.2.2.2.2.2.2.2.2.2.2.2.2.2.2.2.2.2.2.2.1, h.2.2.2.2.2.2.2.2.2.2.2.2.2.2.2.2.2.2.2.2.2.2.2.2.2.2.2.2.2.2.2.2.1, h.2.2.2.2.2.2.2.2.2.2.2.2.2.2.2.2.2.2.2.2.2.2.2.2.2.2.2.2.2.2.2.2.2.1, h.2.2.2.2.2.2.2.2.2.2.2.2.2.2.2.2.2.2.2.2.2.2.2.2.2.2.2.2.2.2.2.2.2.2.1, h.2.2.2.2.2.2.2.2.2.2.2.2.2.2.2.2.2.2.2.2.2.2.2.2.2.2.2.2.2.2.2.2.2.2.2.1, h.2.2.2.2.2.2.2.2.2.2.2.2.2.2.2.2.2.2.2.2.2.2.2.2.2.2.2.2.2.2.2.2.2.2.2.2.1, h.2.2.2.2.2.2.2.2.2.2.2.2.2.2.2.2.2.2.2.2.2.2.2.2.2.2.2.2.2.2.2.2.2.2.2.2.2.1, h.2.2.2.2.2.2.2.2.2.2.2.2.2.2.2.2.2.2.2.2.2.2.2.2.2.2.2.2.2.2.2.2.2.2.2.2.2.2.1, h.2.2.2.2.2.2.2.2.2.2.2.2.2.2.2.2.2.2.2.2.2.2.2.2.2.2.2.2.2.2.2.2.2.2.2.2.2.2.2.1, h.2.2.2.2.2.2.2.2.2.2.2.2.2.2.2.2.2.2.2.2.2.2.2.2.2.2.2.2.2.2.2.2.2.2.2.2.2.2.2.2.1, h.2.2.2.2.2.2.2.2.2.2.2.2.2.2.2.2.2.2.2.2.2.2.2.2.2.2.2.2.2.2.2.2.2.2.2.2.2.2.2.2.2.1, h.2.2.2.2.2.2.2.2.2.2.2.2.2.2.2.2.2.2.2.2.2.2.2.2.2.2.2.2.2.2.2.2.2.2.2.2.2.2.2.2.2.2.1, h.2.2.2.2.2.2.2.2.2.2.2.2.2.2.2.2.2.2.2.2.2.2.2.2.2.2.2.2.2.2.2.2.2.2.2.2.2.2.2.2.2.2.2.1, h.2.2.2.2.2.2.2.2.2.2.2.2.2.2.2.2.2.2.2.2.2.2.2.2.2.2.2.2.2.2.2.2.2.2.2.2.2.2.2.2.2.2.2.2.1, h.2.2.2.2.2.2.2.2.2.2.2.2.2.2.2.2.2.2.2.2.2.2.2.2.2.2.2.2.2.2.2.2.2.2.2.2.2.2.2.2.2.2.2.2.2.1, h.2.2.2.2.2.2.2.2.2.2.2.2.2.2.2.2.2.2.2.2.2.2.2.2.2.2.2.2.2.2.2.2.2.2.2.2.2.2.2.2.2.2.2.2.2.2.1, h.2.2.2.2.2.2.2.2.2.2.2.2.2.2.2.2.2.2.2.2.2.2.2.2.2.2.2.2.2.2.2.2.2.2.2.2.2.2.2.2.2.2.2.2.2.2.2.1, h.2.2.2.2.2.2.2.2.2.2.2.2.2.2.2.2.2.2.2.2.2.2.2.2.2.2.2.2.2.2.2.2.2.2.2.2.2.2.2.2.2.2.2.2.2.2.2.2.1, h.2.2.2.2.2.2.2.2.2.2.2.2.2.2.2.2.2.2.2.2.2.2.2.2.2.2.2.2.2.2.2.2.2.2.2.2.2.2.2.2.2.2.2.2.2.2.2.2.2.1, h.2.2.2.2.2.2.2.2.2.2.2.2.2.2.2.2.2.2.2.2.2.2.2.2.2.2.2.2.2.2.2.2.2.2.2.2.2.2.2.2.2.2.2.2.2.2.2.2.2.2.1, h.2.2.2.2.2.2.2.2.2.2.2.2.2.2.2.2.2.2.2.2.2.2.2.2.2.2.2.2.2.2.2.2.2.2.2.2.2.2.2.2.2.2.2.2.2.2.2.2.2.2.2.1, h.2.2.2.2.2.2.2.2.2.2.2.2.2.2.2.2.2.2.2.2.2.2.2.2.2.2.2.2.2.2.2.2.2.2.2.2.2.2.2.2.2.2.2.2.2.2.2.2.2.2.2.2.1, h.2.2.2.2.2.2.2.2.2.2.2.2.2.2.2.2.2.2.2.2.2.2.2.2.2.2.2.2.2.2.2.2.2.2.2.2.2.2.2.2.2.2.2.2.2.2.2.2.2.2.2.2.2⟩
theorem Km36_wA11 {u v : St} {D : va_G} {A : Nat → Prop} {cy : Nat → ClassId} {a : Nat → Nat} {hp H : Heap} {locs : List Loc} {f : Nat → Int32} (_ : Wo D A (mW cy a (sA v 11 f)) hp H locs) (h : Km36 u v) : Km36 u (sA v 11 f) := ⟨h.1, h.2.1, h.2.2.1, h.2.2.2.1, h.2.2.2.2.1, h.2.2.2.2.2.1, h.2.2.2.2.2.2.1, h.2.2.2.2.2.2.2.1, h.2.2.2.2.2.2.2.2.1, h.2.2.2.2.2.2.2.2.2.1, h.2.2.2.2.2.2.2.2.2.2.1, h.2.2.2.2.2.2.2.2.2.2.2.1, h.2.2.2.2.2.2.2.2.2.2.2.2.1, h.2.2.2.2.2.2.2.2.2.2.2.2.2.1, h.2.2.2.2.2.2.2.2.2.2.2.2.2.2.1, h.2.2.2.2.2.2.2.2.2.2.2.2.2.2.2.1, h.2.2.2.2.2.2.2.2.2.2.2.2.2.2.2.2.1, h.2.2.2.2.2.2.2.2.2.2.2.2.2.2.2.2.2.1, h.2.2.2.2.2.2.2.2.2.2.2.2.2.2.2.2.2.2.1, h.2.2.2.2.2.2.2.2.2.2.2.2.2.2.2.2.2.2.2.1, h.2.2.2.2.2.2.2.2.2.2.2.2.2.2.2.2.2.2.2.2.1, h.2.2.2.2.2.2.2.2.2.2.2.2.2.2.2.2.2.2.2.2.2.1, h.2.2.2.2.2.2.2.2.2.2.2.2.2.2.2.2.2.2.2.2.2.2.1, h.2.2.2.2.2.2.2.2.2.2.2.2.2.2.2.2.2.2.2.2.2.2.2.1, h.2.2.2.2.2.2.2.2.2.2.2.2.2.2.2.2.2.2.2.2.2.2.2.2.1, h.2.2.2.2.2.2.2.2.2.2.2.2.2.2.2.2.2.2.2.2.2.2.2.2.2.1, h.2.2.2.2.2.2.2.2.2.2.2.2.2.2.2.2.2.2.2.2.2.2.2.2.2.2.1, h.2.2.2.2.2.2.2.2.2.2.2.2.2.2.2.2.2.2.2.2.2.2.2.2.2.2.2.1, h.2.2.2.2.2.2.2.2.2.2.2.2.2.2.2.2.2.2.2.2.2.2.2.2.2.2.2.2.1, h.2.2.2.2.2.2.2.2.2.2.2.2.2.2.2.2.2.2.2.2.2.2.2.2.2.2.2.2.2.1, h.2.2.2.2.2.2.2.2.2.2.2.2.2.2.2.2.2.2.2.2.2.2.2.2.2.2.2.2.2.2.1, h.2.2.2.2.2.2.2.2.2.2.2.2.2.2.2.2.2.2.2.2.2.2.2.2.2.2.2.2.2.2.2.1, h.2.2.2.2.2.2.2.2.2.2.2.2.2.2.2.2.2.2.2.2.2.2.2.2.2.2.2.2.2.2.2.2.1, h.2.2.2.2.2.2.2.2.2.2.2.2.2.2.2.2.2.2.2.2.2.2.2.2.2.2.2.2.2.2.2.2.2.1, h.2.2.2.2.2.2.2.2.2.2.2.2.2.2.2.2.2.2.2.2.2.2.2.2.2.2.2.2.2.2.2.2.2.2.1, h.2.2.2.2.2.2.2.2.2.2.2.2.2.2.2.2.2.2.2.2.2.2.2.2.2.2.2.2.2.2.2.2.2.2.2.1, h.2.2.2.2.2.2.2.2.2.2.2.2.2.2.2.2.2.2.2.2.2.2.2.2.2.2.2.2.2.2.2.2.2.2.2.2.1, h.2.2.2.2.2.2.2.2.2.2.2.2.2.2.2.2.2.2.2.2.2.2.2.2.2.2.2.2.2.2.2.2.2.2.2.2.2.1, h.2.2.2.2.2.2.2.2.2.2.2.2.2.2.2.2.2.2.2.2.2.2.2.2.2.2.2.2.2.2.2.2.2.2.2.2.2.2.1, h.2.2.2.2.2.2.2.2.2.2.2.2.2.2.2.2.2.2.2.2.2.2.2.2.2.2.2.2.2.2.2.2.2.2.2.2.2.2.2.1, h.2.2.2.2.2.2.2.2.2.2.2.2.2.2.2.2.2.2.2.2.2.2.2.2.2.2.2.2.2.2.2.2.2.2.2.2.2.2.2.2.1, h.2.2.2.2.2.2.2.2.2.2.2.2.2.2.2.2.2.2.2.2.2.2.2.2.2.2.2.2.2.2.2.2.2.2.2.2.2.2.2.2.2.1, h.2.2.2.2.2.2.2.2.2.2.2.2.2.2.2.2.2.2.2.2.2.2.2.2.2.2.2.2.2.2.2.2.2.2.2.2.2.2.2.2.2.2.1, h.2.2.2.2.2.2.2.2.2.2.2.2.2.2.2.2.2.2.2.2.2.2.2.2.2.2.2.2.2.2.2.2.2.2.2.2.2.2.2.2.2.2.2.1, h.2.2.2.2.2.2.2.2.2.2.2.2.2.2.2.2.2.2.2.2.2.2.2.2.2.2.2.2.2.2.2.2.2.2.2.2.2.2.2.2.2.2.2.2.1, h.2.2.2.2.2.2.2.2.2.2.2.2.2.2.2.2.2.2.2.2.2.2.2.2.2.2.2.2.2.2.2.2.2.2.2.2.2.2.2.2.2.2.2.2.2.1, h.2.2.2.2.2.2.2.2.2.2.2.2.2.2.2.2.2.2.2.2.2.2.2.2.2.2.2.2.2.2.2.2.2.2.2.2.2.2.2.2.2.2.2.2.2.2.1, h.2.2.2.2.2.2.2.2.2.2.2.2.2.2.2.2.2.2.2.2.2.2.2.2.2.2.2.2.2.2.2.2.2.2.2.2.2.2.2.2.2.2.2.2.2.2.2.1, h.2.2.2.2.2.2.2.2.2.2.2.2.2.2.2.2.2.2.2.2.2.2.2.2.2.2.2.2.2.2.2.2.2.2.2.2.2.2.2.2.2.2.2.2.2.2.2.2.1, h.2.2.2.2.2.2.2.2.2.2.2.2.2.2.2.2.2.2.2.2.2.2.2.2.2.2.2.2.2.2.2.2.2.2.2.2.2.2.2.2.2.2.2.2.2.2.2.2.2.1, h.2.2.2.2.2.2.2.2.2.2.2.2.2.2.2.2.2.2.2.2.2.2.2.2.2.2.2.2.2.2.2.2.2.2.2.2.2.2.2.2.2.2.2.2.2.2.2.2.2.2.1, h.2.2.2.2.2.2.2.2.2.2.2.2.2.2.2.2.2.2.2.2.2.2.2.2.2.2.2.2.2.2.2.2.2.2.2.2.2.2.2.2.2.2.2.2.2.2.2.2.2.2.2.1, h.2.2.2.2.2.2.2.2.2.2.2.2.2.2.2.2.2.2.2.2.2.2.2.2.2.2.2.2.2.2.2.2.2.2.2.2.2.2.2.2.2.2.2.2.2.2.2.2.2.2.2.2.1, h.2.2.2.2.2.2.2.2.2.2.2.2.2.2.2.2.2.2.2.2.2.2.2.2.2.2.2.2.2.2.2.2.2.2.2.2.2.2.2.2.2.2.2.2.2.2.2.2.2.2.2.2.2⟩
theorem Km36_wA12 {u v : St} {D : va_G} {A : Nat → Prop} {cy : Nat → ClassId} {a : Nat → Nat} {hp H : Heap} {locs : List Loc} {f : Nat → Int32} (_ : Wo D A (mW cy a (sA v 12 f)) hp H locs) (h : Km36 u v) : Km36 u (sA v 12 f) := ⟨h.1, h.2.1, h.2.2.1, h.2.2.2.1, h.2.2.2.2.1, h.2.2.2.2.2.1, h.2.2.2.2.2.2.1, h.2.2.2.2.2.2.2.1, h.2.2.2.2.2.2.2.2.1, h.2.2.2.2.2.2.2.2.2.1, h.2.2.2.2.2.2.2.2.2.2.1, h.2.2.2.2.2.2.2.2.2.2.2.1, h.2.2.2.2.2.2.2.2.2.2.2.2.1, h.2.2.2.2.2.2.2.2.2.2.2.2.2.1, h.2.2.2.2.2.2.2.2.2.2.2.2.2.2.1, h.2.2.2.2.2.2.2.2.2.2.2.2.2.2.2.1, h.2.2.2.2.2.2.2.2.2.2.2.2.2.2.2.2.1, h.2.2.2.2.2.2.2.2.2.2.2.2.2.2.2.2.2.1, h.2.2.2.2.2.2.2.2.2.2.2.2.2.2.2.2.2.2.1, h.2.2.2.2.2.2.2.2.2.2.2.2.2.2.2.2.2.2.2.1, h.2.2.2.2.2.2.2.2.2.2.2.2.2.2.2.2.2.2.2.2.1, h.2.2.2.2.2.2.2.2.2.2.2.2.2.2.2.2.2.2.2.2.2.1, h.2.2.2.2.2.2.2.2.2.2.2.2.2.2.2.2.2.2.2.2.2.2.1, h.2.2.2.2.2.2.2.2.2.2.2.2.2.2.2.2.2.2.2.2.2.2.2.1, h.2.2.2.2.2.2.2.2.2.2.2.2.2.2.2.2.2.2.2.2.2.2.2.2.1, h.2.2.2.2.2.2.2.2.2.2.2.2.2.2.2.2.2.2.2.2.2.2.2.2.2.1, h.2.2.2.2.2.2.2.2.2.2.2.2.2.2.2.2.2.2.2.2.2.2.2.2.2.2.1, h.2.2.2.2.2.2.2.2.2.2.2.2.2.2.2.2.2.2.2.2.2.2.2.2.2.2.2.1, h.2.2.2.2.2.2.2.2.2.2.2.2.2.2.2.2.2.2.2.2.2.2.2.2.2.2.2.2.1, h.2.2.2.2.2.2.2.2.2.2.2.2.2.2.2.2.2.2.2.2.2.2.2.2.2.2.2.2.2.1, h.2.2.2.2.2.2.2.2.2.2.2.2.2.2.2.2.2.2.2.2.2.2.2.2.2.2.2.2.2.2.1, h.2.2.2.2.2.2.2.2.2.2.2.2.2.2.2.2.2.2.2.2.2.2.2.2.2.2.2.2.2.2.2.1, h.2.2.2.2.2.2.2.2.2.2.2.2.2.2.2.2.2.2.2.2.2.2.2.2.2.2.2.2.2.2.2.2.1, h.2.2.2.2.2.2.2.2.2.2.2.2.2.2.2.2.2.2.2.2.2.2.2.2.2.2.2.2.2.2.2.2.2.1, h.2.2.2.2.2.2.2.2.2.2.2.2.2.2.2.2.2.2.2.2.2.2.2.2.2.2.2.2.2.2.2.2.2.2.1, h.2.2.2.2.2.2.2.2.2.2.2.2.2.2.2.2.2.2.2.2.2.2.2.2.2.2.2.2.2.2.2.2.2.2.2.1, h.2.2.2.2.2.2.2.2.2.2.2.2.2.2.2.2.2.2.2.2.2.2.2.2.2.2.2.2.2.2.2.2.2.2.2.2.1, h.2.2.2.2.2.2.2.2.2.2.2.2.2.2.2.2.2.2.2.2.2.2.2.2.2.2.2.2.2.2.2.2.2.2.2.2.2.1, h.2.2.2.2.2.2.2.2.2.2.2.2.2.2.2.2.2.2.2.2.2.2.2.2.2.2.2.2.2.2.2.2.2.2.2.2.2.2.1, h.2.2.2.2.2.2.2.2.2.2.2.2.2.2.2.2.2.2.2.2.2.2.2.2.2.2.2.2.2.2.2.2.2.2.2.2.2.2.2.1, h.2.2.2.2.2.2.2.2.2.2.2.2.2.2.2.2.2.2.2.2.2.2.2.2.2.2.2.2.2.2.2.2.2.2.2.2.2.2.2.2.1, h.2.2.2.2.2.2.2.2.2.2.2.2.2.2.2.2.2.2.2.2.2.2.2.2.2.2.2.2.2.2.2.2.2.2.2.2.2.2.2.2.2.1, h.2.2.2.2.2.2.2.2.2.2.2.2.2.2.2.2.2.2.2.2.2.2.2.2.2.2.2.2.2.2.2.2.2.2.2.2.2.2.2.2.2.2.1, h.2.2.2.2.2.2.2.2.2.2.2.2.2.2.2.2.2.2.2.2.2.2.2.2.2.2.2.2.2.2.2.2.2.2.2.2.2.2.2.2.2.2.2.1, h.2.2.2.2.2.2.2.2.2.2.2.2.2.2.2.2.2.2.2.2.2.2.2.2.2.2.2.2.2.2.2.2.2.2.2.2.2.2.2.2.2.2.2.2.1, h.2.2.2.2.2.2.2.2.2.2.2.2.2.2.2.2.2.2.2.2.2.2.2.2.2.2.2.2.2.2.2.2.2.2.2.2.2.2.2.2.2.2.2.2.2.1, h.2.2.2.2.2.2.2.2.2.2.2.2.2.2.2.2.2.2.2.2.2.2.2.2.2.2.2.2.2.2.2.2.2.2.2.2.2.2.2.2.2.2.2.2.2.2.1, h.2.2.2.2.2.2.2.2.2.2.2.2.2.2.2.2.2.2.2.2.2.2.2.2.2.2.2.2.2.2.2.2.2.2.2.2.2.2.2.2.2.2.2.2.2.2.2.1, h.2.2.2.2.2.2.2.2.2.2.2.2.2.2.2.2.2.2.2.2.2.2.2.2.2.2.2.2.2.2.2.2.2.2.2.2.2.2.2.2.2.2.2.2.2.2.2.2.1, h.2.2.2.2.2.2.2.2.2.2.2.2.2.2.2.2.2.2.2.2.2.2.2.2.2.2.2.2.2.2.2.2.2.2.2.2.2.2.2.2.2.2.2.2.2.2.2.2.2.1, h.2.2.2.2.2.2.2.2.2.2.2.2.2.2.2.2.2.2.2.2.2.2.2.2.2.2.2.2.2.2.2.2.2.2.2.2.2.2.2.2.2.2.2.2.2.2.2.2.2.2.1, h.2.2.2.2.2.2.2.2.2.2.2.2.2.2.2.2.2.2.2.2.2.2.2.2.2.2.2.2.2.2.2.2.2.2.2.2.2.2.2.2.2.2.2.2.2.2.2.2.2.2.2.1, h.2.2.2.2.2.2.2.2.2.2.2.2.2.2.2.2.2.2.2.2.2.2.2.2.2.2.2.2.2.2.2.2.2.2.2.2.2.2.2.2.2.2.2.2.2.2.2.2.2.2.2.2.1, h.2.2.2.2.2.2.2.2.2.2.2.2.2.2.2.2.2.2.2.2.2.2.2.2.2.2.2.2.2.2.2.2.2.2.2.2.2.2.2.2.2.2.2.2.2.2.2.2.2.2.2.2.2⟩
theorem Km36_wI38 {u v : St} {x : Int32} (h : Km36 u v) : Km36 u (sI v 0 38 x) := ⟨h.1, h.2.1, h.2.2.1, h.2.2.2.1, h.2.2.2.2.1, h.2.2.2.2.2.1, h.2.2.2.2.2.2.1, h.2.2.2.2.2.2.2.1, h.2.2.2.2.2.2.2.2.1, h.2.2.2.2.2.2.2.2.2.1, h.2.2.2.2.2.2.2.2.2.2.1, h.2.2.2.2.2.2.2.2.2.2.2.1, h.2.2.2.2.2.2.2.2.2.2.2.2.1, h.2.2.2.2.2.2.2.2.2.2.2.2.2.1, h.2.2.2.2.2.2.2.2.2.2.2.2.2.2.1, h.2.2.2.2.2.2.2.2.2.2.2.2.2.2.2.1, h.2.2.2.2.2.2.2.2.2.2.2.2.2.2.2.2.1, h.2.2.2.2.2.2.2.2.2.2.2.2.2.2.2.2.2.1, h.2.2.2.2.2.2.2.2.2.2.2.2.2.2.2.2.2.2.1, h.2.2.2.2.2.2.2.2.2.2.2.2.2.2.2.2.2.2.2.1, h.2.2.2.2.2.2.2.2.2.2.2.2.2.2.2.2.2.2.2.2.1, h.2.2.2.2.2.2.2.2.2.2.2.2.2.2.2.2.2.2.2.2.2.1, h.2.2.2.2.2.2.2.2.2.2.2.2.2.2.2.2.2.2.2.2.2.2.1, h.2.2.2.2.2.2.2.2.2.2.2.2.2.2.2.2.2.2.2.2.2.2.2.1, h.2.2.2.2.2.2.2.2.2.2.2.2.2.2.2.2.2.2.2.2.2.2.2.2.1, h.2.2.2.2.2.2.2.2.2.2.2.2.2.2.2.2.2.2.2.2.2.2.2.2.2.1, h.2.2.2.2.2.2.2.2.2.2.2.2.2.2.2.2.2.2.2.2.2.2.2.2.2.2.1, h.2.2.2.2.2.2.2.2.2.2.2.2.2.2.2.2.2.2.2.2.2.2.2.2.2.2.2.1, h.2.2.2.2.2.2.2.2.2.2.2.2.2.2.2.2.2.2.2.2.2.2.2.2.2.2.2.2.1, h.2.2.2.2.2.2.2.2.2.2.2.2.2.2.2.2.2.2.2.2.2.2.2.2.2.2.2.2.2.1, h.2.2.2.2.2.2.2.2.2.2.2.2.2.2.2.2.2.2.2.2.2.2.2.2.2.2.2.2.2.2.1, h.2.2.2.2.2.2.2.2.2.2.2.2.2.2.2.2.2.2.2.2.2.2.2.2.2.2.2.2.2.2.2.1, h.2.2.2.2.2.2.2.2.2.2.2.2.2.2.2.2.2.2.2.2.2.2.2.2.2.2.2.2.2.2.2.2.1, h.2.2.2.2.2.2.2.2.2.2.2.2.2.2.2.2.2.2.2.2.2.2.2.2.2.2.2.2.2.2.2.2.2.1, h.2.2.2.2.2.2.2.2.2.2.2.2.2.2.2.2.2.2.2.2.2.2.2.2.2.2.2.2.2.2.2.2.2.2.1, h.2.2.2.2.2.2.2.2.2.2.2.2.2.2.2.2.2.2.2.2.2.2.2.2.2.2.2.2.2.2.2.2.2.2.2.1, h.2.2.2.2.2.2.2.2.2.2.2.2.2.2.2.2.2.2.2.2.2.2.2.2.2.2.2.2.2.2.2.2.2.2.2.2.1, h.2.2.2.2.2.2.2.2.2.2.2.2.2.2.2.2.2.2.2.2.2.2.2.2.2.2.2.2.2.2.2.2.2.2.2.2.2.1, h.2.2.2.2.2.2.2.2.2.2.2.2.2.2.2.2.2.2.2.2.2.2.2.2.2.2.2.2.2.2.2.2.2.2.2.2.2.2.1, h.2.2.2.2.2.2.2.2.2.2.2.2.2.2.2.2.2.2.2.2.2.2.2.2.2.2.2.2.2.2.2.2.2.2.2.2.2.2.2.1, h.2.2.2.2.2.2.2.2.2.2.2.2.2.2.2.2.2.2.2.2.2.2.2.2.2.2.2.2.2.2.2.2.2.2.2.2.2.2.2.2.1, h.2.2.2.2.2.2.2.2.2.2.2.2.2.2.2.2.2.2.2.2.2.2.2.2.2.2.2.2.2.2.2.2.2.2.2.2.2.2.2.2.2.1, h.2.2.2.2.2.2.2.2.2.2.2.2.2.2.2.2.2.2.2.2.2.2.2.2.2.2.2.2.2.2.2.2.2.2.2.2.2.2.2.2.2.2.1, h.2.2.2.2.2.2.2.2.2.2.2.2.2.2.2.2.2.2.2.2.2.2.2.2.2.2.2.2.2.2.2.2.2.2.2.2.2.2.2.2.2.2.2.1, h.2.2.2.2.2.2.2.2.2.2.2.2.2.2.2.2.2.2.2.2.2.2.2.2.2.2.2.2.2.2.2.2.2.2.2.2.2.2.2.2.2.2.2.2.1, h.2.2.2.2.2.2.2.2.2.2.2.2.2.2.2.2.2.2.2.2.2.2.2.2.2.2.2.2.2.2.2.2.2.2.2.2.2.2.2.2.2.2.2.2.2.1, h.2.2.2.2.2.2.2.2.2.2.2.2.2.2.2.2.2.2.2.2.2.2.2.2.2.2.2.2.2.2.2.2.2.2.2.2.2.2.2.2.2.2.2.2.2.2.1, h.2.2.2.2.2.2.2.2.2.2.2.2.2.2.2.2.2.2.2.2.2.2.2.2.2.2.2.2.2.2.2.2.2.2.2.2.2.2.2.2.2.2.2.2.2.2.2.1, h.2.2.2.2.2.2.2.2.2.2.2.2.2.2.2.2.2.2.2.2.2.2.2.2.2.2.2.2.2.2.2.2.2.2.2.2.2.2.2.2.2.2.2.2.2.2.2.2.1, h.2.2.2.2.2.2.2.2.2.2.2.2.2.2.2.2.2.2.2.2.2.2.2.2.2.2.2.2.2.2.2.2.2.2.2.2.2.2.2.2.2.2.2.2.2.2.2.2.2.1, h.2.2.2.2.2.2.2.2.2.2.2.2.2.2.2.2.2.2.2.2.2.2.2.2.2.2.2.2.2.2.2.2.2.2.2.2.2.2.2.2.2.2.2.2.2.2.2.2.2.2.1, h.2.2.2.2.2.2.2.2.2.2.2.2.2.2.2.2.2.2.2.2.2.2.2.2.2.2.2.2.2.2.2.2.2.2.2.2.2.2.2.2.2.2.2.2.2.2.2.2.2.2.2.1, h.2.2.2.2.2.2.2.2.2.2.2.2.2.2.2.2.2.2.2.2.2.2.2.2.2.2.2.2.2.2.2.2.2.2.2.2.2.2.2.2.2.2.2.2.2.2.2.2.2.2.2.2.1, h.2.2.2.2.2.2.2.2.2.2.2.2.2.2.2.2.2.2.2.2.2.2.2.2.2.2.2.2.2.2.2.2.2.2.2.2.2.2.2.2.2.2.2.2.2.2.2.2.2.2.2.2.2⟩
set_option maxHeartbeats 4000000 in
set_option maxRecDepth 100000 in
theorem T_X11_clearBank (l : Launch) (D : va_G) (cy : Nat → ClassId) (a : Nat → Nat) (u : St) (hJ : MI a u) (hp0 : (fI u 0 36).toInt + (fI u 0 37).toInt = 1)   : Mv l D cy (mW cy a) yX11_clearBank (.code yX11_clearBank cX11_clearBank 1 none) (rmo 0 0) [.ref (a 0)] u (fun (u' : St) => (MI a u') ∧ (Km36 u u') ∧ (PQ u')) := by
  refine Mv.of (own := RX11) rfl (by decide) (Nat.le_of_ble_eq_true rfl) ?_
  have hT : Km36 u u := Km36.rf
  have hJ0 := hJ
  intro p e s m below meth c A Q ls C hret hO hl
  obtain ⟨hx, hb, hml, hown, ht, hK, hA⟩ := id C
  have hl : lv_has ls 1 [(0, .ref (a 0))] := hl
  have g1 : 0 ≤ (fI u 0 36).toInt ∧ (fI u 0 36).toInt ≤ 1 := by have h := MI_36 hJ0; exact h
  have g2 : 0 ≤ (fI u 0 37).toInt ∧ (fI u 0 37).toInt ≤ 1 := by have h := MI_37 hJ0; exact h
  refine lv_aload_n hx hb dX11_clearBank_0 rfl (lv_at hl 0 rfl) ?_
  refine gf_RX11_20 (v := .ref (a 3)) C hO 0 mW_0 rfl dX11_clearBank_1 ?_
  refine lv_aload_n hx hb dX11_clearBank_4 rfl (lv_at hl 0 rfl) ?_
  refine gf_RX11_246 (v := .int (fI u 0 37)) C hO 0 mW_0 rfl dX11_clearBank_5 ?_
  refine lv_iconst (v := 0) hx hb dX11_clearBank_8 (by decide) ?_
  refine aIs C hO 3 mW_3 (i_in (X := ((fI u 0 37)).toInt) rfl (by omega) (by omega)) mW_s3 dX11_clearBank_9 (fun H locs hO => ?_)
  have hT := Km36_wA3 hO hT
  have hJ := MIsA_3 hO hJ (by decide) (rb_ne (b := fI u 0 36) (r := fI u 0 37) (by omega) (by omega) (by omega))
  refine lv_aload_n hx hb dX11_clearBank_10 rfl (lv_at hl 0 rfl) ?_
  refine gf_RX11_24 (v := .ref (a 4)) C hO 0 mW_0 rfl dX11_clearBank_11 ?_
  refine lv_aload_n hx hb dX11_clearBank_14 rfl (lv_at hl 0 rfl) ?_
  refine gf_RX11_246 (v := .int (fI u 0 37)) C hO 0 mW_0 rfl dX11_clearBank_15 ?_
  refine lv_iconst (v := 0) hx hb dX11_clearBank_18 (by decide) ?_
  refine aIs C hO 4 mW_4 (i_in (X := ((fI u 0 37)).toInt) rfl (by omega) (by omega)) mW_s4 dX11_clearBank_19 (fun H locs hO => ?_)
  have hT := Km36_wA4 hO hT
  have hJ := MIsA_4 hO hJ (by first | decide | omega)
  refine lv_aload_n hx hb dX11_clearBank_20 rfl (lv_at hl 0 rfl) ?_
  refine gf_RX11_27 (v := .ref (a 5)) C hO 0 mW_0 rfl dX11_clearBank_21 ?_
  refine lv_aload_n hx hb dX11_clearBank_24 rfl (lv_at hl 0 rfl) ?_
  refine gf_RX11_246 (v := .int (fI u 0 37)) C hO 0 mW_0 rfl dX11_clearBank_25 ?_
  refine lv_iconst (v := 0) hx hb dX11_clearBank_28 (by decide) ?_
  refine aIs C hO 5 mW_5 (i_in (X := ((fI u 0 37)).toInt) rfl (by omega) (by omega)) mW_s5 dX11_clearBank_29 (fun H locs hO => ?_)
  have hT := Km36_wA5 hO hT
  have hJ := MIsA_5 hO hJ (by first | decide | omega)
  refine lv_aload_n hx hb dX11_clearBank_30 rfl (lv_at hl 0 rfl) ?_
  refine gf_RX11_30 (v := .ref (a 6)) C hO 0 mW_0 rfl dX11_clearBank_31 ?_
  refine lv_aload_n hx hb dX11_clearBank_34 rfl (lv_at hl 0 rfl) ?_
  refine gf_RX11_246 (v := .int (fI u 0 37)) C hO 0 mW_0 rfl dX11_clearBank_35 ?_
  refine lv_iconst (v := 0) hx hb dX11_clearBank_38 (by decide) ?_
  refine aIs C hO 6 mW_6 (i_in (X := ((fI u 0 37)).toInt) rfl (by omega) (by omega)) mW_s6 dX11_clearBank_39 (fun H locs hO => ?_)
  have hT := Km36_wA6 hO hT
  have hJ := MIsA_6 hO hJ (by decide) (rb_ne (b := fI u 0 36) (r := fI u 0 37) (by omega) (by omega) (by omega))
  refine lv_aload_n hx hb dX11_clearBank_40 rfl (lv_at hl 0 rfl) ?_
  refine gf_RX11_33 (v := .ref (a 7)) C hO 0 mW_0 rfl dX11_clearBank_41 ?_
  refine lv_aload_n hx hb dX11_clearBank_44 rfl (lv_at hl 0 rfl) ?_
  refine gf_RX11_246 (v := .int (fI u 0 37)) C hO 0 mW_0 rfl dX11_clearBank_45 ?_
  refine lv_iconst (v := 0) hx hb dX11_clearBank_48 (by decide) ?_
  refine aIs C hO 7 mW_7 (i_in (X := ((fI u 0 37)).toInt) rfl (by omega) (by omega)) mW_s7 dX11_clearBank_49 (fun H locs hO => ?_)
  have hT := Km36_wA7 hO hT
  have hJ := MIsA_7 hO hJ (by first | decide | omega)
  refine lv_aload_n hx hb dX11_clearBank_50 rfl (lv_at hl 0 rfl) ?_
  refine gf_RX11_36 (v := .ref (a 8)) C hO 0 mW_0 rfl dX11_clearBank_51 ?_
  refine lv_aload_n hx hb dX11_clearBank_54 rfl (lv_at hl 0 rfl) ?_
  refine gf_RX11_246 (v := .int (fI u 0 37)) C hO 0 mW_0 rfl dX11_clearBank_55 ?_
  refine lv_iconst (v := 0) hx hb dX11_clearBank_58 (by decide) ?_
  refine aIs C hO 8 mW_8 (i_in (X := ((fI u 0 37)).toInt) rfl (by omega) (by omega)) mW_s8 dX11_clearBank_59 (fun H locs hO => ?_)
  have hT := Km36_wA8 hO hT
  have hJ := MIsA_8 hO hJ (by first | decide | omega)
  refine lv_aload_n hx hb dX11_clearBank_60 rfl (lv_at hl 0 rfl) ?_
  refine gf_RX11_39 (v := .ref (a 9)) C hO 0 mW_0 rfl dX11_clearBank_61 ?_
  refine lv_aload_n hx hb dX11_clearBank_64 rfl (lv_at hl 0 rfl) ?_
  refine gf_RX11_246 (v := .int (fI u 0 37)) C hO 0 mW_0 rfl dX11_clearBank_65 ?_
  refine lv_iconst (v := 0) hx hb dX11_clearBank_68 (by decide) ?_
  refine aIs C hO 9 mW_9 (i_in (X := ((fI u 0 37)).toInt) rfl (by omega) (by omega)) mW_s9 dX11_clearBank_69 (fun H locs hO => ?_)
  have hT := Km36_wA9 hO hT
  have hJ := MIsA_9 hO hJ
  refine lv_aload_n hx hb dX11_clearBank_70 rfl (lv_at hl 0 rfl) ?_
  refine gf_RX11_42 (v := .ref (a 10)) C hO 0 mW_0 rfl dX11_clearBank_71 ?_
  refine lv_aload_n hx hb dX11_clearBank_74 rfl (lv_at hl 0 rfl) ?_
  refine gf_RX11_246 (v := .int (fI u 0 37)) C hO 0 mW_0 rfl dX11_clearBank_75 ?_
  refine lv_iconst (v := 0) hx hb dX11_clearBank_78 (by decide) ?_
  refine aIs C hO 10 mW_10 (i_in (X := ((fI u 0 37)).toInt) rfl (by omega) (by omega)) mW_s10 dX11_clearBank_79 (fun H locs hO => ?_)
  have hT := Km36_wA10 hO hT
  have hJ := MIsA_10 hO hJ
  refine lv_aload_n hx hb dX11_clearBank_80 rfl (lv_at hl 0 rfl) ?_
  refine gf_RX11_45 (v := .ref (a 11)) C hO 0 mW_0 rfl dX11_clearBank_81 ?_
  refine lv_aload_n hx hb dX11_clearBank_84 rfl (lv_at hl 0 rfl) ?_
  refine gf_RX11_246 (v := .int (fI u 0 37)) C hO 0 mW_0 rfl dX11_clearBank_85 ?_
  refine lv_iconst (v := 0) hx hb dX11_clearBank_88 (by decide) ?_
  refine aIs C hO 11 mW_11 (i_in (X := ((fI u 0 37)).toInt) rfl (by omega) (by omega)) mW_s11 dX11_clearBank_89 (fun H locs hO => ?_)
  have hT := Km36_wA11 hO hT
  have hJ := MIsA_11 hO hJ (rb_ne (b := fI u 0 36) (r := fI u 0 37) (by omega) (by omega) (by omega))
  refine lv_aload_n hx hb dX11_clearBank_90 rfl (lv_at hl 0 rfl) ?_
  refine gf_RX11_48 (v := .ref (a 12)) C hO 0 mW_0 rfl dX11_clearBank_91 ?_
  refine lv_aload_n hx hb dX11_clearBank_94 rfl (lv_at hl 0 rfl) ?_
  refine gf_RX11_246 (v := .int (fI u 0 37)) C hO 0 mW_0 rfl dX11_clearBank_95 ?_
  refine lv_iconst (v := 0) hx hb dX11_clearBank_98 (by decide) ?_
  refine aIs C hO 12 mW_12 (i_in (X := ((fI u 0 37)).toInt) rfl (by omega) (by omega)) mW_s12 dX11_clearBank_99 (fun H locs hO => ?_)
  have hT := Km36_wA12 hO hT
  have hJ := MIsA_12 hO hJ
  refine lv_aload_n hx hb dX11_clearBank_100 rfl (lv_at hl 0 rfl) ?_
  refine lv_sipush (v := 560) hx hb dX11_clearBank_101 (by decide) ?_
  refine lv_aload_n hx hb dX11_clearBank_104 rfl (lv_at hl 0 rfl) ?_
  refine gf_RX11_246 (v := .int (fI u 0 37)) C hO 0 mW_0 rfl dX11_clearBank_105 ?_
  refine lv_imul hx hb dX11_clearBank_108 ?_
  refine lv_topi (fun z3 ez3 => ?_)
  have e4 : z3.toInt = 560 * ((fI u 0 37)).toInt := by rw [ez3]; exact i_mul rfl rfl (by omega)
  refine pf_RX11_249 C hO 0 mW_0 (Nat.le_of_ble_eq_true rfl) mW_s0_38 dX11_clearBank_109 (fun H locs hO => ?_)
  have hT := Km36_wI38 (x := z3) hT
  have hJ := MIs_38 (v := z3) hJ
  refine hret _ _ _ _ _ dX11_clearBank_112 ?_ hO
  exact ⟨hJ, hT, ⟨hp0, fun _ => (show (z3 : Int32).toInt = 560 * (fI u 0 37).toInt from by omega), Or.inr (Or.inl (show bitF (upd (fA u 11) (fI u 0 37).toNatClampNeg 0 (fI u 0 37).toNatClampNeg) 0 = 0 from by rw [upd_at]; rfl)), Or.inr (Or.inl (show (upd (fA u 6) (fI u 0 37).toNatClampNeg 0 (fI u 0 37).toNatClampNeg).toInt ≤ 0 from by rw [upd_at]; decide))⟩⟩
