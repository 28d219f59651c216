def va_AOA (t : FieldType) (U : State) : Prop := (Cond.arrayOver (.array t)).before #[] U = true
theorem va_AOA.use {t : FieldType} {A : Array Value} {U : State} (h : va_AOA t U) : (Cond.arrayOver (.array t)).before A U = true := h
theorem va_AOA.moved {t : FieldType} {u U : State} (hvm : u.vm.Alike U.vm) (h : va_AOA t u) : va_AOA t U := over_moved (a := #[]) (a' := #[]) hvm h

/-! ===== BEGIN new T[n][m]: the outer array a place, the inner ones among the pooled ===== -/
/-- f, but v at every address of l -/
def vr_up {α : Type} (f : Nat → α) (l : List Nat) (v : α) : Nat → α := fun a => if a ∈ l then v else f a
theorem vr_up_in {α : Type} {f : Nat → α} {l : List Nat} {v : α} {a : Nat} (h : a ∈ l) : vr_up f l v a = v := if_pos h
theorem vr_up_ne {α : Type} {f : Nat → α} {l : List Nat} {v : α} {a : Nat} (h : a ∉ l) : vr_up f l v a = f a := if_neg h
theorem vr_rows {L l : List Nat} {f : Nat → va_E} {e : va_E} (h : ∀ a, a ∈ l → a ∉ L) : va_pl L f ++ l.map (fun a => (a, e)) = va_pl (L ++ l) (vr_up f l e) := by
  unfold va_pl
  rw [List.map_append]
  congr 1
  · apply List.map_congr_left
    intro a ha
    rw [vr_up_ne (fun q => h a q ha)]
  · apply List.map_congr_left
    intro a ha
    rw [vr_up_in ha]
theorem vr_lay {X rows : va_W} {x : Nat × va_E} {pl : va_W} {D : va_G} {cl : List vw_C} {H : Heap} (hP : va_P D cl (((X ++ pl) ++ [x]) ++ rows) H) : va_P D cl ((X ++ [x]) ++ (pl ++ rows)) H := by
  rw [List.append_assoc (X ++ pl)] at hP
  have h := va_P.swap hP
  rw [← List.append_assoc X] at h
  have h2 := va_P.swap h
  rw [List.append_assoc (X ++ [x])] at h2
  exact h2
theorem vr_layD {X rows : va_W} {x : Nat × va_E} {pl : va_W} {A : Nat → Prop} (hD : va_D A (((X ++ pl) ++ [x]) ++ rows)) : va_D A ((X ++ [x]) ++ (pl ++ rows)) := by
  rw [List.append_assoc (X ++ pl)] at hD
  have h := va_D.swap hD
  rw [← List.append_assoc X] at h
  have h2 := va_D.swap h
  rw [List.append_assoc (X ++ [x])] at h2
  exact h2
theorem vr_outer (c : ClassId) (N h0 : Nat) : ∀ i : Nat, Jvm.Free.Multi.outerC c N h0 i = arrV c N (fun j => va_rf (if j < i then some (h0 + 1 + j) else none))
  | 0 => by
    show ({ cls := c, slots := Array.replicate N .null, vm := .none } : Cell) = _
    rw [arrV_new]
    refine congrArg (arrV c N) (funext fun j => ?_)
    simp [va_rf]
  | i + 1 => by
    show (Jvm.Free.Multi.outerC c N h0 i).setSlot i (.ref (h0 + 1 + i)) = _
    rw [vr_outer c N h0 i, arrV_store]
    refine congrArg (arrV c N) (funext fun j => ?_)
    by_cases e : j = i
    · subst e
      simp [updV, va_rf]
    · by_cases h : j < i
      · simp [updV, e, h, Nat.lt_succ_of_lt h]
      · simp [updV, e, h, show ¬ j < i + 1 by omega]
section VGM
variable {p : Program} {l : Launch} {e : Env} {R : Room} {s : State} {m : MethodId} {args : Array Value} {below : List Frame} {meth : Method} {c : Code} {H : Heap} {locs : List Loc} {cells slots : Nat} {Q : State → Prop}
variable {cc : ByteArray} {pc : Nat} {ls : Array Slot} {rest : List Value} {D : va_G} {cl : List vw_C} {A : Nat → Prop} {a : Nat} {tys : List (ClassId × FieldType)} {ws : va_W} {H0 : Heap}
theorem va_mna {X : va_W} {L : List Nat} {f : Nat → va_E} {cc : ByteArray} (hexec : p.tables.exec = Jvm.exec) (hb : c.code = cc) {own : String} {index : Nat} {ty : FieldType} {cy : ClassId} (hown : s.vm.findClass own = some m.cls) (hclink : (Cond.classLink own index ("[" ++ (FieldType.array ty).toString)).before args s = true) (hover : va_AOA ty s) (harr : (Cond.arrayClass ty).before args s = true) (hcy : s.vm.findClass (FieldType.array ty).toString = some cy)
    (hK : va_K D cl tys s) (hP : va_P D cl (X ++ va_pl L f) H) (hD : va_D A (X ++ va_pl L f)) (hS : va_S A H0 H locs) (hA : ∀ q, H0.size ≤ q → A q) {n k : Int32} {N' K' : Nat} {z : vp_A} (hn : ¬ n < 0) (hk : ¬ k < 0) (hN : n.toNatClampNeg = N') (hM : k.toNatClampNeg = K')
    (hb1 : N' * 4 ≤ 536870912) (hb2 : K' * componentBytes ty ≤ 536870912) (hb3 : K' ≤ 536870912) (hdf : fits ty (defaultValue ty) = true) (hdd : (defaultValue ty).isDefault = true) (hcells : cells + (1 + N') ≤ R.cells) (hslots : slots + (N' + N' * K') ≤ R.slots) (hz : ∀ c : ClassId, Jvm.Free.Multi.innerC c K' (defaultValue ty) = vp_cell c z) (hdg : decode cc pc = .ok (.multianewarray index 2, 4))
    (kk : ∀ (q : Nat) (r : Nat → Nat) (cA : ClassId) (H1 : Heap), (∀ i j : Nat, i < N' → j < N' → r i = r j → i = j) → (∀ i : Nat, i < N' → r i ∉ L) → va_K D cl (tys ++ [(cA, .array ty)]) s →
      va_P D cl ((X ++ [(q, .inl (cA, N', .inr (.inr (.inr (.inr (fun i => if i < N' then some (r i) else none))))))]) ++ va_pl (L ++ (List.range N').map r) (vr_up f ((List.range N').map r) (.inl (cy, z)))) H1 → va_D A ((X ++ [(q, .inl (cA, N', .inr (.inr (.inr (.inr (fun i => if i < N' then some (r i) else none))))))]) ++ va_pl (L ++ (List.range N').map r) (vr_up f ((List.range N').map r) (.inl (cy, z)))) → va_S A H0 H1 locs →
      W p l e R s m args below meth c H1 locs (cells + 1 + N') (slots + N' + N' * K') Q (F0 m (pc + 4) ls (.ref q :: rest))) : W p l e R s m args below meth c H locs cells slots Q (F0 m pc ls (.int k :: .int n :: rest)) := by
  subst hN
  subst hM
  intro T hT Xs
  obtain ⟨vm₁, cA, comp, -, fA, fC, hO, -, X', step⟩ := Xs.multianewarray2F hexec hown hclink (va_AOA.use hover) harr (g := F0 m pc ls (.int k :: .int n :: rest)) rfl (by rw [hb]; exact hdg) rfl hn hk hb1 hb2 hb3 hdf hdd hcells hslots
  have ec : some cy = some comp := hcy.symm.trans fC
  cases ec
  generalize hF : Jvm.Free.Multi.fill (T.setVm vm₁) cA cy n.toNatClampNeg k.toNatClampNeg (defaultValue ty) n.toNatClampNeg = F at X' step
  have hTh : (T.setVm vm₁).heap = H := hT
  obtain ⟨f1, f2, -, -⟩ := Jvm.Free.Multi.fill_facts (T.setVm vm₁) cA cy n.toNatClampNeg k.toNatClampNeg (defaultValue ty) n.toNatClampNeg
  rw [hF, hTh] at f1 f2
  have hold : ∀ x : Nat, x < H.size → F.heap[x]? = H[x]? := fun x hx => by
    have := Jvm.Free.Multi.fill_old (T.setVm vm₁) cA cy n.toNatClampNeg k.toNatClampNeg (defaultValue ty) (a := x) (by rw [hTh]; exact hx) n.toNatClampNeg
    rw [hF, hTh] at this
    exact this
  have hrow : ∀ j : Nat, j < n.toNatClampNeg → F.heap[H.size + 1 + j]? = some (vp_cell cy z) := fun j hj => by
    have := Jvm.Free.Multi.fill_inner (T.setVm vm₁) cA cy n.toNatClampNeg k.toNatClampNeg (defaultValue ty) n.toNatClampNeg j hj
    rw [hF, hTh, hz] at this
    exact this
  have hout : Jvm.Free.Multi.outerC cA n.toNatClampNeg H.size n.toNatClampNeg = vp_cell cA (n.toNatClampNeg, .inr (.inr (.inr (.inr (fun i => if i < n.toNatClampNeg then some (H.size + 1 + i) else none))))) := by
    rw [vp_cell_q]
    exact vr_outer cA n.toNatClampNeg H.size n.toNatClampNeg
  rw [hout] at f2
  have hlt : ∀ a, a ∈ L → a < H.size := fun a ha => by
    obtain ⟨k9, hk9⟩ := va_pl_get (X := X) (f := f) ha
    exact (hP k9 _ hk9).lt
  have hnl : ∀ i : Nat, i < n.toNatClampNeg → H.size + 1 + i ∉ L := fun i _ h => by
    have := hlt _ h
    omega
  have hnm : ∀ a, a ∈ (List.range n.toNatClampNeg).map (fun i => H.size + 1 + i) → a ∉ L := fun a ha h => by
    obtain ⟨i, -, rfl⟩ := List.mem_map.mp ha
    have := hlt _ h
    omega
  have hP0 : va_P D cl (X ++ va_pl L f) F.heap := hP.kept (fun k9 x hx => hold x.1 ((hP k9 x hx).lt))
  have hP1 : va_P D cl ((X ++ va_pl L f) ++ [(H.size, .inl (cA, n.toNatClampNeg, .inr (.inr (.inr (.inr (fun i => if i < n.toNatClampNeg then some (H.size + 1 + i) else none))))))]) F.heap := hP0.app (fun k9 x hx => by
    have h0 : k9 < 1 := (List.getElem?_eq_some_iff.mp hx).1
    rw [show k9 = 0 by omega] at hx
    cases hx
    exact f2)
  have hP2 : va_P D cl (((X ++ va_pl L f) ++ [(H.size, .inl (cA, n.toNatClampNeg, .inr (.inr (.inr (.inr (fun i => if i < n.toNatClampNeg then some (H.size + 1 + i) else none))))))]) ++ ((List.range n.toNatClampNeg).map (fun i => H.size + 1 + i)).map (fun a => (a, .inl (cy, z)))) F.heap := hP1.app (fun k9 x hx => by
    obtain ⟨a, ha, rfl⟩ := List.mem_map.mp (List.mem_of_getElem? hx)
    obtain ⟨i, hi, rfl⟩ := List.mem_map.mp ha
    exact hrow i (List.mem_range.mp hi))
  have hD2 : va_D A (((X ++ va_pl L f) ++ [(H.size, .inl (cA, n.toNatClampNeg, .inr (.inr (.inr (.inr (fun i => if i < n.toNatClampNeg then some (H.size + 1 + i) else none))))))]) ++ ((List.range n.toNatClampNeg).map (fun i => H.size + 1 + i)).map (fun a => (a, .inl (cy, z)))) := by
    have hD1 := hD.push (e := .inl (cA, n.toNatClampNeg, .inr (.inr (.inr (.inr (fun i => if i < n.toNatClampNeg then some (H.size + 1 + i) else none)))))) hP rfl (hA _ hS.1)
    generalize hW1 : (X ++ va_pl L f) ++ [(H.size, .inl (cA, n.toNatClampNeg, .inr (.inr (.inr (.inr (fun i => if i < n.toNatClampNeg then some (H.size + 1 + i) else none))))))] = W1 at hD1 hP1 ⊢
    have hle : ∀ (k9 : Nat) (x : Nat × va_E), W1[k9]? = some x → x.1 ≤ H.size := fun k9 x hx => by
      rw [← hW1] at hx
      by_cases hl : k9 < (X ++ va_pl L f).length
      · rw [List.getElem?_append_left hl] at hx
        exact Nat.le_of_lt ((hP k9 x hx).lt)
      · rw [List.getElem?_append_right (by omega)] at hx
        have h0 : k9 - (X ++ va_pl L f).length < 1 := (List.getElem?_eq_some_iff.mp hx).1
        rw [show k9 - (X ++ va_pl L f).length = 0 by omega] at hx
        cases hx
        exact Nat.le_refl _
    have hr : ∀ (k9 : Nat) (x : Nat × va_E), (((List.range n.toNatClampNeg).map (fun i => H.size + 1 + i)).map (fun a => ((a, .inl (cy, z)) : Nat × va_E)))[k9]? = some x → x.1 = H.size + 1 + k9 := fun k9 x hx => by
      rw [List.getElem?_map, List.getElem?_map] at hx
      by_cases h9 : k9 < n.toNatClampNeg
      · rw [List.getElem?_range h9] at hx
        cases hx
        rfl
      · have hn0 : (List.range n.toNatClampNeg)[k9]? = none := List.getElem?_eq_none (by rw [List.length_range]; omega)
        rw [hn0] at hx
        cases hx
    refine ⟨fun i j x y hi hj hxy => ?_, fun k9 x hx => ?_⟩
    · by_cases h1 : i < W1.length <;> by_cases h2 : j < W1.length
      · rw [List.getElem?_append_left h1] at hi
        rw [List.getElem?_append_left h2] at hj
        exact hD1.1 i j x y hi hj hxy
      · rw [List.getElem?_append_left h1] at hi
        rw [List.getElem?_append_right (by omega)] at hj
        have := hle _ _ hi
        have := hr _ _ hj
        omega
      · rw [List.getElem?_append_right (by omega)] at hi
        rw [List.getElem?_append_left h2] at hj
        have := hle _ _ hj
        have := hr _ _ hi
        omega
      · rw [List.getElem?_append_right (by omega)] at hi hj
        have := hr _ _ hi
        have := hr _ _ hj
        omega
    · by_cases h1 : k9 < W1.length
      · rw [List.getElem?_append_left h1] at hx
        exact hD1.2 k9 x hx
      · rw [List.getElem?_append_right (by omega)] at hx
        have := hr _ _ hx
        exact hA _ (by have := hS.1; omega)
  have hAr : ArrOfT s cA (.array ty) := fun N9 z9 => by
    obtain ⟨-, k9, hk9, cm9, hkk9⟩ := (hO 0 0 0).1
    exact ⟨(fun q hq => by cases hq), k9, hk9, cm9, hkk9⟩
  have hK2 : va_K D cl (tys ++ [(cA, .array ty)]) s := ⟨hK.1, fun k9 x hx => by
    by_cases hl : k9 < tys.length
    · rw [List.getElem?_append_left hl] at hx
      exact hK.2 k9 x hx
    · rw [List.getElem?_append_right (by omega)] at hx
      have h0 : k9 - tys.length < 1 := (List.getElem?_eq_some_iff.mp hx).1
      rw [show k9 - tys.length = 0 by omega] at hx
      cases hx
      exact ⟨hAr, fA⟩⟩
  obtain ⟨t, a1, b1⟩ := kk H.size (fun i => H.size + 1 + i) cA F.heap (fun i j _ _ h => by have h9 : H.size + 1 + i = H.size + 1 + j := h; omega) hnl hK2 (by rw [← vr_rows hnm]; exact vr_lay hP2) (by rw [← vr_rows hnm]; exact vr_layD hD2) ⟨by rw [f1]; have := hS.1; omega, fun x h1 h2 => (hold x (Nat.lt_of_lt_of_le h1 hS.1)).trans (hS.2.1 x h1 h2), hS.2.2⟩ F rfl X'
  refine ⟨t, step t ?_, b1⟩
  have e : T.heap.size = H.size := by rw [hT]
  rw [e]
  exact a1
end VGM
/-! ===== END ===== -/

def nTape : Cond := .methodLinkNest "WebCourt" 11 yX7_init "WebCourt"
def nWeb : Cond := .methodLinkNest "WebCourt" 18 yX9_init "WebCourt"
def nLaw : Cond := .methodLinkNest "WebCourt$Web" 39 yX4_init "WebCourt"
def nActs : Cond := .methodLinkNest "WebCourt" 43 yX0_init "WebCourt"
def nHears : Cond := .methodLinkNest "WebCourt" 75 yX3_init "WebCourt"
def KQ (D : va_G) (cy : Nat → ClassId) (U : State) : Prop := Kk D cy U ∧ va_Nw nTape U ∧ va_Nw nWeb U ∧ va_Nw nLaw U ∧ va_Nw nActs U ∧ va_Nw nHears U ∧ va_AOA .int U
theorem KQ.warm {D : va_G} {cy : Nat → ClassId} {s U : State} (h : KQ D cy s) (hW : s.WarmedH U.vm) : KQ D cy U := ⟨h.1.warm hW, va_Nw.warmM hW h.2.1, va_Nw.warmM hW h.2.2.1, va_Nw.warmM hW h.2.2.2.1, va_Nw.warmM hW h.2.2.2.2.1, va_Nw.warmM hW h.2.2.2.2.2.1, va_AOA.moved hW.alike h.2.2.2.2.2.2⟩
theorem KQ.call {D : va_G} {cy : Nat → ClassId} {U : State} {g : JFrame} {mk : MethodId} {a : Array Value} (h : KQ D cy U) : KQ D cy (U.calling g mk a) := ⟨h.1.call, va_Nw.same rfl rfl h.2.1, va_Nw.same rfl rfl h.2.2.1, va_Nw.same rfl rfl h.2.2.2.1, va_Nw.same rfl rfl h.2.2.2.2.1, va_Nw.same rfl rfl h.2.2.2.2.2.1, va_AOA.moved (u := U) (U := U.calling g mk a) (Vm.Alike.refl U.vm) h.2.2.2.2.2.2⟩
def Mc {S : Type} (l : Launch) (D : va_G) (cy : Nat → ClassId) (y : MethodName) (cw : Cond) (rm : Room) (av : List Value) (wc : va_W) (wf : S → va_W) (post : S → Prop) (mc ms : Nat) : Prop :=
  ∀ sz : Nat, Met l y (cw :: gtb) rm (va_Pc av (fun U => U.heap.size = sz ∧ va_P D vwCl wc U.heap ∧ KQ D cy U ∧ va_D (fun _ => True) wc ∧ Sg cy (va_A wc sz) U U.heap)) (va_Qv post (fun u t => va_P D vwCl (wf u) t.heap ∧ KQ D cy t ∧ va_D (va_A wc sz) (wf u)) (va_A wc sz)) mc ms (va_A wc sz)
section CT
variable {p : Program} {l : Launch} {e : Env} {R : Room} {s : State} {m : MethodId} {args : Array Value} {below : List Frame} {meth : Method} {c : Code} {H : Heap} {locs : List Loc} {cells slots : Nat} {Q : State → Prop}
variable {cc : ByteArray} {pc nL : Nat} {ls : Array Slot} {rest : List Value} {D : va_G} {cy : Nat → ClassId} {A : Nat → Prop} {own : String} {ws : va_W} {b : Nat}
theorem Mc.of {S : Type} {y : MethodName} {maxL mc ms : Nat} {rm : Room} {av : List Value} {wc : va_W} {wf : S → va_W} {post : S → Prop} (hcls : y.cls = own) (hyn : y.name = "<init>") (hy : plainName y.cls = true) (hlen : (lg_sl av).length ≤ maxL)
    (body : ∀ (p : Program) (e : Env) (s : State) (m : MethodId) (below : List Frame) (meth : Method) (c : Code) (A : Nat → Prop) (Q : State → Prop) (ls : Array Slot),
      Cx p s m av.toArray c cc maxL own D cy A → KQ D cy s → meth.name = "<init>" →
      (∀ (u : S) (H : Heap) (locs : List Loc) (ls : Array Slot) (pc : Nat), decode cc pc = .ok (.return_, 1) → post u → Wo D A (wf u) s.heap H locs → W p l e rm s m av.toArray below meth c H locs mc ms Q (F0 m pc ls [])) →
      Wo D A wc s.heap s.heap [] → lv_has ls maxL (lv_args 0 av) → W p l e rm s m av.toArray below meth c s.heap [] 0 0 Q (F0 m 0 ls [])) : Mc l D cy y (.code y cc maxL none) rm av wc wf post mc ms := by
  intro sz
  refine Met.ofW (cc := cc) (maxL := maxL) (ret := none) hy rfl ?_
  intro p e s m args below meth c s₁ B hml hv
  obtain ⟨rfl, hsz, hP, hK, hD0, hG⟩ := hv
  have hx := B.exec
  have hb := B.bytes
  have hr := B.returns
  have hts := atoms_spec (ws := .code y cc maxL none :: gtb) B.pre
  have hown : s.vm.findClass own = some m.cls := by rw [← hcls]; exact findClass_of_methodNamed B.named
  have hlocks := B.notSynchronized
  have hin : meth.name = "<init>" := by rw [← hyn]; exact (name_of_methodNamed B.named B.method).1
  subst hsz
  have hD := hD0.self (sz := s.heap.size)
  have hl := lv_entry av (n := maxL) hlen
  rw [lg_entry_eq]
  refine body p e s m below meth c (va_A wc s.heap.size) _ _ ⟨hx, hb, hml, hown, fun w hw => hts w (List.mem_cons_of_mem _ hw), hK.1, fun q h => Or.inr h, hG⟩ hK hin ?_ ⟨hP, hD, va_S.rf⟩ hl
  intro u H locs ls pc hdg hp hO
  exact W.vret hx hb hr (fun t ht hW => ⟨⟨u, rfl, hp, by rw [ht]; exact hO.1, hK.warm hW, hO.2.1⟩, hO.2.2.F ht⟩) hO.2.2.2.2 hdg
theorem oI {idx : Nat} (C : Cx p s m args c cc nL own D cy A) (h1 : Cond.methodLink own idx objectInit ∈ gtb) (h2 : Cond.instanceMethod objectInit ∈ gtb) (h3 : Cond.code objectInit ⟨#[0xb1]⟩ 1 none ∈ gtb) (hl : ls.size = nL) (hd : decode cc pc = .ok (.invokespecial idx, 3)) (hf : 1 ≤ R.frames) (hlo : (rest.map fun v => v.category).sum + 12 ≤ R.locals) {a : Nat}
    (kk : W p l e R s m args below meth c H locs cells slots Q (F0 m (pc + 3) ls rest)) : W p l e R s m args below meth c H locs cells slots Q (F0 m pc ls (.ref a :: rest)) := by
  obtain ⟨hx, hb, hml, hown, ht, hK, hA, hG⟩ := C
  exact W.objInit hx hb hown (ht _ h1) (ht _ h2) (ht _ h3) rfl (by rw [hml]; exact hl) rfl hd hf (by simpa [JFrame.monitorRoom] using hlo) kk
theorem pFF {ci k index : Nat} {T : u_T} {N : Nat} {Cn ref : String} {fs : List Value} {v : Value} {ws' : va_W} {ty : FieldType} (C : Cx p s m args c cc nL own D cy A) (hin2 : meth.name = "<init>") (hO : Wo D A ws s.heap H locs) (q0 : Nat) (he : ws[q0]? = some (b, .inr (ci, fs))) (hc : vwCl[ci]? = some (Cn, T, N)) (hin : ∀ w ∈ u_ws Cn T N, w ∈ gtb) (hk : k < N) (hl : Cond.fieldLink own index ref (T k).2.1 (T k).2.2.1 ∈ gtb) (href : (T k).1 = ref) (hdecl : (T k).1 = own) (ty0 : Nat → FieldType) (hty : ∀ k, k < N → parseFieldDescriptor (T k).2.2.1 = some (ty0 k)) (hnm : ∀ a, a < N → ∀ b, b < N → a ≠ b → (T a).2.1 ≠ (T b).2.1) (hfin : (T k).2.2.2 = true) (hd : parseFieldDescriptor (T k).2.2.1 = some ty) (hn : narrow ty v = v) (hfit : fits ty v = true) (hlen : k < fs.length) (hw : ws.set q0 (b, .inr (ci, fs.set k v)) = ws') (hdg : decode cc pc = .ok (.putfield index, 3))
    (kk : ∀ (H : Heap) (locs : List Loc), Wo D A ws' s.heap H locs → W p l e R s m args below meth c H locs cells slots Q (F0 m (pc + 3) ls rest)) : W p l e R s m args below meth c H locs cells slots Q (F0 m pc ls (v :: .ref b :: rest)) := by
  obtain ⟨hx, hb, hml, hown, ht, hK, hA, hG⟩ := C
  subst href
  exact va_putF hx hb ht hin ty0 hty hnm hown hK.1 hO.1 hO.2.1 hO.2.2 q0 he hc k hk (ht _ hl) (fun _ h => h) hfin hin2 hdecl hd hn hfit hlen hdg (fun H1 locs1 h1 h2 h3 => kk H1 locs1 (by rw [hw] at h1 h2; exact ⟨h1, h2, h3⟩))
theorem nOb {ci N index : Nat} {T : u_T} {Cn : String} {fs : List Value} (C : Cx p s m args c cc nL own D cy A) (hO : Wo D A ws s.heap H locs) (hin : ∀ w ∈ u_ws Cn T N, w ∈ gtb) (ty : Nat → FieldType) (hty : ∀ k, k < N → parseFieldDescriptor (T k).2.2.1 = some (ty k)) (h1 : Cond.classLink own index Cn ∈ gtb) (h2 : Cond.instantiable Cn N ∈ gtb) (h3 : Cond.initialized Cn ∈ gtb) (hc : vwCl[ci]? = some (Cn, T, N)) (hfs : ∀ j, j < N → defaultValue (ty j) = vp_V fs j) (hcells : cells + 1 ≤ R.cells) (hslots : slots + N ≤ R.slots) (hdg : decode cc pc = .ok (.new index, 3))
    (kk : ∀ (q : Nat) (H : Heap), Wo D A (ws ++ [(q, .inr (ci, fs))]) s.heap H locs → W p l e R s m args below meth c H locs (cells + 1) (slots + N) Q (F0 m (pc + 3) ls (.ref q :: rest))) : W p l e R s m args below meth c H locs cells slots Q (F0 m pc ls rest) := by
  obtain ⟨hx, hb, hml, hown, ht, hK, hA, hG⟩ := C
  exact va_new hx hb ht hin ty hty hown (ht _ h1) (ht _ h2) (ht _ h3) hK.1 hO.1 hO.2.1 hO.2.2 hA hc hfs hcells hslots hdg (fun q H1 h1 h2 h3 => kk q H1 ⟨h1, h2, h3⟩)

theorem nAB {n : Int32} {N : Nat} (C : Cx p s m args c cc nL own D cy A) (hO : Wo D A ws s.heap H locs) (hw : Cond.arrayClass .byte ∈ gtb) (hn : ¬ n < 0) (hN : n.toNatClampNeg = N) (hbytes : N * 1 ≤ 536870912) (hcells : cells + 1 ≤ R.cells) (hslots : slots + N ≤ R.slots) (hdg : decode cc pc = .ok (.newarray .byte, 2))
    (kk : ∀ (q : Nat) (H : Heap), Wo D A (ws ++ [(q, .inl (cy 0, N, .inl (fun _ => 0)))]) s.heap H locs → W p l e R s m args below meth c H locs (cells + 1) (slots + N) Q (F0 m (pc + 2) ls (.ref q :: rest))) : W p l e R s m args below meth c H locs cells slots Q (F0 m pc ls (.int n :: rest)) := by
  obtain ⟨hx, hb, hml, hown, ht, hK, hA, hG⟩ := C
  refine va_newa (atype := .byte) hx hb (ht _ hw) (ty := .byte) rfl hK.1 hO.1 hO.2.1 hO.2.2 hA (a0 := (N, .inl (fun _ => 0))) (fun cA => rfl) hn hN hbytes hcells hslots hdg (fun q cA H1 hK2 hP hD hS => ?_)
  have e1 := (hK2.2 5 (cA, .byte) rfl).2
  have e2 := (hK.1.2 0 (cy 0, .byte) rfl).2
  have e3 : cA = cy 0 := Option.some.inj ((show s.vm.findClass ("[" ++ (FieldType.byte).toString) = some cA from e1).symm.trans (show s.vm.findClass ("[" ++ (FieldType.byte).toString) = some (cy 0) from e2))
  subst e3
  exact kk q H1 ⟨hP, hD, hS⟩
theorem nAI {n : Int32} {N : Nat} (C : Cx p s m args c cc nL own D cy A) (hO : Wo D A ws s.heap H locs) (hw : Cond.arrayClass .int ∈ gtb) (hn : ¬ n < 0) (hN : n.toNatClampNeg = N) (hbytes : N * 4 ≤ 536870912) (hcells : cells + 1 ≤ R.cells) (hslots : slots + N ≤ R.slots) (hdg : decode cc pc = .ok (.newarray .int, 2))
    (kk : ∀ (q : Nat) (H : Heap), Wo D A (ws ++ [(q, .inl (cy 1, N, .inl (fun _ => 0)))]) s.heap H locs → W p l e R s m args below meth c H locs (cells + 1) (slots + N) Q (F0 m (pc + 2) ls (.ref q :: rest))) : W p l e R s m args below meth c H locs cells slots Q (F0 m pc ls (.int n :: rest)) := by
  obtain ⟨hx, hb, hml, hown, ht, hK, hA, hG⟩ := C
  refine va_newa (atype := .int) hx hb (ht _ hw) (ty := .int) rfl hK.1 hO.1 hO.2.1 hO.2.2 hA (a0 := (N, .inl (fun _ => 0))) (fun cA => rfl) hn hN hbytes hcells hslots hdg (fun q cA H1 hK2 hP hD hS => ?_)
  have e1 := (hK2.2 5 (cA, .int) rfl).2
  have e2 := (hK.1.2 1 (cy 1, .int) rfl).2
  have e3 : cA = cy 1 := Option.some.inj ((show s.vm.findClass ("[" ++ (FieldType.int).toString) = some cA from e1).symm.trans (show s.vm.findClass ("[" ++ (FieldType.int).toString) = some (cy 1) from e2))
  subst e3
  exact kk q H1 ⟨hP, hD, hS⟩
theorem nAJ {n : Int32} {N : Nat} (C : Cx p s m args c cc nL own D cy A) (hO : Wo D A ws s.heap H locs) (hw : Cond.arrayClass .long ∈ gtb) (hn : ¬ n < 0) (hN : n.toNatClampNeg = N) (hbytes : N * 8 ≤ 536870912) (hcells : cells + 1 ≤ R.cells) (hslots : slots + N ≤ R.slots) (hdg : decode cc pc = .ok (.newarray .long, 2))
    (kk : ∀ (q : Nat) (H : Heap), Wo D A (ws ++ [(q, .inl (cy 2, N, .inr (.inl (fun _ => 0))))]) s.heap H locs → W p l e R s m args below meth c H locs (cells + 1) (slots + N) Q (F0 m (pc + 2) ls (.ref q :: rest))) : W p l e R s m args below meth c H locs cells slots Q (F0 m pc ls (.int n :: rest)) := by
  obtain ⟨hx, hb, hml, hown, ht, hK, hA, hG⟩ := C
  refine va_newa (atype := .long) hx hb (ht _ hw) (ty := .long) rfl hK.1 hO.1 hO.2.1 hO.2.2 hA (a0 := (N, .inr (.inl (fun _ => 0)))) (fun cA => rfl) hn hN hbytes hcells hslots hdg (fun q cA H1 hK2 hP hD hS => ?_)
  have e1 := (hK2.2 5 (cA, .long) rfl).2
  have e2 := (hK.1.2 2 (cy 2, .long) rfl).2
  have e3 : cA = cy 2 := Option.some.inj ((show s.vm.findClass ("[" ++ (FieldType.long).toString) = some cA from e1).symm.trans (show s.vm.findClass ("[" ++ (FieldType.long).toString) = some (cy 2) from e2))
  subst e3
  exact kk q H1 ⟨hP, hD, hS⟩
theorem nAZ {n : Int32} {N : Nat} (C : Cx p s m args c cc nL own D cy A) (hO : Wo D A ws s.heap H locs) (hw : Cond.arrayClass .boolean ∈ gtb) (hn : ¬ n < 0) (hN : n.toNatClampNeg = N) (hbytes : N * 1 ≤ 536870912) (hcells : cells + 1 ≤ R.cells) (hslots : slots + N ≤ R.slots) (hdg : decode cc pc = .ok (.newarray .boolean, 2))
    (kk : ∀ (q : Nat) (H : Heap), Wo D A (ws ++ [(q, .inl (cy 3, N, .inl (fun _ => 0)))]) s.heap H locs → W p l e R s m args below meth c H locs (cells + 1) (slots + N) Q (F0 m (pc + 2) ls (.ref q :: rest))) : W p l e R s m args below meth c H locs cells slots Q (F0 m pc ls (.int n :: rest)) := by
  obtain ⟨hx, hb, hml, hown, ht, hK, hA, hG⟩ := C
  refine va_newa (atype := .boolean) hx hb (ht _ hw) (ty := .boolean) rfl hK.1 hO.1 hO.2.1 hO.2.2 hA (a0 := (N, .inl (fun _ => 0))) (fun cA => rfl) hn hN hbytes hcells hslots hdg (fun q cA H1 hK2 hP hD hS => ?_)
  have e1 := (hK2.2 5 (cA, .boolean) rfl).2
  have e2 := (hK.1.2 3 (cy 3, .boolean) rfl).2
  have e3 : cA = cy 3 := Option.some.inj ((show s.vm.findClass ("[" ++ (FieldType.boolean).toString) = some cA from e1).symm.trans (show s.vm.findClass ("[" ++ (FieldType.boolean).toString) = some (cy 3) from e2))
  subst e3
  exact kk q H1 ⟨hP, hD, hS⟩

/-- rows of ints: the outer row and the inner ones -/
theorem nRows {index : Nat} {n k : Int32} {N K : Nat} (C : Cx p s m args c cc nL own D cy A) (hQ : KQ D cy s) (hO : Wo D A ws s.heap H locs) (hcl : Cond.classLink own index "[[I" ∈ gtb) (hw : Cond.arrayClass .int ∈ gtb) (hn : ¬ n < 0) (hk : ¬ k < 0) (hN : n.toNatClampNeg = N) (hM : k.toNatClampNeg = K) (hb1 : N * 4 ≤ 536870912) (hb2 : K * 4 ≤ 536870912) (hcells : cells + (1 + N) ≤ R.cells) (hslots : slots + (N + N * K) ≤ R.slots) (hdg : decode cc pc = .ok (.multianewarray index 2, 4))
    (kk : ∀ (q : Nat) (r : Nat → Nat) (H : Heap), Wo D A ((ws ++ [(q, .inl (cy 4, N, .inr (.inr (.inr (.inr (fun i => if i < N then some (r i) else none))))))]) ++ (List.range N).map (fun i => (r i, .inl (cy 1, K, .inl (fun _ => 0))))) s.heap H locs → W p l e R s m args below meth c H locs (cells + 1 + N) (slots + N + N * K) Q (F0 m (pc + 4) ls (.ref q :: rest))) : W p l e R s m args below meth c H locs cells slots Q (F0 m pc ls (.int k :: .int n :: rest)) := by
  obtain ⟨hx, hb, hml, hown, ht, hK, hA, hG⟩ := C
  have hcy : s.vm.findClass (FieldType.array .int).toString = some (cy 1) := (hK.1.2 1 (cy 1, .int) rfl).2
  have e0 : ws = ws ++ va_pl [] (fun _ => (.inr (0, []) : va_E)) := (List.append_nil ws).symm
  have hP0 := hO.1
  have hD0 := hO.2.1
  rw [e0] at hP0 hD0
  refine va_mna (X := ws) (L := []) (f := fun _ => (.inr (0, []) : va_E)) (ty := .int) (cy := cy 1) (z := (K, .inl (fun _ => 0))) hx hb hown (ht _ hcl) hQ.2.2.2.2.2.2 (ht _ hw) hcy hK.1 hP0 hD0 hO.2.2 hA hn hk hN hM hb1 hb2 (by omega) rfl rfl hcells hslots (fun c => by show _ = arrV c K (fun _ => .int 0); rw [← arrV_new]; rfl) hdg (fun q r cA H1 hinj hnl hK2 hP hD hS => ?_)
  have e1 := (hK2.2 5 (cA, .array .int) rfl).2
  have e2 := (hK.1.2 4 (cy 4, .array .int) rfl).2
  have e3 : cA = cy 4 := Option.some.inj ((show s.vm.findClass ("[" ++ (FieldType.array .int).toString) = some cA from e1).symm.trans (show s.vm.findClass ("[" ++ (FieldType.array .int).toString) = some (cy 4) from e2))
  subst e3
  have e4 : va_pl ([] ++ (List.range N).map r) (vr_up (fun _ => (.inr (0, []) : va_E)) ((List.range N).map r) (.inl (cy 1, (K, .inl (fun _ => 0))))) = (List.range N).map (fun i => (r i, .inl (cy 1, K, .inl (fun _ => 0)))) := by
    unfold va_pl
    rw [List.nil_append, List.map_map]
    apply List.map_congr_left
    intro i hi
    show (r i, vr_up _ _ _ (r i)) = _
    rw [vr_up_in (List.mem_map.mpr ⟨i, hi, rfl⟩)]
  rw [e4] at hP hD
  exact kk q r H1 ⟨hP, hD, hS⟩
/-- a constructor called on a part of the world -/
theorem cI {S : Type} {y : MethodName} {bytes : ByteArray} {maxL n index mc ms : Nat} {rm : Room} {As : List Value} {wc wr : va_W} {wf : S → va_W} {post : S → Prop} (C : Cx p s m args c cc nL own D cy A) (hQ : KQ D cy s) (hO : Wo D A ws s.heap H locs) (isC isR : List Nat) (hC : isC.map (fun i => ws[i]?) = wc.map some) (hR : isR.map (fun i => ws[i]?) = wr.map some) (hnC : va_nd isC = true) (hnR : va_nd isR = true) (hdis : ∀ i ∈ isR, i ∉ isC)
    (hM : Mc l D cy y (.code y bytes maxL none) rm (.ref b :: As) wc wf post mc ms)
    (cw : CallB R s args own index y bytes maxL none (.code y bytes maxL none :: gtb) rm mc ms n ∧ y.name = "<init>" ∧ (Cond.instanceMethod y).before args s = true) (hn : As.length = n) (hls : ls.size = nL) (hW : (rest.map fun v => v.category).sum ≤ 8) (hdg : decode cc pc = .ok (.invokespecial index, 3)) {st : List Value} (hst : st = As.reverse ++ .ref b :: rest) (hf : cells + mc ≤ R.cells ∧ slots + ms ≤ R.slots)
    (kk : ∀ (u : S) (H : Heap) (locs : List Loc), post u → Wo D A (wr ++ wf u) s.heap H locs → W p l e R s m args below meth c H locs (cells + mc) (slots + ms) Q (F0 m (pc + 3) ls rest)) : W p l e R s m args below meth c H locs cells slots Q (F0 m pc ls st) := by
  obtain ⟨hx, hb, hml, hown, ht, hK, hA, hG⟩ := C
  obtain ⟨hP, hD, hS⟩ := hO
  subst hst
  have hPc : va_P D vwCl wc H := hP.sub isC (by have h9 := congrArg (List.filterMap id) hC; simpa [List.filterMap_map, Function.comp_def] using h9)
  have hDc := hD.sub isC hnC hC
  have hF := va_free hD hS hA isC hC
  refine va_callv (va_runI (As := As) (rest := rest) ⟨hx, hb, hml, hown, ht⟩ (hM H.size) cw ⟨fun a U g mk q => by obtain ⟨q0, q1, qP, qK, qD, qG⟩ := q; exact ⟨q0, q1, qP, qK.call, qD, qG.call⟩, fun U hU hW => ⟨rfl, by rw [hU], by rw [hU]; exact hPc, hQ.warm hW, hDc.weaken (fun _ _ _ _ => trivial), by rw [hU]; exact ((hG.kept hS.2.1).narrow hF).warm hW⟩⟩ rfl hn hls rfl (lv_room hW) hdg hf) hS (fun q _ h => hF q h) hF (fun u t H1 locs1 ht1 hvm hp hB hz hk hS1 => ?_)
  obtain ⟨hP1, hK1, hD1⟩ := hB
  rw [ht1] at hP1
  obtain ⟨hP2, hD2⟩ := va_join hP hD isC isR hC hR hnR hdis hk hF hP1 hD1
  exact kk u H1 locs1 hp ⟨hP2, hD2, hS1⟩
theorem cIN {S : Type} {host : String} {y : MethodName} {bytes : ByteArray} {maxL n index mc ms : Nat} {rm : Room} {As : List Value} {wc wr : va_W} {wf : S → va_W} {post : S → Prop} (C : Cx p s m args c cc nL own D cy A) (hQ : KQ D cy s) (hO : Wo D A ws s.heap H locs) (isC isR : List Nat) (hC : isC.map (fun i => ws[i]?) = wc.map some) (hR : isR.map (fun i => ws[i]?) = wr.map some) (hnC : va_nd isC = true) (hnR : va_nd isR = true) (hdis : ∀ i ∈ isR, i ∉ isC)
    (hM : Mc l D cy y (.code y bytes maxL none) rm (.ref b :: As) wc wf post mc ms)
    (cw : va_CN R s args own index y host bytes maxL none (.code y bytes maxL none :: gtb) rm mc ms n ∧ y.name = "<init>" ∧ (Cond.instanceMethod y).before args s = true) (hn : As.length = n) (hls : ls.size = nL) (hW : (rest.map fun v => v.category).sum ≤ 8) (hdg : decode cc pc = .ok (.invokespecial index, 3)) {st : List Value} (hst : st = As.reverse ++ .ref b :: rest) (hf : cells + mc ≤ R.cells ∧ slots + ms ≤ R.slots)
    (kk : ∀ (u : S) (H : Heap) (locs : List Loc), post u → Wo D A (wr ++ wf u) s.heap H locs → W p l e R s m args below meth c H locs (cells + mc) (slots + ms) Q (F0 m (pc + 3) ls rest)) : W p l e R s m args below meth c H locs cells slots Q (F0 m pc ls st) := by
  obtain ⟨hx, hb, hml, hown, ht, hK, hA, hG⟩ := C
  obtain ⟨hP, hD, hS⟩ := hO
  subst hst
  have hPc : va_P D vwCl wc H := hP.sub isC (by have h9 := congrArg (List.filterMap id) hC; simpa [List.filterMap_map, Function.comp_def] using h9)
  have hDc := hD.sub isC hnC hC
  have hF := va_free hD hS hA isC hC
  refine va_callv (va_runIN (As := As) (rest := rest) ⟨hx, hb, hml, hown, ht⟩ (hM H.size) cw ⟨fun a U g mk q => by obtain ⟨q0, q1, qP, qK, qD, qG⟩ := q; exact ⟨q0, q1, qP, qK.call, qD, qG.call⟩, fun U hU hW => ⟨rfl, by rw [hU], by rw [hU]; exact hPc, hQ.warm hW, hDc.weaken (fun _ _ _ _ => trivial), by rw [hU]; exact ((hG.kept hS.2.1).narrow hF).warm hW⟩⟩ rfl hn hls rfl (lv_room hW) hdg hf) hS (fun q _ h => hF q h) hF (fun u t H1 locs1 ht1 hvm hp hB hz hk hS1 => ?_)
  obtain ⟨hP1, hK1, hD1⟩ := hB
  rw [ht1] at hP1
  obtain ⟨hP2, hD2⟩ := va_join hP hD isC isR hC hR hnR hdis hk hF hP1 hD1
  exact kk u H1 locs1 hp ⟨hP2, hD2, hS1⟩
end CT
