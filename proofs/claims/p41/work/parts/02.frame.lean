/-! A state of the system: int fields, long fields, int arrays, long arrays (by the place of their cell), rows, references that change -/
abbrev St : Type := (Nat → Nat → Int32) × (Nat → Nat → Int64) × (Nat → Nat → Int32) × (Nat → Nat → Int64) × (Nat → Nat → Int32) × (Nat → Nat)
abbrev fI (u : St) : Nat → Nat → Int32 := u.1
abbrev fL (u : St) : Nat → Nat → Int64 := u.2.1
abbrev fA (u : St) : Nat → Nat → Int32 := u.2.2.1
abbrev fJ (u : St) : Nat → Nat → Int64 := u.2.2.2.1
abbrev fB (u : St) : Nat → Nat → Int32 := u.2.2.2.2.1
abbrev fR (u : St) : Nat → Nat := u.2.2.2.2.2
def sI (u : St) (c k : Nat) (v : Int32) : St := (va_up u.1 c (va_up (u.1 c) k v), u.2)
def sL (u : St) (c k : Nat) (v : Int64) : St := (u.1, va_up u.2.1 c (va_up (u.2.1 c) k v), u.2.2)
def sA (u : St) (q : Nat) (f : Nat → Int32) : St := (u.1, u.2.1, va_up u.2.2.1 q f, u.2.2.2)
def sJ (u : St) (q : Nat) (f : Nat → Int64) : St := (u.1, u.2.1, u.2.2.1, va_up u.2.2.2.1 q f, u.2.2.2.2)
def sB (u : St) (q : Nat) (f : Nat → Int32) : St := (u.1, u.2.1, u.2.2.1, u.2.2.2.1, va_up u.2.2.2.2.1 q f, u.2.2.2.2.2)
def sR (u : St) (k v : Nat) : St := (u.1, u.2.1, u.2.2.1, u.2.2.2.1, u.2.2.2.2.1, va_up u.2.2.2.2.2 k v)
def tyL (cy : Nat → ClassId) : List (ClassId × FieldType) := [(cy 0, .byte), (cy 1, .int), (cy 2, .long), (cy 3, .boolean), (cy 4, .array .int)]
def kNest : Cond := .methodLinkNest "WebCourt$Acts" 26 yX10_copyRow "WebCourt"
def Kk (D : va_G) (cy : Nat → ClassId) (U : State) : Prop := va_K D vwCl (tyL cy) U ∧ va_Nw kNest U
theorem Kk.warm {D : va_G} {cy : Nat → ClassId} {s U : State} (h : Kk D cy s) (hW : s.WarmedH U.vm) : Kk D cy U := ⟨va_K.moved hW.alike h.1, va_Nw.warmM hW h.2⟩
theorem Kk.call {D : va_G} {cy : Nat → ClassId} {U : State} {g : JFrame} {mk : MethodId} {a : Array Value} (h : Kk D cy U) : Kk D cy (U.calling g mk a) := ⟨va_K.moved (u := U) (U := U.calling g mk a) (Vm.Alike.refl U.vm) h.1, va_Nw.same rfl rfl h.2⟩
def strLen : List Nat := [102, 11]
def strByt : List (List Int32) := [[107, 110, 111, 116, 32, 108, 105, 110, 101, 32, 115, 116, 105, 99, 107, 121, 32, 112, 108, 101, 97, 32, 115, 116, 114, 111, 110, 103, 32, 99, 97, 115, 101, 32, 97, 116, 32, 112, 108, 101, 97, 100, 115, 32, 98, 101, 110, 99, 104, 32, 108, 97, 119, 32, 98, 97, 99, 107, 32, 100, 114, 97, 119, 32, 111, 114, 32, 97, 110, 100, 32, 110, 111, 116, 32, 109, 97, 110, 121, 32, 98, 101, 102, 111, 114, 101, 32, 115, 116, 97, 121, 115, 32, 107, 105, 110, 32, 104, 111, 117, 114, 32], [59, 40, 41, 60, 62, 61, 43, 45, 42, 47, 37]]
/-- the String constants stand, apart from what may change (their places: cy 10, cy 11; their bytes: cy 20, cy 21), and the JDK's two statics -/
def Sg (cy : Nat → ClassId) (A : Nat → Prop) (U : State) (H : Heap) : Prop :=
  vk_S 2 strLen strByt (fun i => cy (10 + i)) (fun i => cy (20 + i)) A U H ∧ vk_R "WebCourt$Tape" 65 "knot line sticky plea strong case at pleads bench law back draw or and not many before stays kin hour " (cy 10) U ∧ vk_R "WebCourt$Tape" 75 ";()<>=+-*/%" (cy 11) U ∧ va_Z "java/lang/String" "COMPACT_STRINGS" "Z" (.int 1) A U H ∧ va_Zq "jdk/internal/util/Preconditions" "SIOOBE_FORMATTER" "Ljava/util/function/BiFunction;" A U H
theorem Sg.kept {cy : Nat → ClassId} {A : Nat → Prop} {U : State} {H H1 : Heap} (h : Sg cy A U H) (hq : ∀ a : Nat, a < H.size → ¬ A a → H1[a]? = H[a]?) : Sg cy A U H1 := ⟨h.1.kept hq, h.2.1, h.2.2.1, h.2.2.2.1.kept hq, h.2.2.2.2.kept hq⟩
theorem Sg.narrow {cy : Nat → ClassId} {A B : Nat → Prop} {U : State} {H : Heap} (h : Sg cy A U H) (hAB : ∀ q, B q → A q) : Sg cy B U H := ⟨h.1.narrow hAB, h.2.1, h.2.2.1, h.2.2.2.1.narrow hAB, h.2.2.2.2.narrow hAB⟩
theorem Sg.warm {cy : Nat → ClassId} {A : Nat → Prop} {s U : State} {H : Heap} (h : Sg cy A s H) (hW : s.WarmedH U.vm) : Sg cy A U H := ⟨h.1.moved hW.alike, h.2.1.warm hW, h.2.2.1.warm hW, h.2.2.2.1.moved hW.alike, h.2.2.2.2.moved hW.alike⟩
theorem Sg.call {cy : Nat → ClassId} {A : Nat → Prop} {U : State} {H : Heap} {g : JFrame} {mk : MethodId} {a : Array Value} (h : Sg cy A U H) : Sg cy A (U.calling g mk a) H := ⟨vk_S.moved (u := U) (U := U.calling g mk a) (Vm.Alike.refl U.vm) h.1, vk_R.same (u := U) (U := U.calling g mk a) rfl h.2.1, vk_R.same (u := U) (U := U.calling g mk a) rfl h.2.2.1, va_Z.moved (u := U) (U := U.calling g mk a) (Vm.Alike.refl U.vm) h.2.2.2.1, va_Zq.moved (u := U) (U := U.calling g mk a) (Vm.Alike.refl U.vm) h.2.2.2.2⟩
/-- the heap holds a world, apart, and nothing else that was there has changed -/
def Wo (D : va_G) (A : Nat → Prop) (w : va_W) (H0 H : Heap) (locs : List Loc) : Prop := va_P D vwCl w H ∧ va_D A w ∧ va_S A H0 H locs
/-- what stays the same while a method runs -/
def Cx (p : Program) (s : State) (m : MethodId) (args : Array Value) (c : Code) (cc : ByteArray) (nL : Nat) (own : String) (D : va_G) (cy : Nat → ClassId) (A : Nat → Prop) : Prop :=
  p.tables.exec = Jvm.exec ∧ c.code = cc ∧ c.maxLocals = nL ∧ s.vm.findClass own = some m.cls ∧ (∀ w ∈ gtb, w.before args s = true) ∧ Kk D cy s ∧ (∀ q, s.heap.size ≤ q → A q) ∧ Sg cy A s s.heap
abbrev rmo (f n : Nat) : Room := { frames := f, cells := 0, slots := 0, locals := n }
def Mi (l : Launch) (D : va_G) (cy : Nat → ClassId) (w : St → va_W) (y : MethodName) (cw : Cond) (rm : Room) (av : List Value) (u0 : St) (post : Int32 → St → Prop) : Prop :=
  ∀ sz : Nat, Met l y (cw :: gtb) rm (va_Pc av (fun U => U.heap.size = sz ∧ va_P D vwCl (w u0) U.heap ∧ Kk D cy U ∧ va_D (fun _ => True) (w u0) ∧ Sg cy (va_A (w u0) sz) U U.heap)) (va_Qi post (fun u t => va_P D vwCl (w u) t.heap ∧ Kk D cy t ∧ va_D (va_A (w u0) sz) (w u)) (va_A (w u0) sz)) 0 0 (va_A (w u0) sz)
def Mj (l : Launch) (D : va_G) (cy : Nat → ClassId) (w : St → va_W) (y : MethodName) (cw : Cond) (rm : Room) (av : List Value) (u0 : St) (post : Int64 → St → Prop) : Prop :=
  ∀ sz : Nat, Met l y (cw :: gtb) rm (va_Pc av (fun U => U.heap.size = sz ∧ va_P D vwCl (w u0) U.heap ∧ Kk D cy U ∧ va_D (fun _ => True) (w u0) ∧ Sg cy (va_A (w u0) sz) U U.heap)) (va_Ql post (fun u t => va_P D vwCl (w u) t.heap ∧ Kk D cy t ∧ va_D (va_A (w u0) sz) (w u)) (va_A (w u0) sz)) 0 0 (va_A (w u0) sz)
def Mv (l : Launch) (D : va_G) (cy : Nat → ClassId) (w : St → va_W) (y : MethodName) (cw : Cond) (rm : Room) (av : List Value) (u0 : St) (post : St → Prop) : Prop :=
  ∀ sz : Nat, Met l y (cw :: gtb) rm (va_Pc av (fun U => U.heap.size = sz ∧ va_P D vwCl (w u0) U.heap ∧ Kk D cy U ∧ va_D (fun _ => True) (w u0) ∧ Sg cy (va_A (w u0) sz) U U.heap)) (va_Qv post (fun u t => va_P D vwCl (w u) t.heap ∧ Kk D cy t ∧ va_D (va_A (w u0) sz) (w u)) (va_A (w u0) sz)) 0 0 (va_A (w u0) sz)
theorem va_D.self' {w : va_W} {A : Nat → Prop} {q : Nat} {H : Heap} {locs : List Loc} {H0 : Heap} (hD : va_D A w) (hS : va_S A H0 H locs) (hA : ∀ q, H0.size ≤ q → A q) (h : va_A w H.size q) : A q := by
  rcases h with ⟨k, e, h⟩ | h
  · exact hD.2 k (q, e) h
  · exact hA q (Nat.le_trans hS.1 h)
section FR
variable {p : Program} {l : Launch} {e : Env} {R : Room} {s : State} {m : MethodId} {args : Array Value} {below : List Frame} {meth : Method} {c : Code} {H : Heap} {locs : List Loc} {cells slots : Nat} {Q : State → Prop}
variable {cc : ByteArray} {pc nL : Nat} {ls : Array Slot} {rest : List Value} {D : va_G} {cy : Nat → ClassId} {A : Nat → Prop} {own : String} {w : St → va_W} {u0 : St}
theorem Mi.of {y : MethodName} {maxL : Nat} {ty : FieldType} {rm : Room} {av : List Value} {post : Int32 → St → Prop} (hcls : y.cls = own) (hy : plainName y.cls = true) (hlen : (lg_sl av).length ≤ maxL)
    (body : ∀ (p : Program) (e : Env) (s : State) (m : MethodId) (below : List Frame) (meth : Method) (c : Code) (A : Nat → Prop) (Q : State → Prop) (ls : Array Slot),
      Cx p s m av.toArray c cc maxL own D cy A →
      (∀ (v : Int32) (u : St) (H : Heap) (locs : List Loc) (ls : Array Slot) (pc : Nat), decode cc pc = .ok (.ireturn, 1) → narrow ty (.int v) = .int v → post v u → Wo D A (w u) s.heap H locs → W p l e rm s m av.toArray below meth c H locs 0 0 Q (F0 m pc ls [.int v])) →
      Wo D A (w u0) s.heap s.heap [] → lv_has ls maxL (lv_args 0 av) → W p l e rm s m av.toArray below meth c s.heap [] 0 0 Q (F0 m 0 ls [])) : Mi l D cy w y (.code y cc maxL (some ty)) rm av u0 post := by
  intro sz
  refine Met.ofW (cc := cc) (maxL := maxL) (ret := some ty) hy rfl ?_
  intro p e s m args below meth c s₁ B hml hv
  obtain ⟨rfl, hsz, hP, hK, hD0, hG⟩ := hv
  have hx := B.exec
  have hb := B.bytes
  have hr := B.returns
  have hts := atoms_spec (ws := .code y cc maxL (some ty) :: gtb) B.pre
  have hown : s.vm.findClass own = some m.cls := by rw [← hcls]; exact findClass_of_methodNamed B.named
  have hlocks := B.notSynchronized
  subst hsz
  have hD := hD0.self (sz := s.heap.size)
  have hl := lv_entry av (n := maxL) hlen
  rw [lg_entry_eq]
  refine body p e s m below meth c (va_A (w u0) s.heap.size) _ _ ⟨hx, hb, hml, hown, fun w hw => hts w (List.mem_cons_of_mem _ hw), hK, fun q h => Or.inr h, hG⟩ ?_ ⟨hP, hD, va_S.rf⟩ hl
  intro v u H locs ls pc hdg hn hp hO
  exact W.zret hx hb hr hn (fun t ht hW => ⟨⟨v, u, rfl, hp, by rw [ht]; exact hO.1, hK.warm hW, hO.2.1⟩, hO.2.2.F ht⟩) hO.2.2.2.2 hdg
theorem Mj.of {y : MethodName} {maxL : Nat} {rm : Room} {av : List Value} {post : Int64 → St → Prop} (hcls : y.cls = own) (hy : plainName y.cls = true) (hlen : (lg_sl av).length ≤ maxL)
    (body : ∀ (p : Program) (e : Env) (s : State) (m : MethodId) (below : List Frame) (meth : Method) (c : Code) (A : Nat → Prop) (Q : State → Prop) (ls : Array Slot),
      Cx p s m av.toArray c cc maxL own D cy A →
      (∀ (v : Int64) (u : St) (H : Heap) (locs : List Loc) (ls : Array Slot) (pc : Nat), decode cc pc = .ok (.lreturn, 1) → post v u → Wo D A (w u) s.heap H locs → W p l e rm s m av.toArray below meth c H locs 0 0 Q (F0 m pc ls [.long v])) →
      Wo D A (w u0) s.heap s.heap [] → lv_has ls maxL (lv_args 0 av) → W p l e rm s m av.toArray below meth c s.heap [] 0 0 Q (F0 m 0 ls [])) : Mj l D cy w y (.code y cc maxL (some .long)) rm av u0 post := by
  intro sz
  refine Met.ofW (cc := cc) (maxL := maxL) (ret := some .long) hy rfl ?_
  intro p e s m args below meth c s₁ B hml hv
  obtain ⟨rfl, hsz, hP, hK, hD0, hG⟩ := hv
  have hx := B.exec
  have hb := B.bytes
  have hr := B.returns
  have hts := atoms_spec (ws := .code y cc maxL (some .long) :: gtb) B.pre
  have hown : s.vm.findClass own = some m.cls := by rw [← hcls]; exact findClass_of_methodNamed B.named
  have hlocks := B.notSynchronized
  subst hsz
  have hD := hD0.self (sz := s.heap.size)
  have hl := lv_entry av (n := maxL) hlen
  rw [lg_entry_eq]
  refine body p e s m below meth c (va_A (w u0) s.heap.size) _ _ ⟨hx, hb, hml, hown, fun w hw => hts w (List.mem_cons_of_mem _ hw), hK, fun q h => Or.inr h, hG⟩ ?_ ⟨hP, hD, va_S.rf⟩ hl
  intro v u H locs ls pc hdg hp hO
  exact W.lret hx hb hr (fun t ht hW => ⟨⟨v, u, rfl, hp, by rw [ht]; exact hO.1, hK.warm hW, hO.2.1⟩, hO.2.2.F ht⟩) hO.2.2.2.2 hdg
theorem Mv.of {y : MethodName} {maxL : Nat} {rm : Room} {av : List Value} {post : St → Prop} (hcls : y.cls = own) (hy : plainName y.cls = true) (hlen : (lg_sl av).length ≤ maxL)
    (body : ∀ (p : Program) (e : Env) (s : State) (m : MethodId) (below : List Frame) (meth : Method) (c : Code) (A : Nat → Prop) (Q : State → Prop) (ls : Array Slot),
      Cx p s m av.toArray c cc maxL own D cy A →
      (∀ (u : St) (H : Heap) (locs : List Loc) (ls : Array Slot) (pc : Nat), decode cc pc = .ok (.return_, 1) → post u → Wo D A (w u) s.heap H locs → W p l e rm s m av.toArray below meth c H locs 0 0 Q (F0 m pc ls [])) →
      Wo D A (w u0) s.heap s.heap [] → lv_has ls maxL (lv_args 0 av) → W p l e rm s m av.toArray below meth c s.heap [] 0 0 Q (F0 m 0 ls [])) : Mv l D cy w y (.code y cc maxL none) rm av u0 post := by
  intro sz
  refine Met.ofW (cc := cc) (maxL := maxL) (ret := none) hy rfl ?_
  intro p e s m args below meth c s₁ B hml hv
  obtain ⟨rfl, hsz, hP, hK, hD0, hG⟩ := hv
  have hx := B.exec
  have hb := B.bytes
  have hr := B.returns
  have hts := atoms_spec (ws := .code y cc maxL none :: gtb) B.pre
  have hown : s.vm.findClass own = some m.cls := by rw [← hcls]; exact findClass_of_methodNamed B.named
  have hlocks := B.notSynchronized
  subst hsz
  have hD := hD0.self (sz := s.heap.size)
  have hl := lv_entry av (n := maxL) hlen
  rw [lg_entry_eq]
  refine body p e s m below meth c (va_A (w u0) s.heap.size) _ _ ⟨hx, hb, hml, hown, fun w hw => hts w (List.mem_cons_of_mem _ hw), hK, fun q h => Or.inr h, hG⟩ ?_ ⟨hP, hD, va_S.rf⟩ hl
  intro u H locs ls pc hdg hp hO
  exact W.vret hx hb hr (fun t ht hW => ⟨⟨u, rfl, hp, by rw [ht]; exact hO.1, hK.warm hW, hO.2.1⟩, hO.2.2.F ht⟩) hO.2.2.2.2 hdg
/-! calls within one world -/
theorem pre_ok {av : List Value} {hp : va_P D vwCl (w u0) H} (hK : Kk D cy s) (hD : va_D A (w u0)) (hG : Sg cy A s s.heap) (hS : va_S A s.heap H locs) (hF : ∀ q, va_A (w u0) H.size q → A q) : ∀ U : State, U.heap = H → s.WarmedH U.vm → va_Pc av (fun U => U.heap.size = H.size ∧ va_P D vwCl (w u0) U.heap ∧ Kk D cy U ∧ va_D (fun _ => True) (w u0) ∧ Sg cy (va_A (w u0) H.size) U U.heap) av.toArray U :=
  fun U hU hW => ⟨rfl, by rw [hU], by rw [hU]; exact hp, hK.warm hW, hD.weaken (fun _ _ _ _ => trivial), by rw [hU]; exact ((hG.kept hS.2.1).narrow hF).warm hW⟩
theorem pre_blind {av : List Value} {sz : Nat} : FrameBlind (va_Pc av (fun U => U.heap.size = sz ∧ va_P D vwCl (w u0) U.heap ∧ Kk D cy U ∧ va_D (fun _ => True) (w u0) ∧ Sg cy (va_A (w u0) sz) U U.heap)) := fun a U g mk q => by
  obtain ⟨q0, q1, qP, qK, qD, qG⟩ := q
  exact ⟨q0, q1, qP, qK.call, qD, qG.call⟩
variable {y : MethodName} {bytes : ByteArray} {maxL n index : Nat} {rm : Room} {b : Nat} {As : List Value} {Cn : String}
theorem cVi {ty : FieldType} {post : Int32 → St → Prop} (C : Cx p s m args c cc nL own D cy A) (hO : Wo D A (w u0) s.heap H locs) (hM : Mi l D cy w y (.code y bytes maxL (some ty)) rm (.ref b :: As) u0 post)
    (cw : CallW R s args own Cn index y bytes maxL (some ty) (.code y bytes maxL (some ty) :: gtb) rm 0 0 n) (q0 : Nat) {ci : Nat} {q : vw_C} {fs : List Value} (hc : vwCl[ci]? = some q) (he : (w u0)[q0]? = some (b, .inr (ci, fs))) (hq : q.1 = Cn) (hn : As.length = n) (hls : ls.size = nL) (hW : (rest.map fun v => v.category).sum ≤ 8) (hdg : decode cc pc = .ok (.invokevirtual index, 3)) {st : List Value} (hst : st = As.reverse ++ .ref b :: rest) (hf : cells ≤ R.cells ∧ slots ≤ R.slots)
    (kk : ∀ (r : Int32) (u : St) (H : Heap) (locs : List Loc), post r u → Wo D A (w u) s.heap H locs → W p l e R s m args below meth c H locs cells slots Q (F0 m (pc + 3) ls (.int r :: rest))) : W p l e R s m args below meth c H locs cells slots Q (F0 m pc ls st) := by
  obtain ⟨hx, hb, hml, hown, ht, hK, hA, hG⟩ := C
  obtain ⟨hP, hD, hS⟩ := hO
  subst hst
  have hF : ∀ q, va_A (w u0) H.size q → A q := fun q h => hD.self' hS hA h
  have hrec := va_recv hK.1 hP hc he
  rw [hq] at hrec
  refine va_calli (va_runV (As := As) (rest := rest) ⟨hx, hb, hml, hown, ht⟩ (hM H.size) cw ⟨pre_blind, hrec, pre_ok (hp := hP) hK hD hG hS hF⟩ rfl hn hls rfl (lv_room hW) hdg hf) hS (fun q _ h => hF q h) hF (fun r u t H1 locs1 ht1 hvm hp hB hz hk hS1 => ?_)
  obtain ⟨hP1, hK1, hD1⟩ := hB
  rw [ht1] at hP1
  exact kk r u H1 locs1 hp ⟨hP1, hD1.weaken (fun _ q _ h => hF q.1 h), hS1⟩
theorem cVj {post : Int64 → St → Prop} (C : Cx p s m args c cc nL own D cy A) (hO : Wo D A (w u0) s.heap H locs) (hM : Mj l D cy w y (.code y bytes maxL (some .long)) rm (.ref b :: As) u0 post)
    (cw : CallW R s args own Cn index y bytes maxL (some .long) (.code y bytes maxL (some .long) :: gtb) rm 0 0 n) (q0 : Nat) {ci : Nat} {q : vw_C} {fs : List Value} (hc : vwCl[ci]? = some q) (he : (w u0)[q0]? = some (b, .inr (ci, fs))) (hq : q.1 = Cn) (hn : As.length = n) (hls : ls.size = nL) (hW : (rest.map fun v => v.category).sum ≤ 8) (hdg : decode cc pc = .ok (.invokevirtual index, 3)) {st : List Value} (hst : st = As.reverse ++ .ref b :: rest) (hf : cells ≤ R.cells ∧ slots ≤ R.slots)
    (kk : ∀ (r : Int64) (u : St) (H : Heap) (locs : List Loc), post r u → Wo D A (w u) s.heap H locs → W p l e R s m args below meth c H locs cells slots Q (F0 m (pc + 3) ls (.long r :: rest))) : W p l e R s m args below meth c H locs cells slots Q (F0 m pc ls st) := by
  obtain ⟨hx, hb, hml, hown, ht, hK, hA, hG⟩ := C
  obtain ⟨hP, hD, hS⟩ := hO
  subst hst
  have hF : ∀ q, va_A (w u0) H.size q → A q := fun q h => hD.self' hS hA h
  have hrec := va_recv hK.1 hP hc he
  rw [hq] at hrec
  refine va_calll (va_runV (As := As) (rest := rest) ⟨hx, hb, hml, hown, ht⟩ (hM H.size) cw ⟨pre_blind, hrec, pre_ok (hp := hP) hK hD hG hS hF⟩ rfl hn hls rfl (lv_room hW) hdg hf) hS (fun q _ h => hF q h) hF (fun r u t H1 locs1 ht1 hvm hp hB hz hk hS1 => ?_)
  obtain ⟨hP1, hK1, hD1⟩ := hB
  rw [ht1] at hP1
  exact kk r u H1 locs1 hp ⟨hP1, hD1.weaken (fun _ q _ h => hF q.1 h), hS1⟩
theorem cVv {post : St → Prop} (C : Cx p s m args c cc nL own D cy A) (hO : Wo D A (w u0) s.heap H locs) (hM : Mv l D cy w y (.code y bytes maxL none) rm (.ref b :: As) u0 post)
    (cw : CallW R s args own Cn index y bytes maxL none (.code y bytes maxL none :: gtb) rm 0 0 n) (q0 : Nat) {ci : Nat} {q : vw_C} {fs : List Value} (hc : vwCl[ci]? = some q) (he : (w u0)[q0]? = some (b, .inr (ci, fs))) (hq : q.1 = Cn) (hn : As.length = n) (hls : ls.size = nL) (hW : (rest.map fun v => v.category).sum ≤ 8) (hdg : decode cc pc = .ok (.invokevirtual index, 3)) {st : List Value} (hst : st = As.reverse ++ .ref b :: rest) (hf : cells ≤ R.cells ∧ slots ≤ R.slots)
    (kk : ∀ (u : St) (H : Heap) (locs : List Loc), post u → Wo D A (w u) s.heap H locs → W p l e R s m args below meth c H locs cells slots Q (F0 m (pc + 3) ls rest)) : W p l e R s m args below meth c H locs cells slots Q (F0 m pc ls st) := by
  obtain ⟨hx, hb, hml, hown, ht, hK, hA, hG⟩ := C
  obtain ⟨hP, hD, hS⟩ := hO
  subst hst
  have hF : ∀ q, va_A (w u0) H.size q → A q := fun q h => hD.self' hS hA h
  have hrec := va_recv hK.1 hP hc he
  rw [hq] at hrec
  refine va_callv (va_runV (As := As) (rest := rest) ⟨hx, hb, hml, hown, ht⟩ (hM H.size) cw ⟨pre_blind, hrec, pre_ok (hp := hP) hK hD hG hS hF⟩ rfl hn hls rfl (lv_room hW) hdg hf) hS (fun q _ h => hF q h) hF (fun u t H1 locs1 ht1 hvm hp hB hz hk hS1 => ?_)
  obtain ⟨hP1, hK1, hD1⟩ := hB
  rw [ht1] at hP1
  exact kk u H1 locs1 hp ⟨hP1, hD1.weaken (fun _ q _ h => hF q.1 h), hS1⟩
theorem cKi {ty : FieldType} {post : Int32 → St → Prop} (C : Cx p s m args c cc nL own D cy A) (hO : Wo D A (w u0) s.heap H locs) (hM : Mi l D cy w y (.code y bytes maxL (some ty)) rm (.ref b :: As) u0 post)
    (cw : CallW R s args own Cn index y bytes maxL (some ty) (.code y bytes maxL (some ty) :: gtb) rm 0 0 n) (i0 : Nat) (hi : i0 < 2) (hc : cy (10 + i0) = b) (hq : Cn = "java/lang/String") (hn : As.length = n) (hls : ls.size = nL) (hW : (rest.map fun v => v.category).sum ≤ 8) (hdg : decode cc pc = .ok (.invokevirtual index, 3)) {st : List Value} (hst : st = As.reverse ++ .ref b :: rest) (hf : cells ≤ R.cells ∧ slots ≤ R.slots)
    (kk : ∀ (r : Int32) (u : St) (H : Heap) (locs : List Loc), post r u → Wo D A (w u) s.heap H locs → W p l e R s m args below meth c H locs cells slots Q (F0 m (pc + 3) ls (.int r :: rest))) : W p l e R s m args below meth c H locs cells slots Q (F0 m pc ls st) := by
  obtain ⟨hx, hb, hml, hown, ht, hK, hA, hG⟩ := C
  obtain ⟨hP, hD, hS⟩ := hO
  subst hst
  have hF : ∀ q, va_A (w u0) H.size q → A q := fun q h => hD.self' hS hA h
  subst hc
  subst hq
  have hrec := vk_recv hG.1 hi hS
  refine va_calli (va_runV (As := As) (rest := rest) ⟨hx, hb, hml, hown, ht⟩ (hM H.size) cw ⟨pre_blind, hrec, pre_ok (hp := hP) hK hD hG hS hF⟩ rfl hn hls rfl (lv_room hW) hdg hf) hS (fun q _ h => hF q h) hF (fun r u t H1 locs1 ht1 hvm hp hB hz hk hS1 => ?_)
  obtain ⟨hP1, hK1, hD1⟩ := hB
  rw [ht1] at hP1
  exact kk r u H1 locs1 hp ⟨hP1, hD1.weaken (fun _ q _ h => hF q.1 h), hS1⟩
theorem cSi {ty : FieldType} {post : Int32 → St → Prop} (C : Cx p s m args c cc nL own D cy A) (hO : Wo D A (w u0) s.heap H locs) (hM : Mi l D cy w y (.code y bytes maxL (some ty)) rm As u0 post)
    (cw : CallB R s args own index y bytes maxL (some ty) (.code y bytes maxL (some ty) :: gtb) rm 0 0 n ∧ (Cond.static y).before args s = true) (hn : As.length = n) (hls : ls.size = nL) (hW : (rest.map fun v => v.category).sum ≤ 8) (hdg : decode cc pc = .ok (.invokestatic index, 3)) {st : List Value} (hst : st = As.reverse ++ rest) (hf : cells ≤ R.cells ∧ slots ≤ R.slots)
    (kk : ∀ (r : Int32) (u : St) (H : Heap) (locs : List Loc), post r u → Wo D A (w u) s.heap H locs → W p l e R s m args below meth c H locs cells slots Q (F0 m (pc + 3) ls (.int r :: rest))) : W p l e R s m args below meth c H locs cells slots Q (F0 m pc ls st) := by
  obtain ⟨hx, hb, hml, hown, ht, hK, hA, hG⟩ := C
  obtain ⟨hP, hD, hS⟩ := hO
  subst hst
  have hF : ∀ q, va_A (w u0) H.size q → A q := fun q h => hD.self' hS hA h
  refine va_calli (va_runS (As := As) (rest := rest) ⟨hx, hb, hml, hown, ht⟩ (hM H.size) cw ⟨pre_blind, pre_ok (hp := hP) hK hD hG hS hF⟩ rfl hn hls rfl (lv_room hW) hdg hf) hS (fun q _ h => hF q h) hF (fun r u t H1 locs1 ht1 hvm hp hB hz hk hS1 => ?_)
  obtain ⟨hP1, hK1, hD1⟩ := hB
  rw [ht1] at hP1
  exact kk r u H1 locs1 hp ⟨hP1, hD1.weaken (fun _ q _ h => hF q.1 h), hS1⟩
theorem cSv {post : St → Prop} (C : Cx p s m args c cc nL own D cy A) (hO : Wo D A (w u0) s.heap H locs) (hM : Mv l D cy w y (.code y bytes maxL none) rm As u0 post)
    (cw : CallB R s args own index y bytes maxL none (.code y bytes maxL none :: gtb) rm 0 0 n ∧ (Cond.static y).before args s = true) (hn : As.length = n) (hls : ls.size = nL) (hW : (rest.map fun v => v.category).sum ≤ 8) (hdg : decode cc pc = .ok (.invokestatic index, 3)) {st : List Value} (hst : st = As.reverse ++ rest) (hf : cells ≤ R.cells ∧ slots ≤ R.slots)
    (kk : ∀ (u : St) (H : Heap) (locs : List Loc), post u → Wo D A (w u) s.heap H locs → W p l e R s m args below meth c H locs cells slots Q (F0 m (pc + 3) ls rest)) : W p l e R s m args below meth c H locs cells slots Q (F0 m pc ls st) := by
  obtain ⟨hx, hb, hml, hown, ht, hK, hA, hG⟩ := C
  obtain ⟨hP, hD, hS⟩ := hO
  subst hst
  have hF : ∀ q, va_A (w u0) H.size q → A q := fun q h => hD.self' hS hA h
  refine va_callv (va_runS (As := As) (rest := rest) ⟨hx, hb, hml, hown, ht⟩ (hM H.size) cw ⟨pre_blind, pre_ok (hp := hP) hK hD hG hS hF⟩ rfl hn hls rfl (lv_room hW) hdg hf) hS (fun q _ h => hF q h) hF (fun u t H1 locs1 ht1 hvm hp hB hz hk hS1 => ?_)
  obtain ⟨hP1, hK1, hD1⟩ := hB
  rw [ht1] at hP1
  exact kk u H1 locs1 hp ⟨hP1, hD1.weaken (fun _ q _ h => hF q.1 h), hS1⟩
theorem cNv {host : String} {post : St → Prop} (C : Cx p s m args c cc nL own D cy A) (hO : Wo D A (w u0) s.heap H locs) (hM : Mv l D cy w y (.code y bytes maxL none) rm As u0 post)
    (cw : va_CN R s args own index y host bytes maxL none (.code y bytes maxL none :: gtb) rm 0 0 n ∧ (Cond.static y).before args s = true ∧ True) (hn : As.length = n) (hls : ls.size = nL) (hW : (rest.map fun v => v.category).sum ≤ 8) (hdg : decode cc pc = .ok (.invokestatic index, 3)) {st : List Value} (hst : st = As.reverse ++ rest) (hf : cells ≤ R.cells ∧ slots ≤ R.slots)
    (kk : ∀ (u : St) (H : Heap) (locs : List Loc), post u → Wo D A (w u) s.heap H locs → W p l e R s m args below meth c H locs cells slots Q (F0 m (pc + 3) ls rest)) : W p l e R s m args below meth c H locs cells slots Q (F0 m pc ls st) := by
  obtain ⟨hx, hb, hml, hown, ht, hK, hA, hG⟩ := C
  obtain ⟨hP, hD, hS⟩ := hO
  subst hst
  have hF : ∀ q, va_A (w u0) H.size q → A q := fun q h => hD.self' hS hA h
  refine va_callv (va_runSN (As := As) (rest := rest) ⟨hx, hb, hml, hown, ht⟩ (hM H.size) cw ⟨pre_blind, pre_ok (hp := hP) hK hD hG hS hF⟩ rfl hn hls rfl (lv_room hW) hdg hf) hS (fun q _ h => hF q h) hF (fun u t H1 locs1 ht1 hvm hp hB hz hk hS1 => ?_)
  obtain ⟨hP1, hK1, hD1⟩ := hB
  rw [ht1] at hP1
  exact kk u H1 locs1 hp ⟨hP1, hD1.weaken (fun _ q _ h => hF q.1 h), hS1⟩
end FR
