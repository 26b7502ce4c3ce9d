/-! the base: global words, the environment that every method may rely on, contracts, calls, the pure programs' words -/
def TB : List Cond := lw_tbl.filter goodWord
theorem tb_sel {w : Cond} (h : w ∈ k2_sels lw_privs) (g : goodWord w = true) : w ∈ TB := List.mem_filter.mpr ⟨List.mem_append_left _ h, g⟩
theorem tb_t {w : Cond} (h : w ∈ tables_1) (g : goodWord w = true) : w ∈ TB := List.mem_filter.mpr ⟨List.mem_append_right _ h, g⟩
theorem tb1 {w : Cond} (h : w ∈ tables_1_1) (g : goodWord w = true) : w ∈ TB := tb_t (List.mem_append_left _ h) g
theorem tb2 {w : Cond} (h : w ∈ tables_1_2) (g : goodWord w = true) : w ∈ TB := tb_t (List.mem_append_right _ (List.mem_append_left _ h)) g
theorem tb3 {w : Cond} (h : w ∈ tables_1_3) (g : goodWord w = true) : w ∈ TB := tb_t (List.mem_append_right _ (List.mem_append_right _ (List.mem_append_left _ h))) g
theorem tb4 {w : Cond} (h : w ∈ tables_1_4) (g : goodWord w = true) : w ∈ TB := tb_t (List.mem_append_right _ (List.mem_append_right _ (List.mem_append_right _ (List.mem_append_left _ h)))) g
theorem tb5 {w : Cond} (h : w ∈ tables_1_5) (g : goodWord w = true) : w ∈ TB := tb_t (List.mem_append_right _ (List.mem_append_right _ (List.mem_append_right _ (List.mem_append_right _ (List.mem_append_left _ h))))) g
theorem tb6 {w : Cond} (h : w ∈ tables_1_6) (g : goodWord w = true) : w ∈ TB := tb_t (List.mem_append_right _ (List.mem_append_right _ (List.mem_append_right _ (List.mem_append_right _ (List.mem_append_right _ h))))) g
theorem tb_good : GoodIn TB TB := fun w h => ⟨h, good_of_word (List.mem_filter.mp h).2⟩
theorem tb_goodC {w : Cond} (hw : w ∈ TB) : GoodIn TB (w :: TB) := fun v h => by
  rcases List.mem_cons.mp h with e | e
  · subst e; exact tb_good v hw
  · exact tb_good v e
/-- a method that can be called on an object, by the tables -/
def OKV (y : MethodName) (C : String) (bytes : ByteArray) (maxL : Nat) (ret : Option FieldType) (n : Nat) : Prop :=
  Cond.instanceMethod y ∈ TB ∧ Cond.selects C y y ∈ TB ∧ Cond.initialized y.cls ∈ TB ∧ Cond.code y bytes maxL ret ∈ TB ∧ (y.cls = C ∧ y.cls ≠ "java/lang/invoke/MethodHandle" ∧ y.cls ≠ "java/lang/invoke/VarHandle" ∧ (parseMethodDescriptor y.desc).map (fun d => d.parameters.length) = some n)
/-- a static method, by the tables -/
def OKS (y : MethodName) (bytes : ByteArray) (maxL : Nat) (ret : Option FieldType) (n : Nat) : Prop :=
  Cond.static y ∈ TB ∧ Cond.initialized y.cls ∈ TB ∧ Cond.code y bytes maxL ret ∈ TB ∧ (y.cls ≠ "java/lang/invoke/MethodHandle" ∧ y.cls ≠ "java/lang/invoke/VarHandle" ∧ (parseMethodDescriptor y.desc).map (fun d => d.parameters.length) = some n)
/-- a constructor, by the tables -/
def OKI (y : MethodName) (bytes : ByteArray) (maxL : Nat) (n : Nat) : Prop :=
  Cond.instanceMethod y ∈ TB ∧ Cond.initialized y.cls ∈ TB ∧ Cond.code y bytes maxL none ∈ TB ∧ y.name = "<init>" ∧ (y.cls ≠ "java/lang/invoke/MethodHandle" ∧ y.cls ≠ "java/lang/invoke/VarHandle" ∧ (parseMethodDescriptor y.desc).map (fun d => d.parameters.length) = some n)
/-- the classes' ids and slots; the arrays' classes (int, long, char, boolean); where the text constant and its bytes lie -/
abbrev GP : Type := va_G × (Nat → ClassId) × (Nat → Nat) × (Nat → Nat)
def TYS (g : GP) : List (ClassId × FieldType) := [(g.2.1 0, .int), (g.2.1 1, .long), (g.2.1 2, .char), (g.2.1 3, .boolean)]
def NWL : List (String × Nat × MethodName × String) := [(RX11, 9, yX3_init, RX11), (RX11, 18, yX2_init, RX11), (RX11, 25, yX5_init, RX11), (RX11, 32, yX4_init, RX11), (RX11, 39, yX10_init, RX11), (RX11, 71, yX7_init, RX11), (RX8, 9, yX2_init, RX11), (RX1, 58, yX11_isVariable, RX11), (RX6, 53, yX11_isVariable, RX11), (RX8, 68, yX11_isVariable, RX11), (RX8, 41, yX11_isSide, RX11)]
def sc_bytes : List Int32 := [97, 98, 87, 88, 89, 90]
/-- what every method may rely on: the tables of classes, nest mates' links, the text constant, two statics of the JDK's -/
def GE (g : GP) (A : Nat → Prop) (U : State) (H : Heap) : Prop :=
  va_K g.1 vwCl (TYS g) U ∧ (∀ q ∈ NWL, va_Nw (.methodLinkNest q.1 q.2.1 q.2.2.1 q.2.2.2) U) ∧ vk_S 1 [6] [sc_bytes] g.2.2.1 g.2.2.2 A U H ∧ vk_R RX9 11 "abWXYZ" (g.2.2.1 0) U ∧
  va_Z "java/lang/String" "COMPACT_STRINGS" "Z" (.int 1) A U H ∧ va_Zq "jdk/internal/util/Preconditions" "SIOOBE_FORMATTER" "Ljava/util/function/BiFunction;" A U H
theorem GE.blind {g : GP} {A : Nat → Prop} {U : State} {H : Heap} (h : GE g A U H) (fr : JFrame) (mk : MethodId) (a : Array Value) : GE g A (U.calling fr mk a) H := by
  obtain ⟨h1, h2, h3, h4, h5, h6⟩ := h
  exact ⟨va_K.moved (u := U) (U := U.calling fr mk a) (Vm.Alike.refl U.vm) h1, fun q hq => va_Nw.same (u := U) (U := U.calling fr mk a) rfl rfl (h2 q hq), vk_S.moved (u := U) (U := U.calling fr mk a) (Vm.Alike.refl U.vm) h3, vk_R.same (u := U) (U := U.calling fr mk a) rfl h4, va_Z.moved (u := U) (U := U.calling fr mk a) (Vm.Alike.refl U.vm) h5, va_Zq.moved (u := U) (U := U.calling fr mk a) (Vm.Alike.refl U.vm) h6⟩
theorem GE.call {g : GP} {A B : Nat → Prop} {s U : State} {H : Heap} {locs : List Loc} (h : GE g A s s.heap) (hS : va_S A s.heap H locs) (hU : U.heap = H) (hW : s.WarmedH U.vm) (hB : ∀ q, B q → A q) : GE g B U U.heap := by
  obtain ⟨h1, h2, h3, h4, h5, h6⟩ := h
  rw [hU]
  exact ⟨va_K.moved hW.alike h1, fun q hq => va_Nw.warmM hW (h2 q hq), ((h3.kept hS.2.1).moved hW.alike).narrow hB, vk_R.warm hW h4, ((h5.kept hS.2.1).moved hW.alike).narrow hB, ((h6.kept hS.2.1).moved hW.alike).narrow hB⟩
/-- a contract: from the cells w to the cells w', nothing new, the answer r -/
def Ct (g : GP) (l : Launch) (y : MethodName) (bytes : ByteArray) (maxL : Nat) (ret : Option FieldType) (rm : Room) (av : List Value) (w : va_W) (r : Option Value) (w' : va_W) : Prop :=
  ∀ sz : Nat, Met l y (Cond.code y bytes maxL ret :: TB) rm (va_Pc av (fun U => U.heap.size = sz ∧ va_P g.1 vwCl w U.heap ∧ va_D (fun _ => True) w ∧ GE g (va_A w sz) U U.heap))
    (fun _ st o t => o = .returned r ∧ va_P g.1 vwCl w' t.heap ∧ va_D (va_A w sz) w' ∧ va_F (va_A w sz) st t) 0 0 (va_A w sz)
/-- what a method's walk has at its entry -/
def CtHyp (g : GP) (cc : ByteArray) (maxL : Nat) (ret : Option FieldType) (own : String) (av : List Value) (w : va_W) (p : Program) (s : State) (m : MethodId) (meth : Method) (c : Code) (A : Nat → Prop) (ls : Array Slot) : Prop :=
  p.tables.exec = Jvm.exec ∧ c.code = cc ∧ c.maxLocals = maxL ∧ (∀ w ∈ TB, w.before av.toArray s = true) ∧ s.vm.findClass own = some m.cls ∧ (∀ q : Nat, s.heap.size ≤ q → A q) ∧ GE g A s s.heap ∧ va_P g.1 vwCl w s.heap ∧ va_D A w ∧ lv_has ls maxL (lv_args 0 av)
theorem Ct.intro {g : GP} {l : Launch} {y : MethodName} {cc : ByteArray} {maxL : Nat} {ret : Option FieldType} {rm : Room} {av : List Value} {w w' : va_W} {r : Option Value} (hy : plainName y.cls = true) (hle : (lg_sl av).length ≤ maxL)
    (body : ∀ (p : Program) (e : Env) (s : State) (m : MethodId) (below : List Frame) (meth : Method) (c : Code) (A : Nat → Prop) (ls : Array Slot), CtHyp g cc maxL ret y.cls av w p s m meth c A ls → meth.sig.returnType = ret → meth.locks = false →
      W p l e rm s m av.toArray below meth c s.heap [] 0 0 (MQ below (fun _ st o t => o = .returned r ∧ va_P g.1 vwCl w' t.heap ∧ va_D A w' ∧ va_F A st t) av.toArray s 0 0 A) (F0 m 0 ls [])) : Ct g l y cc maxL ret rm av w r w' := by
  intro sz
  refine Met.ofW (cc := cc) (maxL := maxL) (ret := ret) hy rfl ?_
  intro p e s m args below meth c s₁ B hml hv
  obtain ⟨rfl, hsz, hP, hD0, hE⟩ := hv
  subst hsz
  have hts := atoms_spec (ws := Cond.code y cc maxL ret :: TB) B.pre
  have hl := lv_entry av (n := maxL) hle
  rw [lg_entry_eq]
  exact body p e s m below meth c (va_A w s.heap.size) _ ⟨B.exec, B.bytes, hml, fun w h => hts w (List.mem_cons_of_mem _ h), findClass_of_methodNamed B.named, fun q h => Or.inr h, hE, hP, hD0.self, hl⟩ B.returns B.notSynchronized
theorem map_pick {α : Type} {W0 : List α} : ∀ (is : List Nat), is.all (fun i => decide (i < W0.length)) = true → is.map (fun i => W0[i]?) = (is.filterMap (fun i => W0[i]?)).map some
  | [], _ => rfl
  | i :: is, h => by
    simp only [List.all_cons, Bool.and_eq_true, decide_eq_true_eq] at h
    have e : W0[i]? = some (W0[i]'h.1) := List.getElem?_eq_getElem h.1
    rw [List.map_cons, List.filterMap_cons, e, List.map_cons, map_pick is h.2]
section CTC
variable {p : Program} {l : Launch} {e : Env} {R : Room} {s : State} {m : MethodId} {args : Array Value} {below : List Frame} {meth : Method} {c : Code} {H : Heap} {locs : List Loc} {cells slots : Nat} {Q : State → Prop}
variable {pc : Nat} {ls : Array Slot} {rest st0 : List Value} {A : Nat → Prop} {g : GP} {w w' W0 W1 wr : va_W} {y : MethodName} {bytes cc : ByteArray} {maxL nL n index : Nat} {ret : Option FieldType} {rm : Room} {own C host : String} {b : Addr} {As : List Value} {r : Option Value}
/-- the state in which a call stands -/
abbrev Here (g : GP) (p : Program) (s : State) (m : MethodId) (c : Code) (cc : ByteArray) (nL : Nat) (args : Array Value) (own : String) (A : Nat → Prop) : Prop := CallFix p m c cc nL s args TB own ∧ GE g A s s.heap ∧ (∀ q : Nat, s.heap.size ≤ q → A q)
theorem ct_blind {av : List Value} {sz : Nat} : FrameBlind (va_Pc av (fun U => U.heap.size = sz ∧ va_P g.1 vwCl w U.heap ∧ va_D (fun _ => True) w ∧ GE g (va_A w sz) U U.heap)) := fun a U fr mk q => by
  obtain ⟨q0, q1, qP, qD, qE⟩ := q
  exact ⟨q0, q1, qP, qD, GE.blind qE fr mk a⟩
theorem cwV_of (hts : ∀ w ∈ TB, w.before args s = true) (ok : OKV y C bytes maxL ret n) (hl : Cond.methodLink own index y ∈ TB) (hR : rm.frames + 1 ≤ R.frames ∧ 8 + (maxL + 11) + rm.locals ≤ R.locals) {mc ms : Nat} (hrc : rm.cells = mc) (hrs : rm.slots = ms) : CallW R s args own C index y bytes maxL ret (Cond.code y bytes maxL ret :: TB) rm mc ms n :=
  ⟨callB_of n hts (tb_goodC ok.2.2.2.1) rfl hrc hrs (hts _ ok.2.2.1) (hts _ hl) ok.2.2.2.2.2 hR, hts _ ok.1, hts _ ok.2.1⟩
theorem cwS_of (hts : ∀ w ∈ TB, w.before args s = true) (ok : OKS y bytes maxL ret n) (hl : Cond.methodLink own index y ∈ TB) (hR : rm.frames + 1 ≤ R.frames ∧ 8 + (maxL + 11) + rm.locals ≤ R.locals) {mc ms : Nat} (hrc : rm.cells = mc) (hrs : rm.slots = ms) : CallB R s args own index y bytes maxL ret (Cond.code y bytes maxL ret :: TB) rm mc ms n ∧ (Cond.static y).before args s = true :=
  ⟨callB_of n hts (tb_goodC ok.2.2.1) rfl hrc hrs (hts _ ok.2.1) (hts _ hl) ok.2.2.2 hR, hts _ ok.1⟩
theorem cwI_of (hts : ∀ w ∈ TB, w.before args s = true) (ok : OKI y bytes maxL n) (hl : Cond.methodLink own index y ∈ TB) (hR : rm.frames + 1 ≤ R.frames ∧ 8 + (maxL + 11) + rm.locals ≤ R.locals) {mc ms : Nat} (hrc : rm.cells = mc) (hrs : rm.slots = ms) : CallB R s args own index y bytes maxL none (Cond.code y bytes maxL none :: TB) rm mc ms n ∧ y.name = "<init>" ∧ (Cond.instanceMethod y).before args s = true :=
  ⟨callB_of n hts (tb_goodC ok.2.2.1) rfl hrc hrs (hts _ ok.2.1) (hts _ hl) ok.2.2.2.2 hR, ok.2.2.2.1, hts _ ok.1⟩
theorem cwSN_of (hts : ∀ w ∈ TB, w.before args s = true) (ok : OKS y bytes maxL ret n) (hl : va_Nw (.methodLinkNest own index y host) s) (hR : rm.frames + 1 ≤ R.frames ∧ 8 + (maxL + 11) + rm.locals ≤ R.locals) {mc ms : Nat} (hrc : rm.cells = mc) (hrs : rm.slots = ms) : va_CN R s args own index y host bytes maxL ret (Cond.code y bytes maxL ret :: TB) rm mc ms n ∧ (Cond.static y).before args s = true ∧ True :=
  ⟨va_cnB n hts (tb_goodC ok.2.2.1) rfl hrc hrs hl (hts _ ok.2.1) ok.2.2.2 hR, hts _ ok.1, trivial⟩
/-- what a call leaves -/
abbrev CtRun (p : Program) (l : Launch) (e : Env) (R : Room) (s : State) (m : MethodId) (args : Array Value) (below : List Frame) (meth : Method) (c : Code) (H : Heap) (locs : List Loc) (cells slots : Nat) (f : JFrame) (rest : List Value) (g : GP) (w : va_W) (r : Option Value) (w' : va_W) : Prop :=
  va_Run p l e R s m args below meth c H locs cells slots 0 0 f rest (fun st o t => o = .returned r ∧ va_P g.1 vwCl w' t.heap ∧ va_D (va_A w H.size) w' ∧ va_F (va_A w H.size) st t) (va_A w H.size)
theorem run_V (X : Here g p s m c cc nL args own A) (hS : va_S A s.heap H locs) (hM : Ct g l y bytes maxL ret rm (.ref b :: As) w r w') (ok : OKV y C bytes maxL ret n) (hl : Cond.methodLink own index y ∈ TB) (hR : rm.frames + 1 ≤ R.frames ∧ 8 + (maxL + 11) + rm.locals ≤ R.locals) (hrc : rm.cells = 0 ∧ rm.slots = 0) (hrv : ∃ cell : Cell, H[b]? = some cell ∧ cell.vm.isStatics = false ∧ s.vm.findClass C = some cell.cls)
    (hPc : va_P g.1 vwCl w H) (hDc : va_D A w) (hFc : ∀ q, va_A w H.size q → A q) (hn : As.length = n) (hsize : ls.size = nL) (hstack : st0 = As.reverse ++ .ref b :: rest) (hW : (rest.map fun v => v.category).sum ≤ 8) (hdg : decode cc pc = .ok (.invokevirtual index, 3)) (hf : cells + 0 ≤ R.cells ∧ slots + 0 ≤ R.slots) :
    CtRun p l e R s m args below meth c H locs cells slots (F0 m pc ls st0) rest g w r w' :=
  va_runV X.1 (hM H.size) (cwV_of X.1.2.2.2.2 ok hl hR hrc.1 hrc.2) ⟨ct_blind, hrv, fun U hU hW => ⟨rfl, by rw [hU], by rw [hU]; exact hPc, hDc.weaken (fun _ _ _ _ => trivial), GE.call X.2.1 hS hU hW hFc⟩⟩ rfl hn hsize hstack (lv_room hW) hdg hf
theorem run_S (X : Here g p s m c cc nL args own A) (hS : va_S A s.heap H locs) (hM : Ct g l y bytes maxL ret rm As w r w') (ok : OKS y bytes maxL ret n) (hl : Cond.methodLink own index y ∈ TB) (hR : rm.frames + 1 ≤ R.frames ∧ 8 + (maxL + 11) + rm.locals ≤ R.locals) (hrc : rm.cells = 0 ∧ rm.slots = 0)
    (hPc : va_P g.1 vwCl w H) (hDc : va_D A w) (hFc : ∀ q, va_A w H.size q → A q) (hn : As.length = n) (hsize : ls.size = nL) (hstack : st0 = As.reverse ++ rest) (hW : (rest.map fun v => v.category).sum ≤ 8) (hdg : decode cc pc = .ok (.invokestatic index, 3)) (hf : cells + 0 ≤ R.cells ∧ slots + 0 ≤ R.slots) :
    CtRun p l e R s m args below meth c H locs cells slots (F0 m pc ls st0) rest g w r w' :=
  va_runS X.1 (hM H.size) (cwS_of X.1.2.2.2.2 ok hl hR hrc.1 hrc.2) ⟨ct_blind, fun U hU hW => ⟨rfl, by rw [hU], by rw [hU]; exact hPc, hDc.weaken (fun _ _ _ _ => trivial), GE.call X.2.1 hS hU hW hFc⟩⟩ rfl hn hsize hstack (lv_room hW) hdg hf
theorem run_SN (X : Here g p s m c cc nL args own A) (hS : va_S A s.heap H locs) (hM : Ct g l y bytes maxL ret rm As w r w') (ok : OKS y bytes maxL ret n) (hl : (own, index, y, host) ∈ NWL) (hR : rm.frames + 1 ≤ R.frames ∧ 8 + (maxL + 11) + rm.locals ≤ R.locals) (hrc : rm.cells = 0 ∧ rm.slots = 0)
    (hPc : va_P g.1 vwCl w H) (hDc : va_D A w) (hFc : ∀ q, va_A w H.size q → A q) (hn : As.length = n) (hsize : ls.size = nL) (hstack : st0 = As.reverse ++ rest) (hW : (rest.map fun v => v.category).sum ≤ 8) (hdg : decode cc pc = .ok (.invokestatic index, 3)) (hf : cells + 0 ≤ R.cells ∧ slots + 0 ≤ R.slots) :
    CtRun p l e R s m args below meth c H locs cells slots (F0 m pc ls st0) rest g w r w' :=
  va_runSN X.1 (hM H.size) (cwSN_of X.1.2.2.2.2 ok (X.2.1.2.1 _ hl) hR hrc.1 hrc.2) ⟨ct_blind, fun U hU hW => ⟨rfl, by rw [hU], by rw [hU]; exact hPc, hDc.weaken (fun _ _ _ _ => trivial), GE.call X.2.1 hS hU hW hFc⟩⟩ rfl hn hsize hstack (lv_room hW) hdg hf
theorem ct_go {H0 : Heap} (hr : CtRun p l e R s m args below meth c H locs cells slots (F0 m pc ls st0) rest g w r w') (hS : va_S A H0 H locs) (hf : ∀ q, va_A w H.size q → A q)
    (kk : ∀ (H1 : Heap) (locs1 : List Loc), va_P g.1 vwCl w' H1 → va_D (va_A w H.size) w' → (∀ q : Nat, q < H.size → ¬ va_A w H.size q → H1[q]? = H[q]?) → va_S A H0 H1 locs1 → W p l e R s m args below meth c H1 locs1 cells slots Q (F0 m (pc + 3) ls (r.toList ++ rest))) : W p l e R s m args below meth c H locs cells slots Q (F0 m pc ls st0) := by
  intro T hT X
  obtain ⟨v, st₀, t, T', L, h0, X', hL, e1, e2, ⟨hv, hP, hD, hz, hk⟩, st⟩ := hr T hT X
  cases hv
  rw [h0] at hz hk
  obtain ⟨t2, a1, b1⟩ := kk T'.heap (locs ++ L) (by rw [e1]; exact hP) hD (fun q h1 h2 => by rw [e1]; exact hk q h1 h2)
    ⟨Nat.le_trans hS.1 (by rw [e1]; exact hz), fun q h1 h2 => by rw [e1, hk q (Nat.lt_of_lt_of_le h1 hS.1) (fun z => h2 (hf q z))]; exact hS.2.1 q h1 h2, fun q hq => by
      rcases List.mem_append.mp hq with h | h
      · exact hS.2.2 q h
      · exact hf _ (hL q h)⟩ T' rfl X'
  exact ⟨t2, st t2 a1, b1⟩
/-- the callee has no cells -/
theorem go_0 {H0 : Heap} (hr : CtRun p l e R s m args below meth c H locs cells slots (F0 m pc ls st0) rest g [] r []) (hS : va_S A H0 H locs) (hA : ∀ q : Nat, H0.size ≤ q → A q) (hP : va_P g.1 vwCl W0 H) {st1 : List Value} (hst : r.toList ++ rest = st1)
    (kk : ∀ (H1 : Heap) (locs1 : List Loc), va_P g.1 vwCl W0 H1 → va_S A H0 H1 locs1 → W p l e R s m args below meth c H1 locs1 cells slots Q (F0 m (pc + 3) ls st1)) : W p l e R s m args below meth c H locs cells slots Q (F0 m pc ls st0) := by
  subst hst
  refine ct_go hr hS (fun q h => ?_) (fun H1 locs1 _ _ hk hS1 => kk H1 locs1 (fun k q hq => (hP k q hq).kept (hk q.1 (hP k q hq).lt (fun h => ?_))) hS1)
  · rcases h with ⟨k, e, h⟩ | h
    · simp at h
    · exact hA q (Nat.le_trans hS.1 h)
  · rcases h with ⟨k2, e2, h⟩ | h
    · simp at h
    · have := (hP k q hq).lt; omega
/-- the callee's cells are all -/
theorem go_A {H0 : Heap} (hr : CtRun p l e R s m args below meth c H locs cells slots (F0 m pc ls st0) rest g w r w') (hS : va_S A H0 H locs) (hf : ∀ q, va_A w H.size q → A q) {st1 : List Value} (hst : r.toList ++ rest = st1)
    (kk : ∀ (H1 : Heap) (locs1 : List Loc), va_P g.1 vwCl w' H1 → va_D A w' → va_S A H0 H1 locs1 → W p l e R s m args below meth c H1 locs1 cells slots Q (F0 m (pc + 3) ls st1)) : W p l e R s m args below meth c H locs cells slots Q (F0 m pc ls st0) := by
  subst hst
  exact ct_go hr hS hf (fun H1 locs1 h1 h2 _ h4 => kk H1 locs1 h1 (h2.weaken (fun _ q _ h => hf q.1 h)) h4)
/-- the callee's cells are some -/
theorem go_P {H0 : Heap} (hr : CtRun p l e R s m args below meth c H locs cells slots (F0 m pc ls st0) rest g w r w') (hS : va_S A H0 H locs) (hf : ∀ q, va_A w H.size q → A q) (hP : va_P g.1 vwCl W0 H) (hD : va_D A W0) (isC isR pm : List Nat) (hC : isC.map (fun i => W0[i]?) = w.map some) (hlt : isR.all (fun i => decide (i < W0.length)) = true) (hn : va_nd isR = true) (hdis : ∀ i ∈ isR, i ∉ isC) (hpm : pm.map (fun i => (isR.filterMap (fun i => W0[i]?) ++ w')[i]?) = W1.map some) (hpn : va_nd pm = true) {st1 : List Value} (hst : r.toList ++ rest = st1)
    (kk : ∀ (H1 : Heap) (locs1 : List Loc), va_P g.1 vwCl W1 H1 → va_D A W1 → va_S A H0 H1 locs1 → W p l e R s m args below meth c H1 locs1 cells slots Q (F0 m (pc + 3) ls st1)) : W p l e R s m args below meth c H locs cells slots Q (F0 m pc ls st0) := by
  subst hst
  refine ct_go hr hS hf (fun H1 locs1 h1 h2 h3 h4 => ?_)
  obtain ⟨hP1, hD1⟩ := va_join (wr := isR.filterMap (fun i => W0[i]?)) (w1 := w') hP hD isC isR hC (map_pick isR hlt) hn hdis h3 hf h1 h2
  refine kk H1 locs1 (fun k q hq => ?_) (hD1.sub pm hpn hpm) h4
  have e1 : (pm.map (fun i => (isR.filterMap (fun i => W0[i]?) ++ w')[i]?))[k]? = some (some q) := by rw [hpm, List.getElem?_map, hq]; rfl
  rw [List.getElem?_map] at e1
  cases hi : pm[k]? with
  | none => rw [hi] at e1; cases e1
  | some i => rw [hi] at e1; exact hP1 i q (Option.some.inj e1)
theorem sub_P {D : va_G} {cl : List vw_C} {ws ws' : va_W} (h : va_P D cl ws H) (is : List Nat) (hs : is.map (fun i => ws[i]?) = ws'.map some) : va_P D cl ws' H := fun k q hq => by
  have e1 : (is.map (fun i => ws[i]?))[k]? = some (some q) := by rw [hs, List.getElem?_map, hq]; rfl
  rw [List.getElem?_map] at e1
  cases hi : is[k]? with
  | none => rw [hi] at e1; cases e1
  | some i => rw [hi] at e1; exact h i q (Option.some.inj e1)
theorem nil_P : va_P g.1 vwCl [] H := fun k q h => by simp at h
theorem nil_D : va_D A [] := ⟨fun i j p q h => by simp at h, fun k q h => by simp at h⟩
theorem nil_F (hS : va_S A s.heap H locs) (hA : ∀ q : Nat, s.heap.size ≤ q → A q) : ∀ q, va_A [] H.size q → A q := fun q h => by
  rcases h with ⟨k, e, h⟩ | h
  · simp at h
  · exact hA q (Nat.le_trans hS.1 h)
theorem all_F (hS : va_S A s.heap H locs) (hA : ∀ q : Nat, s.heap.size ≤ q → A q) (hD : va_D A w) : ∀ q, va_A w H.size q → A q := fun q h => by
  rcases h with ⟨k, e, h⟩ | h
  · exact hD.2 k _ h
  · exact hA q (Nat.le_trans hS.1 h)
/-- returns -/
theorem ret_I {v : Int32} (hx : p.tables.exec = Jvm.exec) (hb : c.code = cc) (hr : meth.sig.returnType = some .int) (hlocks : meth.locks = false) (hP : va_P g.1 vwCl w' H) (hD : va_D A w') (hS : va_S A s.heap H locs) (hdg : decode cc pc = .ok (.ireturn, 1)) : W p l e R s m args below meth c H locs cells slots (MQ below (fun _ st o t => o = .returned (some (.int v)) ∧ va_P g.1 vwCl w' t.heap ∧ va_D A w' ∧ va_F A st t) args s cells slots A) (F0 m pc ls [.int v]) :=
  W.iret (v := v) hx hb hr (fun t ht hW => ⟨rfl, by rw [ht]; exact hP, hD, hS.F ht⟩) hS.2.2 hdg hlocks
theorem ret_Z {v : Int32} {ty : FieldType} (hx : p.tables.exec = Jvm.exec) (hb : c.code = cc) (hr : meth.sig.returnType = some ty) (hlocks : meth.locks = false) (hn : narrow ty (.int v) = .int v) (hP : va_P g.1 vwCl w' H) (hD : va_D A w') (hS : va_S A s.heap H locs) (hdg : decode cc pc = .ok (.ireturn, 1)) : W p l e R s m args below meth c H locs cells slots (MQ below (fun _ st o t => o = .returned (some (.int v)) ∧ va_P g.1 vwCl w' t.heap ∧ va_D A w' ∧ va_F A st t) args s cells slots A) (F0 m pc ls [.int v]) :=
  W.zret (v := v) hx hb hr hn (fun t ht hW => ⟨rfl, by rw [ht]; exact hP, hD, hS.F ht⟩) hS.2.2 hdg hlocks
theorem ret_L {v : Int64} (hx : p.tables.exec = Jvm.exec) (hb : c.code = cc) (hr : meth.sig.returnType = some .long) (hlocks : meth.locks = false) (hP : va_P g.1 vwCl w' H) (hD : va_D A w') (hS : va_S A s.heap H locs) (hdg : decode cc pc = .ok (.lreturn, 1)) : W p l e R s m args below meth c H locs cells slots (MQ below (fun _ st o t => o = .returned (some (.long v)) ∧ va_P g.1 vwCl w' t.heap ∧ va_D A w' ∧ va_F A st t) args s cells slots A) (F0 m pc ls [.long v]) :=
  W.lret (v := v) hx hb hr (fun t ht hW => ⟨rfl, by rw [ht]; exact hP, hD, hS.F ht⟩) hS.2.2 hdg hlocks
theorem ret_V (hx : p.tables.exec = Jvm.exec) (hb : c.code = cc) (hr : meth.sig.returnType = none) (hlocks : meth.locks = false) (hP : va_P g.1 vwCl w' H) (hD : va_D A w') (hS : va_S A s.heap H locs) (hdg : decode cc pc = .ok (.return_, 1)) : W p l e R s m args below meth c H locs cells slots (MQ below (fun _ st o t => o = .returned none ∧ va_P g.1 vwCl w' t.heap ∧ va_D A w' ∧ va_F A st t) args s cells slots A) (F0 m pc ls []) :=
  W.vret hx hb hr (fun t ht hW => ⟨rfl, by rw [ht]; exact hP, hD, hS.F ht⟩) hS.2.2 hdg hlocks
end CTC
section CTI
variable {g : GP} {l : Launch} {y : MethodName} {cc : ByteArray} {maxL : Nat} {rm : Room} {av : List Value} {w w' : va_W}
theorem Ct.introI {v : Int32} (hy : plainName y.cls = true) (hle : (lg_sl av).length ≤ maxL)
    (body : ∀ (p : Program) (e : Env) (s : State) (m : MethodId) (below : List Frame) (meth : Method) (c : Code) (A : Nat → Prop) (QQ : State → Prop) (ls : Array Slot), CtHyp g cc maxL (some .int) y.cls av w p s m meth c A ls →
      (∀ (H : Heap) (locs : List Loc) (pc : Nat) (ls : Array Slot), va_P g.1 vwCl w' H → va_D A w' → va_S A s.heap H locs → decode cc pc = .ok (.ireturn, 1) → W p l e rm s m av.toArray below meth c H locs 0 0 QQ (F0 m pc ls [.int v])) →
      W p l e rm s m av.toArray below meth c s.heap [] 0 0 QQ (F0 m 0 ls [])) : Ct g l y cc maxL (some .int) rm av w (some (.int v)) w' :=
  Ct.intro hy hle (fun p e s m below meth c A ls X hr hlocks => body p e s m below meth c A _ ls X (fun H locs pc ls hP hD hS hdg => ret_I X.1 X.2.1 hr hlocks hP hD hS hdg))
theorem Ct.introZ {v : Int32} {ty : FieldType} (hy : plainName y.cls = true) (hle : (lg_sl av).length ≤ maxL)
    (body : ∀ (p : Program) (e : Env) (s : State) (m : MethodId) (below : List Frame) (meth : Method) (c : Code) (A : Nat → Prop) (QQ : State → Prop) (ls : Array Slot), CtHyp g cc maxL (some ty) y.cls av w p s m meth c A ls →
      (∀ (H : Heap) (locs : List Loc) (pc : Nat) (ls : Array Slot), narrow ty (.int v) = .int v → va_P g.1 vwCl w' H → va_D A w' → va_S A s.heap H locs → decode cc pc = .ok (.ireturn, 1) → W p l e rm s m av.toArray below meth c H locs 0 0 QQ (F0 m pc ls [.int v])) →
      W p l e rm s m av.toArray below meth c s.heap [] 0 0 QQ (F0 m 0 ls [])) : Ct g l y cc maxL (some ty) rm av w (some (.int v)) w' :=
  Ct.intro hy hle (fun p e s m below meth c A ls X hr hlocks => body p e s m below meth c A _ ls X (fun H locs pc ls hn hP hD hS hdg => ret_Z X.1 X.2.1 hr hlocks hn hP hD hS hdg))
theorem Ct.introL {v : Int64} (hy : plainName y.cls = true) (hle : (lg_sl av).length ≤ maxL)
    (body : ∀ (p : Program) (e : Env) (s : State) (m : MethodId) (below : List Frame) (meth : Method) (c : Code) (A : Nat → Prop) (QQ : State → Prop) (ls : Array Slot), CtHyp g cc maxL (some .long) y.cls av w p s m meth c A ls →
      (∀ (H : Heap) (locs : List Loc) (pc : Nat) (ls : Array Slot), va_P g.1 vwCl w' H → va_D A w' → va_S A s.heap H locs → decode cc pc = .ok (.lreturn, 1) → W p l e rm s m av.toArray below meth c H locs 0 0 QQ (F0 m pc ls [.long v])) →
      W p l e rm s m av.toArray below meth c s.heap [] 0 0 QQ (F0 m 0 ls [])) : Ct g l y cc maxL (some .long) rm av w (some (.long v)) w' :=
  Ct.intro hy hle (fun p e s m below meth c A ls X hr hlocks => body p e s m below meth c A _ ls X (fun H locs pc ls hP hD hS hdg => ret_L X.1 X.2.1 hr hlocks hP hD hS hdg))
theorem Ct.introV (hy : plainName y.cls = true) (hle : (lg_sl av).length ≤ maxL)
    (body : ∀ (p : Program) (e : Env) (s : State) (m : MethodId) (below : List Frame) (meth : Method) (c : Code) (A : Nat → Prop) (QQ : State → Prop) (ls : Array Slot), CtHyp g cc maxL none y.cls av w p s m meth c A ls →
      (∀ (H : Heap) (locs : List Loc) (pc : Nat) (ls : Array Slot), va_P g.1 vwCl w' H → va_D A w' → va_S A s.heap H locs → decode cc pc = .ok (.return_, 1) → W p l e rm s m av.toArray below meth c H locs 0 0 QQ (F0 m pc ls [])) →
      W p l e rm s m av.toArray below meth c s.heap [] 0 0 QQ (F0 m 0 ls [])) : Ct g l y cc maxL none rm av w none w' :=
  Ct.intro hy hle (fun p e s m below meth c A ls X hr hlocks => body p e s m below meth c A _ ls X (fun H locs pc ls hP hD hS hdg => ret_V X.1 X.2.1 hr hlocks hP hD hS hdg))
end CTI
/-! the words of the pure programs -/
def FU : Nat := 1000000
def st {α β : Type} (e : α) (k : α → Option β) : Option β := k e
theorem st_to {α β : Type} {e : α} {k : α → Option β} {y : β} (h : st e k = some y) {x : α} (ex : x = e) : k x = some y := by subst ex; exact h
def ld {α β : Type} (f : Nat → α) (n : Nat) (i : Int32) (k : α → Option β) : Option β := if i < 0 ∨ n ≤ i.toNatClampNeg then none else k (f i.toNatClampNeg)
theorem ld_in {α β : Type} {f : Nat → α} {n : Nat} {i : Int32} {k : α → Option β} {y : β} (h : ld f n i k = some y) : vp_in i n := by
  intro q
  unfold ld at h
  rw [if_pos q] at h
  cases h
theorem ld_to {α β : Type} {f : Nat → α} {n : Nat} {i : Int32} {k : α → Option β} {y : β} (h : ld f n i k = some y) {x : α} (ex : x = f i.toNatClampNeg) : k x = some y := by
  have hq := ld_in h
  unfold ld at h
  rw [if_neg hq] at h
  subst ex
  exact h
def sti {β : Type} (f : Nat → Int32) (n : Nat) (i x : Int32) (k : (Nat → Int32) → Option β) : Option β := if i < 0 ∨ n ≤ i.toNatClampNeg then none else k (upd f i.toNatClampNeg x)
theorem sti_in {β : Type} {f : Nat → Int32} {n : Nat} {i x : Int32} {k : (Nat → Int32) → Option β} {y : β} (h : sti f n i x k = some y) : vp_in i n := by
  intro q
  unfold sti at h
  rw [if_pos q] at h
  cases h
theorem sti_to {β : Type} {f : Nat → Int32} {n : Nat} {i x : Int32} {k : (Nat → Int32) → Option β} {y : β} (h : sti f n i x k = some y) {f' : Nat → Int32} (ex : f' = upd f i.toNatClampNeg x) : k f' = some y := by
  have hq := sti_in h
  unfold sti at h
  rw [if_neg hq] at h
  subst ex
  exact h
def stl {β : Type} (f : Nat → Int64) (n : Nat) (i : Int32) (x : Int64) (k : (Nat → Int64) → Option β) : Option β := if i < 0 ∨ n ≤ i.toNatClampNeg then none else k (vp_updL f i.toNatClampNeg x)
theorem stl_in {β : Type} {f : Nat → Int64} {n : Nat} {i : Int32} {x : Int64} {k : (Nat → Int64) → Option β} {y : β} (h : stl f n i x k = some y) : vp_in i n := by
  intro q
  unfold stl at h
  rw [if_pos q] at h
  cases h
theorem stl_to {β : Type} {f : Nat → Int64} {n : Nat} {i : Int32} {x : Int64} {k : (Nat → Int64) → Option β} {y : β} (h : stl f n i x k = some y) {f' : Nat → Int64} (ex : f' = vp_updL f i.toNatClampNeg x) : k f' = some y := by
  have hq := stl_in h
  unfold stl at h
  rw [if_neg hq] at h
  subst ex
  exact h
/-- a boolean is stored or answered -/
def ckz {β : Type} (x : Int32) (k : Option β) : Option β := if x = 0 ∨ x = 1 then k else none
theorem ckz_is {β : Type} {x : Int32} {k : Option β} {y : β} (h : ckz x k = some y) : x = 0 ∨ x = 1 := by
  unfold ckz at h
  by_cases q : x = 0 ∨ x = 1
  · exact q
  · rw [if_neg q] at h; cases h
theorem ckz_to {β : Type} {x : Int32} {k : Option β} {y : β} (h : ckz x k = some y) : k = some y := by
  have q := ckz_is h
  unfold ckz at h
  rw [if_pos q] at h
  exact h
theorem nz_nar {x : Int32} (h : x = 0 ∨ x = 1) : narrow .boolean (.int x) = .int x := by rcases h with h | h <;> subst h <;> rfl
theorem nz_fit {x : Int32} (h : x = 0 ∨ x = 1) : fits .boolean (.int x) = true := by rcases h with h | h <;> subst h <;> rfl
/-- a char is answered -/
def ckc {β : Type} (x : Int32) (k : Option β) : Option β := if (x.toUInt32 % 65536).toInt32 = x then k else none
theorem ckc_is {β : Type} {x : Int32} {k : Option β} {y : β} (h : ckc x k = some y) : (x.toUInt32 % 65536).toInt32 = x := by
  unfold ckc at h
  by_cases q : (x.toUInt32 % 65536).toInt32 = x
  · exact q
  · rw [if_neg q] at h; cases h
theorem ckc_to {β : Type} {x : Int32} {k : Option β} {y : β} (h : ckc x k = some y) : k = some y := by
  have q := ckc_is h
  unfold ckc at h
  rw [if_pos q] at h
  exact h
theorem nc_nar {x : Int32} (h : (x.toUInt32 % 65536).toInt32 = x) : narrow .char (.int x) = .int x := by rw [← h]; exact pk_nc x
theorem ifT {β : Type} {c : Prop} [Decidable c] {a b : Option β} {y : β} (h : (if c then a else b) = some y) (hc : c) : a = some y := by rw [if_pos hc] at h; exact h
theorem ifF {β : Type} {c : Prop} [Decidable c] {a b : Option β} {y : β} (h : (if c then a else b) = some y) (hc : ¬ c) : b = some y := by rw [if_neg hc] at h; exact h
def ushrL (x : Int64) (y : Int32) : Int64 := (x.toUInt64 >>> (y.toInt64.toUInt64 &&& Int64.toUInt64 63)).toInt64
def shlL (x : Int64) (y : Int32) : Int64 := x <<< (y.toInt64 &&& 63)
def shl (x y : Int32) : Int32 := x <<< (y &&& 31)
def shr (x y : Int32) : Int32 := x >>> (y &&& 31)
def rem (x y : Int32) : Int32 := x - x / y * y
def remL (x y : Int64) : Int64 := x - x / y * y
def i2c (x : Int32) : Int32 := (x.toUInt32 % 65536).toInt32
def i2b (x : Int32) : Int32 := x.toInt8.toInt32
def fx1 {A1 β : Type} (body : (A1 → Option β) → A1 → Option β) : Nat → A1 → Option β
  | 0 => fun _ => none
  | n + 1 => fun a1 => body (fx1 body n) a1
theorem fx1_0 {A1 β : Type} {body : (A1 → Option β) → A1 → Option β} {a1 : A1} {y : β} {P : Prop} (h : fx1 body 0 a1 = some y) : P := by cases (show (none : Option β) = some y from h)
theorem fx1_s {A1 β : Type} (body : (A1 → Option β) → A1 → Option β) (n : Nat) (a1 : A1) : fx1 body (n + 1) a1 = body (fx1 body n) a1 := rfl
def fx2 {A1 A2 β : Type} (body : (A1 → A2 → Option β) → A1 → A2 → Option β) : Nat → A1 → A2 → Option β
  | 0 => fun _ _ => none
  | n + 1 => fun a1 a2 => body (fx2 body n) a1 a2
theorem fx2_0 {A1 A2 β : Type} {body : (A1 → A2 → Option β) → A1 → A2 → Option β} {a1 : A1} {a2 : A2} {y : β} {P : Prop} (h : fx2 body 0 a1 a2 = some y) : P := by cases (show (none : Option β) = some y from h)
theorem fx2_s {A1 A2 β : Type} (body : (A1 → A2 → Option β) → A1 → A2 → Option β) (n : Nat) (a1 : A1) (a2 : A2) : fx2 body (n + 1) a1 a2 = body (fx2 body n) a1 a2 := rfl
def fx3 {A1 A2 A3 β : Type} (body : (A1 → A2 → A3 → Option β) → A1 → A2 → A3 → Option β) : Nat → A1 → A2 → A3 → Option β
  | 0 => fun _ _ _ => none
  | n + 1 => fun a1 a2 a3 => body (fx3 body n) a1 a2 a3
theorem fx3_0 {A1 A2 A3 β : Type} {body : (A1 → A2 → A3 → Option β) → A1 → A2 → A3 → Option β} {a1 : A1} {a2 : A2} {a3 : A3} {y : β} {P : Prop} (h : fx3 body 0 a1 a2 a3 = some y) : P := by cases (show (none : Option β) = some y from h)
theorem fx3_s {A1 A2 A3 β : Type} (body : (A1 → A2 → A3 → Option β) → A1 → A2 → A3 → Option β) (n : Nat) (a1 : A1) (a2 : A2) (a3 : A3) : fx3 body (n + 1) a1 a2 a3 = body (fx3 body n) a1 a2 a3 := rfl
def fx4 {A1 A2 A3 A4 β : Type} (body : (A1 → A2 → A3 → A4 → Option β) → A1 → A2 → A3 → A4 → Option β) : Nat → A1 → A2 → A3 → A4 → Option β
  | 0 => fun _ _ _ _ => none
  | n + 1 => fun a1 a2 a3 a4 => body (fx4 body n) a1 a2 a3 a4
theorem fx4_0 {A1 A2 A3 A4 β : Type} {body : (A1 → A2 → A3 → A4 → Option β) → A1 → A2 → A3 → A4 → Option β} {a1 : A1} {a2 : A2} {a3 : A3} {a4 : A4} {y : β} {P : Prop} (h : fx4 body 0 a1 a2 a3 a4 = some y) : P := by cases (show (none : Option β) = some y from h)
theorem fx4_s {A1 A2 A3 A4 β : Type} (body : (A1 → A2 → A3 → A4 → Option β) → A1 → A2 → A3 → A4 → Option β) (n : Nat) (a1 : A1) (a2 : A2) (a3 : A3) (a4 : A4) : fx4 body (n + 1) a1 a2 a3 a4 = body (fx4 body n) a1 a2 a3 a4 := rfl
def fx5 {A1 A2 A3 A4 A5 β : Type} (body : (A1 → A2 → A3 → A4 → A5 → Option β) → A1 → A2 → A3 → A4 → A5 → Option β) : Nat → A1 → A2 → A3 → A4 → A5 → Option β
  | 0 => fun _ _ _ _ _ => none
  | n + 1 => fun a1 a2 a3 a4 a5 => body (fx5 body n) a1 a2 a3 a4 a5
theorem fx5_0 {A1 A2 A3 A4 A5 β : Type} {body : (A1 → A2 → A3 → A4 → A5 → Option β) → A1 → A2 → A3 → A4 → A5 → Option β} {a1 : A1} {a2 : A2} {a3 : A3} {a4 : A4} {a5 : A5} {y : β} {P : Prop} (h : fx5 body 0 a1 a2 a3 a4 a5 = some y) : P := by cases (show (none : Option β) = some y from h)
theorem fx5_s {A1 A2 A3 A4 A5 β : Type} (body : (A1 → A2 → A3 → A4 → A5 → Option β) → A1 → A2 → A3 → A4 → A5 → Option β) (n : Nat) (a1 : A1) (a2 : A2) (a3 : A3) (a4 : A4) (a5 : A5) : fx5 body (n + 1) a1 a2 a3 a4 a5 = body (fx5 body n) a1 a2 a3 a4 a5 := rfl
def fx6 {A1 A2 A3 A4 A5 A6 β : Type} (body : (A1 → A2 → A3 → A4 → A5 → A6 → Option β) → A1 → A2 → A3 → A4 → A5 → A6 → Option β) : Nat → A1 → A2 → A3 → A4 → A5 → A6 → Option β
  | 0 => fun _ _ _ _ _ _ => none
  | n + 1 => fun a1 a2 a3 a4 a5 a6 => body (fx6 body n) a1 a2 a3 a4 a5 a6
theorem fx6_0 {A1 A2 A3 A4 A5 A6 β : Type} {body : (A1 → A2 → A3 → A4 → A5 → A6 → Option β) → A1 → A2 → A3 → A4 → A5 → A6 → Option β} {a1 : A1} {a2 : A2} {a3 : A3} {a4 : A4} {a5 : A5} {a6 : A6} {y : β} {P : Prop} (h : fx6 body 0 a1 a2 a3 a4 a5 a6 = some y) : P := by cases (show (none : Option β) = some y from h)
theorem fx6_s {A1 A2 A3 A4 A5 A6 β : Type} (body : (A1 → A2 → A3 → A4 → A5 → A6 → Option β) → A1 → A2 → A3 → A4 → A5 → A6 → Option β) (n : Nat) (a1 : A1) (a2 : A2) (a3 : A3) (a4 : A4) (a5 : A5) (a6 : A6) : fx6 body (n + 1) a1 a2 a3 a4 a5 a6 = body (fx6 body n) a1 a2 a3 a4 a5 a6 := rfl
def fx7 {A1 A2 A3 A4 A5 A6 A7 β : Type} (body : (A1 → A2 → A3 → A4 → A5 → A6 → A7 → Option β) → A1 → A2 → A3 → A4 → A5 → A6 → A7 → Option β) : Nat → A1 → A2 → A3 → A4 → A5 → A6 → A7 → Option β
  | 0 => fun _ _ _ _ _ _ _ => none
  | n + 1 => fun a1 a2 a3 a4 a5 a6 a7 => body (fx7 body n) a1 a2 a3 a4 a5 a6 a7
theorem fx7_0 {A1 A2 A3 A4 A5 A6 A7 β : Type} {body : (A1 → A2 → A3 → A4 → A5 → A6 → A7 → Option β) → A1 → A2 → A3 → A4 → A5 → A6 → A7 → Option β} {a1 : A1} {a2 : A2} {a3 : A3} {a4 : A4} {a5 : A5} {a6 : A6} {a7 : A7} {y : β} {P : Prop} (h : fx7 body 0 a1 a2 a3 a4 a5 a6 a7 = some y) : P := by cases (show (none : Option β) = some y from h)
theorem fx7_s {A1 A2 A3 A4 A5 A6 A7 β : Type} (body : (A1 → A2 → A3 → A4 → A5 → A6 → A7 → Option β) → A1 → A2 → A3 → A4 → A5 → A6 → A7 → Option β) (n : Nat) (a1 : A1) (a2 : A2) (a3 : A3) (a4 : A4) (a5 : A5) (a6 : A6) (a7 : A7) : fx7 body (n + 1) a1 a2 a3 a4 a5 a6 a7 = body (fx7 body n) a1 a2 a3 a4 a5 a6 a7 := rfl
def fx8 {A1 A2 A3 A4 A5 A6 A7 A8 β : Type} (body : (A1 → A2 → A3 → A4 → A5 → A6 → A7 → A8 → Option β) → A1 → A2 → A3 → A4 → A5 → A6 → A7 → A8 → Option β) : Nat → A1 → A2 → A3 → A4 → A5 → A6 → A7 → A8 → Option β
  | 0 => fun _ _ _ _ _ _ _ _ => none
  | n + 1 => fun a1 a2 a3 a4 a5 a6 a7 a8 => body (fx8 body n) a1 a2 a3 a4 a5 a6 a7 a8
theorem fx8_0 {A1 A2 A3 A4 A5 A6 A7 A8 β : Type} {body : (A1 → A2 → A3 → A4 → A5 → A6 → A7 → A8 → Option β) → A1 → A2 → A3 → A4 → A5 → A6 → A7 → A8 → Option β} {a1 : A1} {a2 : A2} {a3 : A3} {a4 : A4} {a5 : A5} {a6 : A6} {a7 : A7} {a8 : A8} {y : β} {P : Prop} (h : fx8 body 0 a1 a2 a3 a4 a5 a6 a7 a8 = some y) : P := by cases (show (none : Option β) = some y from h)
theorem fx8_s {A1 A2 A3 A4 A5 A6 A7 A8 β : Type} (body : (A1 → A2 → A3 → A4 → A5 → A6 → A7 → A8 → Option β) → A1 → A2 → A3 → A4 → A5 → A6 → A7 → A8 → Option β) (n : Nat) (a1 : A1) (a2 : A2) (a3 : A3) (a4 : A4) (a5 : A5) (a6 : A6) (a7 : A7) (a8 : A8) : fx8 body (n + 1) a1 a2 a3 a4 a5 a6 a7 a8 = body (fx8 body n) a1 a2 a3 a4 a5 a6 a7 a8 := rfl
def fx9 {A1 A2 A3 A4 A5 A6 A7 A8 A9 β : Type} (body : (A1 → A2 → A3 → A4 → A5 → A6 → A7 → A8 → A9 → Option β) → A1 → A2 → A3 → A4 → A5 → A6 → A7 → A8 → A9 → Option β) : Nat → A1 → A2 → A3 → A4 → A5 → A6 → A7 → A8 → A9 → Option β
  | 0 => fun _ _ _ _ _ _ _ _ _ => none
  | n + 1 => fun a1 a2 a3 a4 a5 a6 a7 a8 a9 => body (fx9 body n) a1 a2 a3 a4 a5 a6 a7 a8 a9
theorem fx9_0 {A1 A2 A3 A4 A5 A6 A7 A8 A9 β : Type} {body : (A1 → A2 → A3 → A4 → A5 → A6 → A7 → A8 → A9 → Option β) → A1 → A2 → A3 → A4 → A5 → A6 → A7 → A8 → A9 → Option β} {a1 : A1} {a2 : A2} {a3 : A3} {a4 : A4} {a5 : A5} {a6 : A6} {a7 : A7} {a8 : A8} {a9 : A9} {y : β} {P : Prop} (h : fx9 body 0 a1 a2 a3 a4 a5 a6 a7 a8 a9 = some y) : P := by cases (show (none : Option β) = some y from h)
theorem fx9_s {A1 A2 A3 A4 A5 A6 A7 A8 A9 β : Type} (body : (A1 → A2 → A3 → A4 → A5 → A6 → A7 → A8 → A9 → Option β) → A1 → A2 → A3 → A4 → A5 → A6 → A7 → A8 → A9 → Option β) (n : Nat) (a1 : A1) (a2 : A2) (a3 : A3) (a4 : A4) (a5 : A5) (a6 : A6) (a7 : A7) (a8 : A8) (a9 : A9) : fx9 body (n + 1) a1 a2 a3 a4 a5 a6 a7 a8 a9 = body (fx9 body n) a1 a2 a3 a4 a5 a6 a7 a8 a9 := rfl
def fx10 {A1 A2 A3 A4 A5 A6 A7 A8 A9 A10 β : Type} (body : (A1 → A2 → A3 → A4 → A5 → A6 → A7 → A8 → A9 → A10 → Option β) → A1 → A2 → A3 → A4 → A5 → A6 → A7 → A8 → A9 → A10 → Option β) : Nat → A1 → A2 → A3 → A4 → A5 → A6 → A7 → A8 → A9 → A10 → Option β
  | 0 => fun _ _ _ _ _ _ _ _ _ _ => none
  | n + 1 => fun a1 a2 a3 a4 a5 a6 a7 a8 a9 a10 => body (fx10 body n) a1 a2 a3 a4 a5 a6 a7 a8 a9 a10
theorem fx10_0 {A1 A2 A3 A4 A5 A6 A7 A8 A9 A10 β : Type} {body : (A1 → A2 → A3 → A4 → A5 → A6 → A7 → A8 → A9 → A10 → Option β) → A1 → A2 → A3 → A4 → A5 → A6 → A7 → A8 → A9 → A10 → Option β} {a1 : A1} {a2 : A2} {a3 : A3} {a4 : A4} {a5 : A5} {a6 : A6} {a7 : A7} {a8 : A8} {a9 : A9} {a10 : A10} {y : β} {P : Prop} (h : fx10 body 0 a1 a2 a3 a4 a5 a6 a7 a8 a9 a10 = some y) : P := by cases (show (none : Option β) = some y from h)
theorem fx10_s {A1 A2 A3 A4 A5 A6 A7 A8 A9 A10 β : Type} (body : (A1 → A2 → A3 → A4 → A5 → A6 → A7 → A8 → A9 → A10 → Option β) → A1 → A2 → A3 → A4 → A5 → A6 → A7 → A8 → A9 → A10 → Option β) (n : Nat) (a1 : A1) (a2 : A2) (a3 : A3) (a4 : A4) (a5 : A5) (a6 : A6) (a7 : A7) (a8 : A8) (a9 : A9) (a10 : A10) : fx10 body (n + 1) a1 a2 a3 a4 a5 a6 a7 a8 a9 a10 = body (fx10 body n) a1 a2 a3 a4 a5 a6 a7 a8 a9 a10 := rfl
def fx11 {A1 A2 A3 A4 A5 A6 A7 A8 A9 A10 A11 β : Type} (body : (A1 → A2 → A3 → A4 → A5 → A6 → A7 → A8 → A9 → A10 → A11 → Option β) → A1 → A2 → A3 → A4 → A5 → A6 → A7 → A8 → A9 → A10 → A11 → Option β) : Nat → A1 → A2 → A3 → A4 → A5 → A6 → A7 → A8 → A9 → A10 → A11 → Option β
  | 0 => fun _ _ _ _ _ _ _ _ _ _ _ => none
  | n + 1 => fun a1 a2 a3 a4 a5 a6 a7 a8 a9 a10 a11 => body (fx11 body n) a1 a2 a3 a4 a5 a6 a7 a8 a9 a10 a11
theorem fx11_0 {A1 A2 A3 A4 A5 A6 A7 A8 A9 A10 A11 β : Type} {body : (A1 → A2 → A3 → A4 → A5 → A6 → A7 → A8 → A9 → A10 → A11 → Option β) → A1 → A2 → A3 → A4 → A5 → A6 → A7 → A8 → A9 → A10 → A11 → Option β} {a1 : A1} {a2 : A2} {a3 : A3} {a4 : A4} {a5 : A5} {a6 : A6} {a7 : A7} {a8 : A8} {a9 : A9} {a10 : A10} {a11 : A11} {y : β} {P : Prop} (h : fx11 body 0 a1 a2 a3 a4 a5 a6 a7 a8 a9 a10 a11 = some y) : P := by cases (show (none : Option β) = some y from h)
theorem fx11_s {A1 A2 A3 A4 A5 A6 A7 A8 A9 A10 A11 β : Type} (body : (A1 → A2 → A3 → A4 → A5 → A6 → A7 → A8 → A9 → A10 → A11 → Option β) → A1 → A2 → A3 → A4 → A5 → A6 → A7 → A8 → A9 → A10 → A11 → Option β) (n : Nat) (a1 : A1) (a2 : A2) (a3 : A3) (a4 : A4) (a5 : A5) (a6 : A6) (a7 : A7) (a8 : A8) (a9 : A9) (a10 : A10) (a11 : A11) : fx11 body (n + 1) a1 a2 a3 a4 a5 a6 a7 a8 a9 a10 a11 = body (fx11 body n) a1 a2 a3 a4 a5 a6 a7 a8 a9 a10 a11 := rfl
def fx12 {A1 A2 A3 A4 A5 A6 A7 A8 A9 A10 A11 A12 β : Type} (body : (A1 → A2 → A3 → A4 → A5 → A6 → A7 → A8 → A9 → A10 → A11 → A12 → Option β) → A1 → A2 → A3 → A4 → A5 → A6 → A7 → A8 → A9 → A10 → A11 → A12 → Option β) : Nat → A1 → A2 → A3 → A4 → A5 → A6 → A7 → A8 → A9 → A10 → A11 → A12 → Option β
  | 0 => fun _ _ _ _ _ _ _ _ _ _ _ _ => none
  | n + 1 => fun a1 a2 a3 a4 a5 a6 a7 a8 a9 a10 a11 a12 => body (fx12 body n) a1 a2 a3 a4 a5 a6 a7 a8 a9 a10 a11 a12
theorem fx12_0 {A1 A2 A3 A4 A5 A6 A7 A8 A9 A10 A11 A12 β : Type} {body : (A1 → A2 → A3 → A4 → A5 → A6 → A7 → A8 → A9 → A10 → A11 → A12 → Option β) → A1 → A2 → A3 → A4 → A5 → A6 → A7 → A8 → A9 → A10 → A11 → A12 → Option β} {a1 : A1} {a2 : A2} {a3 : A3} {a4 : A4} {a5 : A5} {a6 : A6} {a7 : A7} {a8 : A8} {a9 : A9} {a10 : A10} {a11 : A11} {a12 : A12} {y : β} {P : Prop} (h : fx12 body 0 a1 a2 a3 a4 a5 a6 a7 a8 a9 a10 a11 a12 = some y) : P := by cases (show (none : Option β) = some y from h)
theorem fx12_s {A1 A2 A3 A4 A5 A6 A7 A8 A9 A10 A11 A12 β : Type} (body : (A1 → A2 → A3 → A4 → A5 → A6 → A7 → A8 → A9 → A10 → A11 → A12 → Option β) → A1 → A2 → A3 → A4 → A5 → A6 → A7 → A8 → A9 → A10 → A11 → A12 → Option β) (n : Nat) (a1 : A1) (a2 : A2) (a3 : A3) (a4 : A4) (a5 : A5) (a6 : A6) (a7 : A7) (a8 : A8) (a9 : A9) (a10 : A10) (a11 : A11) (a12 : A12) : fx12 body (n + 1) a1 a2 a3 a4 a5 a6 a7 a8 a9 a10 a11 a12 = body (fx12 body n) a1 a2 a3 a4 a5 a6 a7 a8 a9 a10 a11 a12 := rfl
def fx13 {A1 A2 A3 A4 A5 A6 A7 A8 A9 A10 A11 A12 A13 β : Type} (body : (A1 → A2 → A3 → A4 → A5 → A6 → A7 → A8 → A9 → A10 → A11 → A12 → A13 → Option β) → A1 → A2 → A3 → A4 → A5 → A6 → A7 → A8 → A9 → A10 → A11 → A12 → A13 → Option β) : Nat → A1 → A2 → A3 → A4 → A5 → A6 → A7 → A8 → A9 → A10 → A11 → A12 → A13 → Option β
  | 0 => fun _ _ _ _ _ _ _ _ _ _ _ _ _ => none
  | n + 1 => fun a1 a2 a3 a4 a5 a6 a7 a8 a9 a10 a11 a12 a13 => body (fx13 body n) a1 a2 a3 a4 a5 a6 a7 a8 a9 a10 a11 a12 a13
theorem fx13_0 {A1 A2 A3 A4 A5 A6 A7 A8 A9 A10 A11 A12 A13 β : Type} {body : (A1 → A2 → A3 → A4 → A5 → A6 → A7 → A8 → A9 → A10 → A11 → A12 → A13 → Option β) → A1 → A2 → A3 → A4 → A5 → A6 → A7 → A8 → A9 → A10 → A11 → A12 → A13 → Option β} {a1 : A1} {a2 : A2} {a3 : A3} {a4 : A4} {a5 : A5} {a6 : A6} {a7 : A7} {a8 : A8} {a9 : A9} {a10 : A10} {a11 : A11} {a12 : A12} {a13 : A13} {y : β} {P : Prop} (h : fx13 body 0 a1 a2 a3 a4 a5 a6 a7 a8 a9 a10 a11 a12 a13 = some y) : P := by cases (show (none : Option β) = some y from h)
theorem fx13_s {A1 A2 A3 A4 A5 A6 A7 A8 A9 A10 A11 A12 A13 β : Type} (body : (A1 → A2 → A3 → A4 → A5 → A6 → A7 → A8 → A9 → A10 → A11 → A12 → A13 → Option β) → A1 → A2 → A3 → A4 → A5 → A6 → A7 → A8 → A9 → A10 → A11 → A12 → A13 → Option β) (n : Nat) (a1 : A1) (a2 : A2) (a3 : A3) (a4 : A4) (a5 : A5) (a6 : A6) (a7 : A7) (a8 : A8) (a9 : A9) (a10 : A10) (a11 : A11) (a12 : A12) (a13 : A13) : fx13 body (n + 1) a1 a2 a3 a4 a5 a6 a7 a8 a9 a10 a11 a12 a13 = body (fx13 body n) a1 a2 a3 a4 a5 a6 a7 a8 a9 a10 a11 a12 a13 := rfl
def fx14 {A1 A2 A3 A4 A5 A6 A7 A8 A9 A10 A11 A12 A13 A14 β : Type} (body : (A1 → A2 → A3 → A4 → A5 → A6 → A7 → A8 → A9 → A10 → A11 → A12 → A13 → A14 → Option β) → A1 → A2 → A3 → A4 → A5 → A6 → A7 → A8 → A9 → A10 → A11 → A12 → A13 → A14 → Option β) : Nat → A1 → A2 → A3 → A4 → A5 → A6 → A7 → A8 → A9 → A10 → A11 → A12 → A13 → A14 → Option β
  | 0 => fun _ _ _ _ _ _ _ _ _ _ _ _ _ _ => none
  | n + 1 => fun a1 a2 a3 a4 a5 a6 a7 a8 a9 a10 a11 a12 a13 a14 => body (fx14 body n) a1 a2 a3 a4 a5 a6 a7 a8 a9 a10 a11 a12 a13 a14
theorem fx14_0 {A1 A2 A3 A4 A5 A6 A7 A8 A9 A10 A11 A12 A13 A14 β : Type} {body : (A1 → A2 → A3 → A4 → A5 → A6 → A7 → A8 → A9 → A10 → A11 → A12 → A13 → A14 → Option β) → A1 → A2 → A3 → A4 → A5 → A6 → A7 → A8 → A9 → A10 → A11 → A12 → A13 → A14 → Option β} {a1 : A1} {a2 : A2} {a3 : A3} {a4 : A4} {a5 : A5} {a6 : A6} {a7 : A7} {a8 : A8} {a9 : A9} {a10 : A10} {a11 : A11} {a12 : A12} {a13 : A13} {a14 : A14} {y : β} {P : Prop} (h : fx14 body 0 a1 a2 a3 a4 a5 a6 a7 a8 a9 a10 a11 a12 a13 a14 = some y) : P := by cases (show (none : Option β) = some y from h)
theorem fx14_s {A1 A2 A3 A4 A5 A6 A7 A8 A9 A10 A11 A12 A13 A14 β : Type} (body : (A1 → A2 → A3 → A4 → A5 → A6 → A7 → A8 → A9 → A10 → A11 → A12 → A13 → A14 → Option β) → A1 → A2 → A3 → A4 → A5 → A6 → A7 → A8 → A9 → A10 → A11 → A12 → A13 → A14 → Option β) (n : Nat) (a1 : A1) (a2 : A2) (a3 : A3) (a4 : A4) (a5 : A5) (a6 : A6) (a7 : A7) (a8 : A8) (a9 : A9) (a10 : A10) (a11 : A11) (a12 : A12) (a13 : A13) (a14 : A14) : fx14 body (n + 1) a1 a2 a3 a4 a5 a6 a7 a8 a9 a10 a11 a12 a13 a14 = body (fx14 body n) a1 a2 a3 a4 a5 a6 a7 a8 a9 a10 a11 a12 a13 a14 := rfl
def fx15 {A1 A2 A3 A4 A5 A6 A7 A8 A9 A10 A11 A12 A13 A14 A15 β : Type} (body : (A1 → A2 → A3 → A4 → A5 → A6 → A7 → A8 → A9 → A10 → A11 → A12 → A13 → A14 → A15 → Option β) → A1 → A2 → A3 → A4 → A5 → A6 → A7 → A8 → A9 → A10 → A11 → A12 → A13 → A14 → A15 → Option β) : Nat → A1 → A2 → A3 → A4 → A5 → A6 → A7 → A8 → A9 → A10 → A11 → A12 → A13 → A14 → A15 → Option β
  | 0 => fun _ _ _ _ _ _ _ _ _ _ _ _ _ _ _ => none
  | n + 1 => fun a1 a2 a3 a4 a5 a6 a7 a8 a9 a10 a11 a12 a13 a14 a15 => body (fx15 body n) a1 a2 a3 a4 a5 a6 a7 a8 a9 a10 a11 a12 a13 a14 a15
theorem fx15_0 {A1 A2 A3 A4 A5 A6 A7 A8 A9 A10 A11 A12 A13 A14 A15 β : Type} {body : (A1 → A2 → A3 → A4 → A5 → A6 → A7 → A8 → A9 → A10 → A11 → A12 → A13 → A14 → A15 → Option β) → A1 → A2 → A3 → A4 → A5 → A6 → A7 → A8 → A9 → A10 → A11 → A12 → A13 → A14 → A15 → Option β} {a1 : A1} {a2 : A2} {a3 : A3} {a4 : A4} {a5 : A5} {a6 : A6} {a7 : A7} {a8 : A8} {a9 : A9} {a10 : A10} {a11 : A11} {a12 : A12} {a13 : A13} {a14 : A14} {a15 : A15} {y : β} {P : Prop} (h : fx15 body 0 a1 a2 a3 a4 a5 a6 a7 a8 a9 a10 a11 a12 a13 a14 a15 = some y) : P := by cases (show (none : Option β) = some y from h)
theorem fx15_s {A1 A2 A3 A4 A5 A6 A7 A8 A9 A10 A11 A12 A13 A14 A15 β : Type} (body : (A1 → A2 → A3 → A4 → A5 → A6 → A7 → A8 → A9 → A10 → A11 → A12 → A13 → A14 → A15 → Option β) → A1 → A2 → A3 → A4 → A5 → A6 → A7 → A8 → A9 → A10 → A11 → A12 → A13 → A14 → A15 → Option β) (n : Nat) (a1 : A1) (a2 : A2) (a3 : A3) (a4 : A4) (a5 : A5) (a6 : A6) (a7 : A7) (a8 : A8) (a9 : A9) (a10 : A10) (a11 : A11) (a12 : A12) (a13 : A13) (a14 : A14) (a15 : A15) : fx15 body (n + 1) a1 a2 a3 a4 a5 a6 a7 a8 a9 a10 a11 a12 a13 a14 a15 = body (fx15 body n) a1 a2 a3 a4 a5 a6 a7 a8 a9 a10 a11 a12 a13 a14 a15 := rfl
def bd1 {A1 β : Type} (m : Option (A1)) (k : A1 → Option β) : Option β := match m with
  | none => none
  | some a1 => k a1
theorem bd1_to {A1 β : Type} {m : Option (A1)} {k : A1 → Option β} {y : β} (h : bd1 m k = some y) : ∃ (a1 : A1), m = some a1 ∧ k a1 = some y := by
  cases m with
  | none => cases h
  | some v => exact ⟨v, rfl, h⟩
def bd2 {A1 A2 β : Type} (m : Option (A1 × A2)) (k : A1 → A2 → Option β) : Option β := match m with
  | none => none
  | some (a1, a2) => k a1 a2
theorem bd2_to {A1 A2 β : Type} {m : Option (A1 × A2)} {k : A1 → A2 → Option β} {y : β} (h : bd2 m k = some y) : ∃ (a1 : A1) (a2 : A2), m = some (a1, a2) ∧ k a1 a2 = some y := by
  cases m with
  | none => cases h
  | some v => exact ⟨v.1, v.2, rfl, h⟩
def bd3 {A1 A2 A3 β : Type} (m : Option (A1 × A2 × A3)) (k : A1 → A2 → A3 → Option β) : Option β := match m with
  | none => none
  | some (a1, a2, a3) => k a1 a2 a3
theorem bd3_to {A1 A2 A3 β : Type} {m : Option (A1 × A2 × A3)} {k : A1 → A2 → A3 → Option β} {y : β} (h : bd3 m k = some y) : ∃ (a1 : A1) (a2 : A2) (a3 : A3), m = some (a1, a2, a3) ∧ k a1 a2 a3 = some y := by
  cases m with
  | none => cases h
  | some v => exact ⟨v.1, v.2.1, v.2.2, rfl, h⟩
def bd4 {A1 A2 A3 A4 β : Type} (m : Option (A1 × A2 × A3 × A4)) (k : A1 → A2 → A3 → A4 → Option β) : Option β := match m with
  | none => none
  | some (a1, a2, a3, a4) => k a1 a2 a3 a4
theorem bd4_to {A1 A2 A3 A4 β : Type} {m : Option (A1 × A2 × A3 × A4)} {k : A1 → A2 → A3 → A4 → Option β} {y : β} (h : bd4 m k = some y) : ∃ (a1 : A1) (a2 : A2) (a3 : A3) (a4 : A4), m = some (a1, a2, a3, a4) ∧ k a1 a2 a3 a4 = some y := by
  cases m with
  | none => cases h
  | some v => exact ⟨v.1, v.2.1, v.2.2.1, v.2.2.2, rfl, h⟩
def bd5 {A1 A2 A3 A4 A5 β : Type} (m : Option (A1 × A2 × A3 × A4 × A5)) (k : A1 → A2 → A3 → A4 → A5 → Option β) : Option β := match m with
  | none => none
  | some (a1, a2, a3, a4, a5) => k a1 a2 a3 a4 a5
theorem bd5_to {A1 A2 A3 A4 A5 β : Type} {m : Option (A1 × A2 × A3 × A4 × A5)} {k : A1 → A2 → A3 → A4 → A5 → Option β} {y : β} (h : bd5 m k = some y) : ∃ (a1 : A1) (a2 : A2) (a3 : A3) (a4 : A4) (a5 : A5), m = some (a1, a2, a3, a4, a5) ∧ k a1 a2 a3 a4 a5 = some y := by
  cases m with
  | none => cases h
  | some v => exact ⟨v.1, v.2.1, v.2.2.1, v.2.2.2.1, v.2.2.2.2, rfl, h⟩
def bd6 {A1 A2 A3 A4 A5 A6 β : Type} (m : Option (A1 × A2 × A3 × A4 × A5 × A6)) (k : A1 → A2 → A3 → A4 → A5 → A6 → Option β) : Option β := match m with
  | none => none
  | some (a1, a2, a3, a4, a5, a6) => k a1 a2 a3 a4 a5 a6
theorem bd6_to {A1 A2 A3 A4 A5 A6 β : Type} {m : Option (A1 × A2 × A3 × A4 × A5 × A6)} {k : A1 → A2 → A3 → A4 → A5 → A6 → Option β} {y : β} (h : bd6 m k = some y) : ∃ (a1 : A1) (a2 : A2) (a3 : A3) (a4 : A4) (a5 : A5) (a6 : A6), m = some (a1, a2, a3, a4, a5, a6) ∧ k a1 a2 a3 a4 a5 a6 = some y := by
  cases m with
  | none => cases h
  | some v => exact ⟨v.1, v.2.1, v.2.2.1, v.2.2.2.1, v.2.2.2.2.1, v.2.2.2.2.2, rfl, h⟩
def bd7 {A1 A2 A3 A4 A5 A6 A7 β : Type} (m : Option (A1 × A2 × A3 × A4 × A5 × A6 × A7)) (k : A1 → A2 → A3 → A4 → A5 → A6 → A7 → Option β) : Option β := match m with
  | none => none
  | some (a1, a2, a3, a4, a5, a6, a7) => k a1 a2 a3 a4 a5 a6 a7
theorem bd7_to {A1 A2 A3 A4 A5 A6 A7 β : Type} {m : Option (A1 × A2 × A3 × A4 × A5 × A6 × A7)} {k : A1 → A2 → A3 → A4 → A5 → A6 → A7 → Option β} {y : β} (h : bd7 m k = some y) : ∃ (a1 : A1) (a2 : A2) (a3 : A3) (a4 : A4) (a5 : A5) (a6 : A6) (a7 : A7), m = some (a1, a2, a3, a4, a5, a6, a7) ∧ k a1 a2 a3 a4 a5 a6 a7 = some y := by
  cases m with
  | none => cases h
  | some v => exact ⟨v.1, v.2.1, v.2.2.1, v.2.2.2.1, v.2.2.2.2.1, v.2.2.2.2.2.1, v.2.2.2.2.2.2, rfl, h⟩
def bd8 {A1 A2 A3 A4 A5 A6 A7 A8 β : Type} (m : Option (A1 × A2 × A3 × A4 × A5 × A6 × A7 × A8)) (k : A1 → A2 → A3 → A4 → A5 → A6 → A7 → A8 → Option β) : Option β := match m with
  | none => none
  | some (a1, a2, a3, a4, a5, a6, a7, a8) => k a1 a2 a3 a4 a5 a6 a7 a8
theorem bd8_to {A1 A2 A3 A4 A5 A6 A7 A8 β : Type} {m : Option (A1 × A2 × A3 × A4 × A5 × A6 × A7 × A8)} {k : A1 → A2 → A3 → A4 → A5 → A6 → A7 → A8 → Option β} {y : β} (h : bd8 m k = some y) : ∃ (a1 : A1) (a2 : A2) (a3 : A3) (a4 : A4) (a5 : A5) (a6 : A6) (a7 : A7) (a8 : A8), m = some (a1, a2, a3, a4, a5, a6, a7, a8) ∧ k a1 a2 a3 a4 a5 a6 a7 a8 = some y := by
  cases m with
  | none => cases h
  | some v => exact ⟨v.1, v.2.1, v.2.2.1, v.2.2.2.1, v.2.2.2.2.1, v.2.2.2.2.2.1, v.2.2.2.2.2.2.1, v.2.2.2.2.2.2.2, rfl, h⟩
def bd9 {A1 A2 A3 A4 A5 A6 A7 A8 A9 β : Type} (m : Option (A1 × A2 × A3 × A4 × A5 × A6 × A7 × A8 × A9)) (k : A1 → A2 → A3 → A4 → A5 → A6 → A7 → A8 → A9 → Option β) : Option β := match m with
  | none => none
  | some (a1, a2, a3, a4, a5, a6, a7, a8, a9) => k a1 a2 a3 a4 a5 a6 a7 a8 a9
theorem bd9_to {A1 A2 A3 A4 A5 A6 A7 A8 A9 β : Type} {m : Option (A1 × A2 × A3 × A4 × A5 × A6 × A7 × A8 × A9)} {k : A1 → A2 → A3 → A4 → A5 → A6 → A7 → A8 → A9 → Option β} {y : β} (h : bd9 m k = some y) : ∃ (a1 : A1) (a2 : A2) (a3 : A3) (a4 : A4) (a5 : A5) (a6 : A6) (a7 : A7) (a8 : A8) (a9 : A9), m = some (a1, a2, a3, a4, a5, a6, a7, a8, a9) ∧ k a1 a2 a3 a4 a5 a6 a7 a8 a9 = some y := by
  cases m with
  | none => cases h
  | some v => exact ⟨v.1, v.2.1, v.2.2.1, v.2.2.2.1, v.2.2.2.2.1, v.2.2.2.2.2.1, v.2.2.2.2.2.2.1, v.2.2.2.2.2.2.2.1, v.2.2.2.2.2.2.2.2, rfl, h⟩
def bd10 {A1 A2 A3 A4 A5 A6 A7 A8 A9 A10 β : Type} (m : Option (A1 × A2 × A3 × A4 × A5 × A6 × A7 × A8 × A9 × A10)) (k : A1 → A2 → A3 → A4 → A5 → A6 → A7 → A8 → A9 → A10 → Option β) : Option β := match m with
  | none => none
  | some (a1, a2, a3, a4, a5, a6, a7, a8, a9, a10) => k a1 a2 a3 a4 a5 a6 a7 a8 a9 a10
theorem bd10_to {A1 A2 A3 A4 A5 A6 A7 A8 A9 A10 β : Type} {m : Option (A1 × A2 × A3 × A4 × A5 × A6 × A7 × A8 × A9 × A10)} {k : A1 → A2 → A3 → A4 → A5 → A6 → A7 → A8 → A9 → A10 → Option β} {y : β} (h : bd10 m k = some y) : ∃ (a1 : A1) (a2 : A2) (a3 : A3) (a4 : A4) (a5 : A5) (a6 : A6) (a7 : A7) (a8 : A8) (a9 : A9) (a10 : A10), m = some (a1, a2, a3, a4, a5, a6, a7, a8, a9, a10) ∧ k a1 a2 a3 a4 a5 a6 a7 a8 a9 a10 = some y := by
  cases m with
  | none => cases h
  | some v => exact ⟨v.1, v.2.1, v.2.2.1, v.2.2.2.1, v.2.2.2.2.1, v.2.2.2.2.2.1, v.2.2.2.2.2.2.1, v.2.2.2.2.2.2.2.1, v.2.2.2.2.2.2.2.2.1, v.2.2.2.2.2.2.2.2.2, rfl, h⟩
def bd11 {A1 A2 A3 A4 A5 A6 A7 A8 A9 A10 A11 β : Type} (m : Option (A1 × A2 × A3 × A4 × A5 × A6 × A7 × A8 × A9 × A10 × A11)) (k : A1 → A2 → A3 → A4 → A5 → A6 → A7 → A8 → A9 → A10 → A11 → Option β) : Option β := match m with
  | none => none
  | some (a1, a2, a3, a4, a5, a6, a7, a8, a9, a10, a11) => k a1 a2 a3 a4 a5 a6 a7 a8 a9 a10 a11
theorem bd11_to {A1 A2 A3 A4 A5 A6 A7 A8 A9 A10 A11 β : Type} {m : Option (A1 × A2 × A3 × A4 × A5 × A6 × A7 × A8 × A9 × A10 × A11)} {k : A1 → A2 → A3 → A4 → A5 → A6 → A7 → A8 → A9 → A10 → A11 → Option β} {y : β} (h : bd11 m k = some y) : ∃ (a1 : A1) (a2 : A2) (a3 : A3) (a4 : A4) (a5 : A5) (a6 : A6) (a7 : A7) (a8 : A8) (a9 : A9) (a10 : A10) (a11 : A11), m = some (a1, a2, a3, a4, a5, a6, a7, a8, a9, a10, a11) ∧ k a1 a2 a3 a4 a5 a6 a7 a8 a9 a10 a11 = some y := by
  cases m with
  | none => cases h
  | some v => exact ⟨v.1, v.2.1, v.2.2.1, v.2.2.2.1, v.2.2.2.2.1, v.2.2.2.2.2.1, v.2.2.2.2.2.2.1, v.2.2.2.2.2.2.2.1, v.2.2.2.2.2.2.2.2.1, v.2.2.2.2.2.2.2.2.2.1, v.2.2.2.2.2.2.2.2.2.2, rfl, h⟩
def bd12 {A1 A2 A3 A4 A5 A6 A7 A8 A9 A10 A11 A12 β : Type} (m : Option (A1 × A2 × A3 × A4 × A5 × A6 × A7 × A8 × A9 × A10 × A11 × A12)) (k : A1 → A2 → A3 → A4 → A5 → A6 → A7 → A8 → A9 → A10 → A11 → A12 → Option β) : Option β := match m with
  | none => none
  | some (a1, a2, a3, a4, a5, a6, a7, a8, a9, a10, a11, a12) => k a1 a2 a3 a4 a5 a6 a7 a8 a9 a10 a11 a12
theorem bd12_to {A1 A2 A3 A4 A5 A6 A7 A8 A9 A10 A11 A12 β : Type} {m : Option (A1 × A2 × A3 × A4 × A5 × A6 × A7 × A8 × A9 × A10 × A11 × A12)} {k : A1 → A2 → A3 → A4 → A5 → A6 → A7 → A8 → A9 → A10 → A11 → A12 → Option β} {y : β} (h : bd12 m k = some y) : ∃ (a1 : A1) (a2 : A2) (a3 : A3) (a4 : A4) (a5 : A5) (a6 : A6) (a7 : A7) (a8 : A8) (a9 : A9) (a10 : A10) (a11 : A11) (a12 : A12), m = some (a1, a2, a3, a4, a5, a6, a7, a8, a9, a10, a11, a12) ∧ k a1 a2 a3 a4 a5 a6 a7 a8 a9 a10 a11 a12 = some y := by
  cases m with
  | none => cases h
  | some v => exact ⟨v.1, v.2.1, v.2.2.1, v.2.2.2.1, v.2.2.2.2.1, v.2.2.2.2.2.1, v.2.2.2.2.2.2.1, v.2.2.2.2.2.2.2.1, v.2.2.2.2.2.2.2.2.1, v.2.2.2.2.2.2.2.2.2.1, v.2.2.2.2.2.2.2.2.2.2.1, v.2.2.2.2.2.2.2.2.2.2.2, rfl, h⟩
def bd13 {A1 A2 A3 A4 A5 A6 A7 A8 A9 A10 A11 A12 A13 β : Type} (m : Option (A1 × A2 × A3 × A4 × A5 × A6 × A7 × A8 × A9 × A10 × A11 × A12 × A13)) (k : A1 → A2 → A3 → A4 → A5 → A6 → A7 → A8 → A9 → A10 → A11 → A12 → A13 → Option β) : Option β := match m with
  | none => none
  | some (a1, a2, a3, a4, a5, a6, a7, a8, a9, a10, a11, a12, a13) => k a1 a2 a3 a4 a5 a6 a7 a8 a9 a10 a11 a12 a13
theorem bd13_to {A1 A2 A3 A4 A5 A6 A7 A8 A9 A10 A11 A12 A13 β : Type} {m : Option (A1 × A2 × A3 × A4 × A5 × A6 × A7 × A8 × A9 × A10 × A11 × A12 × A13)} {k : A1 → A2 → A3 → A4 → A5 → A6 → A7 → A8 → A9 → A10 → A11 → A12 → A13 → Option β} {y : β} (h : bd13 m k = some y) : ∃ (a1 : A1) (a2 : A2) (a3 : A3) (a4 : A4) (a5 : A5) (a6 : A6) (a7 : A7) (a8 : A8) (a9 : A9) (a10 : A10) (a11 : A11) (a12 : A12) (a13 : A13), m = some (a1, a2, a3, a4, a5, a6, a7, a8, a9, a10, a11, a12, a13) ∧ k a1 a2 a3 a4 a5 a6 a7 a8 a9 a10 a11 a12 a13 = some y := by
  cases m with
  | none => cases h
  | some v => exact ⟨v.1, v.2.1, v.2.2.1, v.2.2.2.1, v.2.2.2.2.1, v.2.2.2.2.2.1, v.2.2.2.2.2.2.1, v.2.2.2.2.2.2.2.1, v.2.2.2.2.2.2.2.2.1, v.2.2.2.2.2.2.2.2.2.1, v.2.2.2.2.2.2.2.2.2.2.1, v.2.2.2.2.2.2.2.2.2.2.2.1, v.2.2.2.2.2.2.2.2.2.2.2.2, rfl, h⟩
def bd14 {A1 A2 A3 A4 A5 A6 A7 A8 A9 A10 A11 A12 A13 A14 β : Type} (m : Option (A1 × A2 × A3 × A4 × A5 × A6 × A7 × A8 × A9 × A10 × A11 × A12 × A13 × A14)) (k : A1 → A2 → A3 → A4 → A5 → A6 → A7 → A8 → A9 → A10 → A11 → A12 → A13 → A14 → Option β) : Option β := match m with
  | none => none
  | some (a1, a2, a3, a4, a5, a6, a7, a8, a9, a10, a11, a12, a13, a14) => k a1 a2 a3 a4 a5 a6 a7 a8 a9 a10 a11 a12 a13 a14
theorem bd14_to {A1 A2 A3 A4 A5 A6 A7 A8 A9 A10 A11 A12 A13 A14 β : Type} {m : Option (A1 × A2 × A3 × A4 × A5 × A6 × A7 × A8 × A9 × A10 × A11 × A12 × A13 × A14)} {k : A1 → A2 → A3 → A4 → A5 → A6 → A7 → A8 → A9 → A10 → A11 → A12 → A13 → A14 → Option β} {y : β} (h : bd14 m k = some y) : ∃ (a1 : A1) (a2 : A2) (a3 : A3) (a4 : A4) (a5 : A5) (a6 : A6) (a7 : A7) (a8 : A8) (a9 : A9) (a10 : A10) (a11 : A11) (a12 : A12) (a13 : A13) (a14 : A14), m = some (a1, a2, a3, a4, a5, a6, a7, a8, a9, a10, a11, a12, a13, a14) ∧ k a1 a2 a3 a4 a5 a6 a7 a8 a9 a10 a11 a12 a13 a14 = some y := by
  cases m with
  | none => cases h
  | some v => exact ⟨v.1, v.2.1, v.2.2.1, v.2.2.2.1, v.2.2.2.2.1, v.2.2.2.2.2.1, v.2.2.2.2.2.2.1, v.2.2.2.2.2.2.2.1, v.2.2.2.2.2.2.2.2.1, v.2.2.2.2.2.2.2.2.2.1, v.2.2.2.2.2.2.2.2.2.2.1, v.2.2.2.2.2.2.2.2.2.2.2.1, v.2.2.2.2.2.2.2.2.2.2.2.2.1, v.2.2.2.2.2.2.2.2.2.2.2.2.2, rfl, h⟩
def bd15 {A1 A2 A3 A4 A5 A6 A7 A8 A9 A10 A11 A12 A13 A14 A15 β : Type} (m : Option (A1 × A2 × A3 × A4 × A5 × A6 × A7 × A8 × A9 × A10 × A11 × A12 × A13 × A14 × A15)) (k : A1 → A2 → A3 → A4 → A5 → A6 → A7 → A8 → A9 → A10 → A11 → A12 → A13 → A14 → A15 → Option β) : Option β := match m with
  | none => none
  | some (a1, a2, a3, a4, a5, a6, a7, a8, a9, a10, a11, a12, a13, a14, a15) => k a1 a2 a3 a4 a5 a6 a7 a8 a9 a10 a11 a12 a13 a14 a15
theorem bd15_to {A1 A2 A3 A4 A5 A6 A7 A8 A9 A10 A11 A12 A13 A14 A15 β : Type} {m : Option (A1 × A2 × A3 × A4 × A5 × A6 × A7 × A8 × A9 × A10 × A11 × A12 × A13 × A14 × A15)} {k : A1 → A2 → A3 → A4 → A5 → A6 → A7 → A8 → A9 → A10 → A11 → A12 → A13 → A14 → A15 → Option β} {y : β} (h : bd15 m k = some y) : ∃ (a1 : A1) (a2 : A2) (a3 : A3) (a4 : A4) (a5 : A5) (a6 : A6) (a7 : A7) (a8 : A8) (a9 : A9) (a10 : A10) (a11 : A11) (a12 : A12) (a13 : A13) (a14 : A14) (a15 : A15), m = some (a1, a2, a3, a4, a5, a6, a7, a8, a9, a10, a11, a12, a13, a14, a15) ∧ k a1 a2 a3 a4 a5 a6 a7 a8 a9 a10 a11 a12 a13 a14 a15 = some y := by
  cases m with
  | none => cases h
  | some v => exact ⟨v.1, v.2.1, v.2.2.1, v.2.2.2.1, v.2.2.2.2.1, v.2.2.2.2.2.1, v.2.2.2.2.2.2.1, v.2.2.2.2.2.2.2.1, v.2.2.2.2.2.2.2.2.1, v.2.2.2.2.2.2.2.2.2.1, v.2.2.2.2.2.2.2.2.2.2.1, v.2.2.2.2.2.2.2.2.2.2.2.1, v.2.2.2.2.2.2.2.2.2.2.2.2.1, v.2.2.2.2.2.2.2.2.2.2.2.2.2.1, v.2.2.2.2.2.2.2.2.2.2.2.2.2.2, rfl, h⟩
def bd0 {β : Type} (m : Option Unit) (k : Option β) : Option β := match m with
  | none => none
  | some _ => k
theorem bd0_to {β : Type} {m : Option Unit} {k : Option β} {y : β} (h : bd0 m k = some y) : m = some () ∧ k = some y := by
  cases m with
  | none => cases h
  | some v => exact ⟨rfl, h⟩
