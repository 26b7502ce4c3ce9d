/-! constructors: contracts that make cells -/
def CtN (g : GP) (l : Launch) (y : MethodName) (bytes : ByteArray) (maxL : Nat) (rm : Room) (av : List Value) (w : va_W) (Wp : va_W → Prop) (mc ms : Nat) : Prop :=
  ∀ sz : Nat, Met l y (Cond.code y bytes maxL none :: TB) rm (va_Pc av (fun U => U.heap.size = sz ∧ va_P g.1 vwCl w U.heap ∧ va_D (fun _ => True) w ∧ GE g (va_A w sz) U U.heap))
    (fun _ st o t => ∃ w', Wp w' ∧ o = .returned none ∧ va_P g.1 vwCl w' t.heap ∧ va_D (va_A w sz) w' ∧ va_F (va_A w sz) st t) mc ms (va_A w sz)
set_option maxRecDepth 100000 in
theorem CtN.intro {g : GP} {l : Launch} {y : MethodName} {cc : ByteArray} {maxL : Nat} {rm : Room} {av : List Value} {w : va_W} {Wp : va_W → Prop} {mc ms : Nat} (hy : plainName y.cls = true) (hle : (lg_sl av).length ≤ maxL) (hin : y.name = "<init>")
    (body : ∀ (p : Program) (e : Env) (s : State) (m : MethodId) (below : List Frame) (meth : Method) (c : Code) (A : Nat → Prop) (QQ : State → Prop) (ls : Array Slot), CtHyp g cc maxL none y.cls av w p s m meth c A ls → meth.name = "<init>" →
      (∀ (w' : va_W) (H : Heap) (locs : List Loc) (pc : Nat) (ls : Array Slot), Wp w' → va_P g.1 vwCl w' H → va_D A w' → va_S A s.heap H locs → decode cc pc = .ok (.return_, 1) → W p l e rm s m av.toArray below meth c H locs mc ms QQ (F0 m pc ls [])) →
      W p l e rm s m av.toArray below meth c s.heap [] 0 0 QQ (F0 m 0 ls [])) : CtN g l y cc maxL rm av w Wp mc ms := by
  intro sz
  refine Met.ofW (cc := cc) (maxL := maxL) (ret := none) hy rfl ?_
  intro p e s m args below meth c s₁ B hml hv
  obtain ⟨rfl, hsz, hP, hD0, hE⟩ := hv
  subst hsz
  have hts := atoms_spec (ws := Cond.code y cc maxL none :: TB) B.pre
  have hl := lv_entry av (n := maxL) hle
  rw [lg_entry_eq]
  refine body p e s m below meth c (va_A w s.heap.size) _ _ ⟨B.exec, B.bytes, hml, fun w h => hts w (List.mem_cons_of_mem _ h), findClass_of_methodNamed B.named, fun q h => Or.inr h, hE, hP, hD0.self, hl⟩ ((name_of_methodNamed B.named B.method).1.trans hin) (fun w' H locs pc ls hw hP hD hS hdg => ?_)
  exact W.vret B.exec B.bytes B.returns (fun t ht hW => ⟨w', hw, rfl, by rw [ht]; exact hP, hD, hS.F ht⟩) hS.2.2 hdg B.notSynchronized
section CNC
variable {p : Program} {l : Launch} {e : Env} {R : Room} {s : State} {m : MethodId} {args : Array Value} {below : List Frame} {meth : Method} {c : Code} {H : Heap} {locs : List Loc} {cells slots : Nat} {Q : State → Prop}
variable {pc : Nat} {ls : Array Slot} {rest st0 : List Value} {A : Nat → Prop} {g : GP} {w W0 : va_W} {Wp : va_W → Prop} {y : MethodName} {bytes cc : ByteArray} {maxL nL n index mc ms : Nat} {rm : Room} {own host : String} {b : Addr} {As : List Value}
abbrev NRun (p : Program) (l : Launch) (e : Env) (R : Room) (s : State) (m : MethodId) (args : Array Value) (below : List Frame) (meth : Method) (c : Code) (H : Heap) (locs : List Loc) (cells slots mc ms : Nat) (f : JFrame) (rest : List Value) (g : GP) (w : va_W) (Wp : va_W → Prop) : Prop :=
  va_Run p l e R s m args below meth c H locs cells slots mc ms f rest (fun st o t => ∃ w', Wp w' ∧ o = .returned none ∧ va_P g.1 vwCl w' t.heap ∧ va_D (va_A w H.size) w' ∧ va_F (va_A w H.size) st t) (va_A w H.size)
set_option maxRecDepth 100000 in
theorem run_I (X : Here g p s m c cc nL args own A) (hS : va_S A s.heap H locs) (hM : CtN g l y bytes maxL rm (.ref b :: As) w Wp mc ms) (ok : OKI y bytes maxL n) (hl : Cond.methodLink own index y ∈ TB) (hR : rm.frames + 1 ≤ R.frames ∧ 8 + (maxL + 11) + rm.locals ≤ R.locals) (hrc : rm.cells = mc ∧ rm.slots = ms)
    (hPc : va_P g.1 vwCl w H) (hDc : va_D A w) (hFc : ∀ q, va_A w H.size q → A q) (hn : As.length = n) (hsize : ls.size = nL) (hstack : st0 = As.reverse ++ .ref b :: rest) (hW : (rest.map fun v => v.category).sum ≤ 8) (hdg : decode cc pc = .ok (.invokespecial index, 3)) (hf : cells + mc ≤ R.cells ∧ slots + ms ≤ R.slots) :
    NRun p l e R s m args below meth c H locs cells slots mc ms (F0 m pc ls st0) rest g w Wp :=
  va_runI X.1 (hM H.size) (cwI_of X.1.2.2.2.2 ok hl hR hrc.1 hrc.2) ⟨ct_blind, fun U hU hW => ⟨rfl, by rw [hU], by rw [hU]; exact hPc, hDc.weaken (fun _ _ _ _ => trivial), GE.call X.2.1 hS hU hW hFc⟩⟩ rfl hn hsize hstack (lv_room hW) hdg hf
set_option maxRecDepth 100000 in
theorem run_IN (X : Here g p s m c cc nL args own A) (hS : va_S A s.heap H locs) (hM : CtN g l y bytes maxL rm (.ref b :: As) w Wp mc ms) (ok : OKI y bytes maxL n) (hl : (own, index, y, host) ∈ NWL) (hR : rm.frames + 1 ≤ R.frames ∧ 8 + (maxL + 11) + rm.locals ≤ R.locals) (hrc : rm.cells = mc ∧ rm.slots = ms)
    (hPc : va_P g.1 vwCl w H) (hDc : va_D A w) (hFc : ∀ q, va_A w H.size q → A q) (hn : As.length = n) (hsize : ls.size = nL) (hstack : st0 = As.reverse ++ .ref b :: rest) (hW : (rest.map fun v => v.category).sum ≤ 8) (hdg : decode cc pc = .ok (.invokespecial index, 3)) (hf : cells + mc ≤ R.cells ∧ slots + ms ≤ R.slots) :
    NRun p l e R s m args below meth c H locs cells slots mc ms (F0 m pc ls st0) rest g w Wp :=
  va_runIN X.1 (hM H.size) ⟨va_cnB n X.1.2.2.2.2 (tb_goodC ok.2.2.1) rfl hrc.1 hrc.2 (X.2.1.2.1 _ hl) (X.1.2.2.2.2 _ ok.2.1) ok.2.2.2.2 hR, ok.2.2.2.1, X.1.2.2.2.2 _ ok.1⟩ ⟨ct_blind, fun U hU hW => ⟨rfl, by rw [hU], by rw [hU]; exact hPc, hDc.weaken (fun _ _ _ _ => trivial), GE.call X.2.1 hS hU hW hFc⟩⟩ rfl hn hsize hstack (lv_room hW) hdg hf
set_option maxRecDepth 100000 in
theorem goN {H0 : Heap} (hr : NRun p l e R s m args below meth c H locs cells slots mc ms (F0 m pc ls st0) rest g w Wp) (hS : va_S A H0 H locs) (hf : ∀ q, va_A w H.size q → A q) (hP : va_P g.1 vwCl W0 H) (hD : va_D A W0) (isC isR : List Nat) (hC : isC.map (fun i => W0[i]?) = w.map some) (hlt : isR.all (fun i => decide (i < W0.length)) = true) (hn : va_nd isR = true) (hdis : ∀ i ∈ isR, i ∉ isC)
    (kk : ∀ (w' : va_W) (H1 : Heap) (locs1 : List Loc), Wp w' → va_P g.1 vwCl (isR.filterMap (fun i => W0[i]?) ++ w') H1 → va_D A (isR.filterMap (fun i => W0[i]?) ++ w') → va_S A H0 H1 locs1 → W p l e R s m args below meth c H1 locs1 (cells + mc) (slots + ms) Q (F0 m (pc + 3) ls rest)) : W p l e R s m args below meth c H locs cells slots Q (F0 m pc ls st0) := by
  intro T hT X
  obtain ⟨v, st₀, t, T', L, h0, X', hL, e1, e2, ⟨w', hw, hv, hP1, hD1, hz, hk⟩, st⟩ := hr T hT X
  cases hv
  rw [h0] at hz hk
  obtain ⟨hP2, hD2⟩ := va_join (wr := isR.filterMap (fun i => W0[i]?)) (w1 := w') (H1 := T'.heap) hP hD isC isR hC (map_pick isR hlt) hn hdis (fun q h1 h2 => by rw [e1]; exact hk q h1 h2) hf (by rw [e1]; exact hP1) hD1
  obtain ⟨t2, a1, b1⟩ := kk w' T'.heap (locs ++ L) hw hP2 hD2
    ⟨Nat.le_trans hS.1 (by rw [e1]; exact hz), fun q h1 h2 => by rw [e1, hk q (Nat.lt_of_lt_of_le h1 hS.1) (fun z => h2 (hf q z))]; exact hS.2.1 q h1 h2, fun q hq => by
      rcases List.mem_append.mp hq with h | h
      · exact hS.2.2 q h
      · exact hf _ (hL q h)⟩ T' rfl X'
  exact ⟨t2, st t2 a1, b1⟩
set_option maxRecDepth 100000 in
/-- a new row, of the class that the tables name -/
theorem newA {H0 : Heap} (hx : p.tables.exec = Jvm.exec) (hb : c.code = cc) {atype : ArrayType} (harr : (Cond.arrayClass (newarray.typeOf atype)).before args s = true) {ty : FieldType} (hty : newarray.typeOf atype = ty) (hK : va_K g.1 vwCl (TYS g) s) (hP : va_P g.1 vwCl W0 H) (hD : va_D A W0) (hS : va_S A H0 H locs) (hA : ∀ q : Nat, H0.size ≤ q → A q) (k : Nat) (hk : (TYS g)[k]? = some (g.2.1 k, ty)) (hra : ∀ (U : State) (cA : ClassId), va_RA U cA ty = (U.vm.findClass ("[" ++ ty.toString) = some cA))
    {n : Int32} {N' : Nat} {a0 : vp_A} (ha : ∀ cA : ClassId, vp_cell cA a0 = arrV cA N' (fun _ => defaultValue ty)) (hn : ¬ n < 0) (hN : n.toNatClampNeg = N') (hbytes : N' * componentBytes ty ≤ 536870912) (hcells : cells + 1 ≤ R.cells) (hslots : slots + N' ≤ R.slots) (hdg : decode cc pc = .ok (.newarray atype, 2))
    (kk : ∀ (q : Nat) (H1 : Heap), va_P g.1 vwCl (W0 ++ [(q, .inl (g.2.1 k, a0))]) H1 → va_D A (W0 ++ [(q, .inl (g.2.1 k, a0))]) → va_S A H0 H1 locs →
      W p l e R s m args below meth c H1 locs (cells + 1) (slots + N') Q (F0 m (pc + 2) ls (.ref q :: rest))) : W p l e R s m args below meth c H locs cells slots Q (F0 m pc ls (.int n :: rest)) := by
  refine va_newa hx hb harr hty hK hP hD hS hA ha hn hN hbytes hcells hslots hdg fun q cA H1 hK1 hP1 hD1 hS1 => ?_
  have h1 := (hK1.2 4 (cA, ty) rfl).2
  have h2 := (hK.2 k _ hk).2
  rw [hra] at h1 h2
  obtain rfl : cA = g.2.1 k := Option.some.inj (h1.symm.trans h2)
  exact kk q H1 hP1 hD1 hS1
end CNC
