/-! THE CLAIM OUT OF ONE WALK OF THE LAW'S BODY. Your part is whole_start (and what it stands on); all else here is the same for every law, but numbers. -/
def R_law : String := "WordEquationsLaw"
def lw_P (b : Addr) (xs : List Int32) (args : Array Value) (s : State) : Prop := args = #[.ref b] ∧ s.IntsAt b xs ∧ xs.length ≤ 2560 ∧ (Jvm.Cond.and given_1 narrow_1).before args s = true
def lw_Q (_ : Array Value) (s : State) (o : Outcome) (t : State) : Prop := o = .returned (some (.int 1)) ∧ Framed s o t [] 600000 7302250
def lw_Z (below : List Frame) (a : Array Value) (s : State) : State → Prop := fun t => ∃ o, t.status = .running ∧ Ended t below o ∧ lw_Q a s o t
set_option maxRecDepth 100000 in
/-- the law's own end, with 1 on the stack, nothing written that was there before, its room as the claim has it -/
theorem lw_ret {p : Program} {l : Launch} {e : Env} {s : State} {m : MethodId} {below : List Frame} {meth : Method} {c : Code} {b : Nat} (hx : p.tables.exec = Jvm.exec) (hb : c.code = code) (hr : meth.sig.returnType = ret) (hlocks : meth.locks = false) {pc : Nat} {H : Heap} {ls : Array Slot} (hdg : decode code pc = .ok (.ireturn, 1)) : W p l e room_1 s m #[Value.ref b] below meth c H [] 600000 7302250 (lw_Z below #[Value.ref b] s) (F0 m pc ls [.int 1]) := by
  intro T hT X
  obtain ⟨fs, hret, hrun, hended, hW, hframe⟩ := X.leave (v := some (.int 1)) (hlocks := hlocks) (fun h => by rw [hr] at h; cases h)
  have hmeth' : T.vm.method? m = some meth := X.method'
  refine ⟨T.setFrames fs, ?_, .returned (some (.int 1)), hrun, hended, rfl, ⟨_, rfl⟩, hW, hframe⟩
  jvm_step X.here [X.here.top, hx, hb, hdg, hmeth', hr, ret, narrow_b1]
  (try refine ⟨rfl, ?_⟩); (try refine ⟨rfl, ?_⟩)
  first | (intro acts; rw [hret _ acts rfl rfl rfl]) | rw [hret _ _ rfl rfl rfl]
  exact Steps.refl _
/-- what holds at the law's entry: the machine, the code, the tables' words (any of lw_tbl by 'hts w (by decide +kernel)'), the script of L ints xs at the cell b, what the Statement gives of the start (any of its parts by flat_of_before) -/
def lw_At (p : Program) (s : State) (m : MethodId) (meth : Method) (c : Code) (b L : Nat) (xs : Nat → Int32) : Prop :=
  p.tables.exec = Jvm.exec ∧ c.code = code ∧ meth.sig.returnType = ret ∧ c.maxLocals = 4 ∧ s.vm.findClass R_law = some m.cls ∧ (∀ w ∈ lw_tbl, w.before #[Value.ref b] s = true) ∧ va_X b L xs s s.heap ∧ b < s.heap.size ∧ meth.locks = false ∧ (Jvm.Cond.and given_1 narrow_1).before #[Value.ref b] s = true
/-! the law's cases (written by mklaw.py) -/
def LC (g : GP) (p : Program) (s : State) (m : MethodId) (c : Code) (b L : Nat) (xs : Nat → Int32) (aX aM i : Nat) (ls : Array Slot) : Prop :=
  Here g p s m c cL_law 4 #[Value.ref b] RL (fun q : Nat => s.heap.size ≤ q) ∧ va_X b L xs s s.heap ∧ b < s.heap.size ∧ i + 5 ≤ L ∧ L ≤ 2560 ∧ lv_has ls 4 [(3, .int (nI i)), (2, .ref aM), (1, .ref aX), (0, .ref b)]
set_option maxRecDepth 100000 in
theorem LI.x0 {g : GP} {aX aM : Nat} {wx wm : va_W} (h : LI g aX aM wx wm) : ∃ fs, wx[0]? = some (aX, .inr (10, fs)) := by
  obtain ⟨a, b, xi, xl, xf, xg, mi, mf, nT, tx, xs, ys, cs, rfl, -⟩ := h
  exact ⟨_, rfl⟩
set_option maxRecDepth 100000 in
theorem LI.m0 {g : GP} {aX aM : Nat} {wx wm : va_W} (h : LI g aX aM wx wm) : ∃ fs, wm[0]? = some (aM, .inr (11, fs)) := by
  obtain ⟨a, b, xi, xl, xf, xg, mi, mf, nT, tx, xs, ys, cs, -, rfl, -⟩ := h
  exact ⟨_, rfl⟩
section LAW
variable {p : Program} {l : Launch} {e : Env} {s : State} {m : MethodId} {below : List Frame} {meth : Method} {c : Code} {H : Heap} {locs : List Loc} {Q : State → Prop} {ls : Array Slot} {g : GP} {b L i aX aM : Nat} {xs : Nat → Int32} {wx wm : va_W}
set_option maxHeartbeats 4000000 in
set_option maxRecDepth 100000 in
theorem law_0 (C : LC g p s m c b L xs aX aM i ls) (h : LI g aX aM wx wm) (hP : va_P g.1 vwCl (wx ++ wm) H) (hD : va_D (fun q : Nat => s.heap.size ≤ q) (wx ++ wm)) (hS : va_S (fun q : Nat => s.heap.size ≤ q) s.heap H locs)
    (hk : ∀ (wx' wm' : va_W) (H : Heap) (locs : List Loc), LI g aX aM wx' wm' → va_P g.1 vwCl (wx' ++ wm') H → va_D (fun q : Nat => s.heap.size ≤ q) (wx' ++ wm') → va_S (fun q : Nat => s.heap.size ≤ q) s.heap H locs → W p l e room_1 s m #[Value.ref b] below meth c H locs 57 8063 Q (F0 m 888 ls [])) : W p l e room_1 s m #[Value.ref b] below meth c H locs 57 8063 Q (F0 m 168 ls []) := by
  obtain ⟨X, hX, hbl, hi, hL, hl⟩ := C
  obtain ⟨⟨hx, hb, hml, hown, hts⟩, hE, hA⟩ := id X
  have hK := hE.1
  have hbA : ¬ (fun q : Nat => s.heap.size ≤ q) b := Nat.not_le.mpr hbl
  obtain ⟨fs0, e0⟩ := h.x0
  obtain ⟨fs1, e1⟩ := h.m0
  obtain ⟨r, wx1, wm1, k1, k2, h1⟩ := s_append g l h (xs (Int32.toNatClampNeg (nI i + (1 : Int32))))
  refine lv_aload_n hx hb dL_law_168 rfl (lv_at hl 2 rfl) ?_
  refine lv_aload_n hx hb dL_law_169 rfl (lv_at hl 3 rfl) ?_
  refine lv_iload_n hx hb dL_law_170 rfl (lv_at hl 0 rfl) ?_
  refine lv_iconst (v := (1 : Int32)) hx hb dL_law_171 (by decide) ?_
  refine lv_iadd hx hb dL_law_172 ?_
  refine va_sld hx hb hX hbl hbA hS (pk_in (i + 1) L (by omega) (nI_add i 1)) dL_law_173 ?_
  refine go_L (st1 := [.int r]) (run_V (As := [.int (xs (Int32.toNatClampNeg (nI i + (1 : Int32))))]) (rest := []) X hS k1 okX11_append wd2_23 ⟨Nat.le_of_ble_eq_true rfl, Nat.le_of_ble_eq_true rfl⟩ ⟨rfl, rfl⟩ (va_recv hK (P_l hP) (ci := 10) (q0 := 0) rfl e0) (P_l hP) (D_l hD) (all_F hS hA (D_l hD)) rfl hl.1 rfl (Nat.le_of_ble_eq_true rfl) dL_law_174 ⟨Nat.le_of_ble_eq_true rfl, Nat.le_of_ble_eq_true rfl⟩) hS hA hP hD rfl (fun H locs hP hD hS => ?_)
  refine lv_aload_n hx hb dL_law_177 rfl (lv_at hl 1 rfl) ?_
  refine lv_aload_n hx hb dL_law_178 rfl (lv_at hl 3 rfl) ?_
  refine lv_iload_n hx hb dL_law_179 rfl (lv_at hl 0 rfl) ?_
  refine lv_iconst (v := (1 : Int32)) hx hb dL_law_180 (by decide) ?_
  refine lv_iadd hx hb dL_law_181 ?_
  refine va_sld hx hb hX hbl hbA hS (pk_in (i + 1) L (by omega) (nI_add i 1)) dL_law_182 ?_
  refine go_R (st1 := [.int r, .int r]) (run_V (As := [.int (xs (Int32.toNatClampNeg (nI i + (1 : Int32))))]) (rest := [.int r]) X hS k2 okX12_append wd5_62 ⟨Nat.le_of_ble_eq_true rfl, Nat.le_of_ble_eq_true rfl⟩ ⟨rfl, rfl⟩ (va_recv hK (P_r hP) (ci := 11) (q0 := 0) rfl e1) (P_r hP) (D_r hD) (all_F hS hA (D_r hD)) rfl hl.1 rfl (Nat.le_of_ble_eq_true rfl) dL_law_183 ⟨Nat.le_of_ble_eq_true rfl, Nat.le_of_ble_eq_true rfl⟩) hS hA hP hD rfl (fun H locs hP hD hS => ?_)
  refine lv_icmp_eq (tgt := 888) hx hb dL_law_186 (by decide) (fun _ => ?_) (fun q => absurd rfl q)
  exact hk _ _ _ _ h1 hP hD hS
set_option maxHeartbeats 4000000 in
set_option maxRecDepth 100000 in
theorem law_1 (C : LC g p s m c b L xs aX aM i ls) (h : LI g aX aM wx wm) (hP : va_P g.1 vwCl (wx ++ wm) H) (hD : va_D (fun q : Nat => s.heap.size ≤ q) (wx ++ wm)) (hS : va_S (fun q : Nat => s.heap.size ≤ q) s.heap H locs)
    (hk : ∀ (wx' wm' : va_W) (H : Heap) (locs : List Loc), LI g aX aM wx' wm' → va_P g.1 vwCl (wx' ++ wm') H → va_D (fun q : Nat => s.heap.size ≤ q) (wx' ++ wm') → va_S (fun q : Nat => s.heap.size ≤ q) s.heap H locs → W p l e room_1 s m #[Value.ref b] below meth c H locs 57 8063 Q (F0 m 888 ls [])) : W p l e room_1 s m #[Value.ref b] below meth c H locs 57 8063 Q (F0 m 191 ls []) := by
  obtain ⟨X, hX, hbl, hi, hL, hl⟩ := C
  obtain ⟨⟨hx, hb, hml, hown, hts⟩, hE, hA⟩ := id X
  have hK := hE.1
  have hbA : ¬ (fun q : Nat => s.heap.size ≤ q) b := Nat.not_le.mpr hbl
  obtain ⟨fs0, e0⟩ := h.x0
  obtain ⟨fs1, e1⟩ := h.m0
  obtain ⟨r, wx1, wm1, k1, k2, h1⟩ := s_clearText g l h 
  refine lv_aload_n hx hb dL_law_191 rfl (lv_at hl 2 rfl) ?_
  refine go_L (st1 := [.int r]) (run_V (As := []) (rest := []) X hS k1 okX11_clearText wd2_35 ⟨Nat.le_of_ble_eq_true rfl, Nat.le_of_ble_eq_true rfl⟩ ⟨rfl, rfl⟩ (va_recv hK (P_l hP) (ci := 10) (q0 := 0) rfl e0) (P_l hP) (D_l hD) (all_F hS hA (D_l hD)) rfl hl.1 rfl (Nat.le_of_ble_eq_true rfl) dL_law_192 ⟨Nat.le_of_ble_eq_true rfl, Nat.le_of_ble_eq_true rfl⟩) hS hA hP hD rfl (fun H locs hP hD hS => ?_)
  refine lv_aload_n hx hb dL_law_195 rfl (lv_at hl 1 rfl) ?_
  refine go_R (st1 := [.int r, .int r]) (run_V (As := []) (rest := [.int r]) X hS k2 okX12_clearText wd5_70 ⟨Nat.le_of_ble_eq_true rfl, Nat.le_of_ble_eq_true rfl⟩ ⟨rfl, rfl⟩ (va_recv hK (P_r hP) (ci := 11) (q0 := 0) rfl e1) (P_r hP) (D_r hD) (all_F hS hA (D_r hD)) rfl hl.1 rfl (Nat.le_of_ble_eq_true rfl) dL_law_196 ⟨Nat.le_of_ble_eq_true rfl, Nat.le_of_ble_eq_true rfl⟩) hS hA hP hD rfl (fun H locs hP hD hS => ?_)
  refine lv_icmp_eq (tgt := 888) hx hb dL_law_199 (by decide) (fun _ => ?_) (fun q => absurd rfl q)
  exact hk _ _ _ _ h1 hP hD hS
set_option maxHeartbeats 4000000 in
set_option maxRecDepth 100000 in
theorem law_2 (C : LC g p s m c b L xs aX aM i ls) (h : LI g aX aM wx wm) (hP : va_P g.1 vwCl (wx ++ wm) H) (hD : va_D (fun q : Nat => s.heap.size ≤ q) (wx ++ wm)) (hS : va_S (fun q : Nat => s.heap.size ≤ q) s.heap H locs)
    (hk : ∀ (wx' wm' : va_W) (H : Heap) (locs : List Loc), LI g aX aM wx' wm' → va_P g.1 vwCl (wx' ++ wm') H → va_D (fun q : Nat => s.heap.size ≤ q) (wx' ++ wm') → va_S (fun q : Nat => s.heap.size ≤ q) s.heap H locs → W p l e room_1 s m #[Value.ref b] below meth c H locs 57 8063 Q (F0 m 888 ls [])) : W p l e room_1 s m #[Value.ref b] below meth c H locs 57 8063 Q (F0 m 204 ls []) := by
  obtain ⟨X, hX, hbl, hi, hL, hl⟩ := C
  obtain ⟨⟨hx, hb, hml, hown, hts⟩, hE, hA⟩ := id X
  have hK := hE.1
  have hbA : ¬ (fun q : Nat => s.heap.size ≤ q) b := Nat.not_le.mpr hbl
  obtain ⟨fs0, e0⟩ := h.x0
  obtain ⟨fs1, e1⟩ := h.m0
  obtain ⟨r, wx1, wm1, k1, k2, h1⟩ := s_errorPosition g l h 
  refine lv_aload_n hx hb dL_law_204 rfl (lv_at hl 2 rfl) ?_
  refine go_L (st1 := [.int r]) (run_V (As := []) (rest := []) X hS k1 okX11_errorPosition wd2_43 ⟨Nat.le_of_ble_eq_true rfl, Nat.le_of_ble_eq_true rfl⟩ ⟨rfl, rfl⟩ (va_recv hK (P_l hP) (ci := 10) (q0 := 0) rfl e0) (P_l hP) (D_l hD) (all_F hS hA (D_l hD)) rfl hl.1 rfl (Nat.le_of_ble_eq_true rfl) dL_law_205 ⟨Nat.le_of_ble_eq_true rfl, Nat.le_of_ble_eq_true rfl⟩) hS hA hP hD rfl (fun H locs hP hD hS => ?_)
  refine lv_aload_n hx hb dL_law_208 rfl (lv_at hl 1 rfl) ?_
  refine go_R (st1 := [.int r, .int r]) (run_V (As := []) (rest := [.int r]) X hS k2 okX12_errorPosition wd5_74 ⟨Nat.le_of_ble_eq_true rfl, Nat.le_of_ble_eq_true rfl⟩ ⟨rfl, rfl⟩ (va_recv hK (P_r hP) (ci := 11) (q0 := 0) rfl e1) (P_r hP) (D_r hD) (all_F hS hA (D_r hD)) rfl hl.1 rfl (Nat.le_of_ble_eq_true rfl) dL_law_209 ⟨Nat.le_of_ble_eq_true rfl, Nat.le_of_ble_eq_true rfl⟩) hS hA hP hD rfl (fun H locs hP hD hS => ?_)
  refine lv_icmp_eq (tgt := 888) hx hb dL_law_212 (by decide) (fun _ => ?_) (fun q => absurd rfl q)
  exact hk _ _ _ _ h1 hP hD hS
set_option maxHeartbeats 4000000 in
set_option maxRecDepth 100000 in
theorem law_3 (C : LC g p s m c b L xs aX aM i ls) (h : LI g aX aM wx wm) (hP : va_P g.1 vwCl (wx ++ wm) H) (hD : va_D (fun q : Nat => s.heap.size ≤ q) (wx ++ wm)) (hS : va_S (fun q : Nat => s.heap.size ≤ q) s.heap H locs)
    (hk : ∀ (wx' wm' : va_W) (H : Heap) (locs : List Loc), LI g aX aM wx' wm' → va_P g.1 vwCl (wx' ++ wm') H → va_D (fun q : Nat => s.heap.size ≤ q) (wx' ++ wm') → va_S (fun q : Nat => s.heap.size ≤ q) s.heap H locs → W p l e room_1 s m #[Value.ref b] below meth c H locs 57 8063 Q (F0 m 888 ls [])) : W p l e room_1 s m #[Value.ref b] below meth c H locs 57 8063 Q (F0 m 217 ls []) := by
  obtain ⟨X, hX, hbl, hi, hL, hl⟩ := C
  obtain ⟨⟨hx, hb, hml, hown, hts⟩, hE, hA⟩ := id X
  have hK := hE.1
  have hbA : ¬ (fun q : Nat => s.heap.size ≤ q) b := Nat.not_le.mpr hbl
  obtain ⟨fs0, e0⟩ := h.x0
  obtain ⟨fs1, e1⟩ := h.m0
  obtain ⟨r, wx1, wm1, k1, k2, h1⟩ := s_load g l h 
  refine lv_aload_n hx hb dL_law_217 rfl (lv_at hl 2 rfl) ?_
  refine go_L (st1 := [.int r]) (run_V (As := []) (rest := []) X hS k1 okX11_load wd2_156 ⟨Nat.le_of_ble_eq_true rfl, Nat.le_of_ble_eq_true rfl⟩ ⟨rfl, rfl⟩ (va_recv hK (P_l hP) (ci := 10) (q0 := 0) rfl e0) (P_l hP) (D_l hD) (all_F hS hA (D_l hD)) rfl hl.1 rfl (Nat.le_of_ble_eq_true rfl) dL_law_218 ⟨Nat.le_of_ble_eq_true rfl, Nat.le_of_ble_eq_true rfl⟩) hS hA hP hD rfl (fun H locs hP hD hS => ?_)
  refine lv_aload_n hx hb dL_law_221 rfl (lv_at hl 1 rfl) ?_
  refine go_R (st1 := [.int r, .int r]) (run_V (As := []) (rest := [.int r]) X hS k2 okX12_load wd5_98 ⟨Nat.le_of_ble_eq_true rfl, Nat.le_of_ble_eq_true rfl⟩ ⟨rfl, rfl⟩ (va_recv hK (P_r hP) (ci := 11) (q0 := 0) rfl e1) (P_r hP) (D_r hD) (all_F hS hA (D_r hD)) rfl hl.1 rfl (Nat.le_of_ble_eq_true rfl) dL_law_222 ⟨Nat.le_of_ble_eq_true rfl, Nat.le_of_ble_eq_true rfl⟩) hS hA hP hD rfl (fun H locs hP hD hS => ?_)
  refine lv_icmp_eq (tgt := 888) hx hb dL_law_225 (by decide) (fun _ => ?_) (fun q => absurd rfl q)
  exact hk _ _ _ _ h1 hP hD hS
set_option maxHeartbeats 4000000 in
set_option maxRecDepth 100000 in
theorem law_4 (C : LC g p s m c b L xs aX aM i ls) (h : LI g aX aM wx wm) (hP : va_P g.1 vwCl (wx ++ wm) H) (hD : va_D (fun q : Nat => s.heap.size ≤ q) (wx ++ wm)) (hS : va_S (fun q : Nat => s.heap.size ≤ q) s.heap H locs)
    (hk : ∀ (wx' wm' : va_W) (H : Heap) (locs : List Loc), LI g aX aM wx' wm' → va_P g.1 vwCl (wx' ++ wm') H → va_D (fun q : Nat => s.heap.size ≤ q) (wx' ++ wm') → va_S (fun q : Nat => s.heap.size ≤ q) s.heap H locs → W p l e room_1 s m #[Value.ref b] below meth c H locs 57 8063 Q (F0 m 888 ls [])) : W p l e room_1 s m #[Value.ref b] below meth c H locs 57 8063 Q (F0 m 230 ls []) := by
  obtain ⟨X, hX, hbl, hi, hL, hl⟩ := C
  obtain ⟨⟨hx, hb, hml, hown, hts⟩, hE, hA⟩ := id X
  have hK := hE.1
  have hbA : ¬ (fun q : Nat => s.heap.size ≤ q) b := Nat.not_le.mpr hbl
  obtain ⟨fs0, e0⟩ := h.x0
  obtain ⟨fs1, e1⟩ := h.m0
  obtain ⟨r, wx1, wm1, k1, k2, h1⟩ := s_sideLength g l h (xs (Int32.toNatClampNeg (nI i + (1 : Int32))))
  refine lv_aload_n hx hb dL_law_230 rfl (lv_at hl 2 rfl) ?_
  refine lv_aload_n hx hb dL_law_231 rfl (lv_at hl 3 rfl) ?_
  refine lv_iload_n hx hb dL_law_232 rfl (lv_at hl 0 rfl) ?_
  refine lv_iconst (v := (1 : Int32)) hx hb dL_law_233 (by decide) ?_
  refine lv_iadd hx hb dL_law_234 ?_
  refine va_sld hx hb hX hbl hbA hS (pk_in (i + 1) L (by omega) (nI_add i 1)) dL_law_235 ?_
  refine go_L (st1 := [.int r]) (run_V (As := [.int (xs (Int32.toNatClampNeg (nI i + (1 : Int32))))]) (rest := []) X hS k1 okX11_sideLength wd2_199 ⟨Nat.le_of_ble_eq_true rfl, Nat.le_of_ble_eq_true rfl⟩ ⟨rfl, rfl⟩ (va_recv hK (P_l hP) (ci := 10) (q0 := 0) rfl e0) (P_l hP) (D_l hD) (all_F hS hA (D_l hD)) rfl hl.1 rfl (Nat.le_of_ble_eq_true rfl) dL_law_236 ⟨Nat.le_of_ble_eq_true rfl, Nat.le_of_ble_eq_true rfl⟩) hS hA hP hD rfl (fun H locs hP hD hS => ?_)
  refine lv_aload_n hx hb dL_law_239 rfl (lv_at hl 1 rfl) ?_
  refine lv_aload_n hx hb dL_law_240 rfl (lv_at hl 3 rfl) ?_
  refine lv_iload_n hx hb dL_law_241 rfl (lv_at hl 0 rfl) ?_
  refine lv_iconst (v := (1 : Int32)) hx hb dL_law_242 (by decide) ?_
  refine lv_iadd hx hb dL_law_243 ?_
  refine va_sld hx hb hX hbl hbA hS (pk_in (i + 1) L (by omega) (nI_add i 1)) dL_law_244 ?_
  refine go_R (st1 := [.int r, .int r]) (run_V (As := [.int (xs (Int32.toNatClampNeg (nI i + (1 : Int32))))]) (rest := [.int r]) X hS k2 okX12_sideLength wd5_105 ⟨Nat.le_of_ble_eq_true rfl, Nat.le_of_ble_eq_true rfl⟩ ⟨rfl, rfl⟩ (va_recv hK (P_r hP) (ci := 11) (q0 := 0) rfl e1) (P_r hP) (D_r hD) (all_F hS hA (D_r hD)) rfl hl.1 rfl (Nat.le_of_ble_eq_true rfl) dL_law_245 ⟨Nat.le_of_ble_eq_true rfl, Nat.le_of_ble_eq_true rfl⟩) hS hA hP hD rfl (fun H locs hP hD hS => ?_)
  refine lv_icmp_eq (tgt := 888) hx hb dL_law_248 (by decide) (fun _ => ?_) (fun q => absurd rfl q)
  exact hk _ _ _ _ h1 hP hD hS
set_option maxHeartbeats 4000000 in
set_option maxRecDepth 100000 in
theorem law_5 (C : LC g p s m c b L xs aX aM i ls) (h : LI g aX aM wx wm) (hP : va_P g.1 vwCl (wx ++ wm) H) (hD : va_D (fun q : Nat => s.heap.size ≤ q) (wx ++ wm)) (hS : va_S (fun q : Nat => s.heap.size ≤ q) s.heap H locs)
    (hk : ∀ (wx' wm' : va_W) (H : Heap) (locs : List Loc), LI g aX aM wx' wm' → va_P g.1 vwCl (wx' ++ wm') H → va_D (fun q : Nat => s.heap.size ≤ q) (wx' ++ wm') → va_S (fun q : Nat => s.heap.size ≤ q) s.heap H locs → W p l e room_1 s m #[Value.ref b] below meth c H locs 57 8063 Q (F0 m 888 ls [])) : W p l e room_1 s m #[Value.ref b] below meth c H locs 57 8063 Q (F0 m 253 ls []) := by
  obtain ⟨X, hX, hbl, hi, hL, hl⟩ := C
  obtain ⟨⟨hx, hb, hml, hown, hts⟩, hE, hA⟩ := id X
  have hK := hE.1
  have hbA : ¬ (fun q : Nat => s.heap.size ≤ q) b := Nat.not_le.mpr hbl
  obtain ⟨fs0, e0⟩ := h.x0
  obtain ⟨fs1, e1⟩ := h.m0
  obtain ⟨r, wx1, wm1, k1, k2, h1⟩ := s_symbolAt g l h (xs (Int32.toNatClampNeg (nI i + (1 : Int32)))) (xs (Int32.toNatClampNeg (nI i + (2 : Int32))))
  refine lv_aload_n hx hb dL_law_253 rfl (lv_at hl 2 rfl) ?_
  refine lv_aload_n hx hb dL_law_254 rfl (lv_at hl 3 rfl) ?_
  refine lv_iload_n hx hb dL_law_255 rfl (lv_at hl 0 rfl) ?_
  refine lv_iconst (v := (1 : Int32)) hx hb dL_law_256 (by decide) ?_
  refine lv_iadd hx hb dL_law_257 ?_
  refine va_sld hx hb hX hbl hbA hS (pk_in (i + 1) L (by omega) (nI_add i 1)) dL_law_258 ?_
  refine lv_aload_n hx hb dL_law_259 rfl (lv_at hl 3 rfl) ?_
  refine lv_iload_n hx hb dL_law_260 rfl (lv_at hl 0 rfl) ?_
  refine lv_iconst (v := (2 : Int32)) hx hb dL_law_261 (by decide) ?_
  refine lv_iadd hx hb dL_law_262 ?_
  refine va_sld hx hb hX hbl hbA hS (pk_in (i + 2) L (by omega) (nI_add i 2)) dL_law_263 ?_
  refine go_L (st1 := [.int r]) (run_V (As := [.int (xs (Int32.toNatClampNeg (nI i + (1 : Int32)))), .int (xs (Int32.toNatClampNeg (nI i + (2 : Int32))))]) (rest := []) X hS k1 okX11_symbolAt wd2_213 ⟨Nat.le_of_ble_eq_true rfl, Nat.le_of_ble_eq_true rfl⟩ ⟨rfl, rfl⟩ (va_recv hK (P_l hP) (ci := 10) (q0 := 0) rfl e0) (P_l hP) (D_l hD) (all_F hS hA (D_l hD)) rfl hl.1 rfl (Nat.le_of_ble_eq_true rfl) dL_law_264 ⟨Nat.le_of_ble_eq_true rfl, Nat.le_of_ble_eq_true rfl⟩) hS hA hP hD rfl (fun H locs hP hD hS => ?_)
  refine lv_aload_n hx hb dL_law_267 rfl (lv_at hl 1 rfl) ?_
  refine lv_aload_n hx hb dL_law_268 rfl (lv_at hl 3 rfl) ?_
  refine lv_iload_n hx hb dL_law_269 rfl (lv_at hl 0 rfl) ?_
  refine lv_iconst (v := (1 : Int32)) hx hb dL_law_270 (by decide) ?_
  refine lv_iadd hx hb dL_law_271 ?_
  refine va_sld hx hb hX hbl hbA hS (pk_in (i + 1) L (by omega) (nI_add i 1)) dL_law_272 ?_
  refine lv_aload_n hx hb dL_law_273 rfl (lv_at hl 3 rfl) ?_
  refine lv_iload_n hx hb dL_law_274 rfl (lv_at hl 0 rfl) ?_
  refine lv_iconst (v := (2 : Int32)) hx hb dL_law_275 (by decide) ?_
  refine lv_iadd hx hb dL_law_276 ?_
  refine va_sld hx hb hX hbl hbA hS (pk_in (i + 2) L (by omega) (nI_add i 2)) dL_law_277 ?_
  refine go_R (st1 := [.int r, .int r]) (run_V (As := [.int (xs (Int32.toNatClampNeg (nI i + (1 : Int32)))), .int (xs (Int32.toNatClampNeg (nI i + (2 : Int32))))]) (rest := [.int r]) X hS k2 okX12_symbolAt wd5_109 ⟨Nat.le_of_ble_eq_true rfl, Nat.le_of_ble_eq_true rfl⟩ ⟨rfl, rfl⟩ (va_recv hK (P_r hP) (ci := 11) (q0 := 0) rfl e1) (P_r hP) (D_r hD) (all_F hS hA (D_r hD)) rfl hl.1 rfl (Nat.le_of_ble_eq_true rfl) dL_law_278 ⟨Nat.le_of_ble_eq_true rfl, Nat.le_of_ble_eq_true rfl⟩) hS hA hP hD rfl (fun H locs hP hD hS => ?_)
  refine lv_icmp_eq (tgt := 888) hx hb dL_law_281 (by decide) (fun _ => ?_) (fun q => absurd rfl q)
  exact hk _ _ _ _ h1 hP hD hS
set_option maxHeartbeats 4000000 in
set_option maxRecDepth 100000 in
theorem law_6 (C : LC g p s m c b L xs aX aM i ls) (h : LI g aX aM wx wm) (hP : va_P g.1 vwCl (wx ++ wm) H) (hD : va_D (fun q : Nat => s.heap.size ≤ q) (wx ++ wm)) (hS : va_S (fun q : Nat => s.heap.size ≤ q) s.heap H locs)
    (hk : ∀ (wx' wm' : va_W) (H : Heap) (locs : List Loc), LI g aX aM wx' wm' → va_P g.1 vwCl (wx' ++ wm') H → va_D (fun q : Nat => s.heap.size ≤ q) (wx' ++ wm') → va_S (fun q : Nat => s.heap.size ≤ q) s.heap H locs → W p l e room_1 s m #[Value.ref b] below meth c H locs 57 8063 Q (F0 m 888 ls [])) : W p l e room_1 s m #[Value.ref b] below meth c H locs 57 8063 Q (F0 m 286 ls []) := by
  obtain ⟨X, hX, hbl, hi, hL, hl⟩ := C
  obtain ⟨⟨hx, hb, hml, hown, hts⟩, hE, hA⟩ := id X
  have hK := hE.1
  have hbA : ¬ (fun q : Nat => s.heap.size ≤ q) b := Nat.not_le.mpr hbl
  obtain ⟨fs0, e0⟩ := h.x0
  obtain ⟨fs1, e1⟩ := h.m0
  obtain ⟨r, wx1, wm1, k1, k2, h1⟩ := s_occurrences g l h (xs (Int32.toNatClampNeg (nI i + (1 : Int32)))) (xs (Int32.toNatClampNeg (nI i + (2 : Int32))))
  refine lv_aload_n hx hb dL_law_286 rfl (lv_at hl 2 rfl) ?_
  refine lv_aload_n hx hb dL_law_287 rfl (lv_at hl 3 rfl) ?_
  refine lv_iload_n hx hb dL_law_288 rfl (lv_at hl 0 rfl) ?_
  refine lv_iconst (v := (1 : Int32)) hx hb dL_law_289 (by decide) ?_
  refine lv_iadd hx hb dL_law_290 ?_
  refine va_sld hx hb hX hbl hbA hS (pk_in (i + 1) L (by omega) (nI_add i 1)) dL_law_291 ?_
  refine lv_aload_n hx hb dL_law_292 rfl (lv_at hl 3 rfl) ?_
  refine lv_iload_n hx hb dL_law_293 rfl (lv_at hl 0 rfl) ?_
  refine lv_iconst (v := (2 : Int32)) hx hb dL_law_294 (by decide) ?_
  refine lv_iadd hx hb dL_law_295 ?_
  refine va_sld hx hb hX hbl hbA hS (pk_in (i + 2) L (by omega) (nI_add i 2)) dL_law_296 ?_
  refine go_L (st1 := [.int r]) (run_V (As := [.int (xs (Int32.toNatClampNeg (nI i + (1 : Int32)))), .int (xs (Int32.toNatClampNeg (nI i + (2 : Int32))))]) (rest := []) X hS k1 okX11_occurrences wd3_4 ⟨Nat.le_of_ble_eq_true rfl, Nat.le_of_ble_eq_true rfl⟩ ⟨rfl, rfl⟩ (va_recv hK (P_l hP) (ci := 10) (q0 := 0) rfl e0) (P_l hP) (D_l hD) (all_F hS hA (D_l hD)) rfl hl.1 rfl (Nat.le_of_ble_eq_true rfl) dL_law_297 ⟨Nat.le_of_ble_eq_true rfl, Nat.le_of_ble_eq_true rfl⟩) hS hA hP hD rfl (fun H locs hP hD hS => ?_)
  refine lv_aload_n hx hb dL_law_300 rfl (lv_at hl 1 rfl) ?_
  refine lv_aload_n hx hb dL_law_301 rfl (lv_at hl 3 rfl) ?_
  refine lv_iload_n hx hb dL_law_302 rfl (lv_at hl 0 rfl) ?_
  refine lv_iconst (v := (1 : Int32)) hx hb dL_law_303 (by decide) ?_
  refine lv_iadd hx hb dL_law_304 ?_
  refine va_sld hx hb hX hbl hbA hS (pk_in (i + 1) L (by omega) (nI_add i 1)) dL_law_305 ?_
  refine lv_aload_n hx hb dL_law_306 rfl (lv_at hl 3 rfl) ?_
  refine lv_iload_n hx hb dL_law_307 rfl (lv_at hl 0 rfl) ?_
  refine lv_iconst (v := (2 : Int32)) hx hb dL_law_308 (by decide) ?_
  refine lv_iadd hx hb dL_law_309 ?_
  refine va_sld hx hb hX hbl hbA hS (pk_in (i + 2) L (by omega) (nI_add i 2)) dL_law_310 ?_
  refine go_R (st1 := [.int r, .int r]) (run_V (As := [.int (xs (Int32.toNatClampNeg (nI i + (1 : Int32)))), .int (xs (Int32.toNatClampNeg (nI i + (2 : Int32))))]) (rest := [.int r]) X hS k2 okX12_occurrences wd5_116 ⟨Nat.le_of_ble_eq_true rfl, Nat.le_of_ble_eq_true rfl⟩ ⟨rfl, rfl⟩ (va_recv hK (P_r hP) (ci := 11) (q0 := 0) rfl e1) (P_r hP) (D_r hD) (all_F hS hA (D_r hD)) rfl hl.1 rfl (Nat.le_of_ble_eq_true rfl) dL_law_311 ⟨Nat.le_of_ble_eq_true rfl, Nat.le_of_ble_eq_true rfl⟩) hS hA hP hD rfl (fun H locs hP hD hS => ?_)
  refine lv_icmp_eq (tgt := 888) hx hb dL_law_314 (by decide) (fun _ => ?_) (fun q => absurd rfl q)
  exact hk _ _ _ _ h1 hP hD hS
set_option maxHeartbeats 4000000 in
set_option maxRecDepth 100000 in
theorem law_7 (C : LC g p s m c b L xs aX aM i ls) (h : LI g aX aM wx wm) (hP : va_P g.1 vwCl (wx ++ wm) H) (hD : va_D (fun q : Nat => s.heap.size ≤ q) (wx ++ wm)) (hS : va_S (fun q : Nat => s.heap.size ≤ q) s.heap H locs)
    (hk : ∀ (wx' wm' : va_W) (H : Heap) (locs : List Loc), LI g aX aM wx' wm' → va_P g.1 vwCl (wx' ++ wm') H → va_D (fun q : Nat => s.heap.size ≤ q) (wx' ++ wm') → va_S (fun q : Nat => s.heap.size ≤ q) s.heap H locs → W p l e room_1 s m #[Value.ref b] below meth c H locs 57 8063 Q (F0 m 888 ls [])) : W p l e room_1 s m #[Value.ref b] below meth c H locs 57 8063 Q (F0 m 319 ls []) := by
  obtain ⟨X, hX, hbl, hi, hL, hl⟩ := C
  obtain ⟨⟨hx, hb, hml, hown, hts⟩, hE, hA⟩ := id X
  have hK := hE.1
  have hbA : ¬ (fun q : Nat => s.heap.size ≤ q) b := Nat.not_le.mpr hbl
  obtain ⟨fs0, e0⟩ := h.x0
  obtain ⟨fs1, e1⟩ := h.m0
  obtain ⟨r, wx1, wm1, k1, k2, h1⟩ := s_swapSides g l h 
  refine lv_aload_n hx hb dL_law_319 rfl (lv_at hl 2 rfl) ?_
  refine go_L (st1 := [.int r]) (run_V (As := []) (rest := []) X hS k1 okX11_swapSides wd3_18 ⟨Nat.le_of_ble_eq_true rfl, Nat.le_of_ble_eq_true rfl⟩ ⟨rfl, rfl⟩ (va_recv hK (P_l hP) (ci := 10) (q0 := 0) rfl e0) (P_l hP) (D_l hD) (all_F hS hA (D_l hD)) rfl hl.1 rfl (Nat.le_of_ble_eq_true rfl) dL_law_320 ⟨Nat.le_of_ble_eq_true rfl, Nat.le_of_ble_eq_true rfl⟩) hS hA hP hD rfl (fun H locs hP hD hS => ?_)
  refine lv_aload_n hx hb dL_law_323 rfl (lv_at hl 1 rfl) ?_
  refine go_R (st1 := [.int r, .int r]) (run_V (As := []) (rest := [.int r]) X hS k2 okX12_swapSides wd5_127 ⟨Nat.le_of_ble_eq_true rfl, Nat.le_of_ble_eq_true rfl⟩ ⟨rfl, rfl⟩ (va_recv hK (P_r hP) (ci := 11) (q0 := 0) rfl e1) (P_r hP) (D_r hD) (all_F hS hA (D_r hD)) rfl hl.1 rfl (Nat.le_of_ble_eq_true rfl) dL_law_324 ⟨Nat.le_of_ble_eq_true rfl, Nat.le_of_ble_eq_true rfl⟩) hS hA hP hD rfl (fun H locs hP hD hS => ?_)
  refine lv_icmp_eq (tgt := 888) hx hb dL_law_327 (by decide) (fun _ => ?_) (fun q => absurd rfl q)
  exact hk _ _ _ _ h1 hP hD hS
set_option maxHeartbeats 4000000 in
set_option maxRecDepth 100000 in
theorem law_8 (C : LC g p s m c b L xs aX aM i ls) (h : LI g aX aM wx wm) (hP : va_P g.1 vwCl (wx ++ wm) H) (hD : va_D (fun q : Nat => s.heap.size ≤ q) (wx ++ wm)) (hS : va_S (fun q : Nat => s.heap.size ≤ q) s.heap H locs)
    (hk : ∀ (wx' wm' : va_W) (H : Heap) (locs : List Loc), LI g aX aM wx' wm' → va_P g.1 vwCl (wx' ++ wm') H → va_D (fun q : Nat => s.heap.size ≤ q) (wx' ++ wm') → va_S (fun q : Nat => s.heap.size ≤ q) s.heap H locs → W p l e room_1 s m #[Value.ref b] below meth c H locs 57 8063 Q (F0 m 888 ls [])) : W p l e room_1 s m #[Value.ref b] below meth c H locs 57 8063 Q (F0 m 332 ls []) := by
  obtain ⟨X, hX, hbl, hi, hL, hl⟩ := C
  obtain ⟨⟨hx, hb, hml, hown, hts⟩, hE, hA⟩ := id X
  have hK := hE.1
  have hbA : ¬ (fun q : Nat => s.heap.size ≤ q) b := Nat.not_le.mpr hbl
  obtain ⟨fs0, e0⟩ := h.x0
  obtain ⟨fs1, e1⟩ := h.m0
  obtain ⟨r, wx1, wm1, k1, k2, h1⟩ := s_reverse g l h 
  refine lv_aload_n hx hb dL_law_332 rfl (lv_at hl 2 rfl) ?_
  refine go_L (st1 := [.int r]) (run_V (As := []) (rest := []) X hS k1 okX11_reverse wd3_35 ⟨Nat.le_of_ble_eq_true rfl, Nat.le_of_ble_eq_true rfl⟩ ⟨rfl, rfl⟩ (va_recv hK (P_l hP) (ci := 10) (q0 := 0) rfl e0) (P_l hP) (D_l hD) (all_F hS hA (D_l hD)) rfl hl.1 rfl (Nat.le_of_ble_eq_true rfl) dL_law_333 ⟨Nat.le_of_ble_eq_true rfl, Nat.le_of_ble_eq_true rfl⟩) hS hA hP hD rfl (fun H locs hP hD hS => ?_)
  refine lv_aload_n hx hb dL_law_336 rfl (lv_at hl 1 rfl) ?_
  refine go_R (st1 := [.int r, .int r]) (run_V (As := []) (rest := [.int r]) X hS k2 okX12_reverse wd5_138 ⟨Nat.le_of_ble_eq_true rfl, Nat.le_of_ble_eq_true rfl⟩ ⟨rfl, rfl⟩ (va_recv hK (P_r hP) (ci := 11) (q0 := 0) rfl e1) (P_r hP) (D_r hD) (all_F hS hA (D_r hD)) rfl hl.1 rfl (Nat.le_of_ble_eq_true rfl) dL_law_337 ⟨Nat.le_of_ble_eq_true rfl, Nat.le_of_ble_eq_true rfl⟩) hS hA hP hD rfl (fun H locs hP hD hS => ?_)
  refine lv_icmp_eq (tgt := 888) hx hb dL_law_340 (by decide) (fun _ => ?_) (fun q => absurd rfl q)
  exact hk _ _ _ _ h1 hP hD hS
set_option maxHeartbeats 4000000 in
set_option maxRecDepth 100000 in
theorem law_9 (C : LC g p s m c b L xs aX aM i ls) (h : LI g aX aM wx wm) (hP : va_P g.1 vwCl (wx ++ wm) H) (hD : va_D (fun q : Nat => s.heap.size ≤ q) (wx ++ wm)) (hS : va_S (fun q : Nat => s.heap.size ≤ q) s.heap H locs)
    (hk : ∀ (wx' wm' : va_W) (H : Heap) (locs : List Loc), LI g aX aM wx' wm' → va_P g.1 vwCl (wx' ++ wm') H → va_D (fun q : Nat => s.heap.size ≤ q) (wx' ++ wm') → va_S (fun q : Nat => s.heap.size ≤ q) s.heap H locs → W p l e room_1 s m #[Value.ref b] below meth c H locs 57 8063 Q (F0 m 888 ls [])) : W p l e room_1 s m #[Value.ref b] below meth c H locs 57 8063 Q (F0 m 345 ls []) := by
  obtain ⟨X, hX, hbl, hi, hL, hl⟩ := C
  obtain ⟨⟨hx, hb, hml, hown, hts⟩, hE, hA⟩ := id X
  have hK := hE.1
  have hbA : ¬ (fun q : Nat => s.heap.size ≤ q) b := Nat.not_le.mpr hbl
  obtain ⟨fs0, e0⟩ := h.x0
  obtain ⟨fs1, e1⟩ := h.m0
  obtain ⟨r, wx1, wm1, k1, k2, h1⟩ := s_cancel g l h 
  refine lv_aload_n hx hb dL_law_345 rfl (lv_at hl 2 rfl) ?_
  refine go_L (st1 := [.int r]) (run_V (As := []) (rest := []) X hS k1 okX11_cancel wd3_53 ⟨Nat.le_of_ble_eq_true rfl, Nat.le_of_ble_eq_true rfl⟩ ⟨rfl, rfl⟩ (va_recv hK (P_l hP) (ci := 10) (q0 := 0) rfl e0) (P_l hP) (D_l hD) (all_F hS hA (D_l hD)) rfl hl.1 rfl (Nat.le_of_ble_eq_true rfl) dL_law_346 ⟨Nat.le_of_ble_eq_true rfl, Nat.le_of_ble_eq_true rfl⟩) hS hA hP hD rfl (fun H locs hP hD hS => ?_)
  refine lv_aload_n hx hb dL_law_349 rfl (lv_at hl 1 rfl) ?_
  refine go_R (st1 := [.int r, .int r]) (run_V (As := []) (rest := [.int r]) X hS k2 okX12_cancel wd5_145 ⟨Nat.le_of_ble_eq_true rfl, Nat.le_of_ble_eq_true rfl⟩ ⟨rfl, rfl⟩ (va_recv hK (P_r hP) (ci := 11) (q0 := 0) rfl e1) (P_r hP) (D_r hD) (all_F hS hA (D_r hD)) rfl hl.1 rfl (Nat.le_of_ble_eq_true rfl) dL_law_350 ⟨Nat.le_of_ble_eq_true rfl, Nat.le_of_ble_eq_true rfl⟩) hS hA hP hD rfl (fun H locs hP hD hS => ?_)
  refine lv_icmp_eq (tgt := 888) hx hb dL_law_353 (by decide) (fun _ => ?_) (fun q => absurd rfl q)
  exact hk _ _ _ _ h1 hP hD hS
set_option maxHeartbeats 4000000 in
set_option maxRecDepth 100000 in
theorem law_10 (C : LC g p s m c b L xs aX aM i ls) (h : LI g aX aM wx wm) (hP : va_P g.1 vwCl (wx ++ wm) H) (hD : va_D (fun q : Nat => s.heap.size ≤ q) (wx ++ wm)) (hS : va_S (fun q : Nat => s.heap.size ≤ q) s.heap H locs)
    (hk : ∀ (wx' wm' : va_W) (H : Heap) (locs : List Loc), LI g aX aM wx' wm' → va_P g.1 vwCl (wx' ++ wm') H → va_D (fun q : Nat => s.heap.size ≤ q) (wx' ++ wm') → va_S (fun q : Nat => s.heap.size ≤ q) s.heap H locs → W p l e room_1 s m #[Value.ref b] below meth c H locs 57 8063 Q (F0 m 888 ls [])) : W p l e room_1 s m #[Value.ref b] below meth c H locs 57 8063 Q (F0 m 358 ls []) := by
  obtain ⟨X, hX, hbl, hi, hL, hl⟩ := C
  obtain ⟨⟨hx, hb, hml, hown, hts⟩, hE, hA⟩ := id X
  have hK := hE.1
  have hbA : ¬ (fun q : Nat => s.heap.size ≤ q) b := Nat.not_le.mpr hbl
  obtain ⟨fs0, e0⟩ := h.x0
  obtain ⟨fs1, e1⟩ := h.m0
  obtain ⟨r, wx1, wm1, k1, k2, h1⟩ := s_exchangeLetters g l h 
  refine lv_aload_n hx hb dL_law_358 rfl (lv_at hl 2 rfl) ?_
  refine go_L (st1 := [.int r]) (run_V (As := []) (rest := []) X hS k1 okX11_exchangeLetters wd3_72 ⟨Nat.le_of_ble_eq_true rfl, Nat.le_of_ble_eq_true rfl⟩ ⟨rfl, rfl⟩ (va_recv hK (P_l hP) (ci := 10) (q0 := 0) rfl e0) (P_l hP) (D_l hD) (all_F hS hA (D_l hD)) rfl hl.1 rfl (Nat.le_of_ble_eq_true rfl) dL_law_359 ⟨Nat.le_of_ble_eq_true rfl, Nat.le_of_ble_eq_true rfl⟩) hS hA hP hD rfl (fun H locs hP hD hS => ?_)
  refine lv_aload_n hx hb dL_law_362 rfl (lv_at hl 1 rfl) ?_
  refine go_R (st1 := [.int r, .int r]) (run_V (As := []) (rest := [.int r]) X hS k2 okX12_exchangeLetters wd5_155 ⟨Nat.le_of_ble_eq_true rfl, Nat.le_of_ble_eq_true rfl⟩ ⟨rfl, rfl⟩ (va_recv hK (P_r hP) (ci := 11) (q0 := 0) rfl e1) (P_r hP) (D_r hD) (all_F hS hA (D_r hD)) rfl hl.1 rfl (Nat.le_of_ble_eq_true rfl) dL_law_363 ⟨Nat.le_of_ble_eq_true rfl, Nat.le_of_ble_eq_true rfl⟩) hS hA hP hD rfl (fun H locs hP hD hS => ?_)
  refine lv_icmp_eq (tgt := 888) hx hb dL_law_366 (by decide) (fun _ => ?_) (fun q => absurd rfl q)
  exact hk _ _ _ _ h1 hP hD hS
set_option maxHeartbeats 4000000 in
set_option maxRecDepth 100000 in
theorem law_11 (C : LC g p s m c b L xs aX aM i ls) (h : LI g aX aM wx wm) (hP : va_P g.1 vwCl (wx ++ wm) H) (hD : va_D (fun q : Nat => s.heap.size ≤ q) (wx ++ wm)) (hS : va_S (fun q : Nat => s.heap.size ≤ q) s.heap H locs)
    (hk : ∀ (wx' wm' : va_W) (H : Heap) (locs : List Loc), LI g aX aM wx' wm' → va_P g.1 vwCl (wx' ++ wm') H → va_D (fun q : Nat => s.heap.size ≤ q) (wx' ++ wm') → va_S (fun q : Nat => s.heap.size ≤ q) s.heap H locs → W p l e room_1 s m #[Value.ref b] below meth c H locs 57 8063 Q (F0 m 888 ls [])) : W p l e room_1 s m #[Value.ref b] below meth c H locs 57 8063 Q (F0 m 371 ls []) := by
  obtain ⟨X, hX, hbl, hi, hL, hl⟩ := C
  obtain ⟨⟨hx, hb, hml, hown, hts⟩, hE, hA⟩ := id X
  have hK := hE.1
  have hbA : ¬ (fun q : Nat => s.heap.size ≤ q) b := Nat.not_le.mpr hbl
  obtain ⟨fs0, e0⟩ := h.x0
  obtain ⟨fs1, e1⟩ := h.m0
  obtain ⟨r, wx1, wm1, k1, k2, h1⟩ := s_eliminate g l h (xs (Int32.toNatClampNeg (nI i + (1 : Int32))))
  refine lv_aload_n hx hb dL_law_371 rfl (lv_at hl 2 rfl) ?_
  refine lv_aload_n hx hb dL_law_372 rfl (lv_at hl 3 rfl) ?_
  refine lv_iload_n hx hb dL_law_373 rfl (lv_at hl 0 rfl) ?_
  refine lv_iconst (v := (1 : Int32)) hx hb dL_law_374 (by decide) ?_
  refine lv_iadd hx hb dL_law_375 ?_
  refine va_sld hx hb hX hbl hbA hS (pk_in (i + 1) L (by omega) (nI_add i 1)) dL_law_376 ?_
  refine go_L (st1 := [.int r]) (run_V (As := [.int (xs (Int32.toNatClampNeg (nI i + (1 : Int32))))]) (rest := []) X hS k1 okX11_eliminate wd3_89 ⟨Nat.le_of_ble_eq_true rfl, Nat.le_of_ble_eq_true rfl⟩ ⟨rfl, rfl⟩ (va_recv hK (P_l hP) (ci := 10) (q0 := 0) rfl e0) (P_l hP) (D_l hD) (all_F hS hA (D_l hD)) rfl hl.1 rfl (Nat.le_of_ble_eq_true rfl) dL_law_377 ⟨Nat.le_of_ble_eq_true rfl, Nat.le_of_ble_eq_true rfl⟩) hS hA hP hD rfl (fun H locs hP hD hS => ?_)
  refine lv_aload_n hx hb dL_law_380 rfl (lv_at hl 1 rfl) ?_
  refine lv_aload_n hx hb dL_law_381 rfl (lv_at hl 3 rfl) ?_
  refine lv_iload_n hx hb dL_law_382 rfl (lv_at hl 0 rfl) ?_
  refine lv_iconst (v := (1 : Int32)) hx hb dL_law_383 (by decide) ?_
  refine lv_iadd hx hb dL_law_384 ?_
  refine va_sld hx hb hX hbl hbA hS (pk_in (i + 1) L (by omega) (nI_add i 1)) dL_law_385 ?_
  refine go_R (st1 := [.int r, .int r]) (run_V (As := [.int (xs (Int32.toNatClampNeg (nI i + (1 : Int32))))]) (rest := [.int r]) X hS k2 okX12_eliminate wd5_159 ⟨Nat.le_of_ble_eq_true rfl, Nat.le_of_ble_eq_true rfl⟩ ⟨rfl, rfl⟩ (va_recv hK (P_r hP) (ci := 11) (q0 := 0) rfl e1) (P_r hP) (D_r hD) (all_F hS hA (D_r hD)) rfl hl.1 rfl (Nat.le_of_ble_eq_true rfl) dL_law_386 ⟨Nat.le_of_ble_eq_true rfl, Nat.le_of_ble_eq_true rfl⟩) hS hA hP hD rfl (fun H locs hP hD hS => ?_)
  refine lv_icmp_eq (tgt := 888) hx hb dL_law_389 (by decide) (fun _ => ?_) (fun q => absurd rfl q)
  exact hk _ _ _ _ h1 hP hD hS
set_option maxHeartbeats 4000000 in
set_option maxRecDepth 100000 in
theorem law_12 (C : LC g p s m c b L xs aX aM i ls) (h : LI g aX aM wx wm) (hP : va_P g.1 vwCl (wx ++ wm) H) (hD : va_D (fun q : Nat => s.heap.size ≤ q) (wx ++ wm)) (hS : va_S (fun q : Nat => s.heap.size ≤ q) s.heap H locs)
    (hk : ∀ (wx' wm' : va_W) (H : Heap) (locs : List Loc), LI g aX aM wx' wm' → va_P g.1 vwCl (wx' ++ wm') H → va_D (fun q : Nat => s.heap.size ≤ q) (wx' ++ wm') → va_S (fun q : Nat => s.heap.size ≤ q) s.heap H locs → W p l e room_1 s m #[Value.ref b] below meth c H locs 57 8063 Q (F0 m 888 ls [])) : W p l e room_1 s m #[Value.ref b] below meth c H locs 57 8063 Q (F0 m 394 ls []) := by
  obtain ⟨X, hX, hbl, hi, hL, hl⟩ := C
  obtain ⟨⟨hx, hb, hml, hown, hts⟩, hE, hA⟩ := id X
  have hK := hE.1
  have hbA : ¬ (fun q : Nat => s.heap.size ≤ q) b := Nat.not_le.mpr hbl
  obtain ⟨fs0, e0⟩ := h.x0
  obtain ⟨fs1, e1⟩ := h.m0
  obtain ⟨r, wx1, wm1, k1, k2, h1⟩ := s_substitute g l h (xs (Int32.toNatClampNeg (nI i + (1 : Int32))))
  refine lv_aload_n hx hb dL_law_394 rfl (lv_at hl 2 rfl) ?_
  refine lv_aload_n hx hb dL_law_395 rfl (lv_at hl 3 rfl) ?_
  refine lv_iload_n hx hb dL_law_396 rfl (lv_at hl 0 rfl) ?_
  refine lv_iconst (v := (1 : Int32)) hx hb dL_law_397 (by decide) ?_
  refine lv_iadd hx hb dL_law_398 ?_
  refine va_sld hx hb hX hbl hbA hS (pk_in (i + 1) L (by omega) (nI_add i 1)) dL_law_399 ?_
  refine go_L (st1 := [.int r]) (run_V (As := [.int (xs (Int32.toNatClampNeg (nI i + (1 : Int32))))]) (rest := []) X hS k1 okX11_substitute wd3_101 ⟨Nat.le_of_ble_eq_true rfl, Nat.le_of_ble_eq_true rfl⟩ ⟨rfl, rfl⟩ (va_recv hK (P_l hP) (ci := 10) (q0 := 0) rfl e0) (P_l hP) (D_l hD) (all_F hS hA (D_l hD)) rfl hl.1 rfl (Nat.le_of_ble_eq_true rfl) dL_law_400 ⟨Nat.le_of_ble_eq_true rfl, Nat.le_of_ble_eq_true rfl⟩) hS hA hP hD rfl (fun H locs hP hD hS => ?_)
  refine lv_aload_n hx hb dL_law_403 rfl (lv_at hl 1 rfl) ?_
  refine lv_aload_n hx hb dL_law_404 rfl (lv_at hl 3 rfl) ?_
  refine lv_iload_n hx hb dL_law_405 rfl (lv_at hl 0 rfl) ?_
  refine lv_iconst (v := (1 : Int32)) hx hb dL_law_406 (by decide) ?_
  refine lv_iadd hx hb dL_law_407 ?_
  refine va_sld hx hb hX hbl hbA hS (pk_in (i + 1) L (by omega) (nI_add i 1)) dL_law_408 ?_
  refine go_R (st1 := [.int r, .int r]) (run_V (As := [.int (xs (Int32.toNatClampNeg (nI i + (1 : Int32))))]) (rest := [.int r]) X hS k2 okX12_substitute wd5_166 ⟨Nat.le_of_ble_eq_true rfl, Nat.le_of_ble_eq_true rfl⟩ ⟨rfl, rfl⟩ (va_recv hK (P_r hP) (ci := 11) (q0 := 0) rfl e1) (P_r hP) (D_r hD) (all_F hS hA (D_r hD)) rfl hl.1 rfl (Nat.le_of_ble_eq_true rfl) dL_law_409 ⟨Nat.le_of_ble_eq_true rfl, Nat.le_of_ble_eq_true rfl⟩) hS hA hP hD rfl (fun H locs hP hD hS => ?_)
  refine lv_icmp_eq (tgt := 888) hx hb dL_law_412 (by decide) (fun _ => ?_) (fun q => absurd rfl q)
  exact hk _ _ _ _ h1 hP hD hS
set_option maxHeartbeats 4000000 in
set_option maxRecDepth 100000 in
theorem law_13 (C : LC g p s m c b L xs aX aM i ls) (h : LI g aX aM wx wm) (hP : va_P g.1 vwCl (wx ++ wm) H) (hD : va_D (fun q : Nat => s.heap.size ≤ q) (wx ++ wm)) (hS : va_S (fun q : Nat => s.heap.size ≤ q) s.heap H locs)
    (hk : ∀ (wx' wm' : va_W) (H : Heap) (locs : List Loc), LI g aX aM wx' wm' → va_P g.1 vwCl (wx' ++ wm') H → va_D (fun q : Nat => s.heap.size ≤ q) (wx' ++ wm') → va_S (fun q : Nat => s.heap.size ≤ q) s.heap H locs → W p l e room_1 s m #[Value.ref b] below meth c H locs 57 8063 Q (F0 m 888 ls [])) : W p l e room_1 s m #[Value.ref b] below meth c H locs 57 8063 Q (F0 m 417 ls []) := by
  obtain ⟨X, hX, hbl, hi, hL, hl⟩ := C
  obtain ⟨⟨hx, hb, hml, hown, hts⟩, hE, hA⟩ := id X
  have hK := hE.1
  have hbA : ¬ (fun q : Nat => s.heap.size ≤ q) b := Nat.not_le.mpr hbl
  obtain ⟨fs0, e0⟩ := h.x0
  obtain ⟨fs1, e1⟩ := h.m0
  obtain ⟨r, wx1, wm1, k1, k2, h1⟩ := s_undo g l h 
  refine lv_aload_n hx hb dL_law_417 rfl (lv_at hl 2 rfl) ?_
  refine go_L (st1 := [.int r]) (run_V (As := []) (rest := []) X hS k1 okX11_undo wd3_119 ⟨Nat.le_of_ble_eq_true rfl, Nat.le_of_ble_eq_true rfl⟩ ⟨rfl, rfl⟩ (va_recv hK (P_l hP) (ci := 10) (q0 := 0) rfl e0) (P_l hP) (D_l hD) (all_F hS hA (D_l hD)) rfl hl.1 rfl (Nat.le_of_ble_eq_true rfl) dL_law_418 ⟨Nat.le_of_ble_eq_true rfl, Nat.le_of_ble_eq_true rfl⟩) hS hA hP hD rfl (fun H locs hP hD hS => ?_)
  refine lv_aload_n hx hb dL_law_421 rfl (lv_at hl 1 rfl) ?_
  refine go_R (st1 := [.int r, .int r]) (run_V (As := []) (rest := [.int r]) X hS k2 okX12_undo wd5_170 ⟨Nat.le_of_ble_eq_true rfl, Nat.le_of_ble_eq_true rfl⟩ ⟨rfl, rfl⟩ (va_recv hK (P_r hP) (ci := 11) (q0 := 0) rfl e1) (P_r hP) (D_r hD) (all_F hS hA (D_r hD)) rfl hl.1 rfl (Nat.le_of_ble_eq_true rfl) dL_law_422 ⟨Nat.le_of_ble_eq_true rfl, Nat.le_of_ble_eq_true rfl⟩) hS hA hP hD rfl (fun H locs hP hD hS => ?_)
  refine lv_icmp_eq (tgt := 888) hx hb dL_law_425 (by decide) (fun _ => ?_) (fun q => absurd rfl q)
  exact hk _ _ _ _ h1 hP hD hS
set_option maxHeartbeats 4000000 in
set_option maxRecDepth 100000 in
theorem law_14 (C : LC g p s m c b L xs aX aM i ls) (h : LI g aX aM wx wm) (hP : va_P g.1 vwCl (wx ++ wm) H) (hD : va_D (fun q : Nat => s.heap.size ≤ q) (wx ++ wm)) (hS : va_S (fun q : Nat => s.heap.size ≤ q) s.heap H locs)
    (hk : ∀ (wx' wm' : va_W) (H : Heap) (locs : List Loc), LI g aX aM wx' wm' → va_P g.1 vwCl (wx' ++ wm') H → va_D (fun q : Nat => s.heap.size ≤ q) (wx' ++ wm') → va_S (fun q : Nat => s.heap.size ≤ q) s.heap H locs → W p l e room_1 s m #[Value.ref b] below meth c H locs 57 8063 Q (F0 m 888 ls [])) : W p l e room_1 s m #[Value.ref b] below meth c H locs 57 8063 Q (F0 m 430 ls []) := by
  obtain ⟨X, hX, hbl, hi, hL, hl⟩ := C
  obtain ⟨⟨hx, hb, hml, hown, hts⟩, hE, hA⟩ := id X
  have hK := hE.1
  have hbA : ¬ (fun q : Nat => s.heap.size ≤ q) b := Nat.not_le.mpr hbl
  obtain ⟨fs0, e0⟩ := h.x0
  obtain ⟨fs1, e1⟩ := h.m0
  obtain ⟨r, wx1, wm1, k1, k2, h1⟩ := s_satisfies g l h (xs (Int32.toNatClampNeg (nI i + (1 : Int32)))) (xs (Int32.toNatClampNeg (nI i + (2 : Int32)))) (xs (Int32.toNatClampNeg (nI i + (3 : Int32)))) (xs (Int32.toNatClampNeg (nI i + (4 : Int32))))
  refine lv_aload_n hx hb dL_law_430 rfl (lv_at hl 2 rfl) ?_
  refine lv_aload_n hx hb dL_law_431 rfl (lv_at hl 3 rfl) ?_
  refine lv_iload_n hx hb dL_law_432 rfl (lv_at hl 0 rfl) ?_
  refine lv_iconst (v := (1 : Int32)) hx hb dL_law_433 (by decide) ?_
  refine lv_iadd hx hb dL_law_434 ?_
  refine va_sld hx hb hX hbl hbA hS (pk_in (i + 1) L (by omega) (nI_add i 1)) dL_law_435 ?_
  refine lv_aload_n hx hb dL_law_436 rfl (lv_at hl 3 rfl) ?_
  refine lv_iload_n hx hb dL_law_437 rfl (lv_at hl 0 rfl) ?_
  refine lv_iconst (v := (2 : Int32)) hx hb dL_law_438 (by decide) ?_
  refine lv_iadd hx hb dL_law_439 ?_
  refine va_sld hx hb hX hbl hbA hS (pk_in (i + 2) L (by omega) (nI_add i 2)) dL_law_440 ?_
  refine lv_aload_n hx hb dL_law_441 rfl (lv_at hl 3 rfl) ?_
  refine lv_iload_n hx hb dL_law_442 rfl (lv_at hl 0 rfl) ?_
  refine lv_iconst (v := (3 : Int32)) hx hb dL_law_443 (by decide) ?_
  refine lv_iadd hx hb dL_law_444 ?_
  refine va_sld hx hb hX hbl hbA hS (pk_in (i + 3) L (by omega) (nI_add i 3)) dL_law_445 ?_
  refine lv_aload_n hx hb dL_law_446 rfl (lv_at hl 3 rfl) ?_
  refine lv_iload_n hx hb dL_law_447 rfl (lv_at hl 0 rfl) ?_
  refine lv_iconst (v := (4 : Int32)) hx hb dL_law_448 (by decide) ?_
  refine lv_iadd hx hb dL_law_449 ?_
  refine va_sld hx hb hX hbl hbA hS (pk_in (i + 4) L (by omega) (nI_add i 4)) dL_law_450 ?_
  refine go_L (st1 := [.int r]) (run_V (As := [.int (xs (Int32.toNatClampNeg (nI i + (1 : Int32)))), .int (xs (Int32.toNatClampNeg (nI i + (2 : Int32)))), .int (xs (Int32.toNatClampNeg (nI i + (3 : Int32)))), .int (xs (Int32.toNatClampNeg (nI i + (4 : Int32))))]) (rest := []) X hS k1 okX11_satisfies wd3_132 ⟨Nat.le_of_ble_eq_true rfl, Nat.le_of_ble_eq_true rfl⟩ ⟨rfl, rfl⟩ (va_recv hK (P_l hP) (ci := 10) (q0 := 0) rfl e0) (P_l hP) (D_l hD) (all_F hS hA (D_l hD)) rfl hl.1 rfl (Nat.le_of_ble_eq_true rfl) dL_law_451 ⟨Nat.le_of_ble_eq_true rfl, Nat.le_of_ble_eq_true rfl⟩) hS hA hP hD rfl (fun H locs hP hD hS => ?_)
  refine lv_aload_n hx hb dL_law_454 rfl (lv_at hl 1 rfl) ?_
  refine lv_aload_n hx hb dL_law_455 rfl (lv_at hl 3 rfl) ?_
  refine lv_iload_n hx hb dL_law_456 rfl (lv_at hl 0 rfl) ?_
  refine lv_iconst (v := (1 : Int32)) hx hb dL_law_457 (by decide) ?_
  refine lv_iadd hx hb dL_law_458 ?_
  refine va_sld hx hb hX hbl hbA hS (pk_in (i + 1) L (by omega) (nI_add i 1)) dL_law_459 ?_
  refine lv_aload_n hx hb dL_law_460 rfl (lv_at hl 3 rfl) ?_
  refine lv_iload_n hx hb dL_law_461 rfl (lv_at hl 0 rfl) ?_
  refine lv_iconst (v := (2 : Int32)) hx hb dL_law_462 (by decide) ?_
  refine lv_iadd hx hb dL_law_463 ?_
  refine va_sld hx hb hX hbl hbA hS (pk_in (i + 2) L (by omega) (nI_add i 2)) dL_law_464 ?_
  refine lv_aload_n hx hb dL_law_465 rfl (lv_at hl 3 rfl) ?_
  refine lv_iload_n hx hb dL_law_466 rfl (lv_at hl 0 rfl) ?_
  refine lv_iconst (v := (3 : Int32)) hx hb dL_law_467 (by decide) ?_
  refine lv_iadd hx hb dL_law_468 ?_
  refine va_sld hx hb hX hbl hbA hS (pk_in (i + 3) L (by omega) (nI_add i 3)) dL_law_469 ?_
  refine lv_aload_n hx hb dL_law_470 rfl (lv_at hl 3 rfl) ?_
  refine lv_iload_n hx hb dL_law_471 rfl (lv_at hl 0 rfl) ?_
  refine lv_iconst (v := (4 : Int32)) hx hb dL_law_472 (by decide) ?_
  refine lv_iadd hx hb dL_law_473 ?_
  refine va_sld hx hb hX hbl hbA hS (pk_in (i + 4) L (by omega) (nI_add i 4)) dL_law_474 ?_
  refine go_R (st1 := [.int r, .int r]) (run_V (As := [.int (xs (Int32.toNatClampNeg (nI i + (1 : Int32)))), .int (xs (Int32.toNatClampNeg (nI i + (2 : Int32)))), .int (xs (Int32.toNatClampNeg (nI i + (3 : Int32)))), .int (xs (Int32.toNatClampNeg (nI i + (4 : Int32))))]) (rest := [.int r]) X hS k2 okX12_satisfies wd5_174 ⟨Nat.le_of_ble_eq_true rfl, Nat.le_of_ble_eq_true rfl⟩ ⟨rfl, rfl⟩ (va_recv hK (P_r hP) (ci := 11) (q0 := 0) rfl e1) (P_r hP) (D_r hD) (all_F hS hA (D_r hD)) rfl hl.1 rfl (Nat.le_of_ble_eq_true rfl) dL_law_475 ⟨Nat.le_of_ble_eq_true rfl, Nat.le_of_ble_eq_true rfl⟩) hS hA hP hD rfl (fun H locs hP hD hS => ?_)
  refine lv_icmp_eq (tgt := 888) hx hb dL_law_478 (by decide) (fun _ => ?_) (fun q => absurd rfl q)
  exact hk _ _ _ _ h1 hP hD hS
set_option maxHeartbeats 4000000 in
set_option maxRecDepth 100000 in
theorem law_15 (C : LC g p s m c b L xs aX aM i ls) (h : LI g aX aM wx wm) (hP : va_P g.1 vwCl (wx ++ wm) H) (hD : va_D (fun q : Nat => s.heap.size ≤ q) (wx ++ wm)) (hS : va_S (fun q : Nat => s.heap.size ≤ q) s.heap H locs)
    (hk : ∀ (wx' wm' : va_W) (H : Heap) (locs : List Loc), LI g aX aM wx' wm' → va_P g.1 vwCl (wx' ++ wm') H → va_D (fun q : Nat => s.heap.size ≤ q) (wx' ++ wm') → va_S (fun q : Nat => s.heap.size ≤ q) s.heap H locs → W p l e room_1 s m #[Value.ref b] below meth c H locs 57 8063 Q (F0 m 888 ls [])) : W p l e room_1 s m #[Value.ref b] below meth c H locs 57 8063 Q (F0 m 483 ls []) := by
  obtain ⟨X, hX, hbl, hi, hL, hl⟩ := C
  obtain ⟨⟨hx, hb, hml, hown, hts⟩, hE, hA⟩ := id X
  have hK := hE.1
  have hbA : ¬ (fun q : Nat => s.heap.size ≤ q) b := Nat.not_le.mpr hbl
  obtain ⟨fs0, e0⟩ := h.x0
  obtain ⟨fs1, e1⟩ := h.m0
  obtain ⟨r, wx1, wm1, k1, k2, h1⟩ := s_countSolutions g l h (xs (Int32.toNatClampNeg (nI i + (1 : Int32))))
  refine lv_aload_n hx hb dL_law_483 rfl (lv_at hl 2 rfl) ?_
  refine lv_aload_n hx hb dL_law_484 rfl (lv_at hl 3 rfl) ?_
  refine lv_iload_n hx hb dL_law_485 rfl (lv_at hl 0 rfl) ?_
  refine lv_iconst (v := (1 : Int32)) hx hb dL_law_486 (by decide) ?_
  refine lv_iadd hx hb dL_law_487 ?_
  refine va_sld hx hb hX hbl hbA hS (pk_in (i + 1) L (by omega) (nI_add i 1)) dL_law_488 ?_
  refine go_L (st1 := [.int r]) (run_V (As := [.int (xs (Int32.toNatClampNeg (nI i + (1 : Int32))))]) (rest := []) X hS k1 okX11_countSolutions wd3_171 ⟨Nat.le_of_ble_eq_true rfl, Nat.le_of_ble_eq_true rfl⟩ ⟨rfl, rfl⟩ (va_recv hK (P_l hP) (ci := 10) (q0 := 0) rfl e0) (P_l hP) (D_l hD) (all_F hS hA (D_l hD)) rfl hl.1 rfl (Nat.le_of_ble_eq_true rfl) dL_law_489 ⟨Nat.le_of_ble_eq_true rfl, Nat.le_of_ble_eq_true rfl⟩) hS hA hP hD rfl (fun H locs hP hD hS => ?_)
  refine lv_aload_n hx hb dL_law_492 rfl (lv_at hl 1 rfl) ?_
  refine lv_aload_n hx hb dL_law_493 rfl (lv_at hl 3 rfl) ?_
  refine lv_iload_n hx hb dL_law_494 rfl (lv_at hl 0 rfl) ?_
  refine lv_iconst (v := (1 : Int32)) hx hb dL_law_495 (by decide) ?_
  refine lv_iadd hx hb dL_law_496 ?_
  refine va_sld hx hb hX hbl hbA hS (pk_in (i + 1) L (by omega) (nI_add i 1)) dL_law_497 ?_
  refine go_R (st1 := [.int r, .int r]) (run_V (As := [.int (xs (Int32.toNatClampNeg (nI i + (1 : Int32))))]) (rest := [.int r]) X hS k2 okX12_countSolutions wd5_189 ⟨Nat.le_of_ble_eq_true rfl, Nat.le_of_ble_eq_true rfl⟩ ⟨rfl, rfl⟩ (va_recv hK (P_r hP) (ci := 11) (q0 := 0) rfl e1) (P_r hP) (D_r hD) (all_F hS hA (D_r hD)) rfl hl.1 rfl (Nat.le_of_ble_eq_true rfl) dL_law_498 ⟨Nat.le_of_ble_eq_true rfl, Nat.le_of_ble_eq_true rfl⟩) hS hA hP hD rfl (fun H locs hP hD hS => ?_)
  refine lv_icmp_eq (tgt := 888) hx hb dL_law_501 (by decide) (fun _ => ?_) (fun q => absurd rfl q)
  exact hk _ _ _ _ h1 hP hD hS
set_option maxHeartbeats 4000000 in
set_option maxRecDepth 100000 in
theorem law_16 (C : LC g p s m c b L xs aX aM i ls) (h : LI g aX aM wx wm) (hP : va_P g.1 vwCl (wx ++ wm) H) (hD : va_D (fun q : Nat => s.heap.size ≤ q) (wx ++ wm)) (hS : va_S (fun q : Nat => s.heap.size ≤ q) s.heap H locs)
    (hk : ∀ (wx' wm' : va_W) (H : Heap) (locs : List Loc), LI g aX aM wx' wm' → va_P g.1 vwCl (wx' ++ wm') H → va_D (fun q : Nat => s.heap.size ≤ q) (wx' ++ wm') → va_S (fun q : Nat => s.heap.size ≤ q) s.heap H locs → W p l e room_1 s m #[Value.ref b] below meth c H locs 57 8063 Q (F0 m 888 ls [])) : W p l e room_1 s m #[Value.ref b] below meth c H locs 57 8063 Q (F0 m 506 ls []) := by
  obtain ⟨X, hX, hbl, hi, hL, hl⟩ := C
  obtain ⟨⟨hx, hb, hml, hown, hts⟩, hE, hA⟩ := id X
  have hK := hE.1
  have hbA : ¬ (fun q : Nat => s.heap.size ≤ q) b := Nat.not_le.mpr hbl
  obtain ⟨fs0, e0⟩ := h.x0
  obtain ⟨fs1, e1⟩ := h.m0
  obtain ⟨r, wx1, wm1, k1, k2, h1⟩ := s_firstSolution g l h (xs (Int32.toNatClampNeg (nI i + (1 : Int32)))) (xs (Int32.toNatClampNeg (nI i + (2 : Int32))))
  refine lv_aload_n hx hb dL_law_506 rfl (lv_at hl 2 rfl) ?_
  refine lv_aload_n hx hb dL_law_507 rfl (lv_at hl 3 rfl) ?_
  refine lv_iload_n hx hb dL_law_508 rfl (lv_at hl 0 rfl) ?_
  refine lv_iconst (v := (1 : Int32)) hx hb dL_law_509 (by decide) ?_
  refine lv_iadd hx hb dL_law_510 ?_
  refine va_sld hx hb hX hbl hbA hS (pk_in (i + 1) L (by omega) (nI_add i 1)) dL_law_511 ?_
  refine lv_aload_n hx hb dL_law_512 rfl (lv_at hl 3 rfl) ?_
  refine lv_iload_n hx hb dL_law_513 rfl (lv_at hl 0 rfl) ?_
  refine lv_iconst (v := (2 : Int32)) hx hb dL_law_514 (by decide) ?_
  refine lv_iadd hx hb dL_law_515 ?_
  refine va_sld hx hb hX hbl hbA hS (pk_in (i + 2) L (by omega) (nI_add i 2)) dL_law_516 ?_
  refine go_L (st1 := [.int r]) (run_V (As := [.int (xs (Int32.toNatClampNeg (nI i + (1 : Int32)))), .int (xs (Int32.toNatClampNeg (nI i + (2 : Int32))))]) (rest := []) X hS k1 okX11_firstSolution wd3_237 ⟨Nat.le_of_ble_eq_true rfl, Nat.le_of_ble_eq_true rfl⟩ ⟨rfl, rfl⟩ (va_recv hK (P_l hP) (ci := 10) (q0 := 0) rfl e0) (P_l hP) (D_l hD) (all_F hS hA (D_l hD)) rfl hl.1 rfl (Nat.le_of_ble_eq_true rfl) dL_law_517 ⟨Nat.le_of_ble_eq_true rfl, Nat.le_of_ble_eq_true rfl⟩) hS hA hP hD rfl (fun H locs hP hD hS => ?_)
  refine lv_aload_n hx hb dL_law_520 rfl (lv_at hl 1 rfl) ?_
  refine lv_aload_n hx hb dL_law_521 rfl (lv_at hl 3 rfl) ?_
  refine lv_iload_n hx hb dL_law_522 rfl (lv_at hl 0 rfl) ?_
  refine lv_iconst (v := (1 : Int32)) hx hb dL_law_523 (by decide) ?_
  refine lv_iadd hx hb dL_law_524 ?_
  refine va_sld hx hb hX hbl hbA hS (pk_in (i + 1) L (by omega) (nI_add i 1)) dL_law_525 ?_
  refine lv_aload_n hx hb dL_law_526 rfl (lv_at hl 3 rfl) ?_
  refine lv_iload_n hx hb dL_law_527 rfl (lv_at hl 0 rfl) ?_
  refine lv_iconst (v := (2 : Int32)) hx hb dL_law_528 (by decide) ?_
  refine lv_iadd hx hb dL_law_529 ?_
  refine va_sld hx hb hX hbl hbA hS (pk_in (i + 2) L (by omega) (nI_add i 2)) dL_law_530 ?_
  refine go_R (st1 := [.int r, .int r]) (run_V (As := [.int (xs (Int32.toNatClampNeg (nI i + (1 : Int32)))), .int (xs (Int32.toNatClampNeg (nI i + (2 : Int32))))]) (rest := [.int r]) X hS k2 okX12_firstSolution wd5_204 ⟨Nat.le_of_ble_eq_true rfl, Nat.le_of_ble_eq_true rfl⟩ ⟨rfl, rfl⟩ (va_recv hK (P_r hP) (ci := 11) (q0 := 0) rfl e1) (P_r hP) (D_r hD) (all_F hS hA (D_r hD)) rfl hl.1 rfl (Nat.le_of_ble_eq_true rfl) dL_law_531 ⟨Nat.le_of_ble_eq_true rfl, Nat.le_of_ble_eq_true rfl⟩) hS hA hP hD rfl (fun H locs hP hD hS => ?_)
  refine lv_icmp_eq (tgt := 888) hx hb dL_law_534 (by decide) (fun _ => ?_) (fun q => absurd rfl q)
  exact hk _ _ _ _ h1 hP hD hS
set_option maxHeartbeats 4000000 in
set_option maxRecDepth 100000 in
theorem law_17 (C : LC g p s m c b L xs aX aM i ls) (h : LI g aX aM wx wm) (hP : va_P g.1 vwCl (wx ++ wm) H) (hD : va_D (fun q : Nat => s.heap.size ≤ q) (wx ++ wm)) (hS : va_S (fun q : Nat => s.heap.size ≤ q) s.heap H locs)
    (hk : ∀ (wx' wm' : va_W) (H : Heap) (locs : List Loc), LI g aX aM wx' wm' → va_P g.1 vwCl (wx' ++ wm') H → va_D (fun q : Nat => s.heap.size ≤ q) (wx' ++ wm') → va_S (fun q : Nat => s.heap.size ≤ q) s.heap H locs → W p l e room_1 s m #[Value.ref b] below meth c H locs 57 8063 Q (F0 m 888 ls [])) : W p l e room_1 s m #[Value.ref b] below meth c H locs 57 8063 Q (F0 m 539 ls []) := by
  obtain ⟨X, hX, hbl, hi, hL, hl⟩ := C
  obtain ⟨⟨hx, hb, hml, hown, hts⟩, hE, hA⟩ := id X
  have hK := hE.1
  have hbA : ¬ (fun q : Nat => s.heap.size ≤ q) b := Nat.not_le.mpr hbl
  obtain ⟨fs0, e0⟩ := h.x0
  obtain ⟨fs1, e1⟩ := h.m0
  obtain ⟨r, wx1, wm1, k1, k2, h1⟩ := s_leastTotalLength g l h (xs (Int32.toNatClampNeg (nI i + (1 : Int32))))
  refine lv_aload_n hx hb dL_law_539 rfl (lv_at hl 2 rfl) ?_
  refine lv_aload_n hx hb dL_law_540 rfl (lv_at hl 3 rfl) ?_
  refine lv_iload_n hx hb dL_law_541 rfl (lv_at hl 0 rfl) ?_
  refine lv_iconst (v := (1 : Int32)) hx hb dL_law_542 (by decide) ?_
  refine lv_iadd hx hb dL_law_543 ?_
  refine va_sld hx hb hX hbl hbA hS (pk_in (i + 1) L (by omega) (nI_add i 1)) dL_law_544 ?_
  refine go_L (st1 := [.int r]) (run_V (As := [.int (xs (Int32.toNatClampNeg (nI i + (1 : Int32))))]) (rest := []) X hS k1 okX11_leastTotalLength wd4_5 ⟨Nat.le_of_ble_eq_true rfl, Nat.le_of_ble_eq_true rfl⟩ ⟨rfl, rfl⟩ (va_recv hK (P_l hP) (ci := 10) (q0 := 0) rfl e0) (P_l hP) (D_l hD) (all_F hS hA (D_l hD)) rfl hl.1 rfl (Nat.le_of_ble_eq_true rfl) dL_law_545 ⟨Nat.le_of_ble_eq_true rfl, Nat.le_of_ble_eq_true rfl⟩) hS hA hP hD rfl (fun H locs hP hD hS => ?_)
  refine lv_aload_n hx hb dL_law_548 rfl (lv_at hl 1 rfl) ?_
  refine lv_aload_n hx hb dL_law_549 rfl (lv_at hl 3 rfl) ?_
  refine lv_iload_n hx hb dL_law_550 rfl (lv_at hl 0 rfl) ?_
  refine lv_iconst (v := (1 : Int32)) hx hb dL_law_551 (by decide) ?_
  refine lv_iadd hx hb dL_law_552 ?_
  refine va_sld hx hb hX hbl hbA hS (pk_in (i + 1) L (by omega) (nI_add i 1)) dL_law_553 ?_
  refine go_R (st1 := [.int r, .int r]) (run_V (As := [.int (xs (Int32.toNatClampNeg (nI i + (1 : Int32))))]) (rest := [.int r]) X hS k2 okX12_leastTotalLength wd5_208 ⟨Nat.le_of_ble_eq_true rfl, Nat.le_of_ble_eq_true rfl⟩ ⟨rfl, rfl⟩ (va_recv hK (P_r hP) (ci := 11) (q0 := 0) rfl e1) (P_r hP) (D_r hD) (all_F hS hA (D_r hD)) rfl hl.1 rfl (Nat.le_of_ble_eq_true rfl) dL_law_554 ⟨Nat.le_of_ble_eq_true rfl, Nat.le_of_ble_eq_true rfl⟩) hS hA hP hD rfl (fun H locs hP hD hS => ?_)
  refine lv_icmp_eq (tgt := 888) hx hb dL_law_557 (by decide) (fun _ => ?_) (fun q => absurd rfl q)
  exact hk _ _ _ _ h1 hP hD hS
set_option maxHeartbeats 4000000 in
set_option maxRecDepth 100000 in
theorem law_18 (C : LC g p s m c b L xs aX aM i ls) (h : LI g aX aM wx wm) (hP : va_P g.1 vwCl (wx ++ wm) H) (hD : va_D (fun q : Nat => s.heap.size ≤ q) (wx ++ wm)) (hS : va_S (fun q : Nat => s.heap.size ≤ q) s.heap H locs)
    (hk : ∀ (wx' wm' : va_W) (H : Heap) (locs : List Loc), LI g aX aM wx' wm' → va_P g.1 vwCl (wx' ++ wm') H → va_D (fun q : Nat => s.heap.size ≤ q) (wx' ++ wm') → va_S (fun q : Nat => s.heap.size ≤ q) s.heap H locs → W p l e room_1 s m #[Value.ref b] below meth c H locs 57 8063 Q (F0 m 888 ls [])) : W p l e room_1 s m #[Value.ref b] below meth c H locs 57 8063 Q (F0 m 562 ls []) := by
  obtain ⟨X, hX, hbl, hi, hL, hl⟩ := C
  obtain ⟨⟨hx, hb, hml, hown, hts⟩, hE, hA⟩ := id X
  have hK := hE.1
  have hbA : ¬ (fun q : Nat => s.heap.size ≤ q) b := Nat.not_le.mpr hbl
  obtain ⟨fs0, e0⟩ := h.x0
  obtain ⟨fs1, e1⟩ := h.m0
  obtain ⟨r, wx1, wm1, k1, k2, h1⟩ := s_countLengths g l h (xs (Int32.toNatClampNeg (nI i + (1 : Int32))))
  refine lv_aload_n hx hb dL_law_562 rfl (lv_at hl 2 rfl) ?_
  refine lv_aload_n hx hb dL_law_563 rfl (lv_at hl 3 rfl) ?_
  refine lv_iload_n hx hb dL_law_564 rfl (lv_at hl 0 rfl) ?_
  refine lv_iconst (v := (1 : Int32)) hx hb dL_law_565 (by decide) ?_
  refine lv_iadd hx hb dL_law_566 ?_
  refine va_sld hx hb hX hbl hbA hS (pk_in (i + 1) L (by omega) (nI_add i 1)) dL_law_567 ?_
  refine go_L (st1 := [.int r]) (run_V (As := [.int (xs (Int32.toNatClampNeg (nI i + (1 : Int32))))]) (rest := []) X hS k1 okX11_countLengths wd4_13 ⟨Nat.le_of_ble_eq_true rfl, Nat.le_of_ble_eq_true rfl⟩ ⟨rfl, rfl⟩ (va_recv hK (P_l hP) (ci := 10) (q0 := 0) rfl e0) (P_l hP) (D_l hD) (all_F hS hA (D_l hD)) rfl hl.1 rfl (Nat.le_of_ble_eq_true rfl) dL_law_568 ⟨Nat.le_of_ble_eq_true rfl, Nat.le_of_ble_eq_true rfl⟩) hS hA hP hD rfl (fun H locs hP hD hS => ?_)
  refine lv_aload_n hx hb dL_law_571 rfl (lv_at hl 1 rfl) ?_
  refine lv_aload_n hx hb dL_law_572 rfl (lv_at hl 3 rfl) ?_
  refine lv_iload_n hx hb dL_law_573 rfl (lv_at hl 0 rfl) ?_
  refine lv_iconst (v := (1 : Int32)) hx hb dL_law_574 (by decide) ?_
  refine lv_iadd hx hb dL_law_575 ?_
  refine va_sld hx hb hX hbl hbA hS (pk_in (i + 1) L (by omega) (nI_add i 1)) dL_law_576 ?_
  refine go_R (st1 := [.int r, .int r]) (run_V (As := [.int (xs (Int32.toNatClampNeg (nI i + (1 : Int32))))]) (rest := [.int r]) X hS k2 okX12_countLengths wd5_212 ⟨Nat.le_of_ble_eq_true rfl, Nat.le_of_ble_eq_true rfl⟩ ⟨rfl, rfl⟩ (va_recv hK (P_r hP) (ci := 11) (q0 := 0) rfl e1) (P_r hP) (D_r hD) (all_F hS hA (D_r hD)) rfl hl.1 rfl (Nat.le_of_ble_eq_true rfl) dL_law_577 ⟨Nat.le_of_ble_eq_true rfl, Nat.le_of_ble_eq_true rfl⟩) hS hA hP hD rfl (fun H locs hP hD hS => ?_)
  refine lv_icmp_eq (tgt := 888) hx hb dL_law_580 (by decide) (fun _ => ?_) (fun q => absurd rfl q)
  exact hk _ _ _ _ h1 hP hD hS
set_option maxHeartbeats 4000000 in
set_option maxRecDepth 100000 in
theorem law_19 (C : LC g p s m c b L xs aX aM i ls) (h : LI g aX aM wx wm) (hP : va_P g.1 vwCl (wx ++ wm) H) (hD : va_D (fun q : Nat => s.heap.size ≤ q) (wx ++ wm)) (hS : va_S (fun q : Nat => s.heap.size ≤ q) s.heap H locs)
    (hk : ∀ (wx' wm' : va_W) (H : Heap) (locs : List Loc), LI g aX aM wx' wm' → va_P g.1 vwCl (wx' ++ wm') H → va_D (fun q : Nat => s.heap.size ≤ q) (wx' ++ wm') → va_S (fun q : Nat => s.heap.size ≤ q) s.heap H locs → W p l e room_1 s m #[Value.ref b] below meth c H locs 57 8063 Q (F0 m 888 ls [])) : W p l e room_1 s m #[Value.ref b] below meth c H locs 57 8063 Q (F0 m 585 ls []) := by
  obtain ⟨X, hX, hbl, hi, hL, hl⟩ := C
  obtain ⟨⟨hx, hb, hml, hown, hts⟩, hE, hA⟩ := id X
  have hK := hE.1
  have hbA : ¬ (fun q : Nat => s.heap.size ≤ q) b := Nat.not_le.mpr hbl
  obtain ⟨fs0, e0⟩ := h.x0
  obtain ⟨fs1, e1⟩ := h.m0
  obtain ⟨r, wx1, wm1, k1, k2, h1⟩ := s_refutedByCounting g l h 
  refine lv_aload_n hx hb dL_law_585 rfl (lv_at hl 2 rfl) ?_
  refine go_L (st1 := [.int r]) (run_V (As := []) (rest := []) X hS k1 okX11_refutedByCounting wd4_22 ⟨Nat.le_of_ble_eq_true rfl, Nat.le_of_ble_eq_true rfl⟩ ⟨rfl, rfl⟩ (va_recv hK (P_l hP) (ci := 10) (q0 := 0) rfl e0) (P_l hP) (D_l hD) (all_F hS hA (D_l hD)) rfl hl.1 rfl (Nat.le_of_ble_eq_true rfl) dL_law_586 ⟨Nat.le_of_ble_eq_true rfl, Nat.le_of_ble_eq_true rfl⟩) hS hA hP hD rfl (fun H locs hP hD hS => ?_)
  refine lv_aload_n hx hb dL_law_589 rfl (lv_at hl 1 rfl) ?_
  refine go_R (st1 := [.int r, .int r]) (run_V (As := []) (rest := [.int r]) X hS k2 okX12_refutedByCounting wd5_217 ⟨Nat.le_of_ble_eq_true rfl, Nat.le_of_ble_eq_true rfl⟩ ⟨rfl, rfl⟩ (va_recv hK (P_r hP) (ci := 11) (q0 := 0) rfl e1) (P_r hP) (D_r hD) (all_F hS hA (D_r hD)) rfl hl.1 rfl (Nat.le_of_ble_eq_true rfl) dL_law_590 ⟨Nat.le_of_ble_eq_true rfl, Nat.le_of_ble_eq_true rfl⟩) hS hA hP hD rfl (fun H locs hP hD hS => ?_)
  refine lv_icmp_eq (tgt := 888) hx hb dL_law_593 (by decide) (fun _ => ?_) (fun q => absurd rfl q)
  exact hk _ _ _ _ h1 hP hD hS
set_option maxHeartbeats 4000000 in
set_option maxRecDepth 100000 in
theorem law_20 (C : LC g p s m c b L xs aX aM i ls) (h : LI g aX aM wx wm) (hP : va_P g.1 vwCl (wx ++ wm) H) (hD : va_D (fun q : Nat => s.heap.size ≤ q) (wx ++ wm)) (hS : va_S (fun q : Nat => s.heap.size ≤ q) s.heap H locs)
    (hk : ∀ (wx' wm' : va_W) (H : Heap) (locs : List Loc), LI g aX aM wx' wm' → va_P g.1 vwCl (wx' ++ wm') H → va_D (fun q : Nat => s.heap.size ≤ q) (wx' ++ wm') → va_S (fun q : Nat => s.heap.size ≤ q) s.heap H locs → W p l e room_1 s m #[Value.ref b] below meth c H locs 57 8063 Q (F0 m 888 ls [])) : W p l e room_1 s m #[Value.ref b] below meth c H locs 57 8063 Q (F0 m 598 ls []) := by
  obtain ⟨X, hX, hbl, hi, hL, hl⟩ := C
  obtain ⟨⟨hx, hb, hml, hown, hts⟩, hE, hA⟩ := id X
  have hK := hE.1
  have hbA : ¬ (fun q : Nat => s.heap.size ≤ q) b := Nat.not_le.mpr hbl
  obtain ⟨fs0, e0⟩ := h.x0
  obtain ⟨fs1, e1⟩ := h.m0
  obtain ⟨r, wx1, wm1, k1, k2, h1⟩ := s_decide g l h 
  refine lv_aload_n hx hb dL_law_598 rfl (lv_at hl 2 rfl) ?_
  refine go_L (st1 := [.int r]) (run_V (As := []) (rest := []) X hS k1 okX11_decide wd4_27 ⟨Nat.le_of_ble_eq_true rfl, Nat.le_of_ble_eq_true rfl⟩ ⟨rfl, rfl⟩ (va_recv hK (P_l hP) (ci := 10) (q0 := 0) rfl e0) (P_l hP) (D_l hD) (all_F hS hA (D_l hD)) rfl hl.1 rfl (Nat.le_of_ble_eq_true rfl) dL_law_599 ⟨Nat.le_of_ble_eq_true rfl, Nat.le_of_ble_eq_true rfl⟩) hS hA hP hD rfl (fun H locs hP hD hS => ?_)
  refine lv_aload_n hx hb dL_law_602 rfl (lv_at hl 1 rfl) ?_
  refine go_R (st1 := [.int r, .int r]) (run_V (As := []) (rest := [.int r]) X hS k2 okX12_decide wd5_221 ⟨Nat.le_of_ble_eq_true rfl, Nat.le_of_ble_eq_true rfl⟩ ⟨rfl, rfl⟩ (va_recv hK (P_r hP) (ci := 11) (q0 := 0) rfl e1) (P_r hP) (D_r hD) (all_F hS hA (D_r hD)) rfl hl.1 rfl (Nat.le_of_ble_eq_true rfl) dL_law_603 ⟨Nat.le_of_ble_eq_true rfl, Nat.le_of_ble_eq_true rfl⟩) hS hA hP hD rfl (fun H locs hP hD hS => ?_)
  refine lv_icmp_eq (tgt := 888) hx hb dL_law_606 (by decide) (fun _ => ?_) (fun q => absurd rfl q)
  exact hk _ _ _ _ h1 hP hD hS
set_option maxHeartbeats 4000000 in
set_option maxRecDepth 100000 in
theorem law_21 (C : LC g p s m c b L xs aX aM i ls) (h : LI g aX aM wx wm) (hP : va_P g.1 vwCl (wx ++ wm) H) (hD : va_D (fun q : Nat => s.heap.size ≤ q) (wx ++ wm)) (hS : va_S (fun q : Nat => s.heap.size ≤ q) s.heap H locs)
    (hk : ∀ (wx' wm' : va_W) (H : Heap) (locs : List Loc), LI g aX aM wx' wm' → va_P g.1 vwCl (wx' ++ wm') H → va_D (fun q : Nat => s.heap.size ≤ q) (wx' ++ wm') → va_S (fun q : Nat => s.heap.size ≤ q) s.heap H locs → W p l e room_1 s m #[Value.ref b] below meth c H locs 57 8063 Q (F0 m 888 ls [])) : W p l e room_1 s m #[Value.ref b] below meth c H locs 57 8063 Q (F0 m 611 ls []) := by
  obtain ⟨X, hX, hbl, hi, hL, hl⟩ := C
  obtain ⟨⟨hx, hb, hml, hown, hts⟩, hE, hA⟩ := id X
  have hK := hE.1
  have hbA : ¬ (fun q : Nat => s.heap.size ≤ q) b := Nat.not_le.mpr hbl
  obtain ⟨fs0, e0⟩ := h.x0
  obtain ⟨fs1, e1⟩ := h.m0
  obtain ⟨r, wx1, wm1, k1, k2, h1⟩ := s_nodeCount g l h 
  refine lv_aload_n hx hb dL_law_611 rfl (lv_at hl 2 rfl) ?_
  refine go_L (st1 := [.int r]) (run_V (As := []) (rest := []) X hS k1 okX11_nodeCount wd4_65 ⟨Nat.le_of_ble_eq_true rfl, Nat.le_of_ble_eq_true rfl⟩ ⟨rfl, rfl⟩ (va_recv hK (P_l hP) (ci := 10) (q0 := 0) rfl e0) (P_l hP) (D_l hD) (all_F hS hA (D_l hD)) rfl hl.1 rfl (Nat.le_of_ble_eq_true rfl) dL_law_612 ⟨Nat.le_of_ble_eq_true rfl, Nat.le_of_ble_eq_true rfl⟩) hS hA hP hD rfl (fun H locs hP hD hS => ?_)
  refine lv_aload_n hx hb dL_law_615 rfl (lv_at hl 1 rfl) ?_
  refine go_R (st1 := [.int r, .int r]) (run_V (As := []) (rest := [.int r]) X hS k2 okX12_nodeCount wd6_10 ⟨Nat.le_of_ble_eq_true rfl, Nat.le_of_ble_eq_true rfl⟩ ⟨rfl, rfl⟩ (va_recv hK (P_r hP) (ci := 11) (q0 := 0) rfl e1) (P_r hP) (D_r hD) (all_F hS hA (D_r hD)) rfl hl.1 rfl (Nat.le_of_ble_eq_true rfl) dL_law_616 ⟨Nat.le_of_ble_eq_true rfl, Nat.le_of_ble_eq_true rfl⟩) hS hA hP hD rfl (fun H locs hP hD hS => ?_)
  refine lv_icmp_eq (tgt := 888) hx hb dL_law_619 (by decide) (fun _ => ?_) (fun q => absurd rfl q)
  exact hk _ _ _ _ h1 hP hD hS
set_option maxHeartbeats 4000000 in
set_option maxRecDepth 100000 in
theorem law_22 (C : LC g p s m c b L xs aX aM i ls) (h : LI g aX aM wx wm) (hP : va_P g.1 vwCl (wx ++ wm) H) (hD : va_D (fun q : Nat => s.heap.size ≤ q) (wx ++ wm)) (hS : va_S (fun q : Nat => s.heap.size ≤ q) s.heap H locs)
    (hk : ∀ (wx' wm' : va_W) (H : Heap) (locs : List Loc), LI g aX aM wx' wm' → va_P g.1 vwCl (wx' ++ wm') H → va_D (fun q : Nat => s.heap.size ≤ q) (wx' ++ wm') → va_S (fun q : Nat => s.heap.size ≤ q) s.heap H locs → W p l e room_1 s m #[Value.ref b] below meth c H locs 57 8063 Q (F0 m 888 ls [])) : W p l e room_1 s m #[Value.ref b] below meth c H locs 57 8063 Q (F0 m 624 ls []) := by
  obtain ⟨X, hX, hbl, hi, hL, hl⟩ := C
  obtain ⟨⟨hx, hb, hml, hown, hts⟩, hE, hA⟩ := id X
  have hK := hE.1
  have hbA : ¬ (fun q : Nat => s.heap.size ≤ q) b := Nat.not_le.mpr hbl
  obtain ⟨fs0, e0⟩ := h.x0
  obtain ⟨fs1, e1⟩ := h.m0
  obtain ⟨r, wx1, wm1, k1, k2, h1⟩ := s_proofLength g l h 
  refine lv_aload_n hx hb dL_law_624 rfl (lv_at hl 2 rfl) ?_
  refine go_L (st1 := [.int r]) (run_V (As := []) (rest := []) X hS k1 okX11_proofLength wd4_73 ⟨Nat.le_of_ble_eq_true rfl, Nat.le_of_ble_eq_true rfl⟩ ⟨rfl, rfl⟩ (va_recv hK (P_l hP) (ci := 10) (q0 := 0) rfl e0) (P_l hP) (D_l hD) (all_F hS hA (D_l hD)) rfl hl.1 rfl (Nat.le_of_ble_eq_true rfl) dL_law_625 ⟨Nat.le_of_ble_eq_true rfl, Nat.le_of_ble_eq_true rfl⟩) hS hA hP hD rfl (fun H locs hP hD hS => ?_)
  refine lv_aload_n hx hb dL_law_628 rfl (lv_at hl 1 rfl) ?_
  refine go_R (st1 := [.int r, .int r]) (run_V (As := []) (rest := [.int r]) X hS k2 okX12_proofLength wd6_14 ⟨Nat.le_of_ble_eq_true rfl, Nat.le_of_ble_eq_true rfl⟩ ⟨rfl, rfl⟩ (va_recv hK (P_r hP) (ci := 11) (q0 := 0) rfl e1) (P_r hP) (D_r hD) (all_F hS hA (D_r hD)) rfl hl.1 rfl (Nat.le_of_ble_eq_true rfl) dL_law_629 ⟨Nat.le_of_ble_eq_true rfl, Nat.le_of_ble_eq_true rfl⟩) hS hA hP hD rfl (fun H locs hP hD hS => ?_)
  refine lv_icmp_eq (tgt := 888) hx hb dL_law_632 (by decide) (fun _ => ?_) (fun q => absurd rfl q)
  exact hk _ _ _ _ h1 hP hD hS
set_option maxHeartbeats 4000000 in
set_option maxRecDepth 100000 in
theorem law_23 (C : LC g p s m c b L xs aX aM i ls) (h : LI g aX aM wx wm) (hP : va_P g.1 vwCl (wx ++ wm) H) (hD : va_D (fun q : Nat => s.heap.size ≤ q) (wx ++ wm)) (hS : va_S (fun q : Nat => s.heap.size ≤ q) s.heap H locs)
    (hk : ∀ (wx' wm' : va_W) (H : Heap) (locs : List Loc), LI g aX aM wx' wm' → va_P g.1 vwCl (wx' ++ wm') H → va_D (fun q : Nat => s.heap.size ≤ q) (wx' ++ wm') → va_S (fun q : Nat => s.heap.size ≤ q) s.heap H locs → W p l e room_1 s m #[Value.ref b] below meth c H locs 57 8063 Q (F0 m 888 ls [])) : W p l e room_1 s m #[Value.ref b] below meth c H locs 57 8063 Q (F0 m 637 ls []) := by
  obtain ⟨X, hX, hbl, hi, hL, hl⟩ := C
  obtain ⟨⟨hx, hb, hml, hown, hts⟩, hE, hA⟩ := id X
  have hK := hE.1
  have hbA : ¬ (fun q : Nat => s.heap.size ≤ q) b := Nat.not_le.mpr hbl
  obtain ⟨fs0, e0⟩ := h.x0
  obtain ⟨fs1, e1⟩ := h.m0
  obtain ⟨r, wx1, wm1, k1, k2, h1⟩ := s_proofRule g l h (xs (Int32.toNatClampNeg (nI i + (1 : Int32))))
  refine lv_aload_n hx hb dL_law_637 rfl (lv_at hl 2 rfl) ?_
  refine lv_aload_n hx hb dL_law_638 rfl (lv_at hl 3 rfl) ?_
  refine lv_iload_n hx hb dL_law_639 rfl (lv_at hl 0 rfl) ?_
  refine lv_iconst (v := (1 : Int32)) hx hb dL_law_640 (by decide) ?_
  refine lv_iadd hx hb dL_law_641 ?_
  refine va_sld hx hb hX hbl hbA hS (pk_in (i + 1) L (by omega) (nI_add i 1)) dL_law_642 ?_
  refine go_L (st1 := [.int r]) (run_V (As := [.int (xs (Int32.toNatClampNeg (nI i + (1 : Int32))))]) (rest := []) X hS k1 okX11_proofRule wd4_81 ⟨Nat.le_of_ble_eq_true rfl, Nat.le_of_ble_eq_true rfl⟩ ⟨rfl, rfl⟩ (va_recv hK (P_l hP) (ci := 10) (q0 := 0) rfl e0) (P_l hP) (D_l hD) (all_F hS hA (D_l hD)) rfl hl.1 rfl (Nat.le_of_ble_eq_true rfl) dL_law_643 ⟨Nat.le_of_ble_eq_true rfl, Nat.le_of_ble_eq_true rfl⟩) hS hA hP hD rfl (fun H locs hP hD hS => ?_)
  refine lv_aload_n hx hb dL_law_646 rfl (lv_at hl 1 rfl) ?_
  refine lv_aload_n hx hb dL_law_647 rfl (lv_at hl 3 rfl) ?_
  refine lv_iload_n hx hb dL_law_648 rfl (lv_at hl 0 rfl) ?_
  refine lv_iconst (v := (1 : Int32)) hx hb dL_law_649 (by decide) ?_
  refine lv_iadd hx hb dL_law_650 ?_
  refine va_sld hx hb hX hbl hbA hS (pk_in (i + 1) L (by omega) (nI_add i 1)) dL_law_651 ?_
  refine go_R (st1 := [.int r, .int r]) (run_V (As := [.int (xs (Int32.toNatClampNeg (nI i + (1 : Int32))))]) (rest := [.int r]) X hS k2 okX12_proofRule wd6_22 ⟨Nat.le_of_ble_eq_true rfl, Nat.le_of_ble_eq_true rfl⟩ ⟨rfl, rfl⟩ (va_recv hK (P_r hP) (ci := 11) (q0 := 0) rfl e1) (P_r hP) (D_r hD) (all_F hS hA (D_r hD)) rfl hl.1 rfl (Nat.le_of_ble_eq_true rfl) dL_law_652 ⟨Nat.le_of_ble_eq_true rfl, Nat.le_of_ble_eq_true rfl⟩) hS hA hP hD rfl (fun H locs hP hD hS => ?_)
  refine lv_icmp_eq (tgt := 888) hx hb dL_law_655 (by decide) (fun _ => ?_) (fun q => absurd rfl q)
  exact hk _ _ _ _ h1 hP hD hS
set_option maxHeartbeats 4000000 in
set_option maxRecDepth 100000 in
theorem law_24 (C : LC g p s m c b L xs aX aM i ls) (h : LI g aX aM wx wm) (hP : va_P g.1 vwCl (wx ++ wm) H) (hD : va_D (fun q : Nat => s.heap.size ≤ q) (wx ++ wm)) (hS : va_S (fun q : Nat => s.heap.size ≤ q) s.heap H locs)
    (hk : ∀ (wx' wm' : va_W) (H : Heap) (locs : List Loc), LI g aX aM wx' wm' → va_P g.1 vwCl (wx' ++ wm') H → va_D (fun q : Nat => s.heap.size ≤ q) (wx' ++ wm') → va_S (fun q : Nat => s.heap.size ≤ q) s.heap H locs → W p l e room_1 s m #[Value.ref b] below meth c H locs 57 8063 Q (F0 m 888 ls [])) : W p l e room_1 s m #[Value.ref b] below meth c H locs 57 8063 Q (F0 m 660 ls []) := by
  obtain ⟨X, hX, hbl, hi, hL, hl⟩ := C
  obtain ⟨⟨hx, hb, hml, hown, hts⟩, hE, hA⟩ := id X
  have hK := hE.1
  have hbA : ¬ (fun q : Nat => s.heap.size ≤ q) b := Nat.not_le.mpr hbl
  obtain ⟨fs0, e0⟩ := h.x0
  obtain ⟨fs1, e1⟩ := h.m0
  obtain ⟨r, wx1, wm1, k1, k2, h1⟩ := s_witnessLength g l h (xs (Int32.toNatClampNeg (nI i + (1 : Int32))))
  refine lv_aload_n hx hb dL_law_660 rfl (lv_at hl 2 rfl) ?_
  refine lv_aload_n hx hb dL_law_661 rfl (lv_at hl 3 rfl) ?_
  refine lv_iload_n hx hb dL_law_662 rfl (lv_at hl 0 rfl) ?_
  refine lv_iconst (v := (1 : Int32)) hx hb dL_law_663 (by decide) ?_
  refine lv_iadd hx hb dL_law_664 ?_
  refine va_sld hx hb hX hbl hbA hS (pk_in (i + 1) L (by omega) (nI_add i 1)) dL_law_665 ?_
  refine go_L (st1 := [.int r]) (run_V (As := [.int (xs (Int32.toNatClampNeg (nI i + (1 : Int32))))]) (rest := []) X hS k1 okX11_witnessLength wd4_90 ⟨Nat.le_of_ble_eq_true rfl, Nat.le_of_ble_eq_true rfl⟩ ⟨rfl, rfl⟩ (va_recv hK (P_l hP) (ci := 10) (q0 := 0) rfl e0) (P_l hP) (D_l hD) (all_F hS hA (D_l hD)) rfl hl.1 rfl (Nat.le_of_ble_eq_true rfl) dL_law_666 ⟨Nat.le_of_ble_eq_true rfl, Nat.le_of_ble_eq_true rfl⟩) hS hA hP hD rfl (fun H locs hP hD hS => ?_)
  refine lv_aload_n hx hb dL_law_669 rfl (lv_at hl 1 rfl) ?_
  refine lv_aload_n hx hb dL_law_670 rfl (lv_at hl 3 rfl) ?_
  refine lv_iload_n hx hb dL_law_671 rfl (lv_at hl 0 rfl) ?_
  refine lv_iconst (v := (1 : Int32)) hx hb dL_law_672 (by decide) ?_
  refine lv_iadd hx hb dL_law_673 ?_
  refine va_sld hx hb hX hbl hbA hS (pk_in (i + 1) L (by omega) (nI_add i 1)) dL_law_674 ?_
  refine go_R (st1 := [.int r, .int r]) (run_V (As := [.int (xs (Int32.toNatClampNeg (nI i + (1 : Int32))))]) (rest := [.int r]) X hS k2 okX12_witnessLength wd6_26 ⟨Nat.le_of_ble_eq_true rfl, Nat.le_of_ble_eq_true rfl⟩ ⟨rfl, rfl⟩ (va_recv hK (P_r hP) (ci := 11) (q0 := 0) rfl e1) (P_r hP) (D_r hD) (all_F hS hA (D_r hD)) rfl hl.1 rfl (Nat.le_of_ble_eq_true rfl) dL_law_675 ⟨Nat.le_of_ble_eq_true rfl, Nat.le_of_ble_eq_true rfl⟩) hS hA hP hD rfl (fun H locs hP hD hS => ?_)
  refine lv_icmp_eq (tgt := 888) hx hb dL_law_678 (by decide) (fun _ => ?_) (fun q => absurd rfl q)
  exact hk _ _ _ _ h1 hP hD hS
set_option maxHeartbeats 4000000 in
set_option maxRecDepth 100000 in
theorem law_25 (C : LC g p s m c b L xs aX aM i ls) (h : LI g aX aM wx wm) (hP : va_P g.1 vwCl (wx ++ wm) H) (hD : va_D (fun q : Nat => s.heap.size ≤ q) (wx ++ wm)) (hS : va_S (fun q : Nat => s.heap.size ≤ q) s.heap H locs)
    (hk : ∀ (wx' wm' : va_W) (H : Heap) (locs : List Loc), LI g aX aM wx' wm' → va_P g.1 vwCl (wx' ++ wm') H → va_D (fun q : Nat => s.heap.size ≤ q) (wx' ++ wm') → va_S (fun q : Nat => s.heap.size ≤ q) s.heap H locs → W p l e room_1 s m #[Value.ref b] below meth c H locs 57 8063 Q (F0 m 888 ls [])) : W p l e room_1 s m #[Value.ref b] below meth c H locs 57 8063 Q (F0 m 683 ls []) := by
  obtain ⟨X, hX, hbl, hi, hL, hl⟩ := C
  obtain ⟨⟨hx, hb, hml, hown, hts⟩, hE, hA⟩ := id X
  have hK := hE.1
  have hbA : ¬ (fun q : Nat => s.heap.size ≤ q) b := Nat.not_le.mpr hbl
  obtain ⟨fs0, e0⟩ := h.x0
  obtain ⟨fs1, e1⟩ := h.m0
  obtain ⟨r, wx1, wm1, k1, k2, h1⟩ := s_witnessLetter g l h (xs (Int32.toNatClampNeg (nI i + (1 : Int32)))) (xs (Int32.toNatClampNeg (nI i + (2 : Int32))))
  refine lv_aload_n hx hb dL_law_683 rfl (lv_at hl 2 rfl) ?_
  refine lv_aload_n hx hb dL_law_684 rfl (lv_at hl 3 rfl) ?_
  refine lv_iload_n hx hb dL_law_685 rfl (lv_at hl 0 rfl) ?_
  refine lv_iconst (v := (1 : Int32)) hx hb dL_law_686 (by decide) ?_
  refine lv_iadd hx hb dL_law_687 ?_
  refine va_sld hx hb hX hbl hbA hS (pk_in (i + 1) L (by omega) (nI_add i 1)) dL_law_688 ?_
  refine lv_aload_n hx hb dL_law_689 rfl (lv_at hl 3 rfl) ?_
  refine lv_iload_n hx hb dL_law_690 rfl (lv_at hl 0 rfl) ?_
  refine lv_iconst (v := (2 : Int32)) hx hb dL_law_691 (by decide) ?_
  refine lv_iadd hx hb dL_law_692 ?_
  refine va_sld hx hb hX hbl hbA hS (pk_in (i + 2) L (by omega) (nI_add i 2)) dL_law_693 ?_
  refine go_L (st1 := [.int r]) (run_V (As := [.int (xs (Int32.toNatClampNeg (nI i + (1 : Int32)))), .int (xs (Int32.toNatClampNeg (nI i + (2 : Int32))))]) (rest := []) X hS k1 okX11_witnessLetter wd4_113 ⟨Nat.le_of_ble_eq_true rfl, Nat.le_of_ble_eq_true rfl⟩ ⟨rfl, rfl⟩ (va_recv hK (P_l hP) (ci := 10) (q0 := 0) rfl e0) (P_l hP) (D_l hD) (all_F hS hA (D_l hD)) rfl hl.1 rfl (Nat.le_of_ble_eq_true rfl) dL_law_694 ⟨Nat.le_of_ble_eq_true rfl, Nat.le_of_ble_eq_true rfl⟩) hS hA hP hD rfl (fun H locs hP hD hS => ?_)
  refine lv_aload_n hx hb dL_law_697 rfl (lv_at hl 1 rfl) ?_
  refine lv_aload_n hx hb dL_law_698 rfl (lv_at hl 3 rfl) ?_
  refine lv_iload_n hx hb dL_law_699 rfl (lv_at hl 0 rfl) ?_
  refine lv_iconst (v := (1 : Int32)) hx hb dL_law_700 (by decide) ?_
  refine lv_iadd hx hb dL_law_701 ?_
  refine va_sld hx hb hX hbl hbA hS (pk_in (i + 1) L (by omega) (nI_add i 1)) dL_law_702 ?_
  refine lv_aload_n hx hb dL_law_703 rfl (lv_at hl 3 rfl) ?_
  refine lv_iload_n hx hb dL_law_704 rfl (lv_at hl 0 rfl) ?_
  refine lv_iconst (v := (2 : Int32)) hx hb dL_law_705 (by decide) ?_
  refine lv_iadd hx hb dL_law_706 ?_
  refine va_sld hx hb hX hbl hbA hS (pk_in (i + 2) L (by omega) (nI_add i 2)) dL_law_707 ?_
  refine go_R (st1 := [.int r, .int r]) (run_V (As := [.int (xs (Int32.toNatClampNeg (nI i + (1 : Int32)))), .int (xs (Int32.toNatClampNeg (nI i + (2 : Int32))))]) (rest := [.int r]) X hS k2 okX12_witnessLetter wd6_38 ⟨Nat.le_of_ble_eq_true rfl, Nat.le_of_ble_eq_true rfl⟩ ⟨rfl, rfl⟩ (va_recv hK (P_r hP) (ci := 11) (q0 := 0) rfl e1) (P_r hP) (D_r hD) (all_F hS hA (D_r hD)) rfl hl.1 rfl (Nat.le_of_ble_eq_true rfl) dL_law_708 ⟨Nat.le_of_ble_eq_true rfl, Nat.le_of_ble_eq_true rfl⟩) hS hA hP hD rfl (fun H locs hP hD hS => ?_)
  refine lv_icmp_eq (tgt := 888) hx hb dL_law_711 (by decide) (fun _ => ?_) (fun q => absurd rfl q)
  exact hk _ _ _ _ h1 hP hD hS
set_option maxHeartbeats 4000000 in
set_option maxRecDepth 100000 in
theorem law_26 (C : LC g p s m c b L xs aX aM i ls) (h : LI g aX aM wx wm) (hP : va_P g.1 vwCl (wx ++ wm) H) (hD : va_D (fun q : Nat => s.heap.size ≤ q) (wx ++ wm)) (hS : va_S (fun q : Nat => s.heap.size ≤ q) s.heap H locs)
    (hk : ∀ (wx' wm' : va_W) (H : Heap) (locs : List Loc), LI g aX aM wx' wm' → va_P g.1 vwCl (wx' ++ wm') H → va_D (fun q : Nat => s.heap.size ≤ q) (wx' ++ wm') → va_S (fun q : Nat => s.heap.size ≤ q) s.heap H locs → W p l e room_1 s m #[Value.ref b] below meth c H locs 57 8063 Q (F0 m 888 ls [])) : W p l e room_1 s m #[Value.ref b] below meth c H locs 57 8063 Q (F0 m 716 ls []) := by
  obtain ⟨X, hX, hbl, hi, hL, hl⟩ := C
  obtain ⟨⟨hx, hb, hml, hown, hts⟩, hE, hA⟩ := id X
  have hK := hE.1
  have hbA : ¬ (fun q : Nat => s.heap.size ≤ q) b := Nat.not_le.mpr hbl
  obtain ⟨fs0, e0⟩ := h.x0
  obtain ⟨fs1, e1⟩ := h.m0
  obtain ⟨r, wx1, wm1, k1, k2, h1⟩ := s_runScript g l h (xs (Int32.toNatClampNeg (nI i + (1 : Int32)))) ((shlL (Int32.toInt64 (xs (Int32.toNatClampNeg (nI i + (2 : Int32))))) (32 : Int32)) ||| ((Int32.toInt64 (xs (Int32.toNatClampNeg (nI i + (3 : Int32))))) &&& (4294967295 : Int64)))
  refine lv_aload_n hx hb dL_law_716 rfl (lv_at hl 2 rfl) ?_
  refine lv_aload_n hx hb dL_law_717 rfl (lv_at hl 3 rfl) ?_
  refine lv_iload_n hx hb dL_law_718 rfl (lv_at hl 0 rfl) ?_
  refine lv_iconst (v := (1 : Int32)) hx hb dL_law_719 (by decide) ?_
  refine lv_iadd hx hb dL_law_720 ?_
  refine va_sld hx hb hX hbl hbA hS (pk_in (i + 1) L (by omega) (nI_add i 1)) dL_law_721 ?_
  refine lv_aload_n hx hb dL_law_722 rfl (lv_at hl 3 rfl) ?_
  refine lv_iload_n hx hb dL_law_723 rfl (lv_at hl 0 rfl) ?_
  refine lv_iconst (v := (2 : Int32)) hx hb dL_law_724 (by decide) ?_
  refine lv_iadd hx hb dL_law_725 ?_
  refine va_sld hx hb hX hbl hbA hS (pk_in (i + 2) L (by omega) (nI_add i 2)) dL_law_726 ?_
  refine lv_i2l (v := (Int32.toInt64 (xs (Int32.toNatClampNeg (nI i + (2 : Int32)))))) hx hb dL_law_727 rfl ?_
  refine lv_bipush (v := (32 : Int32)) hx hb dL_law_728 (by decide) ?_
  refine lv_lshl (v := (shlL (Int32.toInt64 (xs (Int32.toNatClampNeg (nI i + (2 : Int32))))) (32 : Int32))) hx hb dL_law_730 rfl ?_
  refine lv_aload_n hx hb dL_law_731 rfl (lv_at hl 3 rfl) ?_
  refine lv_iload_n hx hb dL_law_732 rfl (lv_at hl 0 rfl) ?_
  refine lv_iconst (v := (3 : Int32)) hx hb dL_law_733 (by decide) ?_
  refine lv_iadd hx hb dL_law_734 ?_
  refine va_sld hx hb hX hbl hbA hS (pk_in (i + 3) L (by omega) (nI_add i 3)) dL_law_735 ?_
  refine lv_i2l (v := (Int32.toInt64 (xs (Int32.toNatClampNeg (nI i + (3 : Int32)))))) hx hb dL_law_736 rfl ?_
  refine lv_ldc2 (v := (4294967295 : Int64)) hx hb hown (hts _ wd6_70) dL_law_737 ?_
  refine lv_land hx hb dL_law_740 ?_
  refine lv_lor hx hb dL_law_741 ?_
  refine go_L (st1 := [.int r]) (run_V (As := [.int (xs (Int32.toNatClampNeg (nI i + (1 : Int32)))), .long ((shlL (Int32.toInt64 (xs (Int32.toNatClampNeg (nI i + (2 : Int32))))) (32 : Int32)) ||| ((Int32.toInt64 (xs (Int32.toNatClampNeg (nI i + (3 : Int32))))) &&& (4294967295 : Int64)))]) (rest := []) X hS k1 okX11_runScript wd4_121 ⟨Nat.le_of_ble_eq_true rfl, Nat.le_of_ble_eq_true rfl⟩ ⟨rfl, rfl⟩ (va_recv hK (P_l hP) (ci := 10) (q0 := 0) rfl e0) (P_l hP) (D_l hD) (all_F hS hA (D_l hD)) rfl hl.1 rfl (Nat.le_of_ble_eq_true rfl) dL_law_742 ⟨Nat.le_of_ble_eq_true rfl, Nat.le_of_ble_eq_true rfl⟩) hS hA hP hD rfl (fun H locs hP hD hS => ?_)
  refine lv_aload_n hx hb dL_law_745 rfl (lv_at hl 1 rfl) ?_
  refine lv_aload_n hx hb dL_law_746 rfl (lv_at hl 3 rfl) ?_
  refine lv_iload_n hx hb dL_law_747 rfl (lv_at hl 0 rfl) ?_
  refine lv_iconst (v := (1 : Int32)) hx hb dL_law_748 (by decide) ?_
  refine lv_iadd hx hb dL_law_749 ?_
  refine va_sld hx hb hX hbl hbA hS (pk_in (i + 1) L (by omega) (nI_add i 1)) dL_law_750 ?_
  refine lv_aload_n hx hb dL_law_751 rfl (lv_at hl 3 rfl) ?_
  refine lv_iload_n hx hb dL_law_752 rfl (lv_at hl 0 rfl) ?_
  refine lv_iconst (v := (2 : Int32)) hx hb dL_law_753 (by decide) ?_
  refine lv_iadd hx hb dL_law_754 ?_
  refine va_sld hx hb hX hbl hbA hS (pk_in (i + 2) L (by omega) (nI_add i 2)) dL_law_755 ?_
  refine lv_i2l (v := (Int32.toInt64 (xs (Int32.toNatClampNeg (nI i + (2 : Int32)))))) hx hb dL_law_756 rfl ?_
  refine lv_bipush (v := (32 : Int32)) hx hb dL_law_757 (by decide) ?_
  refine lv_lshl (v := (shlL (Int32.toInt64 (xs (Int32.toNatClampNeg (nI i + (2 : Int32))))) (32 : Int32))) hx hb dL_law_759 rfl ?_
  refine lv_aload_n hx hb dL_law_760 rfl (lv_at hl 3 rfl) ?_
  refine lv_iload_n hx hb dL_law_761 rfl (lv_at hl 0 rfl) ?_
  refine lv_iconst (v := (3 : Int32)) hx hb dL_law_762 (by decide) ?_
  refine lv_iadd hx hb dL_law_763 ?_
  refine va_sld hx hb hX hbl hbA hS (pk_in (i + 3) L (by omega) (nI_add i 3)) dL_law_764 ?_
  refine lv_i2l (v := (Int32.toInt64 (xs (Int32.toNatClampNeg (nI i + (3 : Int32)))))) hx hb dL_law_765 rfl ?_
  refine lv_ldc2 (v := (4294967295 : Int64)) hx hb hown (hts _ wd6_70) dL_law_766 ?_
  refine lv_land hx hb dL_law_769 ?_
  refine lv_lor hx hb dL_law_770 ?_
  refine go_R (st1 := [.int r, .int r]) (run_V (As := [.int (xs (Int32.toNatClampNeg (nI i + (1 : Int32)))), .long ((shlL (Int32.toInt64 (xs (Int32.toNatClampNeg (nI i + (2 : Int32))))) (32 : Int32)) ||| ((Int32.toInt64 (xs (Int32.toNatClampNeg (nI i + (3 : Int32))))) &&& (4294967295 : Int64)))]) (rest := [.int r]) X hS k2 okX12_runScript wd6_42 ⟨Nat.le_of_ble_eq_true rfl, Nat.le_of_ble_eq_true rfl⟩ ⟨rfl, rfl⟩ (va_recv hK (P_r hP) (ci := 11) (q0 := 0) rfl e1) (P_r hP) (D_r hD) (all_F hS hA (D_r hD)) rfl hl.1 rfl (Nat.le_of_ble_eq_true rfl) dL_law_771 ⟨Nat.le_of_ble_eq_true rfl, Nat.le_of_ble_eq_true rfl⟩) hS hA hP hD rfl (fun H locs hP hD hS => ?_)
  refine lv_icmp_eq (tgt := 888) hx hb dL_law_774 (by decide) (fun _ => ?_) (fun q => absurd rfl q)
  exact hk _ _ _ _ h1 hP hD hS
set_option maxHeartbeats 4000000 in
set_option maxRecDepth 100000 in
theorem law_27 (C : LC g p s m c b L xs aX aM i ls) (h : LI g aX aM wx wm) (hP : va_P g.1 vwCl (wx ++ wm) H) (hD : va_D (fun q : Nat => s.heap.size ≤ q) (wx ++ wm)) (hS : va_S (fun q : Nat => s.heap.size ≤ q) s.heap H locs)
    (hk : ∀ (wx' wm' : va_W) (H : Heap) (locs : List Loc), LI g aX aM wx' wm' → va_P g.1 vwCl (wx' ++ wm') H → va_D (fun q : Nat => s.heap.size ≤ q) (wx' ++ wm') → va_S (fun q : Nat => s.heap.size ≤ q) s.heap H locs → W p l e room_1 s m #[Value.ref b] below meth c H locs 57 8063 Q (F0 m 888 ls [])) : W p l e room_1 s m #[Value.ref b] below meth c H locs 57 8063 Q (F0 m 779 ls []) := by
  obtain ⟨X, hX, hbl, hi, hL, hl⟩ := C
  obtain ⟨⟨hx, hb, hml, hown, hts⟩, hE, hA⟩ := id X
  have hK := hE.1
  have hbA : ¬ (fun q : Nat => s.heap.size ≤ q) b := Nat.not_le.mpr hbl
  obtain ⟨fs0, e0⟩ := h.x0
  obtain ⟨fs1, e1⟩ := h.m0
  obtain ⟨r, wx1, wm1, k1, k2, h1⟩ := s_randomChecks g l h ((shlL (Int32.toInt64 (xs (Int32.toNatClampNeg (nI i + (1 : Int32))))) (32 : Int32)) ||| ((Int32.toInt64 (xs (Int32.toNatClampNeg (nI i + (2 : Int32))))) &&& (4294967295 : Int64))) (xs (Int32.toNatClampNeg (nI i + (3 : Int32))))
  refine lv_aload_n hx hb dL_law_779 rfl (lv_at hl 2 rfl) ?_
  refine lv_aload_n hx hb dL_law_780 rfl (lv_at hl 3 rfl) ?_
  refine lv_iload_n hx hb dL_law_781 rfl (lv_at hl 0 rfl) ?_
  refine lv_iconst (v := (1 : Int32)) hx hb dL_law_782 (by decide) ?_
  refine lv_iadd hx hb dL_law_783 ?_
  refine va_sld hx hb hX hbl hbA hS (pk_in (i + 1) L (by omega) (nI_add i 1)) dL_law_784 ?_
  refine lv_i2l (v := (Int32.toInt64 (xs (Int32.toNatClampNeg (nI i + (1 : Int32)))))) hx hb dL_law_785 rfl ?_
  refine lv_bipush (v := (32 : Int32)) hx hb dL_law_786 (by decide) ?_
  refine lv_lshl (v := (shlL (Int32.toInt64 (xs (Int32.toNatClampNeg (nI i + (1 : Int32))))) (32 : Int32))) hx hb dL_law_788 rfl ?_
  refine lv_aload_n hx hb dL_law_789 rfl (lv_at hl 3 rfl) ?_
  refine lv_iload_n hx hb dL_law_790 rfl (lv_at hl 0 rfl) ?_
  refine lv_iconst (v := (2 : Int32)) hx hb dL_law_791 (by decide) ?_
  refine lv_iadd hx hb dL_law_792 ?_
  refine va_sld hx hb hX hbl hbA hS (pk_in (i + 2) L (by omega) (nI_add i 2)) dL_law_793 ?_
  refine lv_i2l (v := (Int32.toInt64 (xs (Int32.toNatClampNeg (nI i + (2 : Int32)))))) hx hb dL_law_794 rfl ?_
  refine lv_ldc2 (v := (4294967295 : Int64)) hx hb hown (hts _ wd6_70) dL_law_795 ?_
  refine lv_land hx hb dL_law_798 ?_
  refine lv_lor hx hb dL_law_799 ?_
  refine lv_aload_n hx hb dL_law_800 rfl (lv_at hl 3 rfl) ?_
  refine lv_iload_n hx hb dL_law_801 rfl (lv_at hl 0 rfl) ?_
  refine lv_iconst (v := (3 : Int32)) hx hb dL_law_802 (by decide) ?_
  refine lv_iadd hx hb dL_law_803 ?_
  refine va_sld hx hb hX hbl hbA hS (pk_in (i + 3) L (by omega) (nI_add i 3)) dL_law_804 ?_
  refine go_L (st1 := [.int r]) (run_V (As := [.long ((shlL (Int32.toInt64 (xs (Int32.toNatClampNeg (nI i + (1 : Int32))))) (32 : Int32)) ||| ((Int32.toInt64 (xs (Int32.toNatClampNeg (nI i + (2 : Int32))))) &&& (4294967295 : Int64))), .int (xs (Int32.toNatClampNeg (nI i + (3 : Int32))))]) (rest := []) X hS k1 okX11_randomChecks wd4_159 ⟨Nat.le_of_ble_eq_true rfl, Nat.le_of_ble_eq_true rfl⟩ ⟨rfl, rfl⟩ (va_recv hK (P_l hP) (ci := 10) (q0 := 0) rfl e0) (P_l hP) (D_l hD) (all_F hS hA (D_l hD)) rfl hl.1 rfl (Nat.le_of_ble_eq_true rfl) dL_law_805 ⟨Nat.le_of_ble_eq_true rfl, Nat.le_of_ble_eq_true rfl⟩) hS hA hP hD rfl (fun H locs hP hD hS => ?_)
  refine lv_aload_n hx hb dL_law_808 rfl (lv_at hl 1 rfl) ?_
  refine lv_aload_n hx hb dL_law_809 rfl (lv_at hl 3 rfl) ?_
  refine lv_iload_n hx hb dL_law_810 rfl (lv_at hl 0 rfl) ?_
  refine lv_iconst (v := (1 : Int32)) hx hb dL_law_811 (by decide) ?_
  refine lv_iadd hx hb dL_law_812 ?_
  refine va_sld hx hb hX hbl hbA hS (pk_in (i + 1) L (by omega) (nI_add i 1)) dL_law_813 ?_
  refine lv_i2l (v := (Int32.toInt64 (xs (Int32.toNatClampNeg (nI i + (1 : Int32)))))) hx hb dL_law_814 rfl ?_
  refine lv_bipush (v := (32 : Int32)) hx hb dL_law_815 (by decide) ?_
  refine lv_lshl (v := (shlL (Int32.toInt64 (xs (Int32.toNatClampNeg (nI i + (1 : Int32))))) (32 : Int32))) hx hb dL_law_817 rfl ?_
  refine lv_aload_n hx hb dL_law_818 rfl (lv_at hl 3 rfl) ?_
  refine lv_iload_n hx hb dL_law_819 rfl (lv_at hl 0 rfl) ?_
  refine lv_iconst (v := (2 : Int32)) hx hb dL_law_820 (by decide) ?_
  refine lv_iadd hx hb dL_law_821 ?_
  refine va_sld hx hb hX hbl hbA hS (pk_in (i + 2) L (by omega) (nI_add i 2)) dL_law_822 ?_
  refine lv_i2l (v := (Int32.toInt64 (xs (Int32.toNatClampNeg (nI i + (2 : Int32)))))) hx hb dL_law_823 rfl ?_
  refine lv_ldc2 (v := (4294967295 : Int64)) hx hb hown (hts _ wd6_70) dL_law_824 ?_
  refine lv_land hx hb dL_law_827 ?_
  refine lv_lor hx hb dL_law_828 ?_
  refine lv_aload_n hx hb dL_law_829 rfl (lv_at hl 3 rfl) ?_
  refine lv_iload_n hx hb dL_law_830 rfl (lv_at hl 0 rfl) ?_
  refine lv_iconst (v := (3 : Int32)) hx hb dL_law_831 (by decide) ?_
  refine lv_iadd hx hb dL_law_832 ?_
  refine va_sld hx hb hX hbl hbA hS (pk_in (i + 3) L (by omega) (nI_add i 3)) dL_law_833 ?_
  refine go_R (st1 := [.int r, .int r]) (run_V (As := [.long ((shlL (Int32.toInt64 (xs (Int32.toNatClampNeg (nI i + (1 : Int32))))) (32 : Int32)) ||| ((Int32.toInt64 (xs (Int32.toNatClampNeg (nI i + (2 : Int32))))) &&& (4294967295 : Int64))), .int (xs (Int32.toNatClampNeg (nI i + (3 : Int32))))]) (rest := [.int r]) X hS k2 okX12_randomChecks wd6_55 ⟨Nat.le_of_ble_eq_true rfl, Nat.le_of_ble_eq_true rfl⟩ ⟨rfl, rfl⟩ (va_recv hK (P_r hP) (ci := 11) (q0 := 0) rfl e1) (P_r hP) (D_r hD) (all_F hS hA (D_r hD)) rfl hl.1 rfl (Nat.le_of_ble_eq_true rfl) dL_law_834 ⟨Nat.le_of_ble_eq_true rfl, Nat.le_of_ble_eq_true rfl⟩) hS hA hP hD rfl (fun H locs hP hD hS => ?_)
  refine lv_icmp_eq (tgt := 888) hx hb dL_law_837 (by decide) (fun _ => ?_) (fun q => absurd rfl q)
  exact hk _ _ _ _ h1 hP hD hS
set_option maxHeartbeats 4000000 in
set_option maxRecDepth 100000 in
theorem law_28 (C : LC g p s m c b L xs aX aM i ls) (h : LI g aX aM wx wm) (hP : va_P g.1 vwCl (wx ++ wm) H) (hD : va_D (fun q : Nat => s.heap.size ≤ q) (wx ++ wm)) (hS : va_S (fun q : Nat => s.heap.size ≤ q) s.heap H locs)
    (hk : ∀ (wx' wm' : va_W) (H : Heap) (locs : List Loc), LI g aX aM wx' wm' → va_P g.1 vwCl (wx' ++ wm') H → va_D (fun q : Nat => s.heap.size ≤ q) (wx' ++ wm') → va_S (fun q : Nat => s.heap.size ≤ q) s.heap H locs → W p l e room_1 s m #[Value.ref b] below meth c H locs 57 8063 Q (F0 m 888 ls [])) : W p l e room_1 s m #[Value.ref b] below meth c H locs 57 8063 Q (F0 m 842 ls []) := by
  obtain ⟨X, hX, hbl, hi, hL, hl⟩ := C
  obtain ⟨⟨hx, hb, hml, hown, hts⟩, hE, hA⟩ := id X
  have hK := hE.1
  have hbA : ¬ (fun q : Nat => s.heap.size ≤ q) b := Nat.not_le.mpr hbl
  obtain ⟨fs0, e0⟩ := h.x0
  obtain ⟨fs1, e1⟩ := h.m0
  obtain ⟨r, wx1, wm1, k1, k2, h1⟩ := s_save g l h (xs (Int32.toNatClampNeg (nI i + (1 : Int32))))
  refine lv_aload_n hx hb dL_law_842 rfl (lv_at hl 2 rfl) ?_
  refine lv_aload_n hx hb dL_law_843 rfl (lv_at hl 3 rfl) ?_
  refine lv_iload_n hx hb dL_law_844 rfl (lv_at hl 0 rfl) ?_
  refine lv_iconst (v := (1 : Int32)) hx hb dL_law_845 (by decide) ?_
  refine lv_iadd hx hb dL_law_846 ?_
  refine va_sld hx hb hX hbl hbA hS (pk_in (i + 1) L (by omega) (nI_add i 1)) dL_law_847 ?_
  refine go_L (st1 := [.int r]) (run_V (As := [.int (xs (Int32.toNatClampNeg (nI i + (1 : Int32))))]) (rest := []) X hS k1 okX11_save wd4_165 ⟨Nat.le_of_ble_eq_true rfl, Nat.le_of_ble_eq_true rfl⟩ ⟨rfl, rfl⟩ (va_recv hK (P_l hP) (ci := 10) (q0 := 0) rfl e0) (P_l hP) (D_l hD) (all_F hS hA (D_l hD)) rfl hl.1 rfl (Nat.le_of_ble_eq_true rfl) dL_law_848 ⟨Nat.le_of_ble_eq_true rfl, Nat.le_of_ble_eq_true rfl⟩) hS hA hP hD rfl (fun H locs hP hD hS => ?_)
  refine lv_aload_n hx hb dL_law_851 rfl (lv_at hl 1 rfl) ?_
  refine lv_aload_n hx hb dL_law_852 rfl (lv_at hl 3 rfl) ?_
  refine lv_iload_n hx hb dL_law_853 rfl (lv_at hl 0 rfl) ?_
  refine lv_iconst (v := (1 : Int32)) hx hb dL_law_854 (by decide) ?_
  refine lv_iadd hx hb dL_law_855 ?_
  refine va_sld hx hb hX hbl hbA hS (pk_in (i + 1) L (by omega) (nI_add i 1)) dL_law_856 ?_
  refine go_R (st1 := [.int r, .int r]) (run_V (As := [.int (xs (Int32.toNatClampNeg (nI i + (1 : Int32))))]) (rest := [.int r]) X hS k2 okX12_save wd6_62 ⟨Nat.le_of_ble_eq_true rfl, Nat.le_of_ble_eq_true rfl⟩ ⟨rfl, rfl⟩ (va_recv hK (P_r hP) (ci := 11) (q0 := 0) rfl e1) (P_r hP) (D_r hD) (all_F hS hA (D_r hD)) rfl hl.1 rfl (Nat.le_of_ble_eq_true rfl) dL_law_857 ⟨Nat.le_of_ble_eq_true rfl, Nat.le_of_ble_eq_true rfl⟩) hS hA hP hD rfl (fun H locs hP hD hS => ?_)
  refine lv_icmp_eq (tgt := 888) hx hb dL_law_860 (by decide) (fun _ => ?_) (fun q => absurd rfl q)
  exact hk _ _ _ _ h1 hP hD hS
set_option maxHeartbeats 4000000 in
set_option maxRecDepth 100000 in
theorem law_29 (C : LC g p s m c b L xs aX aM i ls) (h : LI g aX aM wx wm) (hP : va_P g.1 vwCl (wx ++ wm) H) (hD : va_D (fun q : Nat => s.heap.size ≤ q) (wx ++ wm)) (hS : va_S (fun q : Nat => s.heap.size ≤ q) s.heap H locs)
    (hk : ∀ (wx' wm' : va_W) (H : Heap) (locs : List Loc), LI g aX aM wx' wm' → va_P g.1 vwCl (wx' ++ wm') H → va_D (fun q : Nat => s.heap.size ≤ q) (wx' ++ wm') → va_S (fun q : Nat => s.heap.size ≤ q) s.heap H locs → W p l e room_1 s m #[Value.ref b] below meth c H locs 57 8063 Q (F0 m 888 ls [])) : W p l e room_1 s m #[Value.ref b] below meth c H locs 57 8063 Q (F0 m 865 ls []) := by
  obtain ⟨X, hX, hbl, hi, hL, hl⟩ := C
  obtain ⟨⟨hx, hb, hml, hown, hts⟩, hE, hA⟩ := id X
  have hK := hE.1
  have hbA : ¬ (fun q : Nat => s.heap.size ≤ q) b := Nat.not_le.mpr hbl
  obtain ⟨fs0, e0⟩ := h.x0
  obtain ⟨fs1, e1⟩ := h.m0
  obtain ⟨r, wx1, wm1, k1, k2, h1⟩ := s_restore g l h (xs (Int32.toNatClampNeg (nI i + (1 : Int32))))
  refine lv_aload_n hx hb dL_law_865 rfl (lv_at hl 2 rfl) ?_
  refine lv_aload_n hx hb dL_law_866 rfl (lv_at hl 3 rfl) ?_
  refine lv_iload_n hx hb dL_law_867 rfl (lv_at hl 0 rfl) ?_
  refine lv_iconst (v := (1 : Int32)) hx hb dL_law_868 (by decide) ?_
  refine lv_iadd hx hb dL_law_869 ?_
  refine va_sld hx hb hX hbl hbA hS (pk_in (i + 1) L (by omega) (nI_add i 1)) dL_law_870 ?_
  refine go_L (st1 := [.int r]) (run_V (As := [.int (xs (Int32.toNatClampNeg (nI i + (1 : Int32))))]) (rest := []) X hS k1 okX11_restore wd4_177 ⟨Nat.le_of_ble_eq_true rfl, Nat.le_of_ble_eq_true rfl⟩ ⟨rfl, rfl⟩ (va_recv hK (P_l hP) (ci := 10) (q0 := 0) rfl e0) (P_l hP) (D_l hD) (all_F hS hA (D_l hD)) rfl hl.1 rfl (Nat.le_of_ble_eq_true rfl) dL_law_871 ⟨Nat.le_of_ble_eq_true rfl, Nat.le_of_ble_eq_true rfl⟩) hS hA hP hD rfl (fun H locs hP hD hS => ?_)
  refine lv_aload_n hx hb dL_law_874 rfl (lv_at hl 1 rfl) ?_
  refine lv_aload_n hx hb dL_law_875 rfl (lv_at hl 3 rfl) ?_
  refine lv_iload_n hx hb dL_law_876 rfl (lv_at hl 0 rfl) ?_
  refine lv_iconst (v := (1 : Int32)) hx hb dL_law_877 (by decide) ?_
  refine lv_iadd hx hb dL_law_878 ?_
  refine va_sld hx hb hX hbl hbA hS (pk_in (i + 1) L (by omega) (nI_add i 1)) dL_law_879 ?_
  refine go_R (st1 := [.int r, .int r]) (run_V (As := [.int (xs (Int32.toNatClampNeg (nI i + (1 : Int32))))]) (rest := [.int r]) X hS k2 okX12_restore wd6_66 ⟨Nat.le_of_ble_eq_true rfl, Nat.le_of_ble_eq_true rfl⟩ ⟨rfl, rfl⟩ (va_recv hK (P_r hP) (ci := 11) (q0 := 0) rfl e1) (P_r hP) (D_r hD) (all_F hS hA (D_r hD)) rfl hl.1 rfl (Nat.le_of_ble_eq_true rfl) dL_law_880 ⟨Nat.le_of_ble_eq_true rfl, Nat.le_of_ble_eq_true rfl⟩) hS hA hP hD rfl (fun H locs hP hD hS => ?_)
  refine lv_icmp_eq (tgt := 888) hx hb dL_law_883 (by decide) (fun _ => ?_) (fun q => absurd rfl q)
  exact hk _ _ _ _ h1 hP hD hS
end LAW
