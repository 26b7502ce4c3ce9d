/-! the search: its states, and what adds a node to them -/
abbrev ND := List Nat × List Nat × Nat × Nat × Nat
abbrev SS := List ND × Option Nat × Bool
def svC : Option Nat → Int32
  | none => -nI 1
  | some j => nI j
def svM : Option Nat → Int32
  | none => -nI 9
  | some j => nI j
set_option maxRecDepth 100000 in
theorem ne_neg {j c : Nat} (hj : j < 2 ^ 31) (h0 : 0 < c) (hc : c < 2 ^ 30) : ¬ nI j = -nI c := by
  intro h
  have h2 : nI j + nI c = nI 0 := by rw [h, Int32.add_comm]; exact Int32.add_right_neg _
  rw [nI_add] at h2
  have h3 := congrArg (fun x : Int32 => x.toBitVec.toNat) h2
  have e1 : (nI (j + c)).toBitVec.toNat = (j + c) % 2 ^ 32 := BitVec.toNat_ofNat _ _
  have e2 : (nI 0).toBitVec.toNat = 0 := rfl
  have h3 : (nI (j + c)).toBitVec.toNat = (nI 0).toBitVec.toNat := h3
  rw [e1, e2, Nat.mod_eq_of_lt (by omega)] at h3
  omega
def same (xs ys : List Nat) (n : ND) : Bool := decide (n.1 = xs) && decide (n.2.1 = ys)
def dpt (ns : List ND) (p : Nat) : Nat := match ns[p]? with
  | none => 0
  | some n => n.2.2.2.2 + 1
def addS (p r : Nat) (xs ys : List Nat) (s : SS) : SS :=
  if s.2.1.isSome = true then s else if s.1.any (same xs ys) = true then s else if 200 ≤ s.1.length then (s.1, none, true) else (s.1 ++ [(xs, ys, p, r, dpt s.1 p)], if xs.length + ys.length = 0 then some s.1.length else none, s.2.2)
def dropS (s : SS) : SS := if s.2.1.isSome = true then s else (s.1, none, true)
set_option maxRecDepth 100000 in
theorem addS_done {p r : Nat} {xs ys : List Nat} {s : SS} (h : s.2.1.isSome = true) : addS p r xs ys s = s := if_pos h
set_option maxRecDepth 100000 in
theorem dropS_done {s : SS} (h : s.2.1.isSome = true) : dropS s = s := if_pos h
set_option maxRecDepth 100000 in
theorem addS_known {p r : Nat} {xs ys : List Nat} {s : SS} (h : s.1.any (same xs ys) = true) : addS p r xs ys s = s := by
  unfold addS
  rw [if_pos h, ite_self]
set_option maxRecDepth 100000 in
theorem addS_full {p r : Nat} {xs ys : List Nat} {s : SS} (h : s.2.1 = none) (h1 : s.1.any (same xs ys) = false) (h2 : 200 ≤ s.1.length) : addS p r xs ys s = (s.1, none, true) := by
  unfold addS
  rw [h, if_neg (by decide), h1, if_neg (by decide), if_pos h2]
set_option maxRecDepth 100000 in
theorem addS_new {p r : Nat} {xs ys : List Nat} {s : SS} (h : s.2.1 = none) (h1 : s.1.any (same xs ys) = false) (h2 : s.1.length < 200) : addS p r xs ys s = (s.1 ++ [(xs, ys, p, r, dpt s.1 p)], if xs.length + ys.length = 0 then some s.1.length else none, s.2.2) := by
  unfold addS
  rw [h, if_neg (by decide), h1, if_neg (by decide), if_neg (by omega)]
set_option maxRecDepth 100000 in
theorem dropS_new {s : SS} (h : s.2.1 = none) : dropS s = (s.1, none, true) := by
  unfold dropS
  rw [h, if_neg (by decide)]
set_option maxRecDepth 100000 in
theorem pq_inj : ∀ {xs ys : List Nat}, (∀ x ∈ xs, x < 6) → (∀ y ∈ ys, y < 6) → pq xs = pq ys → xs = ys
  | [], [], _, _, _ => rfl
  | [], y :: ys, _, _, h => by rw [pq, pq] at h; omega
  | x :: xs, [], _, _, h => by rw [pq, pq] at h; omega
  | x :: xs, y :: ys, hx, hy, h => by
    have a := hx x List.mem_cons_self
    have b := hy y List.mem_cons_self
    rw [pq, pq] at h
    have e : x = y := by omega
    rw [e, pq_inj (fun z hz => hx z (List.mem_cons_of_mem _ hz)) (fun z hz => hy z (List.mem_cons_of_mem _ hz)) (by omega)]
set_option maxRecDepth 100000 in
theorem lgc_pq {xs ys : List Nat} (hx : okS 13 xs) (hy : okS 13 ys) : lg_cmp (lN (pq xs)) (lN (pq ys)) = nI 0 ↔ xs = ys := by
  have a := pq_lt13 hx
  have b := pq_lt13 hy
  have e : lg_cmp (lN (pq xs)) (lN (pq ys)) = 0 ↔ pq xs = pq ys := lgc (by omega) (by omega)
  exact e.trans ⟨fun h => pq_inj hx.2 hy.2 h, fun h => by rw [h]⟩
/-- what stands in every state -/
def INV (s : SS) : Prop := 0 < s.1.length ∧ s.1.length ≤ 200 ∧ (∀ j, s.2.1 = some j → j < s.1.length) ∧ ∀ (i : Nat) (n : ND), s.1[i]? = some n → okS 12 n.1 ∧ okS 12 n.2.1
/-- the class's rows -/
def RN (s : SS) (Nz Ns Nd : Int32) (Nl Nr : Nat → Int64) (Np Nu Ne : Nat → Int32) : Prop :=
  Nz = nI s.1.length ∧ Ns = svC s.2.1 ∧ (s.2.1 = none → Nd = nI (b1 s.2.2)) ∧ ∀ (i : Nat) (n : ND), s.1[i]? = some n → Nl i = lN (pq n.1) ∧ Nr i = lN (pq n.2.1) ∧ Np i = (if i = 0 then -nI 1 else nI n.2.2.1) ∧ Nu i = nI n.2.2.2.1 ∧ Ne i = nI n.2.2.2.2
section NC
variable {s : SS} {Nz Ns Nd : Int32} {Nl Nr : Nat → Int64} {Np Nu Ne : Nat → Int32}
set_option maxRecDepth 100000 in
theorem nKnown (hI : INV s) (h : RN s Nz Ns Nd Nl Nr Np Nu Ne) {xs ys : List Nat} (hx : okS 13 xs) (hy : okS 13 ys) : fN_isKnown Nz Nl Nr (lN (pq xs)) (lN (pq ys)) = some (nI (b1 (s.1.any (same xs ys)))) := by
  obtain ⟨rfl, -, -, hn⟩ := h
  obtain ⟨-, hL, -, ho⟩ := hI
  have key : ∀ (d i m : Nat), i + d = s.1.length → d < m → fx1 (fN_isKnown_3 (nI s.1.length) Nl Nr (lN (pq xs)) (lN (pq ys))) m (nI i) = some (nI (b1 ((s.1.drop i).any (same xs ys)))) := by
    intro d
    induction d with
    | zero =>
      intro i m hi hm
      obtain ⟨m, rfl⟩ := succ_of hm
      rw [List.drop_eq_nil_of_le (by omega), List.any_nil, b1_f]
      simp -implicitDefEqProofs (disch := omega) only [fx1_s, fN_isKnown_3, litI, litL, nI_add, pk_mul, bd0_e, bd1_e, bd2_e, bd3_e, bd4_e, st_e, nI_leI, nI_ltI, nI_eq, if_pos, if_neg, if_true, if_false, ld_nI, sti_nI, stl_nI]
    | succ d ih =>
      intro i m hi hm
      obtain ⟨m, rfl⟩ := succ_of hm
      have hi2 : i < s.1.length := by omega
      obtain ⟨e1, e2, -⟩ := hn i s.1[i] (List.getElem?_eq_getElem hi2)
      obtain ⟨o1, o2⟩ := ho i s.1[i] (List.getElem?_eq_getElem hi2)
      have c1 := lgc_pq (ok13 o1) hx
      have c2 := lgc_pq (ok13 o2) hy
      rw [List.drop_eq_getElem_cons hi2, List.any_cons]
      have e3 := ih (i + 1) m (by omega) (by omega)
      by_cases q1 : s.1[i].1 = xs
      · have c1 := c1.mpr q1
        by_cases q2 : s.1[i].2.1 = ys
        · have c2 := c2.mpr q2
          rw [show same xs ys s.1[i] = true by unfold same; rw [decide_eq_true q1, decide_eq_true q2]; rfl, Bool.true_or, b1_t]
          simp -implicitDefEqProofs (disch := omega) only [fx1_s, fN_isKnown_3, litI, litL, nI_add, pk_mul, bd0_e, bd1_e, bd2_e, bd3_e, bd4_e, st_e, nI_leI, nI_ltI, nI_eq, if_pos, if_neg, if_true, if_false, ld_nI, sti_nI, stl_nI, e1, e2, c1, c2]
        · have c2 : ¬ _ := fun z => q2 (c2.mp z)
          rw [show same xs ys s.1[i] = false by unfold same; rw [decide_eq_false q2, Bool.and_false], Bool.false_or, ← e3]
          simp -implicitDefEqProofs (disch := omega) only [fx1_s, fN_isKnown_3, litI, litL, nI_add, pk_mul, bd0_e, bd1_e, bd2_e, bd3_e, bd4_e, st_e, nI_leI, nI_ltI, nI_eq, if_pos, if_neg, if_true, if_false, ld_nI, sti_nI, stl_nI, e1, e2, c1, c2]
      · have c1 : ¬ _ := fun z => q1 (c1.mp z)
        rw [show same xs ys s.1[i] = false by unfold same; rw [decide_eq_false q1, Bool.false_and], Bool.false_or, ← e3]
        simp -implicitDefEqProofs (disch := omega) only [fx1_s, fN_isKnown_3, litI, litL, nI_add, pk_mul, bd0_e, bd1_e, bd2_e, bd3_e, bd4_e, st_e, nI_leI, nI_ltI, nI_eq, if_pos, if_neg, if_true, if_false, ld_nI, sti_nI, stl_nI, e1, c1]
  have := key s.1.length 0 FU (by omega) (fuel (by omega))
  rw [List.drop_zero] at this
  exact this
set_option maxRecDepth 100000 in
theorem nIsNode (hI : INV s) {p : Nat} (hp : p < s.1.length) : fN_isNode (nI s.1.length) (nI p) = some (nI 1) := by
  have := hI.2.1
  simp -implicitDefEqProofs (disch := omega) only [fN_isNode, litI, litL, nI_add, pk_mul, bd0_e, bd1_e, bd2_e, bd3_e, bd4_e, st_e, nI_leI, nI_ltI, nI_eq, if_pos, if_neg, if_true, if_false, ld_nI, sti_nI, stl_nI]
set_option maxRecDepth 100000 in
theorem len0 {xs ys : List Nat} : xs.length + ys.length = 0 ↔ xs = [] ∧ ys = [] := by
  cases xs <;> cases ys <;> simp
set_option maxRecDepth 100000 in
theorem z0 : lN 0 = lN (pq []) := rfl
set_option maxRecDepth 100000 in
theorem nAddNode (hI : INV s) (h : RN s Nz Ns Nd Nl Nr Np Nu Ne) {p r : Nat} (hp : p < s.1.length) {xs ys : List Nat} (hx : okS 12 xs) (hy : okS 12 ys) :
    ∃ Nz' Ns' Nd' Nl' Nr' Np' Nu' Ne', fN_addNode Nz Ns Nd Nl Nr Np Nu Ne (nI p) (nI r) (lN (pq xs)) (lN (pq ys)) = some (Nz', Ns', Nd', Nl', Nr', Np', Nu', Ne') ∧ RN (addS p r xs ys s) Nz' Ns' Nd' Nl' Nr' Np' Nu' Ne' := by
  have hk := nKnown hI h (ok13 hx) (ok13 hy)
  have hnd := nIsNode hI hp
  have hh := h
  obtain ⟨rfl, rfl, hd, hn⟩ := h
  have hL := hI.2.1
  cases hs : s.2.1 with
  | some j =>
    have hj := hI.2.2.1 j hs
    have e := ne_neg (j := j) (c := 1) (by omega) (by decide) (by decide)
    refine ⟨nI s.1.length, svC s.2.1, Nd, Nl, Nr, Np, Nu, Ne, ?_, ?_⟩
    · rw [hs]
      simp -implicitDefEqProofs (disch := omega) only [fN_addNode, svC, litI, litL, nI_add, pk_mul, bd0_e, bd1_e, bd2_e, bd3_e, bd4_e, st_e, nI_leI, nI_ltI, nI_eq, if_pos, if_neg, if_true, if_false, ld_nI, sti_nI, stl_nI, e]
    · rw [addS_done (by rw [hs]; rfl)]; exact hh
  | none =>
    cases ha : s.1.any (same xs ys) with
    | true =>
      rw [ha, b1_t] at hk
      refine ⟨nI s.1.length, svC s.2.1, Nd, Nl, Nr, Np, Nu, Ne, ?_, ?_⟩
      · rw [hs]
        simp -implicitDefEqProofs (disch := omega) only [fN_addNode, svC, litI, litL, nI_add, pk_mul, bd0_e, bd1_e, bd2_e, bd3_e, bd4_e, st_e, nI_leI, nI_ltI, nI_eq, if_pos, if_neg, if_true, if_false, ld_nI, sti_nI, stl_nI, hk]
      · rw [addS_known ha]; exact hh
    | false =>
      rw [ha, b1_f] at hk
      by_cases hf : 200 ≤ s.1.length
      · refine ⟨nI s.1.length, -nI 1, nI 1, Nl, Nr, Np, Nu, Ne, ?_, ?_⟩
        · simp -implicitDefEqProofs (disch := omega) only [fN_addNode, fN_addNode_36, svC, litI, litL, nI_add, pk_mul, bd0_e, bd1_e, bd2_e, bd3_e, bd4_e, st_e, nI_leI, nI_ltI, nI_eq, if_pos, if_neg, if_true, if_false, ld_nI, sti_nI, stl_nI, hk]
        · rw [addS_full hs ha hf]
          exact ⟨rfl, rfl, fun _ => rfl, hn⟩
      · have hpn := hn p s.1[p] (List.getElem?_eq_getElem hp)
        have ed : dpt s.1 p = s.1[p].2.2.2.2 + 1 := by unfold dpt; rw [List.getElem?_eq_getElem hp]
        have edp := hpn.2.2.2.2
        have c1 := lgc_pq (ok13 hx) (ys := []) ⟨by decide, fun x hx => by cases hx⟩
        have c2 := lgc_pq (ok13 hy) (ys := []) ⟨by decide, fun x hx => by cases hx⟩
        rw [← z0] at c1 c2
        rw [addS_new hs ha (by omega)]
        refine ⟨nI (s.1.length + 1), svC (if xs.length + ys.length = 0 then some s.1.length else none), Nd, vp_updL Nl s.1.length (lN (pq xs)), vp_updL Nr s.1.length (lN (pq ys)), upd Np s.1.length (nI p), upd Nu s.1.length (nI r), upd Ne s.1.length (nI (dpt s.1 p)), ?_, ?_⟩
        · by_cases q1 : xs = []
          · have c1 := c1.mpr q1
            by_cases q2 : ys = []
            · have c2 := c2.mpr q2
              rw [if_pos (len0.mpr ⟨q1, q2⟩), ed]
              simp -implicitDefEqProofs (disch := omega) only [fN_addNode, fN_addNode_111, fN_addNode_133, svC, litI, litL, nI_add, pk_mul, bd0_e, bd1_e, bd2_e, bd3_e, bd4_e, st_e, nI_leI, nI_ltI, nI_eq, if_pos, if_neg, if_true, if_false, ld_nI, sti_nI, stl_nI, hk, hnd, edp, c1, c2]
            · have c2 : ¬ _ := fun z => q2 (c2.mp z)
              rw [if_neg (fun z => q2 (len0.mp z).2), ed]
              simp -implicitDefEqProofs (disch := omega) only [fN_addNode, fN_addNode_111, fN_addNode_133, svC, litI, litL, nI_add, pk_mul, bd0_e, bd1_e, bd2_e, bd3_e, bd4_e, st_e, nI_leI, nI_ltI, nI_eq, if_pos, if_neg, if_true, if_false, ld_nI, sti_nI, stl_nI, hk, hnd, edp, c1, c2]
          · have c1 : ¬ _ := fun z => q1 (c1.mp z)
            rw [if_neg (fun z => q1 (len0.mp z).1), ed]
            simp -implicitDefEqProofs (disch := omega) only [fN_addNode, fN_addNode_111, fN_addNode_133, svC, litI, litL, nI_add, pk_mul, bd0_e, bd1_e, bd2_e, bd3_e, bd4_e, st_e, nI_leI, nI_ltI, nI_eq, if_pos, if_neg, if_true, if_false, ld_nI, sti_nI, stl_nI, hk, hnd, edp, c1]
        · refine ⟨by rw [List.length_append]; rfl, rfl, fun _ => hd hs, fun i n hi => ?_⟩
          by_cases q : i < s.1.length
          · rw [List.getElem?_append_left q] at hi
            have ne : ¬ i = s.1.length := by omega
            rw [updL_e, updL_e, upd_e, upd_e, upd_e, if_neg ne, if_neg ne, if_neg ne, if_neg ne, if_neg ne]
            exact hn i n hi
          · rw [List.getElem?_append_right (by omega)] at hi
            have hiL : i = s.1.length := by
              by_cases q3 : i - s.1.length = 0
              · omega
              · obtain ⟨k, hk⟩ : ∃ k, i - s.1.length = k + 1 := ⟨i - s.1.length - 1, by omega⟩
                rw [hk] at hi
                cases hi
            rw [hiL, Nat.sub_self] at hi
            obtain rfl : (xs, ys, p, r, dpt s.1 p) = n := Option.some.inj hi
            have h0 := hI.1
            rw [hiL, updL_e, updL_e, upd_e, upd_e, upd_e, if_pos rfl, if_pos rfl, if_pos rfl, if_pos rfl, if_pos rfl, if_neg (by omega)]
            exact ⟨rfl, rfl, rfl, rfl, rfl⟩
end NC
set_option maxRecDepth 100000 in
theorem INV.add {s : SS} (hI : INV s) {p r : Nat} {xs ys : List Nat} (hx : okS 12 xs) (hy : okS 12 ys) : INV (addS p r xs ys s) := by
  obtain ⟨h1, h2, h3, h4⟩ := hI
  cases hs : s.2.1 with
  | some j => rw [addS_done (by rw [hs]; rfl)]; exact ⟨h1, h2, h3, h4⟩
  | none =>
    cases ha : s.1.any (same xs ys) with
    | true => rw [addS_known ha]; exact ⟨h1, h2, h3, h4⟩
    | false =>
      by_cases hf : 200 ≤ s.1.length
      · rw [addS_full hs ha hf]
        exact ⟨h1, h2, fun (j : Nat) (hj : (none : Option Nat) = some j) => absurd hj (by simp), h4⟩
      · rw [addS_new hs ha (by omega)]
        refine ⟨by rw [List.length_append]; omega, by rw [List.length_append]; simp; omega, fun j hj => ?_, fun i n hi => ?_⟩
        · rw [List.length_append]
          by_cases q : xs.length + ys.length = 0
          · have hj : (if xs.length + ys.length = 0 then some s.1.length else none) = some j := hj
            rw [if_pos q] at hj
            have := Option.some.inj hj
            simp; omega
          · have hj : (if xs.length + ys.length = 0 then some s.1.length else none) = some j := hj
            rw [if_neg q] at hj
            cases hj
        · by_cases q : i < s.1.length
          · rw [List.getElem?_append_left q] at hi
            exact h4 i n hi
          · rw [List.getElem?_append_right (by omega)] at hi
            by_cases q3 : i - s.1.length = 0
            · rw [q3] at hi
              obtain rfl : (xs, ys, p, r, dpt s.1 p) = n := Option.some.inj hi
              exact ⟨hx, hy⟩
            · obtain ⟨k, hk⟩ : ∃ k, i - s.1.length = k + 1 := ⟨i - s.1.length - 1, by omega⟩
              rw [hk] at hi
              cases hi
set_option maxRecDepth 100000 in
theorem INV.drop {s : SS} (hI : INV s) : INV (dropS s) := by
  obtain ⟨h1, h2, h3, h4⟩ := hI
  cases hs : s.2.1 with
  | some j => rw [dropS_done (by rw [hs]; rfl)]; exact ⟨h1, h2, h3, h4⟩
  | none => rw [dropS_new hs]; exact ⟨h1, h2, fun (j : Nat) (hj : (none : Option Nat) = some j) => absurd hj (by simp), h4⟩
set_option maxRecDepth 100000 in
/-- the nodes that stood stay -/
theorem addS_get {p r : Nat} {xs ys : List Nat} {s : SS} {i : Nat} (hi : i < s.1.length) : (addS p r xs ys s).1[i]? = s.1[i]? ∧ s.1.length ≤ (addS p r xs ys s).1.length := by
  unfold addS
  split
  · exact ⟨rfl, Nat.le_refl _⟩
  · split
    · exact ⟨rfl, Nat.le_refl _⟩
    · split
      · exact ⟨rfl, Nat.le_refl _⟩
      · exact ⟨List.getElem?_append_left hi, by rw [List.length_append]; exact Nat.le_add_right _ _⟩
set_option maxRecDepth 100000 in
theorem dropS_get (s : SS) : (dropS s).1 = s.1 := by
  unfold dropS
  split <;> rfl
