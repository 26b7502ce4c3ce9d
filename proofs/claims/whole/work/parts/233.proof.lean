/-! the root; decide and nodeCount -/
def rootS (xs ys : List Nat) : SS := ([(xs, ys, 0, 0, 0)], if xs.length + ys.length = 0 then some 0 else none, false)
set_option maxRecDepth 100000 in
theorem one_get {n m : ND} {i : Nat} (h : ([n] : List ND)[i]? = some m) : i = 0 ∧ m = n := by
  cases i with
  | zero => exact ⟨rfl, (Option.some.inj h).symm⟩
  | succ i => cases h
set_option maxRecDepth 100000 in
theorem rootINV {xs ys : List Nat} (hx : okS 12 xs) (hy : okS 12 ys) : INV (rootS xs ys) := by
  refine ⟨Nat.one_pos, (by decide : (1 : Nat) ≤ 200), fun j hj => ?_, fun i n hi => ?_⟩
  · have hj : (if xs.length + ys.length = 0 then some 0 else none) = some j := hj
    by_cases q : xs.length + ys.length = 0
    · rw [if_pos q] at hj
      have := Option.some.inj hj
      show j < 1
      omega
    · rw [if_neg q] at hj; cases hj
  · obtain ⟨-, rfl⟩ := one_get hi
    exact ⟨hx, hy⟩
set_option maxRecDepth 100000 in
theorem rootNE {xs ys : List Nat} : NE (rootS xs ys) := by
  intro h i n hi
  have h : (if xs.length + ys.length = 0 then some 0 else none) = (none : Option Nat) := h
  obtain ⟨-, rfl⟩ := one_get hi
  show xs.length + ys.length ≠ 0
  intro z
  rw [if_pos z] at h
  cases h
set_option maxRecDepth 100000 in
theorem nRoot {xs ys : List Nat} (hx : okS 12 xs) (hy : okS 12 ys) (Nl Nr : Nat → Int64) (Np Nu Ne : Nat → Int32) :
    ∃ Nz' Ns' Nd' Nl' Nr' Np' Nu' Ne', fN_addNode (nI 0) (-nI 1) (nI 0) Nl Nr Np Nu Ne (-nI 1) (nI 0) (lN (pq xs)) (lN (pq ys)) = some (Nz', Ns', Nd', Nl', Nr', Np', Nu', Ne') ∧ RN (rootS xs ys) Nz' Ns' Nd' Nl' Nr' Np' Nu' Ne' := by
  have hk : fN_isKnown (nI 0) Nl Nr (lN (pq xs)) (lN (pq ys)) = some (nI 0) := by
    have key : ∀ m, 0 < m → fx1 (fN_isKnown_3 (nI 0) Nl Nr (lN (pq xs)) (lN (pq ys))) m (nI 0) = some (nI 0) := by
      intro m hm
      obtain ⟨m, rfl⟩ := succ_of hm
      simp -implicitDefEqProofs (disch := omega) only [fx1_s, fN_isKnown_3, litI, litL, nI_add, pk_mul, bd0_e, bd1_e, bd2_e, bd3_e, bd4_e, st_e, nI_leI, nI_ltI, nI_eq, if_pos, if_neg, if_true, if_false, ld_nI, sti_nI, stl_nI]
    exact key FU (fuel (by omega))
  have n1 : -nI 1 < nI 0 := by decide
  have hnd : fN_isNode (nI 0) (-nI 1) = some (nI 0) := by
    simp -implicitDefEqProofs (disch := omega) only [fN_isNode, litI, litL, nI_add, pk_mul, bd0_e, bd1_e, bd2_e, bd3_e, bd4_e, st_e, nI_leI, nI_ltI, nI_eq, if_pos, if_neg, if_true, if_false, ld_nI, sti_nI, stl_nI, n1]
  have c1 := lgc_pq (ok13 hx) (ys := []) ⟨by decide, fun x hx => by cases hx⟩
  have c2 := lgc_pq (ok13 hy) (ys := []) ⟨by decide, fun x hx => by cases hx⟩
  rw [← z0] at c1 c2
  refine ⟨nI 1, svC (if xs.length + ys.length = 0 then some 0 else none), nI 0, vp_updL Nl 0 (lN (pq xs)), vp_updL Nr 0 (lN (pq ys)), upd Np 0 (-nI 1), upd Nu 0 (nI 0), upd Ne 0 (nI 0), ?_, ?_⟩
  · by_cases q1 : xs = []
    · have c1 := c1.mpr q1
      by_cases q2 : ys = []
      · have c2 := c2.mpr q2
        rw [if_pos (len0.mpr ⟨q1, q2⟩)]
        simp -implicitDefEqProofs (disch := omega) only [fN_addNode, fN_addNode_111, fN_addNode_133, svC, litI, litL, nI_add, pk_mul, bd0_e, bd1_e, bd2_e, bd3_e, bd4_e, st_e, nI_leI, nI_ltI, nI_eq, if_pos, if_neg, if_true, if_false, ld_nI, sti_nI, stl_nI, hk, hnd, c1, c2]
      · have c2 : ¬ _ := fun z => q2 (c2.mp z)
        rw [if_neg (fun z => q2 (len0.mp z).2)]
        simp -implicitDefEqProofs (disch := omega) only [fN_addNode, fN_addNode_111, fN_addNode_133, svC, litI, litL, nI_add, pk_mul, bd0_e, bd1_e, bd2_e, bd3_e, bd4_e, st_e, nI_leI, nI_ltI, nI_eq, if_pos, if_neg, if_true, if_false, ld_nI, sti_nI, stl_nI, hk, hnd, c1, c2]
    · have c1 : ¬ _ := fun z => q1 (c1.mp z)
      rw [if_neg (fun z => q1 (len0.mp z).1)]
      simp -implicitDefEqProofs (disch := omega) only [fN_addNode, fN_addNode_111, fN_addNode_133, svC, litI, litL, nI_add, pk_mul, bd0_e, bd1_e, bd2_e, bd3_e, bd4_e, st_e, nI_leI, nI_ltI, nI_eq, if_pos, if_neg, if_true, if_false, ld_nI, sti_nI, stl_nI, hk, hnd, c1]
  · refine ⟨rfl, rfl, fun _ => rfl, fun i n hi => ?_⟩
    obtain ⟨rfl, rfl⟩ := one_get hi
    exact ⟨rfl, rfl, rfl, rfl, rfl⟩
set_option maxRecDepth 100000 in
theorem mRoot {row : Nat → Int32} {xs ys : List Nat} (hr : rowIs row xs ys) (hx : okS 12 xs) (hy : okS 12 ys) (Mf : Int32) (Mt Mn Mp Mr Mc : Nat → Int32) :
    ∃ Mz' Ms' Md' Mn' Mp', fM_search Mf Mt Mn Mp Mr Mc row = fx10 fM_search_63 FU Mz' Ms' Md' Mf Mt Mn' Mp' Mr Mc (nI 0) ∧ RM (rootS xs ys) Mz' Ms' Md' Mn' Mp' Mr := by
  have lx := hx.1
  have ly := hy.1
  have h0 := hr.l0
  have h1 := hr.l1
  have key : ∀ (d i m : Nat) (Mn : Nat → Int32), i + d = 26 → d < m → (∀ k, k < i → Mn k = row k) → ∃ Mn', fx2 (fM_search_2 Mf Mt Mp Mr Mc row) m Mn (nI i) = fx10 fM_search_63 FU (nI 1) (svM (if xs.length + ys.length = 0 then some 0 else none)) (nI 0) Mf Mt Mn' (upd Mp 0 (-nI 9)) Mr Mc (nI 0) ∧ ∀ k, k < 26 → Mn' k = row k := by
    intro d
    induction d with
    | zero =>
      intro i m Mn hi hm hk
      obtain ⟨m, rfl⟩ := succ_of hm
      refine ⟨Mn, ?_, fun k hk2 => hk k (by omega)⟩
      by_cases q : xs.length + ys.length = 0
      · rw [if_pos q]
        simp -implicitDefEqProofs (disch := omega) only [fx2_s, fM_search_2, fM_search_58, svM, litI, litL, nI_add, pk_mul, bd0_e, bd1_e, bd2_e, bd3_e, bd4_e, st_e, nI_leI, nI_ltI, nI_eq, if_pos, if_neg, if_true, if_false, ld_nI, sti_nI, stl_nI, h0, h1]
      · rw [if_neg q]
        simp -implicitDefEqProofs (disch := omega) only [fx2_s, fM_search_2, fM_search_58, svM, litI, litL, nI_add, pk_mul, bd0_e, bd1_e, bd2_e, bd3_e, bd4_e, st_e, nI_leI, nI_ltI, nI_eq, if_pos, if_neg, if_true, if_false, ld_nI, sti_nI, stl_nI, h0, h1]
    | succ d ih =>
      intro i m Mn hi hm hk
      obtain ⟨m, rfl⟩ := succ_of hm
      obtain ⟨Mn', e, h⟩ := ih (i + 1) m (upd Mn i (row i)) (by omega) (by omega) (fun k hk2 => by
        rw [upd_e]
        by_cases q : k = i
        · rw [if_pos q, q]
        · rw [if_neg q]; exact hk k (by omega))
      refine ⟨Mn', ?_, h⟩
      rw [← e]
      simp -implicitDefEqProofs (disch := omega) only [fx2_s, fM_search_2, litI, litL, nI_add, pk_mul, bd0_e, bd1_e, bd2_e, bd3_e, bd4_e, st_e, nI_leI, nI_ltI, nI_eq, if_pos, if_neg, if_true, if_false, ld_nI, sti_nI, stl_nI]
  obtain ⟨Mn', e, h⟩ := key 26 0 FU Mn (by omega) (fuel (by omega)) (fun k hk => absurd hk (Nat.not_lt_zero _))
  refine ⟨nI 1, svM (if xs.length + ys.length = 0 then some 0 else none), nI 0, Mn', upd Mp 0 (-nI 9), e, rfl, rfl, rfl, fun i n hi => ?_⟩
  obtain ⟨rfl, rfl⟩ := one_get hi
  refine ⟨hr.cong fun k hk => ?_, rfl, fun z => absurd z (Nat.lt_irrefl _)⟩
  show Mn' (26 * 0 + k) = row k
  rw [Nat.mul_zero, Nat.zero_add]
  exact h k hk
/-! how nodes hang together -/
def prt (s : SS) (i : Nat) : Nat := match s.1[i]? with
  | none => 0
  | some n => n.2.2.1
def rul (s : SS) (i : Nat) : Nat := match s.1[i]? with
  | none => 0
  | some n => n.2.2.2.1
def dep (s : SS) (i : Nat) : Nat := match s.1[i]? with
  | none => 0
  | some n => n.2.2.2.2
def PI (s : SS) : Prop := ∀ (i : Nat) (n : ND), s.1[i]? = some n → (i = 0 → n.2.2.2.2 = 0) ∧ (0 < i → n.2.2.1 < i ∧ n.2.2.2.1 < 5 ∧ ∃ m : ND, s.1[n.2.2.1]? = some m ∧ n.2.2.2.2 = m.2.2.2.2 + 1 ∧ apB n.2.2.2.1 m.1 m.2.1 = true)
set_option maxRecDepth 100000 in
theorem PI.add {s : SS} (h : PI s) {p r : Nat} {xs ys us vs : List Nat} (hG : G s p us vs) (hr : r < 5) (ha : apB r us vs = true) : PI (addS p r xs ys s) := by
  have hp := hG.lt
  obtain ⟨hI, m, hm, rfl, rfl⟩ := hG
  unfold addS
  split
  · exact h
  · split
    · exact h
    · split
      · exact h
      · intro i n hi
        by_cases q1 : i < s.1.length
        · rw [List.getElem?_append_left q1] at hi
          obtain ⟨a, b⟩ := h i n hi
          refine ⟨a, fun z => ?_⟩
          obtain ⟨b1, b2, m', b3, b4, b5⟩ := b z
          exact ⟨b1, b2, m', by rw [List.getElem?_append_left (by omega)]; exact b3, b4, b5⟩
        · rw [List.getElem?_append_right (by omega)] at hi
          by_cases q3 : i - s.1.length = 0
          · rw [q3] at hi
            obtain rfl : (xs, ys, p, r, dpt s.1 p) = n := Option.some.inj hi
            have h0 := hI.1
            refine ⟨fun z => by omega, fun _ => ⟨(by omega : p < i), hr, m, ?_, ?_, ha⟩⟩
            · show (s.1 ++ [(xs, ys, p, r, dpt s.1 p)])[p]? = some m
              rw [List.getElem?_append_left hp]
              exact hm
            · show dpt s.1 p = _
              unfold dpt
              rw [hm]
          · obtain ⟨k, hk⟩ : ∃ k, i - s.1.length = k + 1 := ⟨i - s.1.length - 1, by omega⟩
            rw [hk] at hi
            cases hi
set_option maxRecDepth 100000 in
theorem PI.drop {s : SS} (h : PI s) : PI (dropS s) := by
  unfold PI
  rw [dropS_get]
  exact h
set_option maxRecDepth 100000 in
theorem PI.ch {s : SS} (h : PI s) {p r : Nat} {xs ys : List Nat} (hG : G s p xs ys) (hr : r < 5) : PI (chS p xs ys r s) := by
  unfold chS
  split
  · rename_i ha
    split
    · exact h.add hG hr ha
    · exact h.drop
  · exact h
set_option maxRecDepth 100000 in
theorem PI.ex {s : SS} (h : PI s) {p : Nat} {xs ys : List Nat} (hG : G s p xs ys) : PI (exS p xs ys s) := by
  have h0 := h.ch hG (r := 0) (by decide)
  have h1 := h0.ch (hG.ch 0) (r := 1) (by decide)
  have h2 := h1.ch ((hG.ch 0).ch 1) (r := 2) (by decide)
  have h3 := h2.ch (((hG.ch 0).ch 1).ch 2) (r := 3) (by decide)
  exact h3.ch ((((hG.ch 0).ch 1).ch 2).ch 3) (r := 4) (by decide)
set_option maxRecDepth 100000 in
theorem PI.run : ∀ (d i : Nat) (s : SS), INV s → PI s → PI (runS d i s) := by
  intro d
  induction d with
  | zero => intro i s _ h; exact h
  | succ d ih =>
    intro i s hI h
    rw [runS]
    split
    · exact h
    · cases hg : s.1[i]? with
      | none => exact h
      | some n =>
        have hG : G s i n.1 n.2.1 := ⟨hI, n, hg, rfl, rfl⟩
        exact ih (i + 1) _ hG.ex.1 (h.ex hG)
def srS (xs ys : List Nat) : SS := runS 200 0 (rootS xs ys)
set_option maxRecDepth 100000 in
theorem srPI {xs ys : List Nat} (hx : okS 12 xs) (hy : okS 12 ys) : PI (srS xs ys) := PI.run 200 0 _ (rootINV hx hy) (fun i n hi => by
  obtain ⟨rfl, rfl⟩ := one_get hi
  exact ⟨fun _ => rfl, fun z => absurd z (Nat.lt_irrefl _)⟩)
set_option maxRecDepth 100000 in
theorem bothSearch {row : Nat → Int32} {xs ys : List Nat} (hr : rowIs row xs ys) (hx : okS 12 xs) (hy : okS 12 ys) (Nl Nr : Nat → Int64) (Np Nu Ne : Nat → Int32) (Mf : Int32) (Mt Mn Mp Mr Mc : Nat → Int32) :
    INV (srS xs ys) ∧ ∃ Nz' Ns' Nd' Nl' Nr' Np' Nu' Ne' Mz' Ms' Md' Mf' Mt' Mn' Mp' Mr' Mc', fN_answerFor Nl Nr Np Nu Ne (lN (pq xs)) (lN (pq ys)) = some (nI (ansS (srS xs ys)), Nz', Ns', Nd', Nl', Nr', Np', Nu', Ne') ∧ RN (srS xs ys) Nz' Ns' Nd' Nl' Nr' Np' Nu' Ne' ∧ fM_search Mf Mt Mn Mp Mr Mc row = some (nI (ansS (srS xs ys)), Mz', Ms', Md', Mf', Mt', Mn', Mp', Mr', Mc') ∧ RM (srS xs ys) Mz' Ms' Md' Mn' Mp' Mr' := by
  obtain ⟨Nz, Ns, Nd, Nl1, Nr1, Np1, Nu1, Ne1, e1, h1⟩ := nRoot hx hy Nl Nr Np Nu Ne
  obtain ⟨Mz, Ms, Md, Mn1, Mp1, e2, h2⟩ := mRoot hr hx hy Mf Mt Mn Mp Mr Mc
  obtain ⟨hI, hE, Nz', Ns', Nd', Nl', Nr', Np', Nu', Ne', Mz', Ms', Md', Mf', Mt', Mn', Mp', Mr', Mc', a1, a2, a3, a4⟩ := runBoth 200 0 FU FU (rootS xs ys) Nz Ns Nd Nl1 Nr1 Np1 Nu1 Ne1 Mz Ms Md Mf Mt Mn1 Mp1 Mr Mc (by omega) (fuel (by omega)) (fuel (by omega)) (rootINV hx hy) rootNE h1 h2
  refine ⟨hI, Nz', Ns', Nd', Nl', Nr', Np', Nu', Ne', Mz', Ms', Md', Mf', Mt', Mn', Mp', Mr', Mc', ?_, a2, ?_, a4⟩
  · refine Eq.trans ?_ a1
    simp -implicitDefEqProofs (disch := omega) only [fN_answerFor, litI, litL, nI_add, pk_mul, bd0_e, bd1_e, bd2_e, bd3_e, bd4_e, st_e, bd5_e, bd6_e, bd7_e, bd8_e, bd9_e, bd10_e, bd11_e, e1]
  · rw [e2]; exact a3
section DE
variable {El Er : Int64} {now : Nat → Int32} {xs ys : List Nat}
set_option maxRecDepth 100000 in
theorem pDecide (h : RE El Er now xs ys) (Nl Nr : Nat → Int64) (Np Nu Ne : Nat → Int32) (Mf : Int32) (Mt Mn Mp Mr Mc : Nat → Int32) :
    ∃ r Nz' Ns' Nd' Nl' Nr' Np' Nu' Ne' Mz' Ms' Md' Mf' Mt' Mn' Mp' Mr' Mc', fX_decide El Er Nl Nr Np Nu Ne = some (r, Nz', Ns', Nd', Nl', Nr', Np', Nu', Ne') ∧ fM_decide Mf now Mt Mn Mp Mr Mc = some (r, Mz', Ms', Md', Mf', Mt', Mn', Mp', Mr', Mc') := by
  obtain ⟨hx, hy, rfl, rfl, hr⟩ := h
  obtain ⟨hI, Nz', Ns', Nd', Nl', Nr', Np', Nu', Ne', Mz', Ms', Md', Mf', Mt', Mn', Mp', Mr', Mc', a1, a2, a3, a4⟩ := bothSearch hr hx hy Nl Nr Np Nu Ne Mf Mt Mn Mp Mr Mc
  refine ⟨nI (ansS (srS xs ys)), Nz', Ns', Nd', Nl', Nr', Np', Nu', Ne', Mz', Ms', Md', Mf', Mt', Mn', Mp', Mr', Mc', ?_, ?_⟩
  · simp -implicitDefEqProofs (disch := omega) only [fX_decide, bd5_e, bd6_e, bd7_e, bd8_e, bd9_e, bd10_e, bd11_e, a1]
  · simp -implicitDefEqProofs (disch := omega) only [fM_decide, bd5_e, bd6_e, bd7_e, bd8_e, bd9_e, bd10_e, bd11_e, a3]
set_option maxRecDepth 100000 in
theorem pNodeCount (h : RE El Er now xs ys) (Nl Nr : Nat → Int64) (Np Nu Ne : Nat → Int32) (Mf : Int32) (Mt Mn Mp Mr Mc : Nat → Int32) :
    ∃ r Nz' Ns' Nd' Nl' Nr' Np' Nu' Ne' Mz' Ms' Md' Mf' Mt' Mn' Mp' Mr' Mc', fX_nodeCount El Er Nl Nr Np Nu Ne = some (r, Nz', Ns', Nd', Nl', Nr', Np', Nu', Ne') ∧ fM_nodeCount Mf now Mt Mn Mp Mr Mc = some (r, Mz', Ms', Md', Mf', Mt', Mn', Mp', Mr', Mc') := by
  obtain ⟨hx, hy, rfl, rfl, hr⟩ := h
  obtain ⟨hI, Nz', Ns', Nd', Nl', Nr', Np', Nu', Ne', Mz', Ms', Md', Mf', Mt', Mn', Mp', Mr', Mc', a1, a2, a3, a4⟩ := bothSearch hr hx hy Nl Nr Np Nu Ne Mf Mt Mn Mp Mr Mc
  have z1 := a2.1
  have z2 := a4.1
  subst z1 z2
  refine ⟨nI (srS xs ys).1.length, nI (srS xs ys).1.length, Ns', Nd', Nl', Nr', Np', Nu', Ne', nI (srS xs ys).1.length, Ms', Md', Mf', Mt', Mn', Mp', Mr', Mc', ?_, ?_⟩
  · simp -implicitDefEqProofs (disch := omega) only [fX_nodeCount, fN_size, litI, litL, nI_add, pk_mul, bd0_e, bd1_e, bd2_e, bd3_e, bd4_e, st_e, bd5_e, bd6_e, bd7_e, bd8_e, bd9_e, bd10_e, bd11_e, a1]
  · simp -implicitDefEqProofs (disch := omega) only [fM_nodeCount, bd5_e, bd6_e, bd7_e, bd8_e, bd9_e, bd10_e, bd11_e, a3]
end DE
