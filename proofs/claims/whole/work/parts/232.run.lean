/-! the whole search, in both -/
section MX
variable {k63 : Int32 → Int32 → Int32 → Int32 → (Nat → Int32) → (Nat → Int32) → (Nat → Int32) → (Nat → Int32) → (Nat → Int32) → Int32 → Option (Int32 × Int32 × Int32 × Int32 × Int32 × (Nat → Int32) × (Nat → Int32) × (Nat → Int32) × (Nat → Int32) × (Nat → Int32))} {p : Nat} {xs ys : List Nat} {trial : Nat → Int32}
def fr (p : Nat) (xs ys : List Nat) : Nat → Nat → SS → SS
  | 0, _, s => s
  | d + 1, r, s => fr p xs ys d (r + 1) (chS p xs ys r s)
set_option maxRecDepth 100000 in
theorem fr_done {s : SS} (h : s.2.1.isSome = true) : ∀ (d r : Nat), fr p xs ys d r s = s
  | 0, _ => rfl
  | d + 1, r => by rw [fr, chS_done h, fr_done h d (r + 1)]
set_option maxRecDepth 100000 in
theorem mChildren (ht : rowIs trial xs ys) : ∀ (d r m : Nat) (s : SS) (Mz Ms Md Mf : Int32) (Mn Mp Mr Mc : Nat → Int32), r + d = 5 → d < m → G s p xs ys → RM s Mz Ms Md Mn Mp Mr →
    ∃ Mz' Ms' Md' Mf' Mn' Mp' Mr' Mc', fx9 (fM_search_91 k63 trial (nI p)) m Mz Ms Md Mf Mn Mp Mr Mc (nI r) = k63 Mz' Ms' Md' Mf' trial Mn' Mp' Mr' Mc' (nI (p + 1)) ∧ RM (fr p xs ys d r s) Mz' Ms' Md' Mn' Mp' Mr' ∧ G (fr p xs ys d r s) p xs ys := by
  intro d
  induction d with
  | zero =>
    intro r m s Mz Ms Md Mf Mn Mp Mr Mc hd hm hG h
    obtain ⟨m, rfl⟩ := succ_of hm
    refine ⟨Mz, Ms, Md, Mf, Mn, Mp, Mr, Mc, ?_, h, hG⟩
    simp -implicitDefEqProofs (disch := omega) only [fx9_s, fM_search_91, litI, litL, nI_add, pk_mul, bd0_e, bd1_e, bd2_e, bd3_e, bd4_e, st_e, nI_leI, nI_ltI, nI_eq, if_pos, if_neg, if_true, if_false, ld_nI, sti_nI, stl_nI]
  | succ d ih =>
    intro r m s Mz Ms Md Mf Mn Mp Mr Mc hd hm hG h
    obtain ⟨m, rfl⟩ := succ_of hm
    obtain ⟨hx, hy⟩ := hG.ok
    cases hs : s.2.1 with
    | some j =>
      have hj := hG.1.2.2.1 j hs
      have hL := hG.1.2.1
      have ms : Ms = nI j := by rw [h.2.1, hs]; rfl
      subst ms
      have e := ne_neg (j := j) (c := 9) (by omega) (by decide) (by decide)
      have hdn : s.2.1.isSome = true := by rw [hs]; rfl
      rw [fr_done hdn]
      refine ⟨Mz, nI j, Md, Mf, Mn, Mp, Mr, Mc, ?_, h, hG⟩
      simp -implicitDefEqProofs (disch := omega) only [fx9_s, fM_search_91, litI, litL, nI_add, pk_mul, bd0_e, bd1_e, bd2_e, bd3_e, bd4_e, st_e, nI_leI, nI_ltI, nI_eq, if_pos, if_neg, if_true, if_false, ld_nI, sti_nI, stl_nI, e]
    | none =>
      have ms : Ms = -nI 9 := by rw [h.2.1, hs]; rfl
      subst ms
      have ea := mApplies ht hx hy (r := r) (by omega)
      rw [fr]
      cases ha : apB r xs ys with
      | false =>
        rw [ha, b1_f] at ea
        rw [chS_no ha]
        obtain ⟨Mz', Ms', Md', Mf', Mn', Mp', Mr', Mc', e, hR, hG'⟩ := ih (r + 1) m s Mz (-nI 9) Md Mf Mn Mp Mr Mc (by omega) (by omega) hG h
        refine ⟨Mz', Ms', Md', Mf', Mn', Mp', Mr', Mc', ?_, hR, hG'⟩
        rw [← e]
        simp -implicitDefEqProofs (disch := omega) only [fx9_s, fM_search_91, litI, litL, nI_add, pk_mul, bd0_e, bd1_e, bd2_e, bd3_e, bd4_e, st_e, nI_leI, nI_ltI, nI_eq, if_pos, if_neg, if_true, if_false, ld_nI, sti_nI, stl_nI, ea]
      | true =>
        rw [ha, b1_t] at ea
        obtain ⟨child', el, hrc⟩ := mLayChild ht hx hy (r := r) (by omega) ha Mc
        obtain ⟨Mz1, Ms1, Md1, Mf1, Mn1, Mp1, Mr1, Mc1, e1, hR1⟩ := mAddChild hG.1 hs h hG.lt el (fun hf => by
          rw [Bool.and_eq_true, decide_eq_true_eq, decide_eq_true_eq] at hf
          exact ⟨hrc, ⟨hf.1, chl_mem hx (headD_lt hx) (headD_lt hy)⟩, ⟨hf.2, chl_mem hy (headD_lt hx) (headD_lt hy)⟩⟩)
        have hR1 : RM (chS p xs ys r s) Mz1 Ms1 Md1 Mn1 Mp1 Mr1 := by
          unfold chS
          rw [if_pos ha]
          exact hR1
        obtain ⟨Mz', Ms', Md', Mf', Mn', Mp', Mr', Mc', e, hR, hG'⟩ := ih (r + 1) m (chS p xs ys r s) Mz1 Ms1 Md1 Mf1 Mn1 Mp1 Mr1 Mc1 (by omega) (by omega) (hG.ch r) hR1
        refine ⟨Mz', Ms', Md', Mf', Mn', Mp', Mr', Mc', ?_, hR, hG'⟩
        rw [← e]
        simp -implicitDefEqProofs (disch := omega) only [fx9_s, fM_search_91, litI, litL, nI_add, pk_mul, bd0_e, bd1_e, bd2_e, bd3_e, bd4_e, st_e, nI_leI, nI_ltI, nI_eq, if_pos, if_neg, if_true, if_false, ld_nI, sti_nI, stl_nI, bd5_e, bd6_e, bd7_e, bd8_e, bd9_e, bd10_e, bd11_e, ea, e1]
end MX
set_option maxRecDepth 100000 in
theorem mLayNode {Mn : Nat → Int32} {i : Nat} (hi : i < 200) (R2 : Nat → Int32) : ∃ g, fM_layNode Mn R2 (nI i) = some g ∧ ∀ k, k < 26 → g k = Mn (26 * i + k) := by
  have key : ∀ (d k m : Nat) (R2 : Nat → Int32), k + d = 26 → d < m → (∀ j, j < k → R2 j = Mn (26 * i + j)) → ∃ g, fx2 (fM_layNode_2 Mn (nI i)) m R2 (nI k) = some g ∧ ∀ k, k < 26 → g k = Mn (26 * i + k) := by
    intro d
    induction d with
    | zero =>
      intro k m R2 hk hm hj
      obtain ⟨m, rfl⟩ := succ_of hm
      refine ⟨R2, ?_, fun j h => hj j (by omega)⟩
      simp -implicitDefEqProofs (disch := omega) only [fx2_s, fM_layNode_2, litI, litL, nI_add, pk_mul, bd0_e, bd1_e, bd2_e, bd3_e, bd4_e, st_e, nI_leI, nI_ltI, nI_eq, if_pos, if_neg, if_true, if_false, ld_nI, sti_nI, stl_nI]
    | succ d ih =>
      intro k m R2 hk hm hj
      obtain ⟨m, rfl⟩ := succ_of hm
      obtain ⟨g, e, hg⟩ := ih (k + 1) m (upd R2 k (Mn (26 * i + k))) (by omega) (by omega) (fun j h => by
        rw [upd_e]
        by_cases q : j = k
        · rw [if_pos q, q]
        · rw [if_neg q]; exact hj j (by omega))
      refine ⟨g, ?_, hg⟩
      rw [← e]
      simp -implicitDefEqProofs (disch := omega) only [fx2_s, fM_layNode_2, litI, litL, nI_add, pk_mul, bd0_e, bd1_e, bd2_e, bd3_e, bd4_e, st_e, nI_leI, nI_ltI, nI_eq, if_pos, if_neg, if_true, if_false, ld_nI, sti_nI, stl_nI]
  exact key 26 0 FU R2 (by omega) (fuel (by omega)) (fun j h => absurd h (Nat.not_lt_zero _))
/-- the whole search -/
def runS : Nat → Nat → SS → SS
  | 0, _, s => s
  | d + 1, i, s => if s.2.1.isSome = true then s else match s.1[i]? with
    | none => s
    | some n => runS d (i + 1) (exS i n.1 n.2.1 s)
def NE (s : SS) : Prop := s.2.1 = none → ∀ (i : Nat) (n : ND), s.1[i]? = some n → n.1.length + n.2.1.length ≠ 0
set_option maxRecDepth 100000 in
theorem NE.add {s : SS} (h : NE s) {p r : Nat} {xs ys : List Nat} : NE (addS p r xs ys s) := by
  unfold addS
  split
  · exact h
  · split
    · exact h
    · rename_i h1 _
      have h1 : s.2.1 = none := by
        cases hs : s.2.1 with
        | none => rfl
        | some j => rw [hs] at h1; exact absurd rfl h1
      split
      · exact fun _ => h h1
      · intro hn i n hi
        have hn : (if xs.length + ys.length = 0 then some s.1.length else none) = none := hn
        have q : ¬ xs.length + ys.length = 0 := fun z => by rw [if_pos z] at hn; cases hn
        by_cases q1 : i < s.1.length
        · rw [List.getElem?_append_left q1] at hi
          exact h h1 i n hi
        · rw [List.getElem?_append_right (by omega)] at hi
          by_cases q3 : i - s.1.length = 0
          · rw [q3] at hi
            obtain rfl : (xs, ys, p, r, dpt s.1 p) = n := Option.some.inj hi
            exact q
          · obtain ⟨k, hk⟩ : ∃ k, i - s.1.length = k + 1 := ⟨i - s.1.length - 1, by omega⟩
            rw [hk] at hi
            cases hi
set_option maxRecDepth 100000 in
theorem NE.drop {s : SS} (h : NE s) : NE (dropS s) := by
  cases hs : s.2.1 with
  | some j => rw [dropS_done (by rw [hs]; rfl)]; exact h
  | none => rw [dropS_new hs]; exact fun _ => h hs
set_option maxRecDepth 100000 in
theorem NE.ch {s : SS} (h : NE s) {p r : Nat} {xs ys : List Nat} : NE (chS p xs ys r s) := by
  unfold chS
  split
  · split
    · exact h.add
    · exact h.drop
  · exact h
set_option maxRecDepth 100000 in
theorem NE.ex {s : SS} (h : NE s) {p : Nat} {xs ys : List Nat} : NE (exS p xs ys s) := h.ch.ch.ch.ch.ch
set_option maxRecDepth 100000 in
theorem G.ex {s : SS} {p : Nat} {xs ys : List Nat} (h : G s p xs ys) : G (exS p xs ys s) p xs ys := ((((h.ch 0).ch 1).ch 2).ch 3).ch 4
def ansS (s : SS) : Nat := if s.2.1.isSome = true then 1 else if s.2.2 = true then 2 else 0
set_option maxRecDepth 100000 in
theorem n65 {s : SS} (hI : INV s) {Nz Ns Nd : Int32} {Nl Nr : Nat → Int64} {Np Nu Ne : Nat → Int32} (h : RN s Nz Ns Nd Nl Nr Np Nu Ne) : fN_answerFor_65 Nz Ns Nd Nl Nr Np Nu Ne = some (nI (ansS s), Nz, Ns, Nd, Nl, Nr, Np, Nu, Ne) := by
  unfold ansS
  cases hs : s.2.1 with
  | some j =>
    have hj := hI.2.2.1 j hs
    have hL := hI.2.1
    have ms : Ns = nI j := by rw [h.2.1, hs]; rfl
    subst ms
    have e := ne_neg (j := j) (c := 1) (by omega) (by decide) (by decide)
    rw [if_pos (show (some j).isSome = true from rfl)]
    simp -implicitDefEqProofs (disch := omega) only [fN_answerFor_65, litI, litL, nI_add, pk_mul, bd0_e, bd1_e, bd2_e, bd3_e, bd4_e, st_e, nI_leI, nI_ltI, nI_eq, if_pos, if_neg, if_true, if_false, ld_nI, sti_nI, stl_nI, e]
  | none =>
    have ms : Ns = -nI 1 := by rw [h.2.1, hs]; rfl
    subst ms
    have md := h.2.2.1 hs
    rw [if_neg (by decide)]
    cases hd : s.2.2 with
    | true =>
      rw [hd, b1_t] at md
      subst md
      rw [if_pos rfl]
      simp -implicitDefEqProofs (disch := omega) only [fN_answerFor_65, litI, litL, nI_add, pk_mul, bd0_e, bd1_e, bd2_e, bd3_e, bd4_e, st_e, nI_leI, nI_ltI, nI_eq, if_pos, if_neg, if_true, if_false, ld_nI, sti_nI, stl_nI]
    | false =>
      rw [hd, b1_f] at md
      subst md
      rw [if_neg (by decide)]
      simp -implicitDefEqProofs (disch := omega) only [fN_answerFor_65, litI, litL, nI_add, pk_mul, bd0_e, bd1_e, bd2_e, bd3_e, bd4_e, st_e, nI_leI, nI_ltI, nI_eq, if_pos, if_neg, if_true, if_false, ld_nI, sti_nI, stl_nI]
set_option maxRecDepth 100000 in
theorem m131 {s : SS} (hI : INV s) {Mz Ms Md Mf : Int32} {Mt Mn Mp Mr Mc : Nat → Int32} (h : RM s Mz Ms Md Mn Mp Mr) : fM_search_131 Mz Ms Md Mf Mt Mn Mp Mr Mc = some (nI (ansS s), Mz, Ms, Md, Mf, Mt, Mn, Mp, Mr, Mc) := by
  unfold ansS
  cases hs : s.2.1 with
  | some j =>
    have hj := hI.2.2.1 j hs
    have hL := hI.2.1
    have ms : Ms = nI j := by rw [h.2.1, hs]; rfl
    subst ms
    have e := ne_neg (j := j) (c := 9) (by omega) (by decide) (by decide)
    rw [if_pos (show (some j).isSome = true from rfl)]
    simp -implicitDefEqProofs (disch := omega) only [fM_search_131, litI, litL, nI_add, pk_mul, bd0_e, bd1_e, bd2_e, bd3_e, bd4_e, st_e, nI_leI, nI_ltI, nI_eq, if_pos, if_neg, if_true, if_false, ld_nI, sti_nI, stl_nI, e]
  | none =>
    have ms : Ms = -nI 9 := by rw [h.2.1, hs]; rfl
    subst ms
    have md := h.2.2.1
    rw [if_neg (by decide)]
    cases hd : s.2.2 with
    | true =>
      rw [hd, b1_t] at md
      subst md
      rw [if_pos rfl]
      simp -implicitDefEqProofs (disch := omega) only [fM_search_131, litI, litL, nI_add, pk_mul, bd0_e, bd1_e, bd2_e, bd3_e, bd4_e, st_e, nI_leI, nI_ltI, nI_eq, if_pos, if_neg, if_true, if_false, ld_nI, sti_nI, stl_nI]
    | false =>
      rw [hd, b1_f] at md
      subst md
      rw [if_neg (by decide)]
      simp -implicitDefEqProofs (disch := omega) only [fM_search_131, litI, litL, nI_add, pk_mul, bd0_e, bd1_e, bd2_e, bd3_e, bd4_e, st_e, nI_leI, nI_ltI, nI_eq, if_pos, if_neg, if_true, if_false, ld_nI, sti_nI, stl_nI]
set_option maxRecDepth 100000 in
theorem runBoth : ∀ (d i m1 m2 : Nat) (s : SS) (Nz Ns Nd : Int32) (Nl Nr : Nat → Int64) (Np Nu Ne : Nat → Int32) (Mz Ms Md Mf : Int32) (Mt Mn Mp Mr Mc : Nat → Int32), i + d = 200 → d < m1 → d < m2 → INV s → NE s → RN s Nz Ns Nd Nl Nr Np Nu Ne → RM s Mz Ms Md Mn Mp Mr →
    INV (runS d i s) ∧ NE (runS d i s) ∧ ∃ Nz' Ns' Nd' Nl' Nr' Np' Nu' Ne' Mz' Ms' Md' Mf' Mt' Mn' Mp' Mr' Mc', fx9 fN_answerFor_31 m1 Nz Ns Nd Nl Nr Np Nu Ne (nI i) = some (nI (ansS (runS d i s)), Nz', Ns', Nd', Nl', Nr', Np', Nu', Ne') ∧ RN (runS d i s) Nz' Ns' Nd' Nl' Nr' Np' Nu' Ne' ∧ fx10 fM_search_63 m2 Mz Ms Md Mf Mt Mn Mp Mr Mc (nI i) = some (nI (ansS (runS d i s)), Mz', Ms', Md', Mf', Mt', Mn', Mp', Mr', Mc') ∧ RM (runS d i s) Mz' Ms' Md' Mn' Mp' Mr' := by
  intro d
  induction d with
  | zero =>
    intro i m1 m2 s Nz Ns Nd Nl Nr Np Nu Ne Mz Ms Md Mf Mt Mn Mp Mr Mc hd h1 h2 hI hE hN hM
    obtain ⟨m1, rfl⟩ := succ_of h1
    obtain ⟨m2, rfl⟩ := succ_of h2
    have hd : i = 200 := hd
    subst hd
    have hL := hI.2.1
    have e1 := n65 hI hN
    have e2 := m131 (Mf := Mf) (Mt := Mt) (Mc := Mc) hI hM
    have z2 := hM.1
    subst z2
    refine ⟨hI, hE, Nz, Ns, Nd, Nl, Nr, Np, Nu, Ne, nI s.1.length, Ms, Md, Mf, Mt, Mn, Mp, Mr, Mc, ?_, hN, ?_, hM⟩
    · rw [runS, ← e1]
      simp -implicitDefEqProofs (disch := omega) only [fx9_s, fN_answerFor_31, litI, litL, nI_add, pk_mul, bd0_e, bd1_e, bd2_e, bd3_e, bd4_e, st_e, nI_leI, nI_ltI, nI_eq, if_pos, if_neg, if_true, if_false, ld_nI, sti_nI, stl_nI]
    · rw [runS, ← e2]
      simp -implicitDefEqProofs (disch := omega) only [fx10_s, fM_search_63, litI, litL, nI_add, pk_mul, bd0_e, bd1_e, bd2_e, bd3_e, bd4_e, st_e, nI_leI, nI_ltI, nI_eq, if_pos, if_neg, if_true, if_false, ld_nI, sti_nI, stl_nI]
  | succ d ih =>
    intro i m1 m2 s Nz Ns Nd Nl Nr Np Nu Ne Mz Ms Md Mf Mt Mn Mp Mr Mc hd h1 h2 hI hE hN hM
    obtain ⟨m1, rfl⟩ := succ_of h1
    obtain ⟨m2, rfl⟩ := succ_of h2
    have hL := hI.2.1
    have e1 := n65 hI hN
    have e2 := m131 (Mf := Mf) (Mt := Mt) (Mc := Mc) hI hM
    have hM0 := hM
    have hN0 := hN
    have z1 := hN.1
    have z2 := hM.1
    subst z1 z2
    rw [runS]
    cases hs : s.2.1 with
    | some j =>
      have hj := hI.2.2.1 j hs
      have ms : Ms = nI j := by rw [hM.2.1, hs]; rfl
      have ns : Ns = nI j := by rw [hN.2.1, hs]; rfl
      subst ms ns
      have f1 := ne_neg (j := j) (c := 1) (by omega) (by decide) (by decide)
      have f9 := ne_neg (j := j) (c := 9) (by omega) (by decide) (by decide)
      rw [if_pos (show (some j).isSome = true from rfl)]
      refine ⟨hI, hE, nI s.1.length, nI j, Nd, Nl, Nr, Np, Nu, Ne, nI s.1.length, nI j, Md, Mf, Mt, Mn, Mp, Mr, Mc, ?_, hN, ?_, hM⟩
      · rw [← e1]
        simp -implicitDefEqProofs (disch := omega) only [fx9_s, fN_answerFor_31, litI, litL, nI_add, pk_mul, bd0_e, bd1_e, bd2_e, bd3_e, bd4_e, st_e, nI_leI, nI_ltI, nI_eq, if_pos, if_neg, if_true, if_false, ld_nI, sti_nI, stl_nI, f1, ite_self]
      · rw [← e2]
        simp -implicitDefEqProofs (disch := omega) only [fx10_s, fM_search_63, litI, litL, nI_add, pk_mul, bd0_e, bd1_e, bd2_e, bd3_e, bd4_e, st_e, nI_leI, nI_ltI, nI_eq, if_pos, if_neg, if_true, if_false, ld_nI, sti_nI, stl_nI, f9, ite_self]
    | none =>
      have ms : Ms = -nI 9 := by rw [hM.2.1, hs]; rfl
      have ns : Ns = -nI 1 := by rw [hN.2.1, hs]; rfl
      subst ms ns
      rw [if_neg (by decide)]
      by_cases hi : i < s.1.length
      · rw [List.getElem?_eq_getElem hi]
        have hg := List.getElem?_eq_getElem hi
        have hG : G s i s.1[i].1 s.1[i].2.1 := ⟨hI, s.1[i], hg, rfl, rfl⟩
        obtain ⟨Nz1, Ns1, Nd1, Nl1, Nr1, Np1, Nu1, Ne1, c1, hN1⟩ := nChildren hG (hE hs i _ hg) hN
        obtain ⟨g, l1, l2⟩ := mLayNode (Mn := Mn) (i := i) (by omega) Mt
        have hrow : rowIs g s.1[i].1 s.1[i].2.1 := (hM.2.2.2 i _ hg).1.cong l2
        obtain ⟨Mz1, Ms1, Md1, Mf1, Mn1, Mp1, Mr1, Mc1, c2, hM1, hG1⟩ := mChildren (k63 := fx10 fM_search_63 m2) (p := i) hrow 5 0 FU s (nI s.1.length) (-nI 9) Md Mf Mn Mp Mr Mc (by omega) (fuel (by omega)) hG hM
        have hM1 : RM (exS i s.1[i].1 s.1[i].2.1 s) Mz1 Ms1 Md1 Mn1 Mp1 Mr1 := hM1
        obtain ⟨hI', hE', Nz', Ns', Nd', Nl', Nr', Np', Nu', Ne', Mz', Ms', Md', Mf', Mt', Mn', Mp', Mr', Mc', a1, a2, a3, a4⟩ := ih (i + 1) m1 m2 (exS i s.1[i].1 s.1[i].2.1 s) Nz1 Ns1 Nd1 Nl1 Nr1 Np1 Nu1 Ne1 Mz1 Ms1 Md1 Mf1 g Mn1 Mp1 Mr1 Mc1 (by omega) (by omega) (by omega) hG.ex.1 hE.ex hN1 hM1
        refine ⟨hI', hE', Nz', Ns', Nd', Nl', Nr', Np', Nu', Ne', Mz', Ms', Md', Mf', Mt', Mn', Mp', Mr', Mc', ?_, a2, ?_, a4⟩
        · rw [← a1]
          simp -implicitDefEqProofs (disch := omega) only [fx9_s, fN_answerFor_31, litI, litL, nI_add, pk_mul, bd0_e, bd1_e, bd2_e, bd3_e, bd4_e, st_e, nI_leI, nI_ltI, nI_eq, if_pos, if_neg, if_true, if_false, ld_nI, sti_nI, stl_nI, bd5_e, bd6_e, bd7_e, bd8_e, bd9_e, bd10_e, bd11_e, c1]
        · rw [← a3, ← c2]
          simp -implicitDefEqProofs (disch := omega) only [fx10_s, fM_search_63, litI, litL, nI_add, pk_mul, bd0_e, bd1_e, bd2_e, bd3_e, bd4_e, st_e, nI_leI, nI_ltI, nI_eq, if_pos, if_neg, if_true, if_false, ld_nI, sti_nI, stl_nI, l1]
      · rw [List.getElem?_eq_none (by omega)]
        refine ⟨hI, hE, nI s.1.length, -nI 1, Nd, Nl, Nr, Np, Nu, Ne, nI s.1.length, -nI 9, Md, Mf, Mt, Mn, Mp, Mr, Mc, ?_, hN0, ?_, hM0⟩
        · rw [← e1]
          simp -implicitDefEqProofs (disch := omega) only [fx9_s, fN_answerFor_31, litI, litL, nI_add, pk_mul, bd0_e, bd1_e, bd2_e, bd3_e, bd4_e, st_e, nI_leI, nI_ltI, nI_eq, if_pos, if_neg, if_true, if_false, ld_nI, sti_nI, stl_nI]
        · rw [← e2]
          simp -implicitDefEqProofs (disch := omega) only [fx10_s, fM_search_63, litI, litL, nI_add, pk_mul, bd0_e, bd1_e, bd2_e, bd3_e, bd4_e, st_e, nI_leI, nI_ltI, nI_eq, if_pos, if_neg, if_true, if_false, ld_nI, sti_nI, stl_nI]
