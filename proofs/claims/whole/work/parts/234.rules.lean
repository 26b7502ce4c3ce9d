/-! proofLength and proofRule -/
set_option maxRecDepth 100000 in
theorem dnn {a : Nat} (h : 0 < a) : nI a + -nI 1 = nI (a - 1) := by rw [← pk_sub h]; exact (Int32.sub_eq_add_neg _ _).symm
set_option maxRecDepth 100000 in
theorem mInW (x b : Int32) : fM_in x.toInt64 (lN 0) b.toInt64 = some (if x < 0 ∨ b < x then nI 0 else nI 1) := by
  rw [mIn]
  have e1 : x.toInt64 < lN 0 ↔ x < 0 := fa_wide_lt x 0
  have e2 : b.toInt64 < x.toInt64 ↔ b < x := fa_wide_lt b x
  by_cases q : x < 0 ∨ b < x
  · rw [if_pos q, if_pos (q.imp e1.mpr e2.mpr)]; rfl
  · rw [if_neg q, if_neg (fun z => q (z.imp e1.mp e2.mp))]; rfl
set_option maxRecDepth 100000 in
theorem mInD_lo {x : Int32} {D : Nat} (h : x < 0) : fM_in x.toInt64 (lN 0) (nI D - nI 1).toInt64 = some (nI 0) := by rw [mInW, if_pos (Or.inl h)]
set_option maxRecDepth 100000 in
theorem mInD_hi {x : Int32} {D : Nat} (hD : D < 2 ^ 30) (h : nI D ≤ x) : fM_in x.toInt64 (lN 0) (nI D - nI 1).toInt64 = some (nI 0) := by
  rw [mInW, if_pos (Or.inr ?_)]
  rw [fa_lt, pk_sub_toInt hD (by decide)]
  have := (fa_le _ _).mp h
  rw [nI_toInt (by omega)] at this
  omega
set_option maxRecDepth 100000 in
theorem mInD_in {i D : Nat} (hD : D < 2 ^ 30) (h : i < D) : fM_in (nI i).toInt64 (lN 0) (nI D - nI 1).toInt64 = some (nI 1) := by
  rw [mInW, if_neg]
  rintro (z | z)
  · have z : nI i < nI 0 := z
    rw [nI_ltI (by omega) (by omega)] at z
    omega
  · rw [fa_lt, pk_sub_toInt hD (by decide), nI_toInt (by omega)] at z
    omega
def anc (s : SS) : Nat → Nat → Nat
  | 0, j => j
  | t + 1, j => prt s (anc s t j)
set_option maxRecDepth 100000 in
theorem PIf {s : SS} (h : PI s) {i : Nat} (hi : i < s.1.length) : (i = 0 → dep s i = 0) ∧ (0 < i → prt s i < i ∧ rul s i < 5 ∧ dep s i = dep s (prt s i) + 1) := by
  have hg := List.getElem?_eq_getElem hi
  obtain ⟨a, b⟩ := h i _ hg
  have e1 : dep s i = s.1[i].2.2.2.2 := by unfold dep; rw [hg]
  have e2 : prt s i = s.1[i].2.2.1 := by unfold prt; rw [hg]
  have e3 : rul s i = s.1[i].2.2.2.1 := by unfold rul; rw [hg]
  rw [e1, e2, e3]
  refine ⟨a, fun z => ?_⟩
  obtain ⟨b1, b2, m, b3, b4, -⟩ := b z
  refine ⟨b1, b2, ?_⟩
  rw [b4]
  unfold dep
  rw [b3]
set_option maxRecDepth 100000 in
theorem dep_le {s : SS} (h : PI s) : ∀ (k i : Nat), i ≤ k → i < s.1.length → dep s i ≤ i := by
  intro k
  induction k with
  | zero => intro i hk hi; rw [(PIf h hi).1 (by omega)]; exact Nat.zero_le _
  | succ k ih =>
    intro i hk hi
    by_cases q : i = 0
    · rw [(PIf h hi).1 q]; exact Nat.zero_le _
    · obtain ⟨a, -, b⟩ := (PIf h hi).2 (by omega)
      have := ih (prt s i) (by omega) (by omega)
      omega
set_option maxRecDepth 100000 in
theorem anc_ok {s : SS} (h : PI s) {j : Nat} (hj : j < s.1.length) : ∀ t, t ≤ dep s j → anc s t j < s.1.length ∧ dep s (anc s t j) + t = dep s j
  | 0, _ => ⟨hj, rfl⟩
  | t + 1, ht => by
    obtain ⟨a, b⟩ := anc_ok h hj t (by omega)
    have q : 0 < anc s t j := by
      rcases Nat.eq_zero_or_pos (anc s t j) with z | z
      · have := (PIf h a).1 z
        omega
      · exact z
    obtain ⟨c, -, d⟩ := (PIf h a).2 q
    rw [anc]
    exact ⟨by omega, by omega⟩
set_option maxRecDepth 100000 in
theorem anc_pos {s : SS} (h : PI s) {j : Nat} (hj : j < s.1.length) {t : Nat} (ht : t < dep s j) : 0 < anc s t j := by
  obtain ⟨a, b⟩ := anc_ok h hj t (by omega)
  rcases Nat.eq_zero_or_pos (anc s t j) with z | z
  · have := (PIf h a).1 z
    omega
  · exact z
set_option maxRecDepth 100000 in
theorem anc_end {s : SS} (h : PI s) {j : Nat} (hj : j < s.1.length) : anc s (dep s j) j = 0 := by
  obtain ⟨a, b⟩ := anc_ok h hj (dep s j) (Nat.le_refl _)
  rcases Nat.eq_zero_or_pos (anc s (dep s j) j) with z | z
  · exact z
  · have := ((PIf h a).2 z).2.2
    omega
set_option maxRecDepth 100000 in
theorem RNf {s : SS} {Nz Ns Nd : Int32} {Nl Nr : Nat → Int64} {Np Nu Ne : Nat → Int32} (h : RN s Nz Ns Nd Nl Nr Np Nu Ne) {i : Nat} (hi : i < s.1.length) : (0 < i → Np i = nI (prt s i)) ∧ Nu i = nI (rul s i) ∧ Ne i = nI (dep s i) := by
  have hg := List.getElem?_eq_getElem hi
  obtain ⟨-, -, a, b, c⟩ := h.2.2.2 i _ hg
  have e1 : dep s i = s.1[i].2.2.2.2 := by unfold dep; rw [hg]
  have e2 : prt s i = s.1[i].2.2.1 := by unfold prt; rw [hg]
  have e3 : rul s i = s.1[i].2.2.2.1 := by unfold rul; rw [hg]
  rw [e1, e2, e3]
  exact ⟨fun z => by rw [a, if_neg (by omega)], b, c⟩
set_option maxRecDepth 100000 in
theorem RMf {s : SS} {Mz Ms Md : Int32} {Mn Mp Mr : Nat → Int32} (h : RM s Mz Ms Md Mn Mp Mr) {i : Nat} (hi : i < s.1.length) (h0 : 0 < i) : Mp i = nI (prt s i) ∧ Mr i = nI (rul s i) := by
  have hg := List.getElem?_eq_getElem hi
  obtain ⟨-, a, b⟩ := h.2.2.2 i _ hg
  have e2 : prt s i = s.1[i].2.2.1 := by unfold prt; rw [hg]
  have e3 : rul s i = s.1[i].2.2.2.1 := by unfold rul; rw [hg]
  rw [e2, e3]
  exact ⟨by rw [a, if_neg (by omega)], b h0⟩
section PF
variable {s : SS} {Nz Ns Nd : Int32} {Nl Nr : Nat → Int64} {Np Nu Ne : Nat → Int32}
set_option maxRecDepth 100000 in
theorem nProofSize (hI : INV s) (h : RN s Nz Ns Nd Nl Nr Np Nu Ne) {j : Nat} (hs : s.2.1 = some j) : fN_proofSize Nz Ns Ne = some (nI (dep s j)) := by
  have hj := hI.2.2.1 j hs
  have hL := hI.2.1
  have e1 : Ns = nI j := by rw [h.2.1, hs]; rfl
  have e2 := h.1
  have e3 := nIsNode hI hj
  have e4 := (RNf h hj).2.2
  rw [e1, e2]
  simp -implicitDefEqProofs (disch := omega) only [fN_proofSize, litI, litL, nI_add, pk_mul, bd0_e, bd1_e, bd2_e, bd3_e, bd4_e, st_e, nI_leI, nI_ltI, nI_eq, if_pos, if_neg, if_true, if_false, ld_nI, sti_nI, stl_nI, e3, e4]
set_option maxRecDepth 100000 in
theorem nRuleOf (hI : INV s) (hP : PI s) (h : RN s Nz Ns Nd Nl Nr Np Nu Ne) {j i : Nat} (hs : s.2.1 = some j) (hi : i < dep s j) : fN_ruleOfProof Nz Ns Np Nu Ne (nI i) = some (nI (rul s (anc s (dep s j - 1 - i) j))) := by
  have hj := hI.2.2.1 j hs
  have hL := hI.2.1
  have hd := dep_le hP j j (Nat.le_refl _) hj
  have e0 := nProofSize hI h hs
  have e1 : Ns = nI j := by rw [h.2.1, hs]; rfl
  have e2 := h.1
  subst e1 e2
  have key : ∀ (d t m : Nat), t + d = dep s j - 1 - i → d < m → fx2 (fN_ruleOfProof_10 (nI s.1.length) Np Nu (nI i)) m (nI (anc s t j)) (nI (dep s j - t)) = some (nI (rul s (anc s (dep s j - 1 - i) j))) := by
    intro d
    induction d with
    | zero =>
      intro t m ht hm
      obtain ⟨m, rfl⟩ := succ_of hm
      have ht : t = dep s j - 1 - i := ht
      subst ht
      obtain ⟨a, b⟩ := anc_ok hP hj (dep s j - 1 - i) (by omega)
      have e3 := nIsNode hI a
      have e4 := (RNf h a).2.1
      have e5 : dep s j - (dep s j - 1 - i) = i + 1 := by omega
      rw [e5]
      simp -implicitDefEqProofs (disch := omega) only [fx2_s, fN_ruleOfProof_10, fN_ruleOfProof_38, litI, litL, nI_add, pk_mul, bd0_e, bd1_e, bd2_e, bd3_e, bd4_e, st_e, nI_leI, nI_ltI, nI_eq, if_pos, if_neg, if_true, if_false, ld_nI, sti_nI, stl_nI, e3, e4]
    | succ d ih =>
      intro t m ht hm
      obtain ⟨m, rfl⟩ := succ_of hm
      obtain ⟨a, b⟩ := anc_ok hP hj t (by omega)
      have q := anc_pos hP hj (t := t) (by omega)
      have e3 := nIsNode hI a
      have e4 := (RNf h a).1 q
      have e5 := dnn (a := dep s j - t) (by omega)
      have e6 := ih (t + 1) m (by omega) (by omega)
      rw [show dep s j - (t + 1) = dep s j - t - 1 by omega, anc] at e6
      rw [← e6]
      simp -implicitDefEqProofs (disch := omega) only [fx2_s, fN_ruleOfProof_10, litI, litL, nI_add, pk_mul, bd0_e, bd1_e, bd2_e, bd3_e, bd4_e, st_e, nI_leI, nI_ltI, nI_eq, if_pos, if_neg, if_true, if_false, ld_nI, sti_nI, stl_nI, e3, e4, e5]
  have e := key (dep s j - 1 - i) 0 FU (by omega) (fuel (by omega))
  rw [← e]
  simp -implicitDefEqProofs (disch := omega) only [fN_ruleOfProof, litI, litL, nI_add, pk_mul, bd0_e, bd1_e, bd2_e, bd3_e, bd4_e, st_e, e0, anc, Nat.sub_zero]
end PF
set_option maxRecDepth 100000 in
theorem mLayProof {s : SS} {Mz Ms Md Mf : Int32} {Mt Mn Mp Mr Mc : Nat → Int32} (hI : INV s) (hP : PI s) (h : RM s Mz Ms Md Mn Mp Mr) {j : Nat} (hs : s.2.1 = some j) (Mo : Nat → Int32) :
    ∃ Mo', fx2 (fM_layProof_24 Mz Ms Md Mf Mt Mn Mp Mr Mc Mo) FU (nI 0) Ms = some (nI 1, Mz, Ms, Md, Mf, nI (dep s j), Mt, Mn, Mp, Mr, Mc, Mo') ∧ ∀ k, k < dep s j → Mo' k = nI (anc s (dep s j - 1 - k) j) := by
  have hj := hI.2.2.1 j hs
  have hL := hI.2.1
  have hd := dep_le hP j j (Nat.le_refl _) hj
  have e1 : Ms = nI j := by rw [h.2.1, hs]; rfl
  subst e1
  have k2 : ∀ (d t m : Nat) (Mo : Nat → Int32), t + d = dep s j → d < m → (∀ u, u < t → Mo (dep s j - 1 - u) = nI (anc s u j)) → ∃ Mo', fx3 (fM_layProof_58 Mz (nI j) Md Mf (nI (dep s j)) Mt Mn Mp Mr Mc) m Mo (nI (dep s j - t)) (nI (anc s t j)) = some (nI 1, Mz, nI j, Md, Mf, nI (dep s j), Mt, Mn, Mp, Mr, Mc, Mo') ∧ ∀ u, u < dep s j → Mo' (dep s j - 1 - u) = nI (anc s u j) := by
    intro d
    induction d with
    | zero =>
      intro t m Mo ht hm hk
      obtain ⟨m, rfl⟩ := succ_of hm
      have ht : t = dep s j := ht
      subst ht
      refine ⟨Mo, ?_, hk⟩
      rw [anc_end hP hj]
      simp -implicitDefEqProofs (disch := omega) only [fx3_s, fM_layProof_58, litI, litL, nI_add, pk_mul, bd0_e, bd1_e, bd2_e, bd3_e, bd4_e, st_e, nI_leI, nI_ltI, nI_eq, if_pos, if_neg, if_true, if_false, ld_nI, sti_nI, stl_nI]
    | succ d ih =>
      intro t m Mo ht hm hk
      obtain ⟨m, rfl⟩ := succ_of hm
      obtain ⟨a, b⟩ := anc_ok hP hj t (by omega)
      have q := anc_pos hP hj (t := t) (by omega)
      have e4 := (RMf h a q).1
      have e5 := dnn (a := dep s j - t) (by omega)
      obtain ⟨Mo', e6, h6⟩ := ih (t + 1) m (upd Mo (dep s j - t - 1) (nI (anc s t j))) (by omega) (by omega) (fun u hu => by
        rw [upd_e]
        by_cases z : u = t
        · rw [if_pos (by omega), z]
        · rw [if_neg (by omega)]; exact hk u (by omega))
      rw [show dep s j - (t + 1) = dep s j - t - 1 by omega, anc] at e6
      refine ⟨Mo', ?_, h6⟩
      rw [← e6]
      simp -implicitDefEqProofs (disch := omega) only [fx3_s, fM_layProof_58, litI, litL, nI_add, pk_mul, bd0_e, bd1_e, bd2_e, bd3_e, bd4_e, st_e, nI_leI, nI_ltI, nI_eq, if_pos, if_neg, if_true, if_false, ld_nI, sti_nI, stl_nI, e4, e5]
  have k1 : ∀ (d t m : Nat), t + d = dep s j → d < m → fx2 (fM_layProof_24 Mz (nI j) Md Mf Mt Mn Mp Mr Mc Mo) m (nI t) (nI (anc s t j)) = fx3 (fM_layProof_58 Mz (nI j) Md Mf (nI (dep s j)) Mt Mn Mp Mr Mc) FU Mo (nI (dep s j)) (nI j) := by
    intro d
    induction d with
    | zero =>
      intro t m ht hm
      obtain ⟨m, rfl⟩ := succ_of hm
      have ht : t = dep s j := ht
      subst ht
      rw [anc_end hP hj]
      simp -implicitDefEqProofs (disch := omega) only [fx2_s, fM_layProof_24, litI, litL, nI_add, pk_mul, bd0_e, bd1_e, bd2_e, bd3_e, bd4_e, st_e, nI_leI, nI_ltI, nI_eq, if_pos, if_neg, if_true, if_false, ld_nI, sti_nI, stl_nI]
    | succ d ih =>
      intro t m ht hm
      obtain ⟨m, rfl⟩ := succ_of hm
      obtain ⟨a, b⟩ := anc_ok hP hj t (by omega)
      have q := anc_pos hP hj (t := t) (by omega)
      have e4 := (RMf h a q).1
      have e6 := ih (t + 1) m (by omega) (by omega)
      rw [anc] at e6
      rw [← e6]
      simp -implicitDefEqProofs (disch := omega) only [fx2_s, fM_layProof_24, litI, litL, nI_add, pk_mul, bd0_e, bd1_e, bd2_e, bd3_e, bd4_e, st_e, nI_leI, nI_ltI, nI_eq, if_pos, if_neg, if_true, if_false, ld_nI, sti_nI, stl_nI, e4]
  obtain ⟨Mo', e, he⟩ := k2 (dep s j) 0 FU Mo (by omega) (fuel (by omega)) (fun u hu => absurd hu (Nat.not_lt_zero _))
  refine ⟨Mo', (k1 (dep s j) 0 FU (by omega) (fuel (by omega))).trans e, fun k hk => ?_⟩
  have := he (dep s j - 1 - k) (by omega)
  rw [show dep s j - 1 - (dep s j - 1 - k) = k by omega] at this
  exact this
set_option maxRecDepth 100000 in
theorem ans_some {s : SS} {j : Nat} (h : s.2.1 = some j) : ansS s = 1 := by unfold ansS; rw [h]; rfl
set_option maxRecDepth 100000 in
theorem ans_none {s : SS} (h : s.2.1 = none) : ansS s = 0 ∨ ansS s = 2 := by
  unfold ansS
  rw [h, if_neg (by decide)]
  split
  · exact Or.inr rfl
  · exact Or.inl rfl
set_option maxRecDepth 100000 in
/-- layProof of the reference beside answerFor of the class -/
theorem bothProof {row : Nat → Int32} {xs ys : List Nat} (hr : rowIs row xs ys) (hx : okS 12 xs) (hy : okS 12 ys) (Nl Nr : Nat → Int64) (Np Nu Ne : Nat → Int32) (Mf Mq : Int32) (Mt Mn Mp Mr Mc Mo : Nat → Int32) :
    INV (srS xs ys) ∧ PI (srS xs ys) ∧ ∃ Nz' Ns' Nd' Nl' Nr' Np' Nu' Ne' b Mz' Ms' Md' Mf' Mq' Mt' Mn' Mp' Mr' Mc' Mo', fN_answerFor Nl Nr Np Nu Ne (lN (pq xs)) (lN (pq ys)) = some (nI (ansS (srS xs ys)), Nz', Ns', Nd', Nl', Nr', Np', Nu', Ne') ∧ RN (srS xs ys) Nz' Ns' Nd' Nl' Nr' Np' Nu' Ne' ∧ fM_layProof Mf Mq row Mt Mn Mp Mr Mc Mo = some (nI b, Mz', Ms', Md', Mf', Mq', Mt', Mn', Mp', Mr', Mc', Mo') ∧ RM (srS xs ys) Mz' Ms' Md' Mn' Mp' Mr' ∧
      (((srS xs ys).2.1 = none ∧ b = 0 ∧ (ansS (srS xs ys) = 0 ∨ ansS (srS xs ys) = 2)) ∨ (b = 1 ∧ ansS (srS xs ys) = 1 ∧ ∃ j, (srS xs ys).2.1 = some j ∧ Mq' = nI (dep (srS xs ys) j) ∧ ∀ k, k < dep (srS xs ys) j → Mo' k = nI (anc (srS xs ys) (dep (srS xs ys) j - 1 - k) j))) := by
  obtain ⟨hI, Nz', Ns', Nd', Nl', Nr', Np', Nu', Ne', Mz', Ms', Md', Mf', Mt', Mn', Mp', Mr', Mc', a1, a2, a3, a4⟩ := bothSearch hr hx hy Nl Nr Np Nu Ne Mf Mt Mn Mp Mr Mc
  have hP := srPI hx hy
  refine ⟨hI, hP, ?_⟩
  generalize srS xs ys = s at *
  cases hs : s.2.1 with
  | none =>
    have h2 := ans_none hs
    refine ⟨Nz', Ns', Nd', Nl', Nr', Np', Nu', Ne', 0, Mz', Ms', Md', Mf', Mq, Mt', Mn', Mp', Mr', Mc', Mo, a1, a2, ?_, a4, Or.inl ⟨rfl, rfl, h2⟩⟩
    rcases h2 with z | z
    · rw [z] at a3
      simp -implicitDefEqProofs (disch := omega) only [fM_layProof, litI, litL, nI_add, pk_mul, bd0_e, bd1_e, bd2_e, bd3_e, bd4_e, st_e, nI_leI, nI_ltI, nI_eq, if_pos, if_neg, if_true, if_false, ld_nI, sti_nI, stl_nI, bd5_e, bd6_e, bd7_e, bd8_e, bd9_e, bd10_e, bd11_e, a3]
    · rw [z] at a3
      simp -implicitDefEqProofs (disch := omega) only [fM_layProof, litI, litL, nI_add, pk_mul, bd0_e, bd1_e, bd2_e, bd3_e, bd4_e, st_e, nI_leI, nI_ltI, nI_eq, if_pos, if_neg, if_true, if_false, ld_nI, sti_nI, stl_nI, bd5_e, bd6_e, bd7_e, bd8_e, bd9_e, bd10_e, bd11_e, a3]
  | some j =>
    have h2 := ans_some hs
    obtain ⟨Mo', e, he⟩ := mLayProof (Mf := Mf') (Mt := Mt') (Mc := Mc') hI hP a4 hs Mo
    refine ⟨Nz', Ns', Nd', Nl', Nr', Np', Nu', Ne', 1, Mz', Ms', Md', Mf', nI (dep s j), Mt', Mn', Mp', Mr', Mc', Mo', a1, a2, ?_, a4, Or.inr ⟨rfl, h2, j, rfl, rfl, he⟩⟩
    rw [h2] at a3
    rw [← e]
    simp -implicitDefEqProofs (disch := omega) only [fM_layProof, litI, litL, nI_add, pk_mul, bd0_e, bd1_e, bd2_e, bd3_e, bd4_e, st_e, nI_leI, nI_ltI, nI_eq, if_pos, if_neg, if_true, if_false, ld_nI, sti_nI, stl_nI, bd5_e, bd6_e, bd7_e, bd8_e, bd9_e, bd10_e, bd11_e, a3]
section PG
variable {El Er : Int64} {now : Nat → Int32} {xs ys : List Nat}
set_option maxRecDepth 100000 in
theorem pProofLength (h : RE El Er now xs ys) (Nl Nr : Nat → Int64) (Np Nu Ne : Nat → Int32) (Mf Mq : Int32) (Mt Mn Mp Mr Mc Mo : Nat → Int32) :
    ∃ r Nz' Ns' Nd' Nl' Nr' Np' Nu' Ne' Mz' Ms' Md' Mf' Mq' Mt' Mn' Mp' Mr' Mc' Mo', fX_proofLength El Er Nl Nr Np Nu Ne = some (r, Nz', Ns', Nd', Nl', Nr', Np', Nu', Ne') ∧ fM_proofLength Mf Mq now Mt Mn Mp Mr Mc Mo = some (r, Mz', Ms', Md', Mf', Mq', Mt', Mn', Mp', Mr', Mc', Mo') := by
  obtain ⟨hx, hy, rfl, rfl, hr⟩ := h
  obtain ⟨hI, hP, Nz', Ns', Nd', Nl', Nr', Np', Nu', Ne', b, Mz', Ms', Md', Mf', Mq', Mt', Mn', Mp', Mr', Mc', Mo', a1, a2, a3, a4, a5⟩ := bothProof hr hx hy Nl Nr Np Nu Ne Mf Mq Mt Mn Mp Mr Mc Mo
  rcases a5 with ⟨hs, rfl, z⟩ | ⟨rfl, z, j, hs, rfl, ho⟩
  · refine ⟨-nI 9, Nz', Ns', Nd', Nl', Nr', Np', Nu', Ne', Mz', Ms', Md', Mf', Mq', Mt', Mn', Mp', Mr', Mc', Mo', ?_, ?_⟩
    · rcases z with z | z
      · rw [z] at a1
        simp -implicitDefEqProofs (disch := omega) only [fX_proofLength, litI, litL, nI_add, pk_mul, bd0_e, bd1_e, bd2_e, bd3_e, bd4_e, st_e, nI_leI, nI_ltI, nI_eq, if_pos, if_neg, if_true, if_false, ld_nI, sti_nI, stl_nI, bd5_e, bd6_e, bd7_e, bd8_e, bd9_e, bd10_e, bd11_e, a1]
      · rw [z] at a1
        simp -implicitDefEqProofs (disch := omega) only [fX_proofLength, litI, litL, nI_add, pk_mul, bd0_e, bd1_e, bd2_e, bd3_e, bd4_e, st_e, nI_leI, nI_ltI, nI_eq, if_pos, if_neg, if_true, if_false, ld_nI, sti_nI, stl_nI, bd5_e, bd6_e, bd7_e, bd8_e, bd9_e, bd10_e, bd11_e, a1]
    · simp -implicitDefEqProofs (disch := omega) only [fM_proofLength, litI, litL, nI_add, pk_mul, bd0_e, bd1_e, bd2_e, bd3_e, bd4_e, st_e, nI_leI, nI_ltI, nI_eq, if_pos, if_neg, if_true, if_false, ld_nI, sti_nI, stl_nI, bd5_e, bd6_e, bd7_e, bd8_e, bd9_e, bd10_e, bd11_e, bd12_e, bd13_e, bd14_e, bd15_e, bd16_e, bd17_e, bd21_e, a3]
  · have e := nProofSize hI a2 hs
    rw [z] at a1
    refine ⟨nI (dep (srS xs ys) j), Nz', Ns', Nd', Nl', Nr', Np', Nu', Ne', Mz', Ms', Md', Mf', nI (dep (srS xs ys) j), Mt', Mn', Mp', Mr', Mc', Mo', ?_, ?_⟩
    · simp -implicitDefEqProofs (disch := omega) only [fX_proofLength, litI, litL, nI_add, pk_mul, bd0_e, bd1_e, bd2_e, bd3_e, bd4_e, st_e, nI_leI, nI_ltI, nI_eq, if_pos, if_neg, if_true, if_false, ld_nI, sti_nI, stl_nI, bd5_e, bd6_e, bd7_e, bd8_e, bd9_e, bd10_e, bd11_e, a1, e]
    · simp -implicitDefEqProofs (disch := omega) only [fM_proofLength, litI, litL, nI_add, pk_mul, bd0_e, bd1_e, bd2_e, bd3_e, bd4_e, st_e, nI_leI, nI_ltI, nI_eq, if_pos, if_neg, if_true, if_false, ld_nI, sti_nI, stl_nI, bd5_e, bd6_e, bd7_e, bd8_e, bd9_e, bd10_e, bd11_e, bd12_e, bd13_e, bd14_e, bd15_e, bd16_e, bd17_e, bd21_e, a3]
set_option maxRecDepth 100000 in
theorem pProofRule (h : RE El Er now xs ys) (Nl Nr : Nat → Int64) (Np Nu Ne : Nat → Int32) (Mf Mq : Int32) (Mt Mn Mp Mr Mc Mo : Nat → Int32) (x1 : Int32) :
    ∃ r Nz' Ns' Nd' Nl' Nr' Np' Nu' Ne' Mz' Ms' Md' Mf' Mq' Mt' Mn' Mp' Mr' Mc' Mo', fX_proofRule El Er Nl Nr Np Nu Ne x1 = some (r, Nz', Ns', Nd', Nl', Nr', Np', Nu', Ne') ∧ fM_proofRule Mf Mq now Mt Mn Mp Mr Mc Mo x1 = some (r, Mz', Ms', Md', Mf', Mq', Mt', Mn', Mp', Mr', Mc', Mo') := by
  obtain ⟨hx, hy, rfl, rfl, hr⟩ := h
  obtain ⟨hI, hP, Nz', Ns', Nd', Nl', Nr', Np', Nu', Ne', b, Mz', Ms', Md', Mf', Mq', Mt', Mn', Mp', Mr', Mc', Mo', a1, a2, a3, a4, a5⟩ := bothProof hr hx hy Nl Nr Np Nu Ne Mf Mq Mt Mn Mp Mr Mc Mo
  generalize srS xs ys = s at *
  rcases a5 with ⟨hs, rfl, z⟩ | ⟨rfl, z, j, hs, rfl, ho⟩
  · refine ⟨-nI 9, Nz', Ns', Nd', Nl', Nr', Np', Nu', Ne', Mz', Ms', Md', Mf', Mq', Mt', Mn', Mp', Mr', Mc', Mo', ?_, ?_⟩
    · rcases z with z | z
      · rw [z] at a1
        simp -implicitDefEqProofs (disch := omega) only [fX_proofRule, litI, litL, nI_add, pk_mul, bd0_e, bd1_e, bd2_e, bd3_e, bd4_e, st_e, nI_leI, nI_ltI, nI_eq, if_pos, if_neg, if_true, if_false, ld_nI, sti_nI, stl_nI, bd5_e, bd6_e, bd7_e, bd8_e, bd9_e, bd10_e, bd11_e, a1]
      · rw [z] at a1
        simp -implicitDefEqProofs (disch := omega) only [fX_proofRule, litI, litL, nI_add, pk_mul, bd0_e, bd1_e, bd2_e, bd3_e, bd4_e, st_e, nI_leI, nI_ltI, nI_eq, if_pos, if_neg, if_true, if_false, ld_nI, sti_nI, stl_nI, bd5_e, bd6_e, bd7_e, bd8_e, bd9_e, bd10_e, bd11_e, a1]
    · simp -implicitDefEqProofs (disch := omega) only [fM_proofRule, litI, litL, nI_add, pk_mul, bd0_e, bd1_e, bd2_e, bd3_e, bd4_e, st_e, nI_leI, nI_ltI, nI_eq, if_pos, if_neg, if_true, if_false, ld_nI, sti_nI, stl_nI, bd5_e, bd6_e, bd7_e, bd8_e, bd9_e, bd10_e, bd11_e, bd12_e, bd13_e, bd14_e, bd15_e, bd16_e, bd17_e, bd21_e, a3]
  · have e := nProofSize hI a2 hs
    have hj := hI.2.2.1 j hs
    have hL := hI.2.1
    have hd := dep_le hP j j (Nat.le_refl _) hj
    rw [z] at a1
    rcases pk_ix x1 (n := dep s j) (by omega) with c | c | ⟨i, hi, rfl⟩
    · have b := mInD_lo (D := dep s j) c
      have c : x1 < nI 0 := c
      refine ⟨-nI 1, Nz', Ns', Nd', Nl', Nr', Np', Nu', Ne', Mz', Ms', Md', Mf', nI (dep s j), Mt', Mn', Mp', Mr', Mc', Mo', ?_, ?_⟩
      · simp -implicitDefEqProofs (disch := omega) only [fX_proofRule, litI, litL, nI_add, pk_mul, bd0_e, bd1_e, bd2_e, bd3_e, bd4_e, st_e, nI_leI, nI_ltI, nI_eq, if_pos, if_neg, if_true, if_false, ld_nI, sti_nI, stl_nI, bd5_e, bd6_e, bd7_e, bd8_e, bd9_e, bd10_e, bd11_e, a1, c]
      · simp -implicitDefEqProofs (disch := omega) only [fM_proofRule, litI, litL, nI_add, pk_mul, bd0_e, bd1_e, bd2_e, bd3_e, bd4_e, st_e, nI_leI, nI_ltI, nI_eq, if_pos, if_neg, if_true, if_false, ld_nI, sti_nI, stl_nI, bd5_e, bd6_e, bd7_e, bd8_e, bd9_e, bd10_e, bd11_e, bd12_e, bd13_e, bd14_e, bd15_e, bd16_e, bd17_e, bd21_e, a3, b]
    · have b := mInD_hi (D := dep s j) (by omega) c
      have l1 : ¬ x1 < nI 0 := not_lo (by omega) c
      have l2 : ¬ x1 < nI (dep s j) := Int32.not_lt.mpr c
      refine ⟨-nI 1, Nz', Ns', Nd', Nl', Nr', Np', Nu', Ne', Mz', Ms', Md', Mf', nI (dep s j), Mt', Mn', Mp', Mr', Mc', Mo', ?_, ?_⟩
      · simp -implicitDefEqProofs (disch := omega) only [fX_proofRule, litI, litL, nI_add, pk_mul, bd0_e, bd1_e, bd2_e, bd3_e, bd4_e, st_e, nI_leI, nI_ltI, nI_eq, if_pos, if_neg, if_true, if_false, ld_nI, sti_nI, stl_nI, bd5_e, bd6_e, bd7_e, bd8_e, bd9_e, bd10_e, bd11_e, a1, l1, e, l2]
      · simp -implicitDefEqProofs (disch := omega) only [fM_proofRule, litI, litL, nI_add, pk_mul, bd0_e, bd1_e, bd2_e, bd3_e, bd4_e, st_e, nI_leI, nI_ltI, nI_eq, if_pos, if_neg, if_true, if_false, ld_nI, sti_nI, stl_nI, bd5_e, bd6_e, bd7_e, bd8_e, bd9_e, bd10_e, bd11_e, bd12_e, bd13_e, bd14_e, bd15_e, bd16_e, bd17_e, bd21_e, a3, b]
    · have b := mInD_in (D := dep s j) (by omega) hi
      have e2 := nRuleOf hI hP a2 hs hi
      obtain ⟨q1, q2⟩ := anc_ok hP hj (dep s j - 1 - i) (by omega)
      have q3 := anc_pos hP hj (t := dep s j - 1 - i) (by omega)
      have e3 := ho i hi
      have e4 := (RMf a4 q1 q3).2
      refine ⟨nI (rul s (anc s (dep s j - 1 - i) j)), Nz', Ns', Nd', Nl', Nr', Np', Nu', Ne', Mz', Ms', Md', Mf', nI (dep s j), Mt', Mn', Mp', Mr', Mc', Mo', ?_, ?_⟩
      · simp -implicitDefEqProofs (disch := omega) only [fX_proofRule, litI, litL, nI_add, pk_mul, bd0_e, bd1_e, bd2_e, bd3_e, bd4_e, st_e, nI_leI, nI_ltI, nI_eq, if_pos, if_neg, if_true, if_false, ld_nI, sti_nI, stl_nI, bd5_e, bd6_e, bd7_e, bd8_e, bd9_e, bd10_e, bd11_e, a1, e, e2]
      · simp -implicitDefEqProofs (disch := omega) only [fM_proofRule, litI, litL, nI_add, pk_mul, bd0_e, bd1_e, bd2_e, bd3_e, bd4_e, st_e, nI_leI, nI_ltI, nI_eq, if_pos, if_neg, if_true, if_false, ld_nI, sti_nI, stl_nI, bd5_e, bd6_e, bd7_e, bd8_e, bd9_e, bd10_e, bd11_e, bd12_e, bd13_e, bd14_e, bd15_e, bd16_e, bd17_e, bd21_e, a3, b, e3, e4]
end PG
