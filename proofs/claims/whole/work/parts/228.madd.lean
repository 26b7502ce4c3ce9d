/-! the reference's rows: nodes known, a node added -/
def RM (s : SS) (Mz Ms Md : Int32) (Mn Mp Mr : Nat → Int32) : Prop :=
  Mz = nI s.1.length ∧ Ms = svM s.2.1 ∧ Md = nI (b1 s.2.2) ∧ ∀ (i : Nat) (n : ND), s.1[i]? = some n → rowIs (fun k => Mn (26 * i + k)) n.1 n.2.1 ∧ Mp i = (if i = 0 then -nI 9 else nI n.2.2.1) ∧ (0 < i → Mr i = nI n.2.2.2.1)
set_option maxRecDepth 100000 in
theorem list_eq {xs ys : List Nat} (hl : xs.length = ys.length) (h : ∀ i, i < xs.length → xs.getD i 0 = ys.getD i 0) : xs = ys := by
  apply List.ext_getElem hl
  intro i h1 h2
  have := h i h1
  rw [getD_in h1, getD_in h2] at this
  exact this
set_option maxRecDepth 100000 in
theorem rowIs_inj {f g : Nat → Int32} {xs ys us vs : List Nat} (hf : rowIs f xs ys) (hg : rowIs g us vs) (hx : okS 12 xs) (hy : okS 12 ys) (hu : okS 12 us) (hv : okS 12 vs) : (∀ k, k < 26 → f k = g k) ↔ xs = us ∧ ys = vs := by
  constructor
  · intro h
    have a := hx.1
    have b := hy.1
    have c := hu.1
    have d := hv.1
    have l0 : xs.length = us.length := by
      have := h 0 (by decide)
      rw [hf.l0, hg.l0] at this
      exact (nI_eq (by omega) (by omega)).mp this
    have l1 : ys.length = vs.length := by
      have := h 1 (by decide)
      rw [hf.l1, hg.l1] at this
      exact (nI_eq (by omega) (by omega)).mp this
    refine ⟨list_eq l0 fun i hi => ?_, list_eq l1 fun i hi => ?_⟩
    · have := h (2 + i) (by omega)
      rw [hf.s0 (by omega), hg.s0 (by omega)] at this
      have q1 := getD_lt6 hx.2 i
      have q2 := getD_lt6 hu.2 i
      exact (nI_eq (by omega) (by omega)).mp this
    · have := h (14 + i) (by omega)
      rw [hf.s1 (by omega), hg.s1 (by omega)] at this
      have q1 := getD_lt6 hy.2 i
      have q2 := getD_lt6 hv.2 i
      exact (nI_eq (by omega) (by omega)).mp this
  · rintro ⟨rfl, rfl⟩ k hk
    by_cases q0 : k = 0
    · rw [q0, hf.l0, hg.l0]
    · by_cases q1 : k = 1
      · rw [q1, hf.l1, hg.l1]
      · by_cases q2 : k < 14
        · obtain ⟨i, rfl⟩ : ∃ i, k = 2 + i := ⟨k - 2, by omega⟩
          rw [hf.s0 (by omega), hg.s0 (by omega)]
        · obtain ⟨i, rfl⟩ : ∃ i, k = 14 + i := ⟨k - 14, by omega⟩
          rw [hf.s1 (by omega), hg.s1 (by omega)]
section MS
variable {k2 : Int32 → Option Int32} {Mz : Int32} {Mn child : Nat → Int32}
set_option maxRecDepth 100000 in
theorem mSame1 {n : Nat} (hn : n < 200) (h : ∀ k, k < 26 → Mn (26 * n + k) = child k) : ∀ (d i m : Nat), i + d = 26 → d < m → fx2 (fM_sameNode_14 k2 Mz Mn child (nI n)) m (nI 1) (nI i) = some (nI n) := by
  intro d
  induction d with
  | zero =>
    intro i m hi hm
    obtain ⟨m, rfl⟩ := succ_of hm
    simp -implicitDefEqProofs (disch := omega) only [fx2_s, fM_sameNode_14, fM_sameNode_56, litI, litL, nI_add, pk_mul, bd0_e, bd1_e, bd2_e, bd3_e, bd4_e, st_e, nI_leI, nI_ltI, nI_eq, if_pos, if_neg, if_true, if_false, ld_nI, sti_nI, stl_nI]
  | succ d ih =>
    intro i m hi hm
    obtain ⟨m, rfl⟩ := succ_of hm
    have e := h i (by omega)
    rw [← ih (i + 1) m (by omega) (by omega)]
    simp -implicitDefEqProofs (disch := omega) only [fx2_s, fM_sameNode_14, litI, litL, nI_add, pk_mul, bd0_e, bd1_e, bd2_e, bd3_e, bd4_e, st_e, nI_leI, nI_ltI, nI_eq, if_pos, if_neg, if_true, if_false, ld_nI, sti_nI, stl_nI, e]
set_option maxRecDepth 100000 in
theorem mSame0 {n : Nat} (hn : n < 200) : ∀ (d i m : Nat), i + d = 26 → d < m → (∃ k, i ≤ k ∧ k < 26 ∧ Mn (26 * n + k) ≠ child k) → fx2 (fM_sameNode_14 k2 Mz Mn child (nI n)) m (nI 1) (nI i) = k2 (nI (n + 1)) := by
  intro d
  induction d with
  | zero =>
    intro i m hi hm hk
    obtain ⟨k, k1, k2, -⟩ := hk
    omega
  | succ d ih =>
    intro i m hi hm hk
    obtain ⟨m, rfl⟩ := succ_of hm
    by_cases e : Mn (26 * n + i) = child i
    · rw [← ih (i + 1) m (by omega) (by omega) (by
        obtain ⟨k, h1, h2, h3⟩ := hk
        refine ⟨k, ?_, h2, h3⟩
        by_cases q : k = i
        · rw [q] at h3; exact absurd e h3
        · omega)]
      simp -implicitDefEqProofs (disch := omega) only [fx2_s, fM_sameNode_14, litI, litL, nI_add, pk_mul, bd0_e, bd1_e, bd2_e, bd3_e, bd4_e, st_e, nI_leI, nI_ltI, nI_eq, if_pos, if_neg, if_true, if_false, ld_nI, sti_nI, stl_nI, e]
    · obtain ⟨m, rfl⟩ := succ_of (show 0 < m by omega)
      have e2 : fx2 (fM_sameNode_14 k2 Mz Mn child (nI n)) (m + 1) (nI 0) (nI (i + 1)) = k2 (nI (n + 1)) := by
        simp -implicitDefEqProofs (disch := omega) only [fx2_s, fM_sameNode_14, fM_sameNode_56, litI, litL, nI_add, pk_mul, bd0_e, bd1_e, bd2_e, bd3_e, bd4_e, st_e, nI_leI, nI_ltI, nI_eq, if_pos, if_neg, if_true, if_false, ld_nI, sti_nI, stl_nI, ite_self]
      rw [← e2, fx2_s]
      simp -implicitDefEqProofs (disch := omega) only [fM_sameNode_14, litI, litL, nI_add, pk_mul, bd0_e, bd1_e, bd2_e, bd3_e, bd4_e, st_e, nI_leI, nI_ltI, nI_eq, if_pos, if_neg, if_true, if_false, ld_nI, sti_nI, stl_nI, e]
end MS
set_option maxRecDepth 100000 in
theorem mSameNode {s : SS} (hI : INV s) {Mz Ms Md : Int32} {Mn Mp Mr : Nat → Int32} (h : RM s Mz Ms Md Mn Mp Mr) {child : Nat → Int32} {xs ys : List Nat} (hc : rowIs child xs ys) (hx : okS 12 xs) (hy : okS 12 ys) :
    ∃ r, fM_sameNode Mz Mn child = some r ∧ (s.1.any (same xs ys) = false → r = -nI 9) ∧ (s.1.any (same xs ys) = true → ¬ r = -nI 9) := by
  obtain ⟨rfl, -, -, hn⟩ := h
  obtain ⟨-, hL, -, ho⟩ := hI
  have key : ∀ (d i m : Nat), i + d = s.1.length → d < m → ∃ r, fx1 (fM_sameNode_2 (nI s.1.length) Mn child) m (nI i) = some r ∧ ((s.1.drop i).any (same xs ys) = false → r = -nI 9) ∧ ((s.1.drop i).any (same xs ys) = true → ¬ r = -nI 9) := by
    intro d
    induction d with
    | zero =>
      intro i m hi hm
      obtain ⟨m, rfl⟩ := succ_of hm
      refine ⟨-nI 9, ?_, fun _ => rfl, fun z => ?_⟩
      · simp -implicitDefEqProofs (disch := omega) only [fx1_s, fM_sameNode_2, litI, litL, nI_add, pk_mul, bd0_e, bd1_e, bd2_e, bd3_e, bd4_e, st_e, nI_leI, nI_ltI, nI_eq, if_pos, if_neg, if_true, if_false, ld_nI, sti_nI, stl_nI]
      · rw [List.drop_eq_nil_of_le (by omega)] at z; cases z
    | succ d ih =>
      intro i m hi hm
      obtain ⟨m, rfl⟩ := succ_of hm
      have hi2 : i < s.1.length := by omega
      obtain ⟨e1, -, -⟩ := hn i s.1[i] (List.getElem?_eq_getElem hi2)
      obtain ⟨o1, o2⟩ := ho i s.1[i] (List.getElem?_eq_getElem hi2)
      have hinj := rowIs_inj e1 hc o1 o2 hx hy
      rw [List.drop_eq_getElem_cons hi2, List.any_cons]
      by_cases q : s.1[i].1 = xs ∧ s.1[i].2.1 = ys
      · have f := mSame1 (k2 := fx1 (fM_sameNode_2 (nI s.1.length) Mn child) m) (Mz := nI s.1.length) (n := i) (by omega) (hinj.mpr q) 26 0 FU (by omega) (fuel (by omega))
        rw [show same xs ys s.1[i] = true by unfold same; rw [decide_eq_true q.1, decide_eq_true q.2]; rfl, Bool.true_or]
        refine ⟨nI i, ?_, fun z => (by cases z), fun _ => ne_neg (by omega) (by decide) (by decide)⟩
        rw [← f]
        simp -implicitDefEqProofs (disch := omega) only [fx1_s, fM_sameNode_2, litI, litL, nI_add, pk_mul, bd0_e, bd1_e, bd2_e, bd3_e, bd4_e, st_e, nI_leI, nI_ltI, nI_eq, if_pos, if_neg, if_true, if_false, ld_nI, sti_nI, stl_nI]
      · obtain ⟨r, r1, r2, r3⟩ := ih (i + 1) m (by omega) (by omega)
        have f := mSame0 (k2 := fx1 (fM_sameNode_2 (nI s.1.length) Mn child) m) (Mz := nI s.1.length) (Mn := Mn) (child := child) (n := i) (by omega) 26 0 FU (by omega) (fuel (by omega)) (Classical.byContradiction fun z => q (hinj.mp fun k hk => Classical.byContradiction fun y => z ⟨k, Nat.zero_le _, hk, y⟩))
        rw [show same xs ys s.1[i] = false by
          unfold same
          by_cases q1 : s.1[i].1 = xs
          · rw [decide_eq_false (fun z => q ⟨q1, z⟩), Bool.and_false]
          · rw [decide_eq_false q1, Bool.false_and], Bool.false_or]
        refine ⟨r, ?_, r2, r3⟩
        rw [← r1, ← f]
        simp -implicitDefEqProofs (disch := omega) only [fx1_s, fM_sameNode_2, litI, litL, nI_add, pk_mul, bd0_e, bd1_e, bd2_e, bd3_e, bd4_e, st_e, nI_leI, nI_ltI, nI_eq, if_pos, if_neg, if_true, if_false, ld_nI, sti_nI, stl_nI]
  obtain ⟨r, r1, r2, r3⟩ := key s.1.length 0 FU (by omega) (fuel (by omega))
  rw [List.drop_zero] at r2 r3
  exact ⟨r, r1, r2, r3⟩
set_option maxRecDepth 100000 in
theorem mPut {L : Nat} (hL : L < 200) {Ms Md Mf v1 v2 : Int32} {Mp Mr child : Nat → Int32} {t0 t1 : Nat} (h0 : child 0 = nI t0) (h1 : child 1 = nI t1) (ht : t0 < 100 ∧ t1 < 100) : ∀ (d i m : Nat) (Mn : Nat → Int32), i + d = 26 → d < m → (∀ k, k < i → Mn (26 * L + k) = child k) →
    ∃ Mn', fx2 (fM_addChild_49 (nI L) Ms Md Mf Mp Mr child v1 v2) m Mn (nI i) = some (nI (L + 1), (if t0 + t1 = 0 then nI L else Ms), Md, Mf, Mn', upd Mp L v1, upd Mr L v2, child) ∧ (∀ k, k < 26 → Mn' (26 * L + k) = child k) ∧ ∀ k, k < 26 * L → Mn' k = Mn k := by
  intro d
  induction d with
  | zero =>
    intro i m Mn hi hm hk
    obtain ⟨m, rfl⟩ := succ_of hm
    refine ⟨Mn, ?_, fun k hk2 => hk k (by omega), fun _ _ => rfl⟩
    by_cases q : t0 + t1 = 0
    · rw [if_pos q]
      simp -implicitDefEqProofs (disch := omega) only [fx2_s, fM_addChild_49, fM_addChild_129, litI, litL, nI_add, pk_mul, bd0_e, bd1_e, bd2_e, bd3_e, bd4_e, st_e, nI_leI, nI_ltI, nI_eq, if_pos, if_neg, if_true, if_false, ld_nI, sti_nI, stl_nI, h0, h1]
    · rw [if_neg q]
      simp -implicitDefEqProofs (disch := omega) only [fx2_s, fM_addChild_49, fM_addChild_129, litI, litL, nI_add, pk_mul, bd0_e, bd1_e, bd2_e, bd3_e, bd4_e, st_e, nI_leI, nI_ltI, nI_eq, if_pos, if_neg, if_true, if_false, ld_nI, sti_nI, stl_nI, h0, h1]
  | succ d ih =>
    intro i m Mn hi hm hk
    obtain ⟨m, rfl⟩ := succ_of hm
    obtain ⟨Mn', e, a, b⟩ := ih (i + 1) m (upd Mn (26 * L + i) (child i)) (by omega) (by omega) (fun k hk2 => by
      rw [upd_e]
      by_cases q : k = i
      · rw [q, if_pos rfl]
      · rw [if_neg (by omega)]; exact hk k (by omega))
    refine ⟨Mn', ?_, a, fun k hk2 => by rw [b k hk2, upd_e, if_neg (by omega)]⟩
    rw [← e]
    simp -implicitDefEqProofs (disch := omega) only [fx2_s, fM_addChild_49, litI, litL, nI_add, pk_mul, bd0_e, bd1_e, bd2_e, bd3_e, bd4_e, st_e, nI_leI, nI_ltI, nI_eq, if_pos, if_neg, if_true, if_false, ld_nI, sti_nI, stl_nI]
set_option maxRecDepth 100000 in
theorem mAddChild {s : SS} (hI : INV s) (hs : s.2.1 = none) {Mz Ms Md : Int32} {Mn Mp Mr : Nat → Int32} (h : RM s Mz Ms Md Mn Mp Mr) {trial child child' : Nat → Int32} {p r : Nat} (hp : p < s.1.length) {f : Bool} {xs ys : List Nat} (hl : fM_layChild trial child (nI r) = some (nI (b1 f), child')) (hc : f = true → rowIs child' xs ys ∧ okS 12 xs ∧ okS 12 ys) :
    ∃ Mz' Ms' Md' Mf' Mn' Mp' Mr' Mc', fM_addChild Mz Ms Md trial Mn Mp Mr child (nI p) (nI r) = some (Mz', Ms', Md', Mf', Mn', Mp', Mr', Mc') ∧ RM (if f = true then addS p r xs ys s else dropS s) Mz' Ms' Md' Mn' Mp' Mr' := by
  have hh := h
  have hL := hI.2.1
  cases f with
  | false =>
    rw [b1_f] at hl
    refine ⟨Mz, Ms, nI 1, nI 0, Mn, Mp, Mr, child', ?_, ?_⟩
    · simp -implicitDefEqProofs (disch := omega) only [fM_addChild, litI, litL, nI_add, pk_mul, bd0_e, bd1_e, bd2_e, bd3_e, bd4_e, st_e, nI_leI, nI_ltI, nI_eq, if_pos, if_neg, if_true, if_false, ld_nI, sti_nI, stl_nI, hl]
    · rw [if_neg Bool.false_ne_true, dropS_new hs]
      obtain ⟨h1, h2, h3, h4⟩ := h
      exact ⟨h1, by rw [h2, hs], rfl, h4⟩
  | true =>
    rw [b1_t] at hl
    rw [if_pos rfl]
    obtain ⟨hr, hx, hy⟩ := hc rfl
    obtain ⟨q, e, a, b⟩ := mSameNode hI h hr hx hy
    obtain ⟨rfl, rfl, rfl, hn⟩ := h
    cases ha : s.1.any (same xs ys) with
    | true =>
      have nq := b ha
      refine ⟨nI s.1.length, svM s.2.1, nI (b1 s.2.2), nI 1, Mn, Mp, Mr, child', ?_, ?_⟩
      · simp -implicitDefEqProofs (disch := omega) only [fM_addChild, litI, litL, nI_add, pk_mul, bd0_e, bd1_e, bd2_e, bd3_e, bd4_e, st_e, nI_leI, nI_ltI, nI_eq, if_pos, if_neg, if_true, if_false, ld_nI, sti_nI, stl_nI, hl, e, nq]
      · rw [addS_known ha]; exact hh
    | false =>
      have nq := a ha
      subst nq
      by_cases hf : 200 ≤ s.1.length
      · have h200 : s.1.length = 200 := by omega
        refine ⟨nI s.1.length, svM none, nI 1, nI 1, Mn, Mp, Mr, child', ?_, ?_⟩
        · rw [hs]
          rw [h200] at e
          simp -implicitDefEqProofs (disch := omega) only [fM_addChild, litI, litL, nI_add, pk_mul, bd0_e, bd1_e, bd2_e, bd3_e, bd4_e, st_e, nI_leI, nI_ltI, nI_eq, if_pos, if_neg, if_true, if_false, ld_nI, sti_nI, stl_nI, hl, e, h200]
        · rw [addS_full hs ha hf]
          exact ⟨rfl, rfl, rfl, hn⟩
      · obtain ⟨Mn', e2, g1, g2⟩ := mPut (L := s.1.length) (by omega) (Ms := svM s.2.1) (Md := nI (b1 s.2.2)) (Mf := nI 1) (v1 := nI p) (v2 := nI r) (Mp := Mp) (Mr := Mr) hr.l0 hr.l1 (by have := hx.1; have := hy.1; omega) 26 0 FU Mn (by omega) (fuel (by omega)) (fun k hk => absurd hk (Nat.not_lt_zero _))
        refine ⟨nI (s.1.length + 1), svM (if xs.length + ys.length = 0 then some s.1.length else none), nI (b1 s.2.2), nI 1, Mn', upd Mp s.1.length (nI p), upd Mr s.1.length (nI r), child', ?_, ?_⟩
        rotate_left
        · rw [addS_new hs ha (by omega)]
          refine ⟨by rw [List.length_append]; rfl, rfl, rfl, fun i n hi => ?_⟩
          · by_cases q : i < s.1.length
            · rw [List.getElem?_append_left q] at hi
              obtain ⟨w1, w2, w3⟩ := hn i n hi
              refine ⟨w1.cong fun k hk => g2 _ (by omega), ?_, fun z => ?_⟩
              · exact (if_neg (by omega : ¬ i = s.1.length)).trans w2
              · exact (if_neg (by omega : ¬ i = s.1.length)).trans (w3 z)
            · rw [List.getElem?_append_right (by omega)] at hi
              have hiL : i = s.1.length := by
                by_cases q3 : i - s.1.length = 0
                · omega
                · obtain ⟨k, hk⟩ : ∃ k, i - s.1.length = k + 1 := ⟨i - s.1.length - 1, by omega⟩
                  rw [hk] at hi
                  cases hi
              rw [hiL, Nat.sub_self] at hi
              obtain rfl : (xs, ys, p, r, dpt s.1 p) = n := Option.some.inj hi
              have h0 := hI.1
              subst hiL
              refine ⟨hr.cong g1, ?_, fun _ => ?_⟩
              · rw [if_neg (by omega)]
                exact if_pos rfl
              · exact if_pos rfl
        · have e3 : (if xs.length + ys.length = 0 then nI s.1.length else svM s.2.1) = svM (if xs.length + ys.length = 0 then some s.1.length else none) := by
            split
            · rfl
            · rw [hs]
          rw [e3] at e2
          rw [← e2]
          have h200 : ¬ s.1.length = 200 := by omega
          simp -implicitDefEqProofs (disch := omega) only [fM_addChild, litI, litL, nI_add, pk_mul, bd0_e, bd1_e, bd2_e, bd3_e, bd4_e, st_e, nI_leI, nI_ltI, nI_eq, if_pos, if_neg, if_true, if_false, ld_nI, sti_nI, stl_nI, hl, e, h200]
