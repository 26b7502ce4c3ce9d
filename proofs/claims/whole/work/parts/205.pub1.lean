/-! public methods, first: reading and actions -/
set_option maxRecDepth 100000 in
theorem mIn (x a b : Int64) : fM_in x a b = some (if x < a ∨ b < x then 0 else 1) := by
  have h1 : lg_cmp x a < 0 ↔ x < a := by
    unfold lg_cmp
    by_cases q : x > a
    · rw [if_pos q]; exact ⟨fun z => absurd z (by decide), fun z => absurd (Int64.lt_trans z q) (Int64.lt_irrefl)⟩
    · rw [if_neg q]
      by_cases q2 : x = a
      · rw [if_pos q2]; exact ⟨fun z => absurd z (by decide), fun z => absurd (q2 ▸ z) (Int64.lt_irrefl)⟩
      · rw [if_neg q2]; exact ⟨fun _ => Int64.lt_of_le_of_ne (Int64.not_lt.mp q) q2, fun _ => by decide⟩
  have h2 : 0 < lg_cmp x b ↔ b < x := by
    unfold lg_cmp
    by_cases q : x > b
    · rw [if_pos q]; exact ⟨fun _ => q, fun _ => by decide⟩
    · rw [if_neg q]
      refine ⟨fun z => ?_, fun z => absurd z q⟩
      by_cases q2 : x = b
      · rw [if_pos q2] at z; exact absurd z (by decide)
      · rw [if_neg q2] at z; exact absurd z (by decide)
  rw [fM_in]
  by_cases c1 : x < a
  · rw [if_pos (h1.mpr c1), if_pos (Or.inl c1)]
  · rw [if_neg (fun z => c1 (h1.mp z))]
    by_cases c2 : b < x
    · rw [if_pos (h2.mpr c2), if_pos (Or.inr c2)]
    · rw [if_neg (fun z => c2 (h2.mp z)), if_neg (fun z => z.elim c1 c2)]
set_option maxRecDepth 100000 in
theorem mInLo {x : Int32} {n : Nat} (h : x < 0) : fM_in x.toInt64 (lN 0) (lN n) = some (nI 0) := by
  rw [mIn, if_pos (Or.inl ?_)]
  · rfl
  · exact (fa_wide_lt x 0).mpr h
set_option maxRecDepth 100000 in
theorem mInHi {x : Int32} {n : Nat} (hn : n < 2 ^ 31) (h : nI n < x) : fM_in x.toInt64 (lN 0) (lN n) = some (nI 0) := by
  rw [mIn, if_pos (Or.inr ?_)]
  · rfl
  · rw [← nI_l hn]; exact (fa_wide_lt _ x).mpr h
set_option maxRecDepth 100000 in
theorem mInIn {j n : Nat} (hn : n < 2 ^ 31) (h : j ≤ n) : fM_in (nI j).toInt64 (lN 0) (lN n) = some (nI 1) := by
  rw [mIn, nI_l (by omega), if_neg]
  · rfl
  · rw [pk_lLT (by omega) (by omega), pk_lLT (by omega) (by omega)]; omega
set_option maxRecDepth 100000 in
theorem hi_of {x : Int32} {n : Nat} (hn : n + 1 < 2 ^ 31) (h : nI (n + 1) ≤ x) : nI n < x := by
  rw [fa_lt, nI_toInt (by omega)]
  have := (fa_le _ _).mp h
  rw [nI_toInt hn] at this
  omega
set_option maxRecDepth 100000 in
theorem not_lo {x : Int32} {n : Nat} (hn : n < 2 ^ 31) (h : nI n ≤ x) : ¬ x < 0 := by
  rw [fa_lt]
  have := (fa_le _ _).mp h
  rw [nI_toInt hn] at this
  have e0 : (0 : Int32).toInt = 0 := by decide
  omega
set_option maxRecDepth 100000 in
theorem xIsVarNo {x : Int32} (h : x < 0 ∨ nI 4 ≤ x) : fX_isVariable x = some (nI 0) ∧ fM_isVariable x = some (nI 0) := by
  rcases h with h | h
  · refine ⟨?_, ?_⟩
    · rw [fX_isVariable, if_pos h]; rfl
    · simp -implicitDefEqProofs (disch := omega) only [fM_isVariable, litI, litL, nI_add, pk_mul, bd0_e, bd1_e, bd2_e, bd3_e, bd4_e, st_e, mInLo h] <;> rfl
  · refine ⟨?_, ?_⟩
    · rw [fX_isVariable, if_neg (not_lo (by decide) h), if_pos (show (4 : Int32) ≤ x from h)]; rfl
    · simp -implicitDefEqProofs (disch := omega) only [fM_isVariable, litI, litL, nI_add, pk_mul, bd0_e, bd1_e, bd2_e, bd3_e, bd4_e, st_e, mInHi (n := 3) (by decide) (hi_of (by decide) h)] <;> rfl
set_option maxRecDepth 100000 in
theorem xIsVarYes {v : Nat} (h : v < 4) : fX_isVariable (nI v) = some (nI 1) ∧ fM_isVariable (nI v) = some (nI 1) := by
  refine ⟨?_, ?_⟩
  · simp -implicitDefEqProofs (disch := omega) only [fX_isVariable, litI, litL, nI_add, pk_mul, bd0_e, bd1_e, bd2_e, bd3_e, bd4_e, st_e, nI_leI, nI_ltI, nI_eq, if_pos, if_neg, if_true, if_false, ld_nI, sti_nI, stl_nI]
  · simp -implicitDefEqProofs (disch := omega) only [fM_isVariable, litI, litL, nI_add, pk_mul, bd0_e, bd1_e, bd2_e, bd3_e, bd4_e, st_e, mInIn (n := 3) (by decide) (by omega : v ≤ 3)] <;> rfl
set_option maxRecDepth 100000 in
theorem xIsSideNo {x : Int32} (h : x < 0 ∨ nI 2 ≤ x) : fX_isSide x = some (nI 0) ∧ fM_in x.toInt64 (lN 0) (lN 1) = some (nI 0) := by
  refine ⟨?_, ?_⟩
  · rw [fX_isSide, if_neg, if_neg]
    · rfl
    · rcases h with h | h
      · intro z; subst z; exact absurd h (by decide)
      · intro z; subst z; exact absurd h (by decide)
    · rcases h with h | h
      · intro z; subst z; exact absurd h (by decide)
      · intro z; subst z; exact absurd h (by decide)
  · rcases h with h | h
    · exact mInLo h
    · exact mInHi (by decide) (hi_of (by decide) h)
set_option maxRecDepth 100000 in
theorem xIsSideYes {s : Nat} (h : s < 2) : fX_isSide (nI s) = some (nI 1) ∧ fM_in (nI s).toInt64 (lN 0) (lN 1) = some (nI 1) := by
  refine ⟨?_, mInIn (by decide) (by omega)⟩
  rcases (show s = 0 ∨ s = 1 by omega) with rfl | rfl <;> rfl
set_option maxRecDepth 100000 in
theorem sd_ok {xs ys : List Nat} (hx : okS 12 xs) (hy : okS 12 ys) (s : Nat) : okS 12 (sd s xs ys) := by unfold sd; split <;> assumption
set_option maxRecDepth 100000 in
theorem pSideLength {El Er : Int64} {now : Nat → Int32} {xs ys : List Nat} (h : RE El Er now xs ys) (x1 : Int32) : ∃ r, fX_sideLength El Er x1 = some r ∧ fM_sideLength now x1 = some r := by
  obtain ⟨hx, hy, rfl, rfl, hr⟩ := h
  have no : (x1 < 0 ∨ nI 2 ≤ x1) → ∃ r, fX_sideLength (lN (pq xs)) (lN (pq ys)) x1 = some r ∧ fM_sideLength now x1 = some r := fun c => by
    obtain ⟨a, b⟩ := xIsSideNo c
    exact ⟨-1, by simp -implicitDefEqProofs (disch := omega) only [fX_sideLength, litI, litL, nI_add, pk_mul, bd0_e, bd1_e, bd2_e, bd3_e, bd4_e, st_e, nI_leI, nI_ltI, nI_eq, if_pos, if_neg, if_true, if_false, ld_nI, sti_nI, stl_nI, a] <;> rfl, by simp -implicitDefEqProofs (disch := omega) only [fM_sideLength, litI, litL, nI_add, pk_mul, bd0_e, bd1_e, bd2_e, bd3_e, bd4_e, st_e, nI_leI, nI_ltI, nI_eq, if_pos, if_neg, if_true, if_false, ld_nI, sti_nI, stl_nI, b] <;> rfl⟩
  rcases pk_ix x1 (n := 2) (by decide) with c | c | ⟨s, hs, rfl⟩
  · exact no (Or.inl c)
  · exact no (Or.inr c)
  · obtain ⟨a, b⟩ := xIsSideYes hs
    refine ⟨nI (sd s xs ys).length, ?_, ?_⟩
    · simp -implicitDefEqProofs (disch := omega) only [fX_sideLength, litI, litL, nI_add, pk_mul, bd0_e, bd1_e, bd2_e, bd3_e, bd4_e, st_e, nI_leI, nI_ltI, nI_eq, if_pos, if_neg, if_true, if_false, ld_nI, sti_nI, stl_nI, a, eSide s hs, zSize (ok13 (sd_ok hx hy s))]
    · simp -implicitDefEqProofs (disch := omega) only [fM_sideLength, litI, litL, nI_add, pk_mul, bd0_e, bd1_e, bd2_e, bd3_e, bd4_e, st_e, nI_leI, nI_ltI, nI_eq, if_pos, if_neg, if_true, if_false, ld_nI, sti_nI, stl_nI, b, (hr s hs).1]
def chr (s : Nat) : Nat := if s < 2 then 97 + s else 85 + s
set_option maxRecDepth 100000 in
theorem zChar : ∀ s, s < 6 → fZ_character (nI (s + 1)) = some (nI (chr s)) := by decide +kernel
set_option maxRecDepth 100000 in
theorem mChar : ∀ s, s < 6 → fM_charOf (nI s) = some (nI (chr s)) := by decide +kernel
set_option maxRecDepth 100000 in
theorem pSymbolAt {El Er : Int64} {now : Nat → Int32} {xs ys : List Nat} (h : RE El Er now xs ys) (x1 x2 : Int32) : ∃ r, fX_symbolAt El Er x1 x2 = some r ∧ fM_symbolAt now x1 x2 = some r := by
  obtain ⟨hx, hy, rfl, rfl, hr⟩ := h
  have no : (x1 < 0 ∨ nI 2 ≤ x1) → ∃ r, fX_symbolAt (lN (pq xs)) (lN (pq ys)) x1 x2 = some r ∧ fM_symbolAt now x1 x2 = some r := fun c => by
    obtain ⟨a, b⟩ := xIsSideNo c
    exact ⟨-1, by simp -implicitDefEqProofs (disch := omega) only [fX_symbolAt, litI, litL, nI_add, pk_mul, bd0_e, bd1_e, bd2_e, bd3_e, bd4_e, st_e, nI_leI, nI_ltI, nI_eq, if_pos, if_neg, if_true, if_false, ld_nI, sti_nI, stl_nI, a] <;> rfl, by simp -implicitDefEqProofs (disch := omega) only [fM_symbolAt, litI, litL, nI_add, pk_mul, bd0_e, bd1_e, bd2_e, bd3_e, bd4_e, st_e, nI_leI, nI_ltI, nI_eq, if_pos, if_neg, if_true, if_false, ld_nI, sti_nI, stl_nI, b] <;> rfl⟩
  rcases pk_ix x1 (n := 2) (by decide) with c | c | ⟨s, hs, rfl⟩
  · exact no (Or.inl c)
  · exact no (Or.inr c)
  · obtain ⟨a, b⟩ := xIsSideYes hs
    have hk := sd_ok hx hy s
    obtain ⟨r1, r2⟩ := hr s hs
    have ez := zSize (ok13 hk)
    generalize hz : sd s xs ys = zs at hk r1 r2 ez
    have es := eSide (xs := xs) (ys := ys) s hs
    rw [hz] at es
    have hl := hk.1
    rcases pk_ix x2 (n := zs.length) (by omega) with c | c | ⟨i, hi, rfl⟩
    · refine ⟨-1, ?_, ?_⟩
      · have c' : x2 < nI 0 := c
        simp -implicitDefEqProofs (disch := omega) only [fX_symbolAt, litI, litL, nI_add, pk_mul, bd0_e, bd1_e, bd2_e, bd3_e, bd4_e, st_e, nI_leI, nI_ltI, nI_eq, if_pos, if_neg, if_true, if_false, ld_nI, sti_nI, stl_nI, a, c', if_true] <;> rfl
      · have b2 : fM_in x2.toInt64 (lN 0) (nI zs.length - nI 1).toInt64 = some (nI 0) := by
          rw [mIn, if_pos (Or.inl (show x2.toInt64 < lN 0 from (fa_wide_lt x2 0).mpr c))]; rfl
        simp -implicitDefEqProofs (disch := omega) only [fM_symbolAt, litI, litL, nI_add, pk_mul, bd0_e, bd1_e, bd2_e, bd3_e, bd4_e, st_e, nI_leI, nI_ltI, nI_eq, if_pos, if_neg, if_true, if_false, ld_nI, sti_nI, stl_nI, b, r1, b2] <;> rfl
    · have n0 : ¬ x2 < nI 0 := not_lo (by omega) c
      have n1 : ¬ x2 < nI zs.length := Int32.not_lt.mpr c
      refine ⟨-1, ?_, ?_⟩
      · simp -implicitDefEqProofs (disch := omega) only [fX_symbolAt, litI, litL, nI_add, pk_mul, bd0_e, bd1_e, bd2_e, bd3_e, bd4_e, st_e, nI_leI, nI_ltI, nI_eq, if_pos, if_neg, if_true, if_false, ld_nI, sti_nI, stl_nI, a, es, ez, n0, n1] <;> rfl
      · have b2 : fM_in x2.toInt64 (lN 0) (nI zs.length - nI 1).toInt64 = some (nI 0) := by
          rw [mIn, if_pos (Or.inr ((fa_wide_lt _ x2).mpr ?_))]
          · rfl
          · rw [fa_lt, pk_sub_toInt (by omega) (by decide)]
            have := (fa_le _ _).mp c
            rw [nI_toInt (by omega)] at this
            omega
        simp -implicitDefEqProofs (disch := omega) only [fM_symbolAt, litI, litL, nI_add, pk_mul, bd0_e, bd1_e, bd2_e, bd3_e, bd4_e, st_e, nI_leI, nI_ltI, nI_eq, if_pos, if_neg, if_true, if_false, ld_nI, sti_nI, stl_nI, b, r1, b2] <;> rfl
    · have hm := hk.2 _ (List.getElem_mem hi)
      have e0 := r2 i (by omega)
      rw [getD_in hi] at e0
      refine ⟨nI (chr zs[i]), ?_, ?_⟩
      · simp -implicitDefEqProofs (disch := omega) only [fX_symbolAt, litI, litL, nI_add, pk_mul, bd0_e, bd1_e, bd2_e, bd3_e, bd4_e, st_e, nI_leI, nI_ltI, nI_eq, if_pos, if_neg, if_true, if_false, ld_nI, sti_nI, stl_nI, a, es, ez, zSymbol (ok13 hk), sy_in hi, zChar _ hm]
      · have b2 : fM_in (nI i).toInt64 (lN 0) (nI zs.length - nI 1).toInt64 = some (nI 1) := by
          rw [pk_sub (by omega), nI_l (n := zs.length - 1) (by omega)]
          exact mInIn (by omega) (by omega)
        simp -implicitDefEqProofs (disch := omega) only [fM_symbolAt, litI, litL, nI_add, pk_mul, bd0_e, bd1_e, bd2_e, bd3_e, bd4_e, st_e, nI_leI, nI_ltI, nI_eq, if_pos, if_neg, if_true, if_false, ld_nI, sti_nI, stl_nI, b, r1, b2, mAt, e0, mChar _ hm]
set_option maxRecDepth 100000 in
theorem zVar (v : Nat) : fZ_variable (nI v) = some (nI (v + 2 + 1)) := by
  simp -implicitDefEqProofs (disch := omega) only [fZ_variable, litI, litL, nI_add, pk_mul, bd0_e, bd1_e, bd2_e, bd3_e, bd4_e, st_e]
  rw [show 3 + v = v + 2 + 1 by omega]
set_option maxRecDepth 100000 in
theorem pOccurrences {El Er : Int64} {now : Nat → Int32} {xs ys : List Nat} (h : RE El Er now xs ys) (x1 x2 : Int32) : ∃ r, fX_occurrences El Er x1 x2 = some r ∧ fM_occurrences now x1 x2 = some r := by
  obtain ⟨hx, hy, rfl, rfl, hr⟩ := h
  have no : (x1 < 0 ∨ nI 2 ≤ x1) → ∃ r, fX_occurrences (lN (pq xs)) (lN (pq ys)) x1 x2 = some r ∧ fM_occurrences now x1 x2 = some r := fun c => by
    obtain ⟨a, b⟩ := xIsSideNo c
    exact ⟨-1, by simp -implicitDefEqProofs (disch := omega) only [fX_occurrences, litI, litL, nI_add, pk_mul, bd0_e, bd1_e, bd2_e, bd3_e, bd4_e, st_e, nI_leI, nI_ltI, nI_eq, if_pos, if_neg, if_true, if_false, ld_nI, sti_nI, stl_nI, a] <;> rfl, by simp -implicitDefEqProofs (disch := omega) only [fM_occurrences, litI, litL, nI_add, pk_mul, bd0_e, bd1_e, bd2_e, bd3_e, bd4_e, st_e, nI_leI, nI_ltI, nI_eq, if_pos, if_neg, if_true, if_false, ld_nI, sti_nI, stl_nI, b] <;> rfl⟩
  rcases pk_ix x1 (n := 2) (by decide) with c | c | ⟨s, hs, rfl⟩
  · exact no (Or.inl c)
  · exact no (Or.inr c)
  · obtain ⟨a, b⟩ := xIsSideYes hs
    have no2 : (x2 < 0 ∨ nI 4 ≤ x2) → ∃ r, fX_occurrences (lN (pq xs)) (lN (pq ys)) (nI s) x2 = some r ∧ fM_occurrences now (nI s) x2 = some r := fun c => by
      obtain ⟨a2, b2⟩ := xIsVarNo c
      exact ⟨-1, by simp -implicitDefEqProofs (disch := omega) only [fX_occurrences, litI, litL, nI_add, pk_mul, bd0_e, bd1_e, bd2_e, bd3_e, bd4_e, st_e, nI_leI, nI_ltI, nI_eq, if_pos, if_neg, if_true, if_false, ld_nI, sti_nI, stl_nI, a, a2] <;> rfl, by simp -implicitDefEqProofs (disch := omega) only [fM_occurrences, litI, litL, nI_add, pk_mul, bd0_e, bd1_e, bd2_e, bd3_e, bd4_e, st_e, nI_leI, nI_ltI, nI_eq, if_pos, if_neg, if_true, if_false, ld_nI, sti_nI, stl_nI, b, b2] <;> rfl⟩
    rcases pk_ix x2 (n := 4) (by decide) with c | c | ⟨v, hv, rfl⟩
    · exact no2 (Or.inl c)
    · exact no2 (Or.inr c)
    · obtain ⟨a2, b2⟩ := xIsVarYes hv
      have hk := sd_ok hx hy s
      refine ⟨nI ((sd s xs ys).count (v + 2)), ?_, ?_⟩
      · simp -implicitDefEqProofs (disch := omega) only [fX_occurrences, litI, litL, nI_add, pk_mul, bd0_e, bd1_e, bd2_e, bd3_e, bd4_e, st_e, nI_leI, nI_ltI, nI_eq, if_pos, if_neg, if_true, if_false, ld_nI, sti_nI, stl_nI, a, a2, eSide s hs, zVar, zCountOf (ok13 hk) (show v + 2 < 6 by omega)]
      · simp -implicitDefEqProofs (disch := omega) only [fM_occurrences, litI, litL, nI_add, pk_mul, bd0_e, bd1_e, bd2_e, bd3_e, bd4_e, st_e, nI_leI, nI_ltI, nI_eq, if_pos, if_neg, if_true, if_false, ld_nI, sti_nI, stl_nI, b, b2, mCountOf hr hs hk (show v + 2 < 6 by omega)]
set_option maxRecDepth 100000 in
/-- what an action leaves -/
theorem pSwapSides {El Er : Int64} {now : Nat → Int32} {xs ys : List Nat} (h : RE El Er now xs ys) {Hn : Int32} {Hl Hr : Nat → Int64} {acts next : Int32} {diary : Nat → Int32} (hH : RH Hn Hl Hr acts next diary) :
    ∃ r El' Er' Hn' Hl' Hr' acts' next' now' diary', fX_swapSides El Er Hn Hl Hr = some (r, El', Er', Hn', Hl', Hr') ∧ fM_swapSides acts next now diary = some (r, acts', next', now', diary') ∧ (∃ xs ys, RE El' Er' now' xs ys) ∧ RH Hn' Hl' Hr' acts' next' diary' := by
  obtain ⟨Hn', Hl', Hr', acts', next', diary', e1, e2, hH'⟩ := note2 hH h
  obtain ⟨hx, hy, rfl, rfl, hr⟩ := h
  obtain ⟨g, e3, hg⟩ := mSwapIn hr
  refine ⟨nI ys.length, _, _, _, _, _, _, _, g, _, ?_, ?_, ⟨ys, xs, hy, hx, rfl, rfl, hg⟩, hH'⟩
  · simp -implicitDefEqProofs (disch := omega) only [fX_swapSides, litI, litL, nI_add, pk_mul, bd0_e, bd1_e, bd2_e, bd3_e, bd4_e, st_e, e1, eSwap, zSize (ok13 hy)]
  · simp -implicitDefEqProofs (disch := omega) only [fM_swapSides, litI, litL, nI_add, pk_mul, bd0_e, bd1_e, bd2_e, bd3_e, bd4_e, st_e, nI_leI, nI_ltI, nI_eq, if_pos, if_neg, if_true, if_false, ld_nI, sti_nI, stl_nI, e2, e3, hg.l0]
set_option maxRecDepth 100000 in
theorem pReverse {El Er : Int64} {now : Nat → Int32} {xs ys : List Nat} (h : RE El Er now xs ys) {Hn : Int32} {Hl Hr : Nat → Int64} {acts next : Int32} {diary : Nat → Int32} (hH : RH Hn Hl Hr acts next diary) :
    ∃ r El' Er' Hn' Hl' Hr' acts' next' now' diary', fX_reverse El Er Hn Hl Hr = some (r, El', Er', Hn', Hl', Hr') ∧ fM_reverse acts next now diary = some (r, acts', next', now', diary') ∧ (∃ xs ys, RE El' Er' now' xs ys) ∧ RH Hn' Hl' Hr' acts' next' diary' := by
  obtain ⟨Hn', Hl', Hr', acts', next', diary', e1, e2, hH'⟩ := note2 hH h
  obtain ⟨hx, hy, rfl, rfl, hr⟩ := h
  obtain ⟨g, e3, hg⟩ := mReverseIn hr hx hy
  refine ⟨nI (xs.reverse.length + ys.reverse.length), _, _, _, _, _, _, _, g, _, ?_, ?_, ⟨xs.reverse, ys.reverse, hx.rev, hy.rev, rfl, rfl, hg⟩, hH'⟩
  · simp -implicitDefEqProofs (disch := omega) only [fX_reverse, litI, litL, nI_add, pk_mul, bd0_e, bd1_e, bd2_e, bd3_e, bd4_e, st_e, e1, eTurn (ok13 hx) (ok13 hy), eSize hx.rev hy.rev]
  · simp -implicitDefEqProofs (disch := omega) only [fM_reverse, litI, litL, nI_add, pk_mul, bd0_e, bd1_e, bd2_e, bd3_e, bd4_e, st_e, nI_leI, nI_ltI, nI_eq, if_pos, if_neg, if_true, if_false, ld_nI, sti_nI, stl_nI, e2, e3, hg.l0, hg.l1]
set_option maxRecDepth 100000 in
theorem pCancel {El Er : Int64} {now : Nat → Int32} {xs ys : List Nat} (h : RE El Er now xs ys) {Hn : Int32} {Hl Hr : Nat → Int64} {acts next : Int32} {diary : Nat → Int32} (hH : RH Hn Hl Hr acts next diary) :
    ∃ r El' Er' Hn' Hl' Hr' acts' next' now' diary', fX_cancel El Er Hn Hl Hr = some (r, El', Er', Hn', Hl', Hr') ∧ fM_cancel acts next now diary = some (r, acts', next', now', diary') ∧ (∃ xs ys, RE El' Er' now' xs ys) ∧ RH Hn' Hl' Hr' acts' next' diary' := by
  obtain ⟨Hn', Hl', Hr', acts', next', diary', e1, e2, hH'⟩ := note2 hH h
  obtain ⟨hx, hy, rfl, rfl, hr⟩ := h
  obtain ⟨g, e3, hg⟩ := mCancelIn hr hx hy
  obtain ⟨k1, k2, k3⟩ := cancel2_ok hx hy
  refine ⟨nI (cancel2 xs ys).1, _, _, _, _, _, _, _, g, _, ?_, ?_, ⟨_, _, k1, k2, rfl, rfl, hg⟩, hH'⟩
  · simp -implicitDefEqProofs (disch := omega) only [fX_cancel, litI, litL, nI_add, pk_mul, bd0_e, bd1_e, bd2_e, bd3_e, bd4_e, st_e, e1, eCancelEnds hx hy]
  · simp -implicitDefEqProofs (disch := omega) only [fM_cancel, litI, litL, nI_add, pk_mul, bd0_e, bd1_e, bd2_e, bd3_e, bd4_e, st_e, nI_leI, nI_ltI, nI_eq, if_pos, if_neg, if_true, if_false, ld_nI, sti_nI, stl_nI, e2, e3]
set_option maxRecDepth 100000 in
theorem count_swp0 (xs : List Nat) : (xs.map swp).count 0 = xs.count 1 ∧ (xs.map swp).count 1 = xs.count 0 := by
  induction xs with
  | nil => exact ⟨rfl, rfl⟩
  | cons x xs ih =>
    rw [List.map_cons, List.count_cons, List.count_cons, List.count_cons, List.count_cons, ih.1, ih.2]
    by_cases q0 : x = 0
    · subst q0; exact ⟨rfl, rfl⟩
    · by_cases q1 : x = 1
      · subst q1; exact ⟨rfl, rfl⟩
      · have e : swp x = x := by unfold swp; rw [if_neg q0, if_neg q1]
        rw [e]
        simp [q0, q1]
set_option maxRecDepth 100000 in
theorem pExchange {El Er : Int64} {now : Nat → Int32} {xs ys : List Nat} (h : RE El Er now xs ys) {Hn : Int32} {Hl Hr : Nat → Int64} {acts next : Int32} {diary : Nat → Int32} (hH : RH Hn Hl Hr acts next diary) :
    ∃ r El' Er' Hn' Hl' Hr' acts' next' now' diary', fX_exchangeLetters El Er Hn Hl Hr = some (r, El', Er', Hn', Hl', Hr') ∧ fM_exchangeLetters acts next now diary = some (r, acts', next', now', diary') ∧ (∃ xs ys, RE El' Er' now' xs ys) ∧ RH Hn' Hl' Hr' acts' next' diary' := by
  obtain ⟨Hn', Hl', Hr', acts', next', diary', e1, e2, hH'⟩ := note2 hH h
  obtain ⟨hx, hy, rfl, rfl, hr⟩ := h
  obtain ⟨g, f1, a1, b1, c1⟩ := mExchSide (s := 0) (by decide) hx hr.l0 (hr 0 (by decide)).2 acts' next' diary' (fx3 (fM_exchangeLetters_8 acts' next' diary') 999999) 0
  obtain ⟨g2, f2, a2, b2, c2⟩ := mExchSide (f := g) (s := 1) (by decide) hy (by rw [c1 1 (by omega) (by omega)]; exact hr.l1) (fun i hi => by rw [c1 _ (by omega) (by omega)]; exact (hr 1 (by decide)).2 i hi) acts' next' diary' (fx3 (fM_exchangeLetters_8 acts' next' diary') 999998) (0 + letters xs)
  have hg : rowIs g2 (xs.map swp) (ys.map swp) := rowIs_of (by rw [c2 0 (by omega) (by omega), a1, List.length_map]) (by rw [a2, List.length_map]) (fun i hi => by rw [c2 _ (by omega) (by omega)]; exact b1 i hi) b2
  have F1 : ∀ (g : Nat → Int32) (n s c : Nat), s < 2 → fx3 (fM_exchangeLetters_8 acts' next' diary') (n + 1) g (nI c) (nI s) = fx3 (fM_exchangeLetters_15 (fx3 (fM_exchangeLetters_8 acts' next' diary') n) acts' next' diary' (nI s)) FU g (nI c) (nI 0) := fun g n s c hs => by simp -implicitDefEqProofs (disch := omega) only [fx3_s, fM_exchangeLetters_8, litI, litL, nI_add, pk_mul, bd0_e, bd1_e, bd2_e, bd3_e, bd4_e, st_e, nI_leI, nI_ltI, nI_eq, if_pos, if_neg, if_true, if_false, ld_nI, sti_nI, stl_nI]
  have cx := count_swp0 xs
  have cy := count_swp0 ys
  refine ⟨nI (0 + letters xs + letters ys), _, _, _, _, _, _, _, g2, _, ?_, ?_, ⟨_, _, hx.mapswp, hy.mapswp, rfl, rfl, hg⟩, hH'⟩
  · simp -implicitDefEqProofs (disch := omega) only [fX_exchangeLetters, litI, litL, nI_add, pk_mul, bd0_e, bd1_e, bd2_e, bd3_e, bd4_e, st_e, e1, eExchange hx hy]
    rw [show (1 : Nat) = 0 + 1 from rfl, eTotal hx.mapswp hy.mapswp (by decide : 0 < 6)]
    simp -implicitDefEqProofs (disch := omega) only [litI, litL, nI_add, pk_mul, bd0_e, bd1_e, bd2_e, bd3_e, bd4_e, st_e]
    rw [show (2 : Nat) = 1 + 1 from rfl, eTotal hx.mapswp hy.mapswp (by decide : 1 < 6)]
    simp -implicitDefEqProofs (disch := omega) only [litI, litL, nI_add, pk_mul, bd0_e, bd1_e, bd2_e, bd3_e, bd4_e, st_e, cx.1, cx.2, cy.1, cy.2]
    rw [show xs.count 1 + ys.count 1 + (xs.count 0 + ys.count 0) = 0 + letters xs + letters ys by unfold letters; omega]
  · simp -implicitDefEqProofs (disch := omega) only [fM_exchangeLetters, litI, litL, nI_add, pk_mul, bd0_e, bd1_e, bd2_e, bd3_e, bd4_e, st_e, e2]
    rw [show FU = 999999 + 1 from rfl, F1 _ 999999 0 0 (by decide), f1, show (999999 : Nat) = 999998 + 1 from rfl, F1 _ 999998 1 _ (by decide), f2, show (999998 : Nat) = 999997 + 1 from rfl]
    simp -implicitDefEqProofs (disch := omega) only [fx3_s, fM_exchangeLetters_8, litI, litL, nI_add, pk_mul, bd0_e, bd1_e, bd2_e, bd3_e, bd4_e, st_e, nI_leI, nI_ltI, nI_eq, if_pos, if_neg, if_true, if_false, ld_nI, sti_nI, stl_nI]
set_option maxRecDepth 100000 in
theorem pEliminate {El Er : Int64} {now : Nat → Int32} {xs ys : List Nat} (h : RE El Er now xs ys) {Hn : Int32} {Hl Hr : Nat → Int64} {acts next : Int32} {diary : Nat → Int32} (hH : RH Hn Hl Hr acts next diary) (x1 : Int32) :
    ∃ r El' Er' Hn' Hl' Hr' acts' next' now' diary', fX_eliminate El Er Hn Hl Hr x1 = some (r, El', Er', Hn', Hl', Hr') ∧ fM_eliminate acts next now diary x1 = some (r, acts', next', now', diary') ∧ (∃ xs ys, RE El' Er' now' xs ys) ∧ RH Hn' Hl' Hr' acts' next' diary' := by
  have no : (x1 < 0 ∨ nI 4 ≤ x1) → ∃ r El' Er' Hn' Hl' Hr' acts' next' now' diary', fX_eliminate El Er Hn Hl Hr x1 = some (r, El', Er', Hn', Hl', Hr') ∧ fM_eliminate acts next now diary x1 = some (r, acts', next', now', diary') ∧ (∃ xs ys, RE El' Er' now' xs ys) ∧ RH Hn' Hl' Hr' acts' next' diary' := fun c => by
    obtain ⟨a, b⟩ := xIsVarNo c
    refine ⟨-1, El, Er, Hn, Hl, Hr, acts, next, now, diary, ?_, ?_, ⟨xs, ys, h⟩, hH⟩
    · simp -implicitDefEqProofs (disch := omega) only [fX_eliminate, litI, litL, nI_add, pk_mul, bd0_e, bd1_e, bd2_e, bd3_e, bd4_e, st_e, nI_leI, nI_ltI, nI_eq, if_pos, if_neg, if_true, if_false, ld_nI, sti_nI, stl_nI, a] <;> rfl
    · simp -implicitDefEqProofs (disch := omega) only [fM_eliminate, litI, litL, nI_add, pk_mul, bd0_e, bd1_e, bd2_e, bd3_e, bd4_e, st_e, nI_leI, nI_ltI, nI_eq, if_pos, if_neg, if_true, if_false, ld_nI, sti_nI, stl_nI, b] <;> rfl
  rcases pk_ix x1 (n := 4) (by decide) with c | c | ⟨v, hv, rfl⟩
  · exact no (Or.inl c)
  · exact no (Or.inr c)
  · obtain ⟨a, b⟩ := xIsVarYes hv
    obtain ⟨Hn', Hl', Hr', acts', next', diary', e1, e2, hH'⟩ := note2 hH h
    obtain ⟨hx, hy, rfl, rfl, hr⟩ := h
    obtain ⟨g, e3, hg⟩ := mEliminateIn hr hx hy hv
    have cx := rpl_nil_len (v := v + 2) (xs := xs)
    have cy := rpl_nil_len (v := v + 2) (xs := ys)
    have h1 := hx.1
    have h2 := hy.1
    have e4 := eReplace hx hy (rs := []) ⟨by decide, fun x hx => absurd hx List.not_mem_nil⟩ (v := v + 2) (by omega) (by omega) (by omega)
    rw [show pq [] = 0 from rfl] at e4
    refine ⟨nI (xs.count (v + 2) + ys.count (v + 2)), lN (pq (rpl (v + 2) [] xs)), lN (pq (rpl (v + 2) [] ys)), Hn', Hl', Hr', acts', next', g, diary', ?_, ?_, ⟨rpl (v + 2) [] xs, rpl (v + 2) [] ys, ⟨by omega, rpl_mem (fun x hx => absurd hx List.not_mem_nil) hx.2⟩, ⟨by omega, rpl_mem (fun x hx => absurd hx List.not_mem_nil) hy.2⟩, rfl, rfl, hg⟩, hH'⟩
    · simp -implicitDefEqProofs (disch := omega) only [fX_eliminate, litI, litL, nI_add, pk_mul, bd0_e, bd1_e, bd2_e, bd3_e, bd4_e, st_e, nI_leI, nI_ltI, nI_eq, if_pos, if_neg, if_true, if_false, ld_nI, sti_nI, stl_nI, a, e1, zVar, e4]
    · simp -implicitDefEqProofs (disch := omega) only [fM_eliminate, litI, litL, nI_add, pk_mul, bd0_e, bd1_e, bd2_e, bd3_e, bd4_e, st_e, nI_leI, nI_ltI, nI_eq, if_pos, if_neg, if_true, if_false, ld_nI, sti_nI, stl_nI, b, e2, e3]
