/-! countSolutions, firstSolution, leastTotalLength -/
set_option maxRecDepth 100000 in
theorem FC_4 (cs : List (Nat × Nat × Nat)) (xs ys : List Nat) (B : Nat → Nat) (s : ST) : fd (fun t => stepS cs xs ys (atT B t)) (rad B 4) s = FC cs xs ys B 4 0 (fun _ => 0) s :=
  fd_dgt B (fun i j k l => stepS cs xs ys (nm4 i j k l)) s
set_option maxRecDepth 100000 in
theorem bothLook {El Er : Int64} {now : Nat → Int32} {xs ys : List Nat} (h : RE El Er now xs ys) {Cn : Int32} {Cv Cr Ck : Nat → Int32} {many : Int32} {con : Nat → Int32} {cs : List (Nat × Nat × Nat)} (hC : RC Cn Cv Cr Ck many con cs) {Al : Nat → Int64} {Ak : Nat → Int32} (hA : RAI Al Ak) (B1 Qw Qp word size number M1 : Nat → Int32) {x : Nat} (hxx : x < 4) :
    ∃ s Bf' Bl' B1' Qs' Qw' Qp' Al' Ak' Mf' Ms' word' size' number' M1', fB_enumerate B1 Qw Qp Cn Cv Cr Ck Al Ak El Er (nI x) = some (Bf', El, Er, Bf', Bl', B1', Qs', Qw', Qp', Al', Ak') ∧ RAI Al' Ak' ∧ RBs s Bf' Bl' B1' ∧ fM_lookThrough many con word size number M1 now (nI x) = some (Mf', Ms', word', size', number', M1') ∧ RMs s Mf' Ms' M1' := by
  obtain ⟨hx, hy, rfl, rfl, hr⟩ := h
  obtain ⟨Qs', Qw', Qp', q1, hQ⟩ := qPrepare hC hx hy (x := x) (by omega) Qw Qp
  obtain ⟨p1, p2⟩ := two_b x hxx
  have hlb : ∀ v, v < 4 → bOf xs ys (x + 1) v - 1 < 4 ∧ bOf xs ys (2 ^ (x + 1) - 1) v = 2 ^ (bOf xs ys (x + 1) v - 1 + 1) - 1 := fun v _ => by
    unfold bOf
    by_cases q : usd xs ys v = true
    · rw [if_pos q, if_pos q, Nat.add_sub_cancel]
      exact ⟨hxx, rfl⟩
    · rw [if_neg q, if_neg q]
      exact ⟨by decide, rfl⟩
  have hN : ∀ v, bOf xs ys (2 ^ (x + 1) - 1) v ≤ 15 := fun v => by unfold bOf; split <;> omega
  obtain ⟨Bf', Bl', B1', Al', Ak', e, hB, hP⟩ := cwAll hx hy hQ hlb hN 0 (fun _ => 0) (0, 0, fun _ => 0) Qs' (nI 0) (nI 0) B1 Al Ak rfl ⟨hA, fun u hu => absurd hu (Nat.not_lt_zero _)⟩ (fun u hu => absurd hu (Nat.not_lt_zero _)) rfl ⟨(by decide : (0 : Nat) < 2 ^ 30), rfl, fun z => absurd rfl z⟩ (by decide)
  obtain ⟨Mf', Ms', word', size', number', M1', f1, hM⟩ := mLookThrough hC hr hx hy hxx word size number M1
  rw [FC_4] at hM
  have e' : fB_chooseWord (lN (pq xs)) (lN (pq ys)) (nI 0) (nI 0) B1 Qw' Qp' Al Ak (nI 0) Qs' = some (Bf', Bl', B1', Al', Ak') := e
  refine ⟨_, Bf', Bl', B1', Qs', Qw', Qp', Al', Ak', Mf', Ms', word', size', number', M1', ?_, hP.1, hB, f1, hM⟩
  simp -implicitDefEqProofs (disch := omega) only [fB_enumerate, fQ_letterSurplus, litI, litL, nI_add, pk_mul, bd0_e, bd1_e, bd2_e, bd3_e, bd4_e, st_e, bd5_e, bd6_e, bd7_e, bd8_e, bd9_e, bd10_e, bd11_e, q1, e']
section CT
variable {El Er : Int64} {now : Nat → Int32} {xs ys : List Nat} {Cn : Int32} {Cv Cr Ck : Nat → Int32} {many : Int32} {con : Nat → Int32} {cs : List (Nat × Nat × Nat)} {Al : Nat → Int64} {Ak : Nat → Int32}
set_option maxRecDepth 100000 in
theorem pCountSolutions (h : RE El Er now xs ys) (hC : RC Cn Cv Cr Ck many con cs) (hA : RAI Al Ak) (Bl Br : Int64) (Bf Bs Qs Mf Ms : Int32) (B1 Qw Qp word size number M1 : Nat → Int32) (x1 : Int32) :
    ∃ r Bl' Br' Bf' Bs' B1' Qs' Qw' Qp' Al' Ak' Mf' Ms' word' size' number' M1', fX_countSolutions El Er Bl Br Bf Bs B1 Qs Qw Qp Cn Cv Cr Ck Al Ak x1 = some (r, Bl', Br', Bf', Bs', B1', Qs', Qw', Qp', Al', Ak') ∧ fM_countSolutions many Mf Ms now con word size number M1 x1 = some (r, Mf', Ms', word', size', number', M1') ∧ RAI Al' Ak' := by
  rcases pk_ix x1 (n := 4) (by decide) with c | c | ⟨x, hxx, rfl⟩
  · have b := mInLo (n := 3) c
    exact ⟨-2, Bl, Br, Bf, Bs, B1, Qs, Qw, Qp, Al, Ak, Mf, Ms, word, size, number, M1, by rw [fX_countSolutions, if_pos c], by simp -implicitDefEqProofs (disch := omega) only [fM_countSolutions, litI, litL, nI_add, pk_mul, bd0_e, bd1_e, bd2_e, bd3_e, bd4_e, st_e, nI_leI, nI_ltI, nI_eq, if_pos, if_neg, if_true, if_false, ld_nI, sti_nI, stl_nI, b] <;> rfl, hA⟩
  · have l : nI 3 < x1 := hi_of (by decide) c
    have b := mInHi (n := 3) (by decide) l
    exact ⟨-2, Bl, Br, Bf, Bs, B1, Qs, Qw, Qp, Al, Ak, Mf, Ms, word, size, number, M1, by rw [fX_countSolutions, if_neg (not_lo (by decide) c), if_neg (fun (z : x1 ≤ 3) => absurd l (Int32.not_lt.mpr z))], by simp -implicitDefEqProofs (disch := omega) only [fM_countSolutions, litI, litL, nI_add, pk_mul, bd0_e, bd1_e, bd2_e, bd3_e, bd4_e, st_e, nI_leI, nI_ltI, nI_eq, if_pos, if_neg, if_true, if_false, ld_nI, sti_nI, stl_nI, b] <;> rfl, hA⟩
  · have b := mInIn (j := x) (n := 3) (by decide) (by omega)
    obtain ⟨s, Bf', Bl', B1', Qs', Qw', Qp', Al', Ak', Mf', Ms', word', size', number', M1', e1, hA', ⟨-, g1, -⟩, e2, ⟨-, g2, -, -⟩⟩ := bothLook h hC hA B1 Qw Qp word size number M1 hxx
    refine ⟨nI s.1, El, Er, Bf', Bl', B1', Qs', Qw', Qp', Al', Ak', Mf', Ms', word', size', number', M1', ?_, ?_, hA'⟩
    · rw [← g1]
      simp -implicitDefEqProofs (disch := omega) only [fX_countSolutions, litI, litL, nI_add, pk_mul, bd0_e, bd1_e, bd2_e, bd3_e, bd4_e, st_e, nI_leI, nI_ltI, nI_eq, if_pos, if_neg, if_true, if_false, ld_nI, sti_nI, stl_nI, bd5_e, bd6_e, bd7_e, bd8_e, bd9_e, bd10_e, bd11_e, e1]
    · rw [← g2]
      simp -implicitDefEqProofs (disch := omega) only [fM_countSolutions, litI, litL, nI_add, pk_mul, bd0_e, bd1_e, bd2_e, bd3_e, bd4_e, st_e, nI_leI, nI_ltI, nI_eq, if_pos, if_neg, if_true, if_false, ld_nI, sti_nI, stl_nI, bd5_e, bd6_e, bd7_e, bd8_e, bd9_e, bd10_e, bd11_e, b, e2]
set_option maxRecDepth 100000 in
theorem pFirstSolution (h : RE El Er now xs ys) (hC : RC Cn Cv Cr Ck many con cs) (hA : RAI Al Ak) (Bl Br : Int64) (Bf Bs Qs Mf Ms : Int32) (B1 Qw Qp word size number M1 : Nat → Int32) (x1 x2 : Int32) :
    ∃ r Bl' Br' Bf' Bs' B1' Qs' Qw' Qp' Al' Ak' Mf' Ms' word' size' number' M1', fX_firstSolution El Er Bl Br Bf Bs B1 Qs Qw Qp Cn Cv Cr Ck Al Ak x1 x2 = some (r, Bl', Br', Bf', Bs', B1', Qs', Qw', Qp', Al', Ak') ∧ fM_firstSolution many Mf Ms now con word size number M1 x1 x2 = some (r, Mf', Ms', word', size', number', M1') ∧ RAI Al' Ak' := by
  rcases pk_ix x2 (n := 4) (by decide) with d | d | ⟨v, hv, rfl⟩
  · obtain ⟨v1, v2⟩ := xIsVarNo (Or.inl d)
    exact ⟨-1, Bl, Br, Bf, Bs, B1, Qs, Qw, Qp, Al, Ak, Mf, Ms, word, size, number, M1, by simp -implicitDefEqProofs (disch := omega) only [fX_firstSolution, litI, litL, nI_add, pk_mul, bd0_e, bd1_e, bd2_e, bd3_e, bd4_e, st_e, nI_leI, nI_ltI, nI_eq, if_pos, if_neg, if_true, if_false, ld_nI, sti_nI, stl_nI, v1] <;> rfl, by simp -implicitDefEqProofs (disch := omega) only [fM_firstSolution, litI, litL, nI_add, pk_mul, bd0_e, bd1_e, bd2_e, bd3_e, bd4_e, st_e, nI_leI, nI_ltI, nI_eq, if_pos, if_neg, if_true, if_false, ld_nI, sti_nI, stl_nI, v2] <;> rfl, hA⟩
  · obtain ⟨v1, v2⟩ := xIsVarNo (Or.inr d)
    exact ⟨-1, Bl, Br, Bf, Bs, B1, Qs, Qw, Qp, Al, Ak, Mf, Ms, word, size, number, M1, by simp -implicitDefEqProofs (disch := omega) only [fX_firstSolution, litI, litL, nI_add, pk_mul, bd0_e, bd1_e, bd2_e, bd3_e, bd4_e, st_e, nI_leI, nI_ltI, nI_eq, if_pos, if_neg, if_true, if_false, ld_nI, sti_nI, stl_nI, v1] <;> rfl, by simp -implicitDefEqProofs (disch := omega) only [fM_firstSolution, litI, litL, nI_add, pk_mul, bd0_e, bd1_e, bd2_e, bd3_e, bd4_e, st_e, nI_leI, nI_ltI, nI_eq, if_pos, if_neg, if_true, if_false, ld_nI, sti_nI, stl_nI, v2] <;> rfl, hA⟩
  · obtain ⟨v1, v2⟩ := xIsVarYes hv
    rcases pk_ix x1 (n := 4) (by decide) with c | c | ⟨x, hxx, rfl⟩
    · have b := mInLo (n := 3) c
      have c : x1 < nI 0 := c
      exact ⟨-2, Bl, Br, Bf, Bs, B1, Qs, Qw, Qp, Al, Ak, Mf, Ms, word, size, number, M1, by simp -implicitDefEqProofs (disch := omega) only [fX_firstSolution, litI, litL, nI_add, pk_mul, bd0_e, bd1_e, bd2_e, bd3_e, bd4_e, st_e, nI_leI, nI_ltI, nI_eq, if_pos, if_neg, if_true, if_false, ld_nI, sti_nI, stl_nI, v1, c] <;> rfl, by simp -implicitDefEqProofs (disch := omega) only [fM_firstSolution, litI, litL, nI_add, pk_mul, bd0_e, bd1_e, bd2_e, bd3_e, bd4_e, st_e, nI_leI, nI_ltI, nI_eq, if_pos, if_neg, if_true, if_false, ld_nI, sti_nI, stl_nI, v2, b] <;> rfl, hA⟩
    · have l : nI 3 < x1 := hi_of (by decide) c
      have b := mInHi (n := 3) (by decide) l
      have l1 : ¬ x1 < nI 0 := not_lo (by decide) c
      have l2 : ¬ x1 ≤ nI 3 := fun z => absurd l (Int32.not_lt.mpr z)
      exact ⟨-2, Bl, Br, Bf, Bs, B1, Qs, Qw, Qp, Al, Ak, Mf, Ms, word, size, number, M1, by simp -implicitDefEqProofs (disch := omega) only [fX_firstSolution, litI, litL, nI_add, pk_mul, bd0_e, bd1_e, bd2_e, bd3_e, bd4_e, st_e, nI_leI, nI_ltI, nI_eq, if_pos, if_neg, if_true, if_false, ld_nI, sti_nI, stl_nI, v1, l1, l2] <;> rfl, by simp -implicitDefEqProofs (disch := omega) only [fM_firstSolution, litI, litL, nI_add, pk_mul, bd0_e, bd1_e, bd2_e, bd3_e, bd4_e, st_e, nI_leI, nI_ltI, nI_eq, if_pos, if_neg, if_true, if_false, ld_nI, sti_nI, stl_nI, v2, b] <;> rfl, hA⟩
    · have b := mInIn (j := x) (n := 3) (by decide) (by omega)
      obtain ⟨s, Bf', Bl', B1', Qs', Qw', Qp', Al', Ak', Mf', Ms', word', size', number', M1', e1, hA', ⟨g0, g1, g3⟩, e2, ⟨-, g2, -, g4⟩⟩ := bothLook h hC hA B1 Qw Qp word size number M1 hxx
      by_cases z : s.1 = 0
      · rw [z] at g1 g2
        subst g1 g2
        refine ⟨-nI 9, El, Er, nI 0, Bl', B1', Qs', Qw', Qp', Al', Ak', nI 0, Ms', word', size', number', M1', ?_, ?_, hA'⟩
        · simp -implicitDefEqProofs (disch := omega) only [fX_firstSolution, litI, litL, nI_add, pk_mul, bd0_e, bd1_e, bd2_e, bd3_e, bd4_e, st_e, nI_leI, nI_ltI, nI_eq, if_pos, if_neg, if_true, if_false, ld_nI, sti_nI, stl_nI, bd5_e, bd6_e, bd7_e, bd8_e, bd9_e, bd10_e, bd11_e, v1, e1]
        · simp -implicitDefEqProofs (disch := omega) only [fM_firstSolution, litI, litL, nI_add, pk_mul, bd0_e, bd1_e, bd2_e, bd3_e, bd4_e, st_e, nI_leI, nI_ltI, nI_eq, if_pos, if_neg, if_true, if_false, ld_nI, sti_nI, stl_nI, bd5_e, bd6_e, bd7_e, bd8_e, bd9_e, bd10_e, bd11_e, v2, b, e2]
      · obtain ⟨-, -, a1⟩ := g3 z
        obtain ⟨-, -, a2⟩ := g4 z
        subst g1 g2
        have b1 := a1 v hv
        have b2 := a2 v hv
        refine ⟨nI (s.2.2 v), El, Er, nI s.1, Bl', B1', Qs', Qw', Qp', Al', Ak', nI s.1, Ms', word', size', number', M1', ?_, ?_, hA'⟩
        · simp -implicitDefEqProofs (disch := omega) only [fX_firstSolution, fB_firstNumber, litI, litL, nI_add, pk_mul, bd0_e, bd1_e, bd2_e, bd3_e, bd4_e, st_e, nI_leI, nI_ltI, nI_eq, if_pos, if_neg, if_true, if_false, ld_nI, sti_nI, stl_nI, bd5_e, bd6_e, bd7_e, bd8_e, bd9_e, bd10_e, bd11_e, v1, e1, b1]
        · simp -implicitDefEqProofs (disch := omega) only [fM_firstSolution, litI, litL, nI_add, pk_mul, bd0_e, bd1_e, bd2_e, bd3_e, bd4_e, st_e, nI_leI, nI_ltI, nI_eq, if_pos, if_neg, if_true, if_false, ld_nI, sti_nI, stl_nI, bd5_e, bd6_e, bd7_e, bd8_e, bd9_e, bd10_e, bd11_e, v2, b, e2, b2]
set_option maxRecDepth 100000 in
theorem pLeastTotalLength (h : RE El Er now xs ys) (hC : RC Cn Cv Cr Ck many con cs) (hA : RAI Al Ak) (Bl Br : Int64) (Bf Bs Qs Mf Ms : Int32) (B1 Qw Qp word size number M1 : Nat → Int32) (x1 : Int32) :
    ∃ r Bl' Br' Bf' Bs' B1' Qs' Qw' Qp' Al' Ak' Mf' Ms' word' size' number' M1', fX_leastTotalLength El Er Bl Br Bf Bs B1 Qs Qw Qp Cn Cv Cr Ck Al Ak x1 = some (r, Bl', Br', Bf', Bs', B1', Qs', Qw', Qp', Al', Ak') ∧ fM_leastTotalLength many Mf Ms now con word size number M1 x1 = some (r, Mf', Ms', word', size', number', M1') ∧ RAI Al' Ak' := by
  rcases pk_ix x1 (n := 4) (by decide) with c | c | ⟨x, hxx, rfl⟩
  · have b := mInLo (n := 3) c
    exact ⟨-2, Bl, Br, Bf, Bs, B1, Qs, Qw, Qp, Al, Ak, Mf, Ms, word, size, number, M1, by rw [fX_leastTotalLength, if_pos c], by simp -implicitDefEqProofs (disch := omega) only [fM_leastTotalLength, litI, litL, nI_add, pk_mul, bd0_e, bd1_e, bd2_e, bd3_e, bd4_e, st_e, nI_leI, nI_ltI, nI_eq, if_pos, if_neg, if_true, if_false, ld_nI, sti_nI, stl_nI, b] <;> rfl, hA⟩
  · have l : nI 3 < x1 := hi_of (by decide) c
    have b := mInHi (n := 3) (by decide) l
    exact ⟨-2, Bl, Br, Bf, Bs, B1, Qs, Qw, Qp, Al, Ak, Mf, Ms, word, size, number, M1, by rw [fX_leastTotalLength, if_neg (not_lo (by decide) c), if_neg (fun (z : x1 ≤ 3) => absurd l (Int32.not_lt.mpr z))], by simp -implicitDefEqProofs (disch := omega) only [fM_leastTotalLength, litI, litL, nI_add, pk_mul, bd0_e, bd1_e, bd2_e, bd3_e, bd4_e, st_e, nI_leI, nI_ltI, nI_eq, if_pos, if_neg, if_true, if_false, ld_nI, sti_nI, stl_nI, b] <;> rfl, hA⟩
  · have b := mInIn (j := x) (n := 3) (by decide) (by omega)
    obtain ⟨s, Bf', Bl', B1', Qs', Qw', Qp', Al', Ak', Mf', Ms', word', size', number', M1', e1, hA', ⟨g0, g1, g3⟩, e2, ⟨-, g2, g5, g4⟩⟩ := bothLook h hC hA B1 Qw Qp word size number M1 hxx
    by_cases z : s.1 = 0
    · have g5 := g5 z
      rw [z] at g1 g2
      subst g1 g2
      refine ⟨-nI 9, El, Er, nI 0, Bl', B1', Qs', Qw', Qp', Al', Ak', nI 0, Ms', word', size', number', M1', ?_, ?_, hA'⟩
      · simp -implicitDefEqProofs (disch := omega) only [fX_leastTotalLength, litI, litL, nI_add, pk_mul, bd0_e, bd1_e, bd2_e, bd3_e, bd4_e, st_e, nI_leI, nI_ltI, nI_eq, if_pos, if_neg, if_true, if_false, ld_nI, sti_nI, stl_nI, bd5_e, bd6_e, bd7_e, bd8_e, bd9_e, bd10_e, bd11_e, e1]
      · rw [← g5]
        simp -implicitDefEqProofs (disch := omega) only [fM_leastTotalLength, litI, litL, nI_add, pk_mul, bd0_e, bd1_e, bd2_e, bd3_e, bd4_e, st_e, nI_leI, nI_ltI, nI_eq, if_pos, if_neg, if_true, if_false, ld_nI, sti_nI, stl_nI, bd5_e, bd6_e, bd7_e, bd8_e, bd9_e, bd10_e, bd11_e, b, e2]
    · obtain ⟨-, a1, -⟩ := g3 z
      obtain ⟨-, a2, -⟩ := g4 z
      subst g1 g2
      refine ⟨nI s.2.1, El, Er, nI s.1, Bl', B1', Qs', Qw', Qp', Al', Ak', nI s.1, Ms', word', size', number', M1', ?_, ?_, hA'⟩
      · rw [← a1]
        simp -implicitDefEqProofs (disch := omega) only [fX_leastTotalLength, fB_leastTotal, litI, litL, nI_add, pk_mul, bd0_e, bd1_e, bd2_e, bd3_e, bd4_e, st_e, nI_leI, nI_ltI, nI_eq, if_pos, if_neg, if_true, if_false, ld_nI, sti_nI, stl_nI, bd5_e, bd6_e, bd7_e, bd8_e, bd9_e, bd10_e, bd11_e, e1]
      · rw [← a2]
        simp -implicitDefEqProofs (disch := omega) only [fM_leastTotalLength, litI, litL, nI_add, pk_mul, bd0_e, bd1_e, bd2_e, bd3_e, bd4_e, st_e, nI_leI, nI_ltI, nI_eq, if_pos, if_neg, if_true, if_false, ld_nI, sti_nI, stl_nI, bd5_e, bd6_e, bd7_e, bd8_e, bd9_e, bd10_e, bd11_e, b, e2]
end CT
