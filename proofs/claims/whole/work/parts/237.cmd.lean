/-! runScript: one command -/
section CM
variable {Cn : Int32} {Cv Cr Ck : Nat → Int32} {many : Int32} {con : Nat → Int32} {cs : List (Nat × Nat × Nat)}
variable (Bl Br : Int64) (Bf Bs : Int32) (B1 : Nat → Int32) (Qs : Int32) (Qw Qp : Nat → Int32) (Al : Nat → Int64) (Ak : Nat → Int32) (Nz Ns Nd : Int32) (Nl Nr : Nat → Int64) (Np Nu Ne : Nat → Int32) (El Er : Int64)
variable (Mf Ms Mz Mo Md Mi : Int32) (Mt mw mz mn M1 Mn Mp Mr Mc row : Nat → Int32)
set_option maxRecDepth 100000 in
theorem xSide (a : Nat) (ha : a < 10) : fX_isSide (nI a) = some (nI (b1 (decide (a < 2)))) := by
  by_cases q : a < 2
  · rw [decide_eq_true q, b1_t]
    rcases (show a = 0 ∨ a = 1 by omega) with rfl | rfl
    · simp -implicitDefEqProofs (disch := omega) only [fX_isSide, litI, litL, nI_add, pk_mul, bd0_e, bd1_e, bd2_e, bd3_e, bd4_e, st_e, nI_leI, nI_ltI, nI_eq, if_pos, if_neg, if_true, if_false, ld_nI, sti_nI, stl_nI]
    · simp -implicitDefEqProofs (disch := omega) only [fX_isSide, litI, litL, nI_add, pk_mul, bd0_e, bd1_e, bd2_e, bd3_e, bd4_e, st_e, nI_leI, nI_ltI, nI_eq, if_pos, if_neg, if_true, if_false, ld_nI, sti_nI, stl_nI]
  · rw [decide_eq_false q, b1_f]
    simp -implicitDefEqProofs (disch := omega) only [fX_isSide, litI, litL, nI_add, pk_mul, bd0_e, bd1_e, bd2_e, bd3_e, bd4_e, st_e, nI_leI, nI_ltI, nI_eq, if_pos, if_neg, if_true, if_false, ld_nI, sti_nI, stl_nI]
def cmdOK (Cn : Int32) (Cv Cr Ck : Nat → Int32) (many : Int32) (con : Nat → Int32) (c h a b : Nat) : Prop :=
  ∃ o Bl' Br' Bf' Bs' B1' Qs' Qw' Qp' Al' Ak' Nz' Ns' Nd' Nl' Nr' Np' Nu' Ne' El' Er' Mf' Ms' Mz' Mo' Md' Mi' Mt' mw' mz' mn' M1' Mn' Mp' Mr' Mc' row' us vs, fK_succeeds Bl Br Bf Bs B1 Qs Qw Qp Cn Cv Cr Ck Al Ak Nz Ns Nd Nl Nr Np Nu Ne El Er (nI c) = some (nI (b1 o), Bl', Br', Bf', Bs', B1', Qs', Qw', Qp', Al', Ak', Nz', Ns', Nd', Nl', Nr', Np', Nu', Ne', El', Er') ∧ fM_command many Mf Ms Mz Mo Md Mi Mt con mw mz mn M1 Mn Mp Mr Mc row (nI h) (nI a) (nI b) = some (nI (b1 o), Mf', Ms', Mz', Mo', Md', Mi', Mt', mw', mz', mn', M1', Mn', Mp', Mr', Mc', row') ∧ RE El' Er' row' us vs ∧ RAI Al' Ak'
set_option maxRecDepth 100000 in
theorem cmdBoth {xs ys : List Nat} (hE : RE El Er row xs ys) (hC : RC Cn Cv Cr Ck many con cs) (hA : RAI Al Ak) {c h a b : Nat} (hc : c = 100 * h + 10 * a + b) (hh : h < 10) (ha : a < 10) (hb : b < 10) : cmdOK Bl Br Bf Bs B1 Qs Qw Qp Al Ak Nz Ns Nd Nl Nr Np Nu Ne El Er Mf Ms Mz Mo Md Mi Mt mw mz mn M1 Mn Mp Mr Mc row Cn Cv Cr Ck many con c h a b := by
  have d1 : nI c / nI 100 = nI h := by rw [pk_div (by omega) (by decide) (by decide)]; congr 1; omega
  have d2 : nI c / nI 10 = nI (10 * h + a) := by rw [pk_div (by omega) (by decide) (by decide)]; congr 1; omega
  have d3 : rem (nI (10 * h + a)) (nI 10) = nI a := by rw [rem_nI (by omega) (by decide) (by decide)]; congr 1; omega
  have d4 : rem (nI c) (nI 10) = nI b := by rw [rem_nI (by omega) (by decide) (by decide)]; congr 1; omega
  have d5 : rem (nI c) (nI 100) = nI (10 * a + b) := by rw [rem_nI (by omega) (by decide) (by decide)]; congr 1; omega
  have hE0 := hE
  obtain ⟨hx, hy, rfl, rfl, hr⟩ := hE
  have n0 : ∀ x ∈ ([] : List Nat), x < 6 := fun x hx => by cases hx
  unfold cmdOK
  rcases (show h = 4 ∨ h = 5 ∨ h = 6 ∨ h = 7 ∨ h = 8 ∨ h = 1 ∨ h = 2 ∨ h = 3 ∨ h = 0 ∨ h = 9 by omega) with rfl | rfl | rfl | rfl | rfl | rfl | rfl | rfl | rfl | rfl
  · by_cases qa : a < 4
    · obtain ⟨v1, v2⟩ := xIsVarYes qa
      by_cases qb : b = 0
      · subst qb
        have lx := rpl_nil_len (v := a + 2) (xs := xs)
        have ly := rpl_nil_len (v := a + 2) (xs := ys)
        have hx1 := hx.1
        have hy1 := hy.1
        have er := eReplace hx hy (rs := []) ⟨by decide, n0⟩ (v := a + 2) (by omega) (by omega) (by omega)
        rw [show pq [] = 0 from rfl] at er
        obtain ⟨g, em, hg⟩ := mEliminateIn hr hx hy qa
        refine ⟨true, Bl, Br, Bf, Bs, B1, Qs, Qw, Qp, Al, Ak, Nz, Ns, Nd, Nl, Nr, Np, Nu, Ne, lN (pq (rpl (a + 2) [] xs)), lN (pq (rpl (a + 2) [] ys)), Mf, Ms, Mz, Mo, Md, Mi, Mt, mw, mz, mn, M1, Mn, Mp, Mr, Mc, g, rpl (a + 2) [] xs, rpl (a + 2) [] ys, ?_, ?_, ⟨⟨by omega, rpl_mem n0 hx.2⟩, ⟨by omega, rpl_mem n0 hy.2⟩, rfl, rfl, hg⟩, hA⟩
        · simp -implicitDefEqProofs (disch := omega) only [fK_succeeds, fK_removes, zVar, litI, litL, nI_add, pk_mul, bd0_e, bd1_e, bd2_e, bd3_e, bd4_e, st_e, nI_leI, nI_ltI, nI_eq, if_pos, if_neg, if_true, if_false, ld_nI, sti_nI, stl_nI, bd5_e, bd6_e, bd7_e, bd8_e, bd9_e, bd10_e, bd11_e, d1, d2, d3, d4, v1, er, b1_t]
        · simp -implicitDefEqProofs (disch := omega) only [fM_command, litI, litL, nI_add, pk_mul, bd0_e, bd1_e, bd2_e, bd3_e, bd4_e, st_e, nI_leI, nI_ltI, nI_eq, if_pos, if_neg, if_true, if_false, ld_nI, sti_nI, stl_nI, bd5_e, bd6_e, bd7_e, bd8_e, bd9_e, bd10_e, bd11_e, v2, em, b1_t]
      · refine ⟨false, Bl, Br, Bf, Bs, B1, Qs, Qw, Qp, Al, Ak, Nz, Ns, Nd, Nl, Nr, Np, Nu, Ne, lN (pq xs), lN (pq ys), Mf, Ms, Mz, Mo, Md, Mi, Mt, mw, mz, mn, M1, Mn, Mp, Mr, Mc, row, xs, ys, ?_, ?_, hE0, hA⟩
        · simp -implicitDefEqProofs (disch := omega) only [fK_succeeds, litI, litL, nI_add, pk_mul, bd0_e, bd1_e, bd2_e, bd3_e, bd4_e, st_e, nI_leI, nI_ltI, nI_eq, if_pos, if_neg, if_true, if_false, ld_nI, sti_nI, stl_nI, bd5_e, bd6_e, bd7_e, bd8_e, bd9_e, bd10_e, bd11_e, d1, d2, d3, d4, b1_f]
        · simp -implicitDefEqProofs (disch := omega) only [fM_command, litI, litL, nI_add, pk_mul, bd0_e, bd1_e, bd2_e, bd3_e, bd4_e, st_e, nI_leI, nI_ltI, nI_eq, if_pos, if_neg, if_true, if_false, ld_nI, sti_nI, stl_nI, bd5_e, bd6_e, bd7_e, bd8_e, bd9_e, bd10_e, bd11_e, v2, b1_f]
    · obtain ⟨v1, v2⟩ := xIsVarNo (x := nI a) (Or.inr ((nI_leI (by omega) (by omega)).mpr (by omega)))
      refine ⟨false, Bl, Br, Bf, Bs, B1, Qs, Qw, Qp, Al, Ak, Nz, Ns, Nd, Nl, Nr, Np, Nu, Ne, lN (pq xs), lN (pq ys), Mf, Ms, Mz, Mo, Md, Mi, Mt, mw, mz, mn, M1, Mn, Mp, Mr, Mc, row, xs, ys, ?_, ?_, hE0, hA⟩
      · by_cases qb : b = 0
        · simp -implicitDefEqProofs (disch := omega) only [fK_succeeds, fK_removes, litI, litL, nI_add, pk_mul, bd0_e, bd1_e, bd2_e, bd3_e, bd4_e, st_e, nI_leI, nI_ltI, nI_eq, if_pos, if_neg, if_true, if_false, ld_nI, sti_nI, stl_nI, bd5_e, bd6_e, bd7_e, bd8_e, bd9_e, bd10_e, bd11_e, d1, d2, d3, d4, v1, b1_f]
        · simp -implicitDefEqProofs (disch := omega) only [fK_succeeds, litI, litL, nI_add, pk_mul, bd0_e, bd1_e, bd2_e, bd3_e, bd4_e, st_e, nI_leI, nI_ltI, nI_eq, if_pos, if_neg, if_true, if_false, ld_nI, sti_nI, stl_nI, bd5_e, bd6_e, bd7_e, bd8_e, bd9_e, bd10_e, bd11_e, d1, d2, d3, d4, b1_f]
      · simp -implicitDefEqProofs (disch := omega) only [fM_command, litI, litL, nI_add, pk_mul, bd0_e, bd1_e, bd2_e, bd3_e, bd4_e, st_e, nI_leI, nI_ltI, nI_eq, if_pos, if_neg, if_true, if_false, ld_nI, sti_nI, stl_nI, bd5_e, bd6_e, bd7_e, bd8_e, bd9_e, bd10_e, bd11_e, v2, b1_f]
  · have s1 := xSide a ha
    by_cases qa : a < 2
    · rw [decide_eq_true qa, b1_t] at s1
      have m1 := mInIn (j := a) (n := 1) (by decide) (by omega)
      have s2 := eSide (xs := xs) (ys := ys) a qa
      have ok : okS 12 (sd a xs ys) := by unfold sd; split; exact hx; exact hy
      have s3 := zSize (ok13 ok)
      have m2 := (hr a qa).1
      have l := ok.1
      by_cases q : (sd a xs ys).length = b
      · refine ⟨true, Bl, Br, Bf, Bs, B1, Qs, Qw, Qp, Al, Ak, Nz, Ns, Nd, Nl, Nr, Np, Nu, Ne, lN (pq xs), lN (pq ys), Mf, Ms, Mz, Mo, Md, Mi, Mt, mw, mz, mn, M1, Mn, Mp, Mr, Mc, row, xs, ys, ?_, ?_, hE0, hA⟩
        · simp -implicitDefEqProofs (disch := omega) only [fK_succeeds, litI, litL, nI_add, pk_mul, bd0_e, bd1_e, bd2_e, bd3_e, bd4_e, st_e, nI_leI, nI_ltI, nI_eq, if_pos, if_neg, if_true, if_false, ld_nI, sti_nI, stl_nI, bd5_e, bd6_e, bd7_e, bd8_e, bd9_e, bd10_e, bd11_e, d1, d2, d3, d4, s1, s2, s3, b1_t]
        · simp -implicitDefEqProofs (disch := omega) only [fM_command, litI, litL, nI_add, pk_mul, bd0_e, bd1_e, bd2_e, bd3_e, bd4_e, st_e, nI_leI, nI_ltI, nI_eq, if_pos, if_neg, if_true, if_false, ld_nI, sti_nI, stl_nI, bd5_e, bd6_e, bd7_e, bd8_e, bd9_e, bd10_e, bd11_e, m1, m2, b1_t]
      · refine ⟨false, Bl, Br, Bf, Bs, B1, Qs, Qw, Qp, Al, Ak, Nz, Ns, Nd, Nl, Nr, Np, Nu, Ne, lN (pq xs), lN (pq ys), Mf, Ms, Mz, Mo, Md, Mi, Mt, mw, mz, mn, M1, Mn, Mp, Mr, Mc, row, xs, ys, ?_, ?_, hE0, hA⟩
        · simp -implicitDefEqProofs (disch := omega) only [fK_succeeds, litI, litL, nI_add, pk_mul, bd0_e, bd1_e, bd2_e, bd3_e, bd4_e, st_e, nI_leI, nI_ltI, nI_eq, if_pos, if_neg, if_true, if_false, ld_nI, sti_nI, stl_nI, bd5_e, bd6_e, bd7_e, bd8_e, bd9_e, bd10_e, bd11_e, d1, d2, d3, d4, s1, s2, s3, b1_f]
        · simp -implicitDefEqProofs (disch := omega) only [fM_command, litI, litL, nI_add, pk_mul, bd0_e, bd1_e, bd2_e, bd3_e, bd4_e, st_e, nI_leI, nI_ltI, nI_eq, if_pos, if_neg, if_true, if_false, ld_nI, sti_nI, stl_nI, bd5_e, bd6_e, bd7_e, bd8_e, bd9_e, bd10_e, bd11_e, m1, m2, b1_f]
    · rw [decide_eq_false qa, b1_f] at s1
      have m1 := mInHi (x := nI a) (n := 1) (by decide) ((nI_ltI (by decide) (by omega)).mpr (by omega))
      refine ⟨false, Bl, Br, Bf, Bs, B1, Qs, Qw, Qp, Al, Ak, Nz, Ns, Nd, Nl, Nr, Np, Nu, Ne, lN (pq xs), lN (pq ys), Mf, Ms, Mz, Mo, Md, Mi, Mt, mw, mz, mn, M1, Mn, Mp, Mr, Mc, row, xs, ys, ?_, ?_, hE0, hA⟩
      · simp -implicitDefEqProofs (disch := omega) only [fK_succeeds, litI, litL, nI_add, pk_mul, bd0_e, bd1_e, bd2_e, bd3_e, bd4_e, st_e, nI_leI, nI_ltI, nI_eq, if_pos, if_neg, if_true, if_false, ld_nI, sti_nI, stl_nI, bd5_e, bd6_e, bd7_e, bd8_e, bd9_e, bd10_e, bd11_e, d1, d2, d3, d4, s1, b1_f]
      · simp -implicitDefEqProofs (disch := omega) only [fM_command, litI, litL, nI_add, pk_mul, bd0_e, bd1_e, bd2_e, bd3_e, bd4_e, st_e, nI_leI, nI_ltI, nI_eq, if_pos, if_neg, if_true, if_false, ld_nI, sti_nI, stl_nI, bd5_e, bd6_e, bd7_e, bd8_e, bd9_e, bd10_e, bd11_e, m1, b1_f]
  · obtain ⟨s, Bf', Bl', B1', Qs', Qw', Qp', Al', Ak', Mf', Ms', mw', mz', mn', M1', e1, hA', ⟨g0, g1, -⟩, e2, ⟨-, g2, -⟩⟩ := bothLook hE0 hC hA B1 Qw Qp mw mz mn M1 (x := 2) (by decide)
    subst g1 g2
    by_cases q : s.1 = 10 * a + b
    · refine ⟨true, lN (pq xs), lN (pq ys), nI s.1, Bl', B1', Qs', Qw', Qp', Al', Ak', Nz, Ns, Nd, Nl, Nr, Np, Nu, Ne, lN (pq xs), lN (pq ys), nI s.1, Ms', Mz, Mo, Md, Mi, Mt, mw', mz', mn', M1', Mn, Mp, Mr, Mc, row, xs, ys, ?_, ?_, hE0, hA'⟩
      · simp -implicitDefEqProofs (disch := omega) only [fK_succeeds, litI, litL, nI_add, pk_mul, bd0_e, bd1_e, bd2_e, bd3_e, bd4_e, st_e, nI_leI, nI_ltI, nI_eq, if_pos, if_neg, if_true, if_false, ld_nI, sti_nI, stl_nI, bd5_e, bd6_e, bd7_e, bd8_e, bd9_e, bd10_e, bd11_e, d1, d2, d3, d4, d5, e1, b1_t]
      · simp -implicitDefEqProofs (disch := omega) only [fM_command, litI, litL, nI_add, pk_mul, bd0_e, bd1_e, bd2_e, bd3_e, bd4_e, st_e, nI_leI, nI_ltI, nI_eq, if_pos, if_neg, if_true, if_false, ld_nI, sti_nI, stl_nI, bd5_e, bd6_e, bd7_e, bd8_e, bd9_e, bd10_e, bd11_e, e2, b1_t]
    · refine ⟨false, lN (pq xs), lN (pq ys), nI s.1, Bl', B1', Qs', Qw', Qp', Al', Ak', Nz, Ns, Nd, Nl, Nr, Np, Nu, Ne, lN (pq xs), lN (pq ys), nI s.1, Ms', Mz, Mo, Md, Mi, Mt, mw', mz', mn', M1', Mn, Mp, Mr, Mc, row, xs, ys, ?_, ?_, hE0, hA'⟩
      · simp -implicitDefEqProofs (disch := omega) only [fK_succeeds, litI, litL, nI_add, pk_mul, bd0_e, bd1_e, bd2_e, bd3_e, bd4_e, st_e, nI_leI, nI_ltI, nI_eq, if_pos, if_neg, if_true, if_false, ld_nI, sti_nI, stl_nI, bd5_e, bd6_e, bd7_e, bd8_e, bd9_e, bd10_e, bd11_e, d1, d2, d3, d4, d5, e1, b1_f]
      · simp -implicitDefEqProofs (disch := omega) only [fM_command, litI, litL, nI_add, pk_mul, bd0_e, bd1_e, bd2_e, bd3_e, bd4_e, st_e, nI_leI, nI_ltI, nI_eq, if_pos, if_neg, if_true, if_false, ld_nI, sti_nI, stl_nI, bd5_e, bd6_e, bd7_e, bd8_e, bd9_e, bd10_e, bd11_e, e2, b1_f]
  · obtain ⟨hI, Nz', Ns', Nd', Nl', Nr', Np', Nu', Ne', Mz', Ms', Md', Mf', Mt', Mn', Mp', Mr', Mc', a1, a2, a3, a4⟩ := bothSearch hr hx hy Nl Nr Np Nu Ne Mi Mt Mn Mp Mr Mc
    have hans : ansS (srS xs ys) ≤ 2 := by
      unfold ansS
      split
      · decide
      · split <;> decide
    generalize ansS (srS xs ys) = A at *
    by_cases qa : a = 0
    · by_cases q : A = b
      · refine ⟨true, Bl, Br, Bf, Bs, B1, Qs, Qw, Qp, Al, Ak, Nz', Ns', Nd', Nl', Nr', Np', Nu', Ne', lN (pq xs), lN (pq ys), Mf, Ms, Mz', Ms', Md', Mf', Mt', mw, mz, mn, M1, Mn', Mp', Mr', Mc', row, xs, ys, ?_, ?_, hE0, hA⟩
        · simp -implicitDefEqProofs (disch := omega) only [fK_succeeds, litI, litL, nI_add, pk_mul, bd0_e, bd1_e, bd2_e, bd3_e, bd4_e, st_e, nI_leI, nI_ltI, nI_eq, if_pos, if_neg, if_true, if_false, ld_nI, sti_nI, stl_nI, bd5_e, bd6_e, bd7_e, bd8_e, bd9_e, bd10_e, bd11_e, d1, d2, d3, d4, a1, b1_t]
        · simp -implicitDefEqProofs (disch := omega) only [fM_command, litI, litL, nI_add, pk_mul, bd0_e, bd1_e, bd2_e, bd3_e, bd4_e, st_e, nI_leI, nI_ltI, nI_eq, if_pos, if_neg, if_true, if_false, ld_nI, sti_nI, stl_nI, bd5_e, bd6_e, bd7_e, bd8_e, bd9_e, bd10_e, bd11_e, a3, b1_t]
      · by_cases q3 : 3 ≤ b
        · refine ⟨false, Bl, Br, Bf, Bs, B1, Qs, Qw, Qp, Al, Ak, Nz', Ns', Nd', Nl', Nr', Np', Nu', Ne', lN (pq xs), lN (pq ys), Mf, Ms, Mz, Mo, Md, Mi, Mt, mw, mz, mn, M1, Mn, Mp, Mr, Mc, row, xs, ys, ?_, ?_, hE0, hA⟩
          · simp -implicitDefEqProofs (disch := omega) only [fK_succeeds, litI, litL, nI_add, pk_mul, bd0_e, bd1_e, bd2_e, bd3_e, bd4_e, st_e, nI_leI, nI_ltI, nI_eq, if_pos, if_neg, if_true, if_false, ld_nI, sti_nI, stl_nI, bd5_e, bd6_e, bd7_e, bd8_e, bd9_e, bd10_e, bd11_e, d1, d2, d3, d4, a1, b1_f]
          · simp -implicitDefEqProofs (disch := omega) only [fM_command, litI, litL, nI_add, pk_mul, bd0_e, bd1_e, bd2_e, bd3_e, bd4_e, st_e, nI_leI, nI_ltI, nI_eq, if_pos, if_neg, if_true, if_false, ld_nI, sti_nI, stl_nI, bd5_e, bd6_e, bd7_e, bd8_e, bd9_e, bd10_e, bd11_e, b1_f]
        · refine ⟨false, Bl, Br, Bf, Bs, B1, Qs, Qw, Qp, Al, Ak, Nz', Ns', Nd', Nl', Nr', Np', Nu', Ne', lN (pq xs), lN (pq ys), Mf, Ms, Mz', Ms', Md', Mf', Mt', mw, mz, mn, M1, Mn', Mp', Mr', Mc', row, xs, ys, ?_, ?_, hE0, hA⟩
          · simp -implicitDefEqProofs (disch := omega) only [fK_succeeds, litI, litL, nI_add, pk_mul, bd0_e, bd1_e, bd2_e, bd3_e, bd4_e, st_e, nI_leI, nI_ltI, nI_eq, if_pos, if_neg, if_true, if_false, ld_nI, sti_nI, stl_nI, bd5_e, bd6_e, bd7_e, bd8_e, bd9_e, bd10_e, bd11_e, d1, d2, d3, d4, a1, b1_f]
          · simp -implicitDefEqProofs (disch := omega) only [fM_command, litI, litL, nI_add, pk_mul, bd0_e, bd1_e, bd2_e, bd3_e, bd4_e, st_e, nI_leI, nI_ltI, nI_eq, if_pos, if_neg, if_true, if_false, ld_nI, sti_nI, stl_nI, bd5_e, bd6_e, bd7_e, bd8_e, bd9_e, bd10_e, bd11_e, a3, b1_f]
    · refine ⟨false, Bl, Br, Bf, Bs, B1, Qs, Qw, Qp, Al, Ak, Nz, Ns, Nd, Nl, Nr, Np, Nu, Ne, lN (pq xs), lN (pq ys), Mf, Ms, Mz, Mo, Md, Mi, Mt, mw, mz, mn, M1, Mn, Mp, Mr, Mc, row, xs, ys, ?_, ?_, hE0, hA⟩
      · simp -implicitDefEqProofs (disch := omega) only [fK_succeeds, litI, litL, nI_add, pk_mul, bd0_e, bd1_e, bd2_e, bd3_e, bd4_e, st_e, nI_leI, nI_ltI, nI_eq, if_pos, if_neg, if_true, if_false, ld_nI, sti_nI, stl_nI, bd5_e, bd6_e, bd7_e, bd8_e, bd9_e, bd10_e, bd11_e, d1, d2, d3, d4, b1_f]
      · simp -implicitDefEqProofs (disch := omega) only [fM_command, litI, litL, nI_add, pk_mul, bd0_e, bd1_e, bd2_e, bd3_e, bd4_e, st_e, nI_leI, nI_ltI, nI_eq, if_pos, if_neg, if_true, if_false, ld_nI, sti_nI, stl_nI, bd5_e, bd6_e, bd7_e, bd8_e, bd9_e, bd10_e, bd11_e, b1_f]
  · by_cases qa : a < 4
    · obtain ⟨v1, v2⟩ := xIsVarYes qa
      have et := eTotal hx hy (c := a + 2) (by omega)
      have k1 := mCountOf hr (s := 0) (by decide) hx (c := a + 2) (by omega)
      have k2 := mCountOf hr (s := 1) (by decide) hy (c := a + 2) (by omega)
      rw [sd_0] at k1
      rw [sd_1] at k2
      have c1 := List.count_le_length (a := a + 2) (l := xs)
      have c2 := List.count_le_length (a := a + 2) (l := ys)
      have l1 := hx.1
      have l2 := hy.1
      by_cases q : xs.count (a + 2) + ys.count (a + 2) = b
      · refine ⟨true, Bl, Br, Bf, Bs, B1, Qs, Qw, Qp, Al, Ak, Nz, Ns, Nd, Nl, Nr, Np, Nu, Ne, lN (pq xs), lN (pq ys), Mf, Ms, Mz, Mo, Md, Mi, Mt, mw, mz, mn, M1, Mn, Mp, Mr, Mc, row, xs, ys, ?_, ?_, hE0, hA⟩
        · simp -implicitDefEqProofs (disch := omega) only [fK_succeeds, zVar, litI, litL, nI_add, pk_mul, bd0_e, bd1_e, bd2_e, bd3_e, bd4_e, st_e, nI_leI, nI_ltI, nI_eq, if_pos, if_neg, if_true, if_false, ld_nI, sti_nI, stl_nI, bd5_e, bd6_e, bd7_e, bd8_e, bd9_e, bd10_e, bd11_e, d1, d2, d3, d4, v1, et, b1_t]
        · simp -implicitDefEqProofs (disch := omega) only [fM_command, litI, litL, nI_add, pk_mul, bd0_e, bd1_e, bd2_e, bd3_e, bd4_e, st_e, nI_leI, nI_ltI, nI_eq, if_pos, if_neg, if_true, if_false, ld_nI, sti_nI, stl_nI, bd5_e, bd6_e, bd7_e, bd8_e, bd9_e, bd10_e, bd11_e, v2, k1, k2, b1_t]
      · refine ⟨false, Bl, Br, Bf, Bs, B1, Qs, Qw, Qp, Al, Ak, Nz, Ns, Nd, Nl, Nr, Np, Nu, Ne, lN (pq xs), lN (pq ys), Mf, Ms, Mz, Mo, Md, Mi, Mt, mw, mz, mn, M1, Mn, Mp, Mr, Mc, row, xs, ys, ?_, ?_, hE0, hA⟩
        · simp -implicitDefEqProofs (disch := omega) only [fK_succeeds, zVar, litI, litL, nI_add, pk_mul, bd0_e, bd1_e, bd2_e, bd3_e, bd4_e, st_e, nI_leI, nI_ltI, nI_eq, if_pos, if_neg, if_true, if_false, ld_nI, sti_nI, stl_nI, bd5_e, bd6_e, bd7_e, bd8_e, bd9_e, bd10_e, bd11_e, d1, d2, d3, d4, v1, et, b1_f]
        · simp -implicitDefEqProofs (disch := omega) only [fM_command, litI, litL, nI_add, pk_mul, bd0_e, bd1_e, bd2_e, bd3_e, bd4_e, st_e, nI_leI, nI_ltI, nI_eq, if_pos, if_neg, if_true, if_false, ld_nI, sti_nI, stl_nI, bd5_e, bd6_e, bd7_e, bd8_e, bd9_e, bd10_e, bd11_e, v2, k1, k2, b1_f]
    · obtain ⟨v1, v2⟩ := xIsVarNo (x := nI a) (Or.inr ((nI_leI (by omega) (by omega)).mpr (by omega)))
      refine ⟨false, Bl, Br, Bf, Bs, B1, Qs, Qw, Qp, Al, Ak, Nz, Ns, Nd, Nl, Nr, Np, Nu, Ne, lN (pq xs), lN (pq ys), Mf, Ms, Mz, Mo, Md, Mi, Mt, mw, mz, mn, M1, Mn, Mp, Mr, Mc, row, xs, ys, ?_, ?_, hE0, hA⟩
      · simp -implicitDefEqProofs (disch := omega) only [fK_succeeds, litI, litL, nI_add, pk_mul, bd0_e, bd1_e, bd2_e, bd3_e, bd4_e, st_e, nI_leI, nI_ltI, nI_eq, if_pos, if_neg, if_true, if_false, ld_nI, sti_nI, stl_nI, bd5_e, bd6_e, bd7_e, bd8_e, bd9_e, bd10_e, bd11_e, d1, d2, d3, d4, v1, b1_f]
      · simp -implicitDefEqProofs (disch := omega) only [fM_command, litI, litL, nI_add, pk_mul, bd0_e, bd1_e, bd2_e, bd3_e, bd4_e, st_e, nI_leI, nI_ltI, nI_eq, if_pos, if_neg, if_true, if_false, ld_nI, sti_nI, stl_nI, bd5_e, bd6_e, bd7_e, bd8_e, bd9_e, bd10_e, bd11_e, v2, b1_f]
  · by_cases q : a + b = 0
    · obtain ⟨g, em, hg⟩ := mSwapIn hr
      have es := eSwap (lN (pq xs)) (lN (pq ys))
      refine ⟨true, Bl, Br, Bf, Bs, B1, Qs, Qw, Qp, Al, Ak, Nz, Ns, Nd, Nl, Nr, Np, Nu, Ne, lN (pq ys), lN (pq xs), Mf, Ms, Mz, Mo, Md, Mi, Mt, mw, mz, mn, M1, Mn, Mp, Mr, Mc, g, ys, xs, ?_, ?_, ⟨hy, hx, rfl, rfl, hg⟩, hA⟩
      · simp -implicitDefEqProofs (disch := omega) only [fK_succeeds, fK_rewrites, litI, litL, nI_add, pk_mul, bd0_e, bd1_e, bd2_e, bd3_e, bd4_e, st_e, nI_leI, nI_ltI, nI_eq, if_pos, if_neg, if_true, if_false, ld_nI, sti_nI, stl_nI, bd5_e, bd6_e, bd7_e, bd8_e, bd9_e, bd10_e, bd11_e, d1, d2, d3, d4, es, ckzn1, b1_t]
      · simp -implicitDefEqProofs (disch := omega) only [fM_command, fM_command_65, litI, litL, nI_add, pk_mul, bd0_e, bd1_e, bd2_e, bd3_e, bd4_e, st_e, nI_leI, nI_ltI, nI_eq, if_pos, if_neg, if_true, if_false, ld_nI, sti_nI, stl_nI, bd5_e, bd6_e, bd7_e, bd8_e, bd9_e, bd10_e, bd11_e, em, b1_t]
    · refine ⟨false, Bl, Br, Bf, Bs, B1, Qs, Qw, Qp, Al, Ak, Nz, Ns, Nd, Nl, Nr, Np, Nu, Ne, lN (pq xs), lN (pq ys), Mf, Ms, Mz, Mo, Md, Mi, Mt, mw, mz, mn, M1, Mn, Mp, Mr, Mc, row, xs, ys, ?_, ?_, hE0, hA⟩
      · simp -implicitDefEqProofs (disch := omega) only [fK_succeeds, fK_rewrites, litI, litL, nI_add, pk_mul, bd0_e, bd1_e, bd2_e, bd3_e, bd4_e, st_e, nI_leI, nI_ltI, nI_eq, if_pos, if_neg, if_true, if_false, ld_nI, sti_nI, stl_nI, bd5_e, bd6_e, bd7_e, bd8_e, bd9_e, bd10_e, bd11_e, d1, d2, d3, d4, ckzn0, b1_f]
      · simp -implicitDefEqProofs (disch := omega) only [fM_command, fM_command_65, litI, litL, nI_add, pk_mul, bd0_e, bd1_e, bd2_e, bd3_e, bd4_e, st_e, nI_leI, nI_ltI, nI_eq, if_pos, if_neg, if_true, if_false, ld_nI, sti_nI, stl_nI, bd5_e, bd6_e, bd7_e, bd8_e, bd9_e, bd10_e, bd11_e, b1_f]
  · by_cases q : a + b = 0
    · obtain ⟨g, em, hg⟩ := mReverseIn hr hx hy
      have es := eTurn (ok13 hx) (ok13 hy)
      refine ⟨true, Bl, Br, Bf, Bs, B1, Qs, Qw, Qp, Al, Ak, Nz, Ns, Nd, Nl, Nr, Np, Nu, Ne, lN (pq xs.reverse), lN (pq ys.reverse), Mf, Ms, Mz, Mo, Md, Mi, Mt, mw, mz, mn, M1, Mn, Mp, Mr, Mc, g, xs.reverse, ys.reverse, ?_, ?_, ⟨hx.rev, hy.rev, rfl, rfl, hg⟩, hA⟩
      · simp -implicitDefEqProofs (disch := omega) only [fK_succeeds, fK_rewrites, litI, litL, nI_add, pk_mul, bd0_e, bd1_e, bd2_e, bd3_e, bd4_e, st_e, nI_leI, nI_ltI, nI_eq, if_pos, if_neg, if_true, if_false, ld_nI, sti_nI, stl_nI, bd5_e, bd6_e, bd7_e, bd8_e, bd9_e, bd10_e, bd11_e, d1, d2, d3, d4, es, ckzn1, b1_t]
      · simp -implicitDefEqProofs (disch := omega) only [fM_command, fM_command_90, litI, litL, nI_add, pk_mul, bd0_e, bd1_e, bd2_e, bd3_e, bd4_e, st_e, nI_leI, nI_ltI, nI_eq, if_pos, if_neg, if_true, if_false, ld_nI, sti_nI, stl_nI, bd5_e, bd6_e, bd7_e, bd8_e, bd9_e, bd10_e, bd11_e, em, b1_t]
    · refine ⟨false, Bl, Br, Bf, Bs, B1, Qs, Qw, Qp, Al, Ak, Nz, Ns, Nd, Nl, Nr, Np, Nu, Ne, lN (pq xs), lN (pq ys), Mf, Ms, Mz, Mo, Md, Mi, Mt, mw, mz, mn, M1, Mn, Mp, Mr, Mc, row, xs, ys, ?_, ?_, hE0, hA⟩
      · simp -implicitDefEqProofs (disch := omega) only [fK_succeeds, fK_rewrites, litI, litL, nI_add, pk_mul, bd0_e, bd1_e, bd2_e, bd3_e, bd4_e, st_e, nI_leI, nI_ltI, nI_eq, if_pos, if_neg, if_true, if_false, ld_nI, sti_nI, stl_nI, bd5_e, bd6_e, bd7_e, bd8_e, bd9_e, bd10_e, bd11_e, d1, d2, d3, d4, ckzn0, b1_f]
      · simp -implicitDefEqProofs (disch := omega) only [fM_command, fM_command_90, litI, litL, nI_add, pk_mul, bd0_e, bd1_e, bd2_e, bd3_e, bd4_e, st_e, nI_leI, nI_ltI, nI_eq, if_pos, if_neg, if_true, if_false, ld_nI, sti_nI, stl_nI, bd5_e, bd6_e, bd7_e, bd8_e, bd9_e, bd10_e, bd11_e, b1_f]
  · by_cases q : a + b = 0
    · obtain ⟨g, em, hg⟩ := mCancelIn hr hx hy
      have es := eCancelEnds hx hy
      obtain ⟨o1, o2, -⟩ := cancel2_ok hx hy
      refine ⟨true, Bl, Br, Bf, Bs, B1, Qs, Qw, Qp, Al, Ak, Nz, Ns, Nd, Nl, Nr, Np, Nu, Ne, lN (pq (cancel2 xs ys).2.1), lN (pq (cancel2 xs ys).2.2), Mf, Ms, Mz, Mo, Md, Mi, Mt, mw, mz, mn, M1, Mn, Mp, Mr, Mc, g, (cancel2 xs ys).2.1, (cancel2 xs ys).2.2, ?_, ?_, ⟨o1, o2, rfl, rfl, hg⟩, hA⟩
      · simp -implicitDefEqProofs (disch := omega) only [fK_succeeds, fK_rewrites, litI, litL, nI_add, pk_mul, bd0_e, bd1_e, bd2_e, bd3_e, bd4_e, st_e, nI_leI, nI_ltI, nI_eq, if_pos, if_neg, if_true, if_false, ld_nI, sti_nI, stl_nI, bd5_e, bd6_e, bd7_e, bd8_e, bd9_e, bd10_e, bd11_e, d1, d2, d3, d4, es, ckzn1, b1_t]
      · simp -implicitDefEqProofs (disch := omega) only [fM_command, fM_command_119, litI, litL, nI_add, pk_mul, bd0_e, bd1_e, bd2_e, bd3_e, bd4_e, st_e, nI_leI, nI_ltI, nI_eq, if_pos, if_neg, if_true, if_false, ld_nI, sti_nI, stl_nI, bd5_e, bd6_e, bd7_e, bd8_e, bd9_e, bd10_e, bd11_e, em, b1_t]
    · refine ⟨false, Bl, Br, Bf, Bs, B1, Qs, Qw, Qp, Al, Ak, Nz, Ns, Nd, Nl, Nr, Np, Nu, Ne, lN (pq xs), lN (pq ys), Mf, Ms, Mz, Mo, Md, Mi, Mt, mw, mz, mn, M1, Mn, Mp, Mr, Mc, row, xs, ys, ?_, ?_, hE0, hA⟩
      · simp -implicitDefEqProofs (disch := omega) only [fK_succeeds, fK_rewrites, litI, litL, nI_add, pk_mul, bd0_e, bd1_e, bd2_e, bd3_e, bd4_e, st_e, nI_leI, nI_ltI, nI_eq, if_pos, if_neg, if_true, if_false, ld_nI, sti_nI, stl_nI, bd5_e, bd6_e, bd7_e, bd8_e, bd9_e, bd10_e, bd11_e, d1, d2, d3, d4, ckzn0, b1_f]
      · simp -implicitDefEqProofs (disch := omega) only [fM_command, fM_command_119, litI, litL, nI_add, pk_mul, bd0_e, bd1_e, bd2_e, bd3_e, bd4_e, st_e, nI_leI, nI_ltI, nI_eq, if_pos, if_neg, if_true, if_false, ld_nI, sti_nI, stl_nI, bd5_e, bd6_e, bd7_e, bd8_e, bd9_e, bd10_e, bd11_e, b1_f]
  · refine ⟨false, Bl, Br, Bf, Bs, B1, Qs, Qw, Qp, Al, Ak, Nz, Ns, Nd, Nl, Nr, Np, Nu, Ne, lN (pq xs), lN (pq ys), Mf, Ms, Mz, Mo, Md, Mi, Mt, mw, mz, mn, M1, Mn, Mp, Mr, Mc, row, xs, ys, ?_, ?_, hE0, hA⟩
    · simp -implicitDefEqProofs (disch := omega) only [fK_succeeds, fK_rewrites, litI, litL, nI_add, pk_mul, bd0_e, bd1_e, bd2_e, bd3_e, bd4_e, st_e, nI_leI, nI_ltI, nI_eq, if_pos, if_neg, if_true, if_false, ld_nI, sti_nI, stl_nI, bd5_e, bd6_e, bd7_e, bd8_e, bd9_e, bd10_e, bd11_e, d1, d2, d3, d4, ckzn0, b1_f]
    · simp -implicitDefEqProofs (disch := omega) only [fM_command, litI, litL, nI_add, pk_mul, bd0_e, bd1_e, bd2_e, bd3_e, bd4_e, st_e, nI_leI, nI_ltI, nI_eq, if_pos, if_neg, if_true, if_false, ld_nI, sti_nI, stl_nI, bd5_e, bd6_e, bd7_e, bd8_e, bd9_e, bd10_e, bd11_e, b1_f]
  · refine ⟨false, Bl, Br, Bf, Bs, B1, Qs, Qw, Qp, Al, Ak, Nz, Ns, Nd, Nl, Nr, Np, Nu, Ne, lN (pq xs), lN (pq ys), Mf, Ms, Mz, Mo, Md, Mi, Mt, mw, mz, mn, M1, Mn, Mp, Mr, Mc, row, xs, ys, ?_, ?_, hE0, hA⟩
    · simp -implicitDefEqProofs (disch := omega) only [fK_succeeds, fK_rewrites, litI, litL, nI_add, pk_mul, bd0_e, bd1_e, bd2_e, bd3_e, bd4_e, st_e, nI_leI, nI_ltI, nI_eq, if_pos, if_neg, if_true, if_false, ld_nI, sti_nI, stl_nI, bd5_e, bd6_e, bd7_e, bd8_e, bd9_e, bd10_e, bd11_e, d1, d2, d3, d4, ckzn0, b1_f]
    · simp -implicitDefEqProofs (disch := omega) only [fM_command, litI, litL, nI_add, pk_mul, bd0_e, bd1_e, bd2_e, bd3_e, bd4_e, st_e, nI_leI, nI_ltI, nI_eq, if_pos, if_neg, if_true, if_false, ld_nI, sti_nI, stl_nI, bd5_e, bd6_e, bd7_e, bd8_e, bd9_e, bd10_e, bd11_e, b1_f]
end CM
