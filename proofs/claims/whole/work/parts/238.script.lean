/-! runScript -/
set_option maxRecDepth 100000 in
theorem lgc_lt (x a : Int64) : lg_cmp x a < nI 0 ↔ x < a := by
  show lg_cmp x a < 0 ↔ x < a
  unfold lg_cmp
  by_cases q : x > a
  · rw [if_pos q]; exact ⟨fun z => absurd z (by decide), fun z => absurd (Int64.lt_trans z q) (Int64.lt_irrefl)⟩
  · rw [if_neg q]
    by_cases q2 : x = a
    · rw [if_pos q2]; exact ⟨fun z => absurd z (by decide), fun z => absurd (q2 ▸ z) (Int64.lt_irrefl)⟩
    · rw [if_neg q2]; exact ⟨fun _ => Int64.lt_of_le_of_ne (Int64.not_lt.mp q) q2, fun _ => by decide⟩
set_option maxRecDepth 100000 in
theorem remL_lN {a d : Nat} (ha : a < 2 ^ 63) (h0 : 0 < d) (hd : d < 2 ^ 63) : remL (lN a) (lN d) = lN (a % d) := pk_lRem ha h0 hd
set_option maxRecDepth 100000 in
theorem th_c : ∀ n, n < 5 → 0 < 1000 ^ n ∧ 1000 ^ n < 2 ^ 63 := by decide +kernel
set_option maxRecDepth 100000 in
theorem kWithout {n q : Nat} (hn : n < 5) (hq : q < 2 ^ 63) : fK_withoutLast (nI n) (lN q) = some (lN (q / 1000 ^ n)) := by
  have key : ∀ (d i m : Nat), i + d = n → d < m → fx2 (fK_withoutLast_5 (nI n)) m (lN (q / 1000 ^ i)) (nI i) = some (lN (q / 1000 ^ n)) := by
    intro d
    induction d with
    | zero =>
      intro i m hi hm
      obtain ⟨m, rfl⟩ := succ_of hm
      have hi : i = n := hi
      subst hi
      simp -implicitDefEqProofs (disch := omega) only [fx2_s, fK_withoutLast_5, litI, litL, nI_add, pk_mul, bd0_e, bd1_e, bd2_e, bd3_e, bd4_e, st_e, nI_leI, nI_ltI, nI_eq, if_pos, if_neg, if_true, if_false, ld_nI, sti_nI, stl_nI]
    | succ d ih =>
      intro i m hi hm
      obtain ⟨m, rfl⟩ := succ_of hm
      have h1 : q / 1000 ^ i < 2 ^ 63 := Nat.lt_of_le_of_lt (Nat.div_le_self _ _) hq
      have e : lN (q / 1000 ^ i) / lN 1000 = lN (q / 1000 ^ (i + 1)) := by
        rw [pk_lDiv h1 (by decide) (by decide), Nat.div_div_eq_div_mul, Nat.pow_succ]
      rw [← ih (i + 1) m (by omega) (by omega)]
      simp -implicitDefEqProofs (disch := omega) only [fx2_s, fK_withoutLast_5, litI, litL, nI_add, pk_mul, bd0_e, bd1_e, bd2_e, bd3_e, bd4_e, st_e, nI_leI, nI_ltI, nI_eq, if_pos, if_neg, if_true, if_false, ld_nI, sti_nI, stl_nI, e]
  have e := key n 0 FU (by omega) (fuel (by omega))
  rw [Nat.pow_zero, Nat.div_one] at e
  exact e
set_option maxRecDepth 100000 in
theorem mThousands {n : Nat} (hn : n < 5) : fM_thousands (nI n) = some (lN (1000 ^ n)) := by
  have key : ∀ (d i m : Nat), i + d = n → d < m → fx2 (fM_thousands_4 (nI n)) m (lN (1000 ^ i)) (nI i) = some (lN (1000 ^ n)) := by
    intro d
    induction d with
    | zero =>
      intro i m hi hm
      obtain ⟨m, rfl⟩ := succ_of hm
      have hi : i = n := hi
      subst hi
      simp -implicitDefEqProofs (disch := omega) only [fx2_s, fM_thousands_4, litI, litL, nI_add, pk_mul, bd0_e, bd1_e, bd2_e, bd3_e, bd4_e, st_e, nI_leI, nI_ltI, nI_eq, if_pos, if_neg, if_true, if_false, ld_nI, sti_nI, stl_nI]
    | succ d ih =>
      intro i m hi hm
      obtain ⟨m, rfl⟩ := succ_of hm
      have e : lN (1000 ^ i) * lN 1000 = lN (1000 ^ (i + 1)) := by rw [lN_mul, Nat.pow_succ]
      rw [← ih (i + 1) m (by omega) (by omega)]
      simp -implicitDefEqProofs (disch := omega) only [fx2_s, fM_thousands_4, litI, litL, nI_add, pk_mul, bd0_e, bd1_e, bd2_e, bd3_e, bd4_e, st_e, nI_leI, nI_ltI, nI_eq, if_pos, if_neg, if_true, if_false, ld_nI, sti_nI, stl_nI, e]
  exact key n 0 FU (by omega) (fuel (by omega))
section SR
variable {Cn : Int32} {Cv Cr Ck : Nat → Int32} {many : Int32} {con : Nat → Int32} {cs : List (Nat × Nat × Nat)}
set_option maxRecDepth 100000 in
theorem scriptLoop (hC : RC Cn Cv Cr Ck many con cs) {n q : Nat} (hn : n < 5) (hq : q < 2 ^ 63) :
    ∀ (d i m1 m2 : Nat) (Bl Br : Int64) (Bf Bs : Int32) (B1 : Nat → Int32) (Qs : Int32) (Qw Qp : Nat → Int32) (Al : Nat → Int64) (Ak : Nat → Int32) (Nz Ns Nd : Int32) (Nl Nr : Nat → Int64) (Np Nu Ne : Nat → Int32) (El Er : Int64) (Mf Ms Mz Mo Md Mi : Int32) (Mt mw mz mn M1 Mn Mp Mr Mc row : Nat → Int32) (xs ys : List Nat), i + d = n → d < m1 → d < m2 → RE El Er row xs ys → RAI Al Ak →
      ∃ r Bl' Br' Bf' Bs' B1' Qs' Qw' Qp' Al' Ak' Nz' Ns' Nd' Nl' Nr' Np' Nu' Ne' El' Er' Mf' Ms' Mz' Mo' Md' Mi' Mt' mw' mz' mn' M1' Mn' Mp' Mr' Mc' row', fx21 (fX_runScript_43 Cn Cv Cr Ck (nI n) (lN q)) m1 Bl Br Bf Bs B1 Qs Qw Qp Al Ak Nz Ns Nd Nl Nr Np Nu Ne El Er (nI i) = some (r, Bl', Br', Bf', Bs', B1', Qs', Qw', Qp', Al', Ak', Nz', Ns', Nd', Nl', Nr', Np', Nu', Ne', El', Er') ∧ fx17 (fM_runScript_43 many con (nI n) (lN q)) m2 Mf Ms Mz Mo Md Mi Mt mw mz mn M1 Mn Mp Mr Mc row (nI i) = some (r, Mf', Ms', Mz', Mo', Md', Mi', Mt', mw', mz', mn', M1', Mn', Mp', Mr', Mc', row') ∧ RAI Al' Ak' := by
  intro d
  induction d with
  | zero =>
    intro i m1 m2 Bl Br Bf Bs B1 Qs Qw Qp Al Ak Nz Ns Nd Nl Nr Np Nu Ne El Er Mf Ms Mz Mo Md Mi Mt mw mz mn M1 Mn Mp Mr Mc row xs ys hi h1 h2 hE hA
    obtain ⟨m1, rfl⟩ := succ_of h1
    obtain ⟨m2, rfl⟩ := succ_of h2
    have hi : i = n := hi
    subst hi
    refine ⟨-nI 9, Bl, Br, Bf, Bs, B1, Qs, Qw, Qp, Al, Ak, Nz, Ns, Nd, Nl, Nr, Np, Nu, Ne, El, Er, Mf, Ms, Mz, Mo, Md, Mi, Mt, mw, mz, mn, M1, Mn, Mp, Mr, Mc, row, ?_, ?_, hA⟩
    · rw [fx21_s]
      simp -implicitDefEqProofs (disch := omega) only [fX_runScript_43, litI, litL, nI_add, pk_mul, bd0_e, bd1_e, bd2_e, bd3_e, bd4_e, st_e, nI_leI, nI_ltI, nI_eq, if_pos, if_neg, if_true, if_false, ld_nI, sti_nI, stl_nI]
    · rw [fx17_s]
      simp -implicitDefEqProofs (disch := omega) only [fM_runScript_43, litI, litL, nI_add, pk_mul, bd0_e, bd1_e, bd2_e, bd3_e, bd4_e, st_e, nI_leI, nI_ltI, nI_eq, if_pos, if_neg, if_true, if_false, ld_nI, sti_nI, stl_nI]
  | succ d ih =>
    intro i m1 m2 Bl Br Bf Bs B1 Qs Qw Qp Al Ak Nz Ns Nd Nl Nr Np Nu Ne El Er Mf Ms Mz Mo Md Mi Mt mw mz mn M1 Mn Mp Mr Mc row xs ys hi h1 h2 hE hA
    obtain ⟨m1, rfl⟩ := succ_of h1
    obtain ⟨m2, rfl⟩ := succ_of h2
    have f1 : nI n - nI 1 = nI (n - 1) := pk_sub (by omega)
    have f2 : nI (n - 1) - nI i = nI (n - 1 - i) := pk_sub (by omega)
    have f3 := kWithout (n := n - 1 - i) (by omega) hq
    have f4 := mThousands (n := n - 1 - i) (by omega)
    obtain ⟨t1, t2⟩ := th_c (n - 1 - i) (by omega)
    have h3 : q / 1000 ^ (n - 1 - i) < 2 ^ 63 := Nat.lt_of_le_of_lt (Nat.div_le_self _ _) hq
    have f5 := remL_lN h3 (d := 1000) (by decide) (by decide)
    have f6 := lN_i (q / 1000 ^ (n - 1 - i) % 1000)
    have f7 : lN q / lN (1000 ^ (n - 1 - i)) = lN (q / 1000 ^ (n - 1 - i)) := pk_lDiv hq t1 t2
    have f8 : ¬ lN (1000 ^ (n - 1 - i)) = lN 0 := fun z => by rw [pk_lEQ t2 (by decide)] at z; omega
    have hc : q / 1000 ^ (n - 1 - i) % 1000 < 1000 := Nat.mod_lt _ (by decide)
    generalize q / 1000 ^ (n - 1 - i) % 1000 = c at *
    have g1 : nI c / nI 100 = nI (c / 100) := pk_div (by omega) (by decide) (by decide)
    have g2 : nI c / nI 10 = nI (c / 10) := pk_div (by omega) (by decide) (by decide)
    have g3 : rem (nI (c / 10)) (nI 10) = nI (c / 10 % 10) := rem_nI (by omega) (by decide) (by decide)
    have g4 : rem (nI c) (nI 10) = nI (c % 10) := rem_nI (by omega) (by decide) (by decide)
    obtain ⟨o, Bl1, Br1, Bf1, Bs1, B11, Qs1, Qw1, Qp1, Al1, Ak1, Nz1, Ns1, Nd1, Nl1, Nr1, Np1, Nu1, Ne1, El1, Er1, Mf1, Ms1, Mz1, Mo1, Md1, Mi1, Mt1, mw1, mz1, mn1, M11, Mn1, Mp1, Mr1, Mc1, row1, us, vs, e1, e2, hE1, hA1⟩ := cmdBoth Bl Br Bf Bs B1 Qs Qw Qp Al Ak Nz Ns Nd Nl Nr Np Nu Ne El Er Mf Ms Mz Mo Md Mi Mt mw mz mn M1 Mn Mp Mr Mc row hE hC hA (c := c) (h := c / 100) (a := c / 10 % 10) (b := c % 10) (by omega) (by omega) (by omega) (by omega)
    cases o with
    | false =>
      rw [b1_f] at e1 e2
      refine ⟨nI i, Bl1, Br1, Bf1, Bs1, B11, Qs1, Qw1, Qp1, Al1, Ak1, Nz1, Ns1, Nd1, Nl1, Nr1, Np1, Nu1, Ne1, El1, Er1, Mf1, Ms1, Mz1, Mo1, Md1, Mi1, Mt1, mw1, mz1, mn1, M11, Mn1, Mp1, Mr1, Mc1, row1, ?_, ?_, hA1⟩
      · rw [fx21_s]
        simp -implicitDefEqProofs (disch := omega) only [fX_runScript_43, litI, litL, nI_add, pk_mul, bd0_e, bd1_e, bd2_e, bd3_e, bd4_e, st_e, nI_leI, nI_ltI, nI_eq, if_pos, if_neg, if_true, if_false, ld_nI, sti_nI, stl_nI, bd5_e, bd6_e, bd7_e, bd8_e, bd9_e, bd10_e, bd11_e, bd12_e, bd13_e, bd14_e, bd15_e, bd16_e, bd17_e, bd21_e, f1, f2, f3, f5, f6, e1]
      · rw [fx17_s]
        simp -implicitDefEqProofs (disch := omega) only [fM_runScript_43, litI, litL, nI_add, pk_mul, bd0_e, bd1_e, bd2_e, bd3_e, bd4_e, st_e, nI_leI, nI_ltI, nI_eq, if_pos, if_neg, if_true, if_false, ld_nI, sti_nI, stl_nI, bd5_e, bd6_e, bd7_e, bd8_e, bd9_e, bd10_e, bd11_e, bd12_e, bd13_e, bd14_e, bd15_e, bd16_e, bd17_e, bd21_e, f1, f2, f4, f8, f7, f5, f6, g1, g2, g3, g4, e2]
    | true =>
      rw [b1_t] at e1 e2
      obtain ⟨r, Bl', Br', Bf', Bs', B1', Qs', Qw', Qp', Al', Ak', Nz', Ns', Nd', Nl', Nr', Np', Nu', Ne', El', Er', Mf', Ms', Mz', Mo', Md', Mi', Mt', mw', mz', mn', M1', Mn', Mp', Mr', Mc', row', a1, a2, a3⟩ := ih (i + 1) m1 m2 Bl1 Br1 Bf1 Bs1 B11 Qs1 Qw1 Qp1 Al1 Ak1 Nz1 Ns1 Nd1 Nl1 Nr1 Np1 Nu1 Ne1 El1 Er1 Mf1 Ms1 Mz1 Mo1 Md1 Mi1 Mt1 mw1 mz1 mn1 M11 Mn1 Mp1 Mr1 Mc1 row1 us vs (by omega) (by omega) (by omega) hE1 hA1
      refine ⟨r, Bl', Br', Bf', Bs', B1', Qs', Qw', Qp', Al', Ak', Nz', Ns', Nd', Nl', Nr', Np', Nu', Ne', El', Er', Mf', Ms', Mz', Mo', Md', Mi', Mt', mw', mz', mn', M1', Mn', Mp', Mr', Mc', row', ?_, ?_, a3⟩
      · rw [← a1, fx21_s]
        simp -implicitDefEqProofs (disch := omega) only [fX_runScript_43, litI, litL, nI_add, pk_mul, bd0_e, bd1_e, bd2_e, bd3_e, bd4_e, st_e, nI_leI, nI_ltI, nI_eq, if_pos, if_neg, if_true, if_false, ld_nI, sti_nI, stl_nI, bd5_e, bd6_e, bd7_e, bd8_e, bd9_e, bd10_e, bd11_e, bd12_e, bd13_e, bd14_e, bd15_e, bd16_e, bd17_e, bd21_e, f1, f2, f3, f5, f6, e1]
      · rw [← a2, fx17_s]
        simp -implicitDefEqProofs (disch := omega) only [fM_runScript_43, litI, litL, nI_add, pk_mul, bd0_e, bd1_e, bd2_e, bd3_e, bd4_e, st_e, nI_leI, nI_ltI, nI_eq, if_pos, if_neg, if_true, if_false, ld_nI, sti_nI, stl_nI, bd5_e, bd6_e, bd7_e, bd8_e, bd9_e, bd10_e, bd11_e, bd12_e, bd13_e, bd14_e, bd15_e, bd16_e, bd17_e, bd21_e, f1, f2, f4, f8, f7, f5, f6, g1, g2, g3, g4, e2]
set_option maxRecDepth 100000 in
theorem pRunScript {El Er : Int64} {now : Nat → Int32} {xs ys : List Nat} (h : RE El Er now xs ys) (hC : RC Cn Cv Cr Ck many con cs) {Al : Nat → Int64} {Ak : Nat → Int32} (hA : RAI Al Ak) (Bl Br : Int64) (Bf Bs : Int32) (B1 : Nat → Int32) (Qs : Int32) (Qw Qp : Nat → Int32) (Nz Ns Nd : Int32) (Nl Nr : Nat → Int64) (Np Nu Ne : Nat → Int32) (E2l E2r : Int64) (Mf Ms Mz Mo Md Mi : Int32) (Mt mw mz mn M1 Mn Mp Mr Mc row : Nat → Int32) (x1 : Int32) (x2 : Int64) :
    ∃ r Bl' Br' Bf' Bs' B1' Qs' Qw' Qp' Al' Ak' Nz' Ns' Nd' Nl' Nr' Np' Nu' Ne' El' Er' Mf' Ms' Mz' Mo' Md' Mi' Mt' mw' mz' mn' M1' Mn' Mp' Mr' Mc' row', fX_runScript El Er Bl Br Bf Bs B1 Qs Qw Qp Cn Cv Cr Ck Al Ak Nz Ns Nd Nl Nr Np Nu Ne E2l E2r x1 x2 = some (r, Bl', Br', Bf', Bs', B1', Qs', Qw', Qp', Al', Ak', Nz', Ns', Nd', Nl', Nr', Np', Nu', Ne', El', Er') ∧ fM_runScript many Mf Ms Mz Mo Md Mi now Mt con mw mz mn M1 Mn Mp Mr Mc row x1 x2 = some (r, Mf', Ms', Mz', Mo', Md', Mi', Mt', mw', mz', mn', M1', Mn', Mp', Mr', Mc', row') ∧ RAI Al' Ak' := by
  have bad : x1 < nI 1 ∨ nI 4 < x1 → ∃ r Bl' Br' Bf' Bs' B1' Qs' Qw' Qp' Al' Ak' Nz' Ns' Nd' Nl' Nr' Np' Nu' Ne' El' Er' Mf' Ms' Mz' Mo' Md' Mi' Mt' mw' mz' mn' M1' Mn' Mp' Mr' Mc' row', fX_runScript El Er Bl Br Bf Bs B1 Qs Qw Qp Cn Cv Cr Ck Al Ak Nz Ns Nd Nl Nr Np Nu Ne E2l E2r x1 x2 = some (r, Bl', Br', Bf', Bs', B1', Qs', Qw', Qp', Al', Ak', Nz', Ns', Nd', Nl', Nr', Np', Nu', Ne', El', Er') ∧ fM_runScript many Mf Ms Mz Mo Md Mi now Mt con mw mz mn M1 Mn Mp Mr Mc row x1 x2 = some (r, Mf', Ms', Mz', Mo', Md', Mi', Mt', mw', mz', mn', M1', Mn', Mp', Mr', Mc', row') ∧ RAI Al' Ak' := fun z => by
    have b : fM_in x1.toInt64 (lN 1) (lN 4) = some (nI 0) := by
      rw [mIn, ← nI_l (n := 1) (by decide), ← nI_l (n := 4) (by decide), if_pos (z.imp (fa_wide_lt _ _).mpr (fa_wide_lt _ _).mpr)]
      rfl
    refine ⟨-nI 2, Bl, Br, Bf, Bs, B1, Qs, Qw, Qp, Al, Ak, Nz, Ns, Nd, Nl, Nr, Np, Nu, Ne, E2l, E2r, Mf, Ms, Mz, Mo, Md, Mi, Mt, mw, mz, mn, M1, Mn, Mp, Mr, Mc, row, ?_, ?_, hA⟩
    · rcases z with z | z
      · simp -implicitDefEqProofs (disch := omega) only [fX_runScript, litI, litL, nI_add, pk_mul, bd0_e, bd1_e, bd2_e, bd3_e, bd4_e, st_e, nI_leI, nI_ltI, nI_eq, if_pos, if_neg, if_true, if_false, ld_nI, sti_nI, stl_nI, z]
      · simp -implicitDefEqProofs (disch := omega) only [fX_runScript, litI, litL, nI_add, pk_mul, bd0_e, bd1_e, bd2_e, bd3_e, bd4_e, st_e, nI_leI, nI_ltI, nI_eq, if_pos, if_neg, if_true, if_false, ld_nI, sti_nI, stl_nI, z, ite_self]
    · simp -implicitDefEqProofs (disch := omega) only [fM_runScript, litI, litL, nI_add, pk_mul, bd0_e, bd1_e, bd2_e, bd3_e, bd4_e, st_e, nI_leI, nI_ltI, nI_eq, if_pos, if_neg, if_true, if_false, ld_nI, sti_nI, stl_nI, b]
  by_cases z : x1 < nI 1 ∨ nI 4 < x1
  · exact bad z
  · obtain ⟨n, hn0, hn, rfl⟩ : ∃ n, 1 ≤ n ∧ n < 5 ∧ x1 = nI n := by
      rcases pk_ix x1 (n := 5) (by decide) with c | c | ⟨n, hn, rfl⟩
      · exact absurd (Or.inl (Int32.lt_trans c (by decide))) z
      · exact absurd (Or.inr (hi_of (n := 4) (by decide) c)) z
      · refine ⟨n, ?_, hn, rfl⟩
        rcases Nat.eq_zero_or_pos n with q | q
        · subst q; exact absurd (Or.inl (by decide)) z
        · exact q
    have b0 : fM_in (nI n).toInt64 (lN 1) (lN 4) = some (nI 1) := by
      rw [mIn, nI_l (by omega), if_neg]
      · rfl
      · rw [pk_lLT (by omega) (by omega), pk_lLT (by omega) (by omega)]; omega
    have th := mThousands hn
    obtain ⟨t1, t2⟩ := th_c n hn
    have hsub : lN (1000 ^ n) - lN 1 = lN (1000 ^ n - 1) := lN_sub (by omega)
    by_cases neg : x2 < lN 0
    · have c1 := (lgc_lt x2 (lN 0)).mpr neg
      have b1 : fM_in x2 (lN 0) (lN (1000 ^ n - 1)) = some (nI 0) := by rw [mIn, if_pos (Or.inl neg)]; rfl
      refine ⟨-nI 2, Bl, Br, Bf, Bs, B1, Qs, Qw, Qp, Al, Ak, Nz, Ns, Nd, Nl, Nr, Np, Nu, Ne, E2l, E2r, Mf, Ms, Mz, Mo, Md, Mi, Mt, mw, mz, mn, M1, Mn, Mp, Mr, Mc, row, ?_, ?_, hA⟩
      · simp -implicitDefEqProofs (disch := omega) only [fX_runScript, litI, litL, nI_add, pk_mul, bd0_e, bd1_e, bd2_e, bd3_e, bd4_e, st_e, nI_leI, nI_ltI, nI_eq, if_pos, if_neg, if_true, if_false, ld_nI, sti_nI, stl_nI, c1]
      · simp -implicitDefEqProofs (disch := omega) only [fM_runScript, litI, litL, nI_add, pk_mul, bd0_e, bd1_e, bd2_e, bd3_e, bd4_e, st_e, nI_leI, nI_ltI, nI_eq, if_pos, if_neg, if_true, if_false, ld_nI, sti_nI, stl_nI, b0, th, hsub, b1]
    · obtain ⟨q, hq, rfl⟩ := pk_lOf neg
      have c1 : ¬ lg_cmp (lN q) (lN 0) < nI 0 := fun y => neg ((lgc_lt _ _).mp y)
      have w := kWithout hn hq
      have hdl : q / 1000 ^ n < 2 ^ 63 := Nat.lt_of_le_of_lt (Nat.div_le_self _ _) hq
      have lz : lg_cmp (lN (q / 1000 ^ n)) (lN 0) = nI 0 ↔ q / 1000 ^ n = 0 := lgc hdl (by decide)
      by_cases big : q < 1000 ^ n
      · have c2 := lz.mpr (Nat.div_eq_of_lt big)
        have b1 : fM_in (lN q) (lN 0) (lN (1000 ^ n - 1)) = some (nI 1) := by
          rw [mIn, if_neg]
          · rfl
          · rw [pk_lLT (by omega) (by omega), pk_lLT (by omega) (by omega)]; omega
        obtain ⟨row1, cp, hcp⟩ := mCopy now row
        have hE1 : RE El Er row1 xs ys := ⟨h.1, h.2.1, h.2.2.1, h.2.2.2.1, h.2.2.2.2.cong hcp⟩
        obtain ⟨r, Bl', Br', Bf', Bs', B1', Qs', Qw', Qp', Al', Ak', Nz', Ns', Nd', Nl', Nr', Np', Nu', Ne', El', Er', Mf', Ms', Mz', Mo', Md', Mi', Mt', mw', mz', mn', M1', Mn', Mp', Mr', Mc', row', a1, a2, a3⟩ := scriptLoop hC hn hq n 0 FU FU Bl Br Bf Bs B1 Qs Qw Qp Al Ak Nz Ns Nd Nl Nr Np Nu Ne El Er Mf Ms Mz Mo Md Mi Mt mw mz mn M1 Mn Mp Mr Mc row1 xs ys (by omega) (fuel (by omega)) (fuel (by omega)) hE1 hA
        refine ⟨r, Bl', Br', Bf', Bs', B1', Qs', Qw', Qp', Al', Ak', Nz', Ns', Nd', Nl', Nr', Np', Nu', Ne', El', Er', Mf', Ms', Mz', Mo', Md', Mi', Mt', mw', mz', mn', M1', Mn', Mp', Mr', Mc', row', ?_, ?_, a3⟩
        · rw [← a1]
          simp -implicitDefEqProofs (disch := omega) only [fX_runScript, fK_begin, fE_set, litI, litL, nI_add, pk_mul, bd0_e, bd1_e, bd2_e, bd3_e, bd4_e, st_e, nI_leI, nI_ltI, nI_eq, if_pos, if_neg, if_true, if_false, ld_nI, sti_nI, stl_nI, bd5_e, bd6_e, bd7_e, bd8_e, bd9_e, bd10_e, bd11_e, c1, w, c2]
        · rw [← a2]
          simp -implicitDefEqProofs (disch := omega) only [fM_runScript, litI, litL, nI_add, pk_mul, bd0_e, bd1_e, bd2_e, bd3_e, bd4_e, st_e, nI_leI, nI_ltI, nI_eq, if_pos, if_neg, if_true, if_false, ld_nI, sti_nI, stl_nI, bd5_e, bd6_e, bd7_e, bd8_e, bd9_e, bd10_e, bd11_e, b0, th, hsub, b1, cp]
      · have c2 : ¬ lg_cmp (lN (q / 1000 ^ n)) (lN 0) = nI 0 := fun y => by
          have y := lz.mp y
          have := Nat.div_pos (a := q) (b := 1000 ^ n) (by omega) t1
          omega
        have b1 : fM_in (lN q) (lN 0) (lN (1000 ^ n - 1)) = some (nI 0) := by
          rw [mIn, if_pos (Or.inr ?_)]
          · rfl
          · rw [pk_lLT (by omega) hq]; omega
        refine ⟨-nI 2, Bl, Br, Bf, Bs, B1, Qs, Qw, Qp, Al, Ak, Nz, Ns, Nd, Nl, Nr, Np, Nu, Ne, E2l, E2r, Mf, Ms, Mz, Mo, Md, Mi, Mt, mw, mz, mn, M1, Mn, Mp, Mr, Mc, row, ?_, ?_, hA⟩
        · simp -implicitDefEqProofs (disch := omega) only [fX_runScript, litI, litL, nI_add, pk_mul, bd0_e, bd1_e, bd2_e, bd3_e, bd4_e, st_e, nI_leI, nI_ltI, nI_eq, if_pos, if_neg, if_true, if_false, ld_nI, sti_nI, stl_nI, c1, w, c2]
        · simp -implicitDefEqProofs (disch := omega) only [fM_runScript, litI, litL, nI_add, pk_mul, bd0_e, bd1_e, bd2_e, bd3_e, bd4_e, st_e, nI_leI, nI_ltI, nI_eq, if_pos, if_neg, if_true, if_false, ld_nI, sti_nI, stl_nI, b0, th, hsub, b1]
end SR
