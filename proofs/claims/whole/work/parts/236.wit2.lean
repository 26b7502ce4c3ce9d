/-! the witness, in both -/
section WB
variable {s : SS} {Nz Ns Nd : Int32} {Nl Nr : Nat → Int64} {Np Nu Ne : Nat → Int32} {Mz Ms Md Mf Mq : Int32} {Mn Mp Mr Mc Mo : Nat → Int32}
set_option maxRecDepth 100000 in
theorem RA.wl {Al : Nat → Int64} {Ak : Nat → Int32} {w : Nat → List Nat} (h : RA Al Ak w 60) : WL w := fun s hs => (h s hs).1
set_option maxRecDepth 100000 in
theorem WM.clear {wt ws : Nat → Int32} {w : Nat → List Nat} (h : WM wt ws w) {v : Nat} (hv : v < 4) : WM wt (upd ws v (nI 0)) (setW w (v + 2) []) := by
  intro u hu
  rw [upd_e]
  by_cases q : u = v
  · rw [q, setW_at, if_pos rfl]
    exact ⟨rfl, fun k hk => absurd hk (Nat.not_lt_zero _)⟩
  · rw [setW_ne (by omega), if_neg q]
    exact h u hu
set_option maxRecDepth 100000 in
theorem mTake (hI : INV s) (h : RM s Mz Ms Md Mn Mp Mr) {wt ws : Nat → Int32} {w : Nat → List Nat} (h0 : W0 w) (hW : WM wt ws w) (hL : WL w) {i k n : Nat} {m : ND} (hi : i < s.1.length) (hi0 : 0 < i) (hk : k < 200) (ho : Mo k = nI i) (hm : s.1[prt s i]? = some m) (hap : apB (rul s i) m.1 m.2.1 = true) (hr5 : rul s i < 5) (bu Mt : Nat → Int32) :
    (∃ w', tkS (rul s i) (m.1.headD 0) (m.2.1.headD 0) w = some w' ∧ ∃ Mt' wt' ws' bu', fx6 (fM_layWitness_41 Mz Ms Md Mf Mq Mn Mp Mr Mc Mo) (n + 1) (nI 0) Mt wt ws bu (nI k) = fx6 (fM_layWitness_41 Mz Ms Md Mf Mq Mn Mp Mr Mc Mo) n (nI 0) Mt' wt' ws' bu' (nI k - nI 1) ∧ WM wt' ws' w') ∨ (tkS (rul s i) (m.1.headD 0) (m.2.1.headD 0) w = none ∧ ∃ Mt', fx6 (fM_layWitness_41 Mz Ms Md Mf Mq Mn Mp Mr Mc Mo) (n + 1) (nI 0) Mt wt ws bu (nI k) = fx6 (fM_layWitness_41 Mz Ms Md Mf Mq Mn Mp Mr Mc Mo) n (nI 1) Mt' wt ws bu (nI k - nI 1)) := by
  have hLn := hI.2.1
  have hpl := (List.getElem?_eq_some_iff.mp hm).1
  obtain ⟨hx, hy⟩ := hI.2.2.2 _ m hm
  obtain ⟨e3, e4⟩ := RMf h hi hi0
  obtain ⟨g, l1, l2⟩ := mLayNode (Mn := Mn) (i := prt s i) (by omega) Mt
  have hrow : rowIs g m.1 m.2.1 := (h.2.2.2 _ m hm).1.cong l2
  have e5 := hrow.s0 (i := 0) (by decide)
  have e6 := hrow.s1 (i := 0) (by decide)
  have es : nI k + -nI 1 = nI k - nI 1 := (Int32.sub_eq_add_neg _ _).symm
  generalize rul s i = r at *
  obtain ⟨xs, ys, rest⟩ := m
  have hx : okS 12 xs := hx
  have hy : okS 12 ys := hy
  have hap : apB r xs ys = true := hap
  have e5 : g 2 = nI (xs.getD 0 0) := e5
  have e6 : g 14 = nI (ys.getD 0 0) := e6
  have x6 := getD_lt6 hx.2 0
  have y6 := getD_lt6 hy.2 0
  show (∃ w', tkS r (xs.headD 0) (ys.headD 0) w = some w' ∧ _) ∨ (tkS r (xs.headD 0) (ys.headD 0) w = none ∧ _)
  rcases (show r = 0 ∨ r = 1 ∨ r = 2 ∨ r = 3 ∨ r = 4 by omega) with rfl | rfl | rfl | rfl | rfl
  · refine Or.inl ⟨w, rfl, g, wt, ws, bu, ?_, hW⟩
    simp -implicitDefEqProofs (disch := omega) only [fx6_s, fM_layWitness_41, litI, litL, nI_add, pk_mul, bd0_e, bd1_e, bd2_e, bd3_e, bd4_e, st_e, nI_leI, nI_ltI, nI_eq, if_pos, if_neg, if_true, if_false, ld_nI, sti_nI, stl_nI, ho, e3, e4, l1, mAt, e5, e6]
    simp -implicitDefEqProofs (disch := omega) only [fM_layWitness_135, litI, litL, nI_add, pk_mul, bd0_e, bd1_e, bd2_e, bd3_e, bd4_e, st_e, nI_leI, nI_ltI, nI_eq, if_pos, if_neg, if_true, if_false, ld_nI, sti_nI, stl_nI]
    simp -implicitDefEqProofs (disch := omega) only [fM_layWitness_149, litI, litL, nI_add, pk_mul, bd0_e, bd1_e, bd2_e, bd3_e, bd4_e, st_e, nI_leI, nI_ltI, nI_eq, if_pos, if_neg, if_true, if_false, ld_nI, sti_nI, stl_nI, es]
  · obtain ⟨a, xt, rfl, ha⟩ := apB_1 hap
    have ha6 := hx.2 a List.mem_cons_self
    obtain ⟨v, rfl⟩ : ∃ v, a = v + 2 := ⟨a - 2, by omega⟩
    have ev : nI (v + 2) - nI 2 = nI v := by rw [pk_sub (by omega), Nat.add_sub_cancel]
    have e5 : g 2 = nI (v + 2) := e5
    refine Or.inl ⟨setW w (v + 2) [], rfl, g, wt, upd ws v (nI 0), bu, ?_, hW.clear (by omega)⟩
    simp -implicitDefEqProofs (disch := omega) only [fx6_s, fM_layWitness_41, litI, litL, nI_add, pk_mul, bd0_e, bd1_e, bd2_e, bd3_e, bd4_e, st_e, nI_leI, nI_ltI, nI_eq, if_pos, if_neg, if_true, if_false, ld_nI, sti_nI, stl_nI, ho, e3, e4, l1, mAt, e5, e6]
    simp -implicitDefEqProofs (disch := omega) only [fM_layWitness_116, litI, litL, nI_add, pk_mul, bd0_e, bd1_e, bd2_e, bd3_e, bd4_e, st_e, nI_leI, nI_ltI, nI_eq, if_pos, if_neg, if_true, if_false, ld_nI, sti_nI, stl_nI]
    simp -implicitDefEqProofs (disch := omega) only [fM_layWitness_131, litI, litL, nI_add, pk_mul, bd0_e, bd1_e, bd2_e, bd3_e, bd4_e, st_e, nI_leI, nI_ltI, nI_eq, if_pos, if_neg, if_true, if_false, ld_nI, sti_nI, stl_nI, ev]
    simp -implicitDefEqProofs (disch := omega) only [fM_layWitness_135, litI, litL, nI_add, pk_mul, bd0_e, bd1_e, bd2_e, bd3_e, bd4_e, st_e, nI_leI, nI_ltI, nI_eq, if_pos, if_neg, if_true, if_false, ld_nI, sti_nI, stl_nI]
    simp -implicitDefEqProofs (disch := omega) only [fM_layWitness_149, litI, litL, nI_add, pk_mul, bd0_e, bd1_e, bd2_e, bd3_e, bd4_e, st_e, nI_leI, nI_ltI, nI_eq, if_pos, if_neg, if_true, if_false, ld_nI, sti_nI, stl_nI, es]
  · obtain ⟨a, xt, rfl, ha⟩ := apB_2 hap
    have ha6 := hy.2 a List.mem_cons_self
    obtain ⟨v, rfl⟩ : ∃ v, a = v + 2 := ⟨a - 2, by omega⟩
    have ev : nI (v + 2) - nI 2 = nI v := by rw [pk_sub (by omega), Nat.add_sub_cancel]
    have e6 : g 14 = nI (v + 2) := e6
    refine Or.inl ⟨setW w (v + 2) [], rfl, g, wt, upd ws v (nI 0), bu, ?_, hW.clear (by omega)⟩
    simp -implicitDefEqProofs (disch := omega) only [fx6_s, fM_layWitness_41, litI, litL, nI_add, pk_mul, bd0_e, bd1_e, bd2_e, bd3_e, bd4_e, st_e, nI_leI, nI_ltI, nI_eq, if_pos, if_neg, if_true, if_false, ld_nI, sti_nI, stl_nI, ho, e3, e4, l1, mAt, e5, e6]
    simp -implicitDefEqProofs (disch := omega) only [fM_layWitness_116, litI, litL, nI_add, pk_mul, bd0_e, bd1_e, bd2_e, bd3_e, bd4_e, st_e, nI_leI, nI_ltI, nI_eq, if_pos, if_neg, if_true, if_false, ld_nI, sti_nI, stl_nI]
    simp -implicitDefEqProofs (disch := omega) only [fM_layWitness_131, litI, litL, nI_add, pk_mul, bd0_e, bd1_e, bd2_e, bd3_e, bd4_e, st_e, nI_leI, nI_ltI, nI_eq, if_pos, if_neg, if_true, if_false, ld_nI, sti_nI, stl_nI, ev]
    simp -implicitDefEqProofs (disch := omega) only [fM_layWitness_135, litI, litL, nI_add, pk_mul, bd0_e, bd1_e, bd2_e, bd3_e, bd4_e, st_e, nI_leI, nI_ltI, nI_eq, if_pos, if_neg, if_true, if_false, ld_nI, sti_nI, stl_nI]
    simp -implicitDefEqProofs (disch := omega) only [fM_layWitness_149, litI, litL, nI_add, pk_mul, bd0_e, bd1_e, bd2_e, bd3_e, bd4_e, st_e, nI_leI, nI_ltI, nI_eq, if_pos, if_neg, if_true, if_false, ld_nI, sti_nI, stl_nI, es]
  · obtain ⟨a, xt, b, yt, rfl, rfl, ha⟩ := apB_3 hap
    have ha6 := hx.2 a List.mem_cons_self
    have hb6 := hy.2 b List.mem_cons_self
    obtain ⟨v, rfl⟩ : ∃ v, a = v + 2 := ⟨a - 2, by omega⟩
    have ev : nI (v + 2) - nI 2 = nI v := by rw [pk_sub (by omega), Nat.add_sub_cancel]
    have e5 : g 2 = nI (v + 2) := e5
    have e6 : g 14 = nI b := e6
    obtain ⟨p1, p2⟩ := mPutAhead (v := v) (by omega) hb6 h0 hW hL bu
    by_cases q : (w b).length + (w (v + 2)).length ≤ 60
    · obtain ⟨wt', ws', bu', g1, g2⟩ := p1 q
      refine Or.inl ⟨setW w (v + 2) (w b ++ w (v + 2)), if_pos q, g, wt', ws', bu', ?_, g2⟩
      simp -implicitDefEqProofs (disch := omega) only [fx6_s, fM_layWitness_41, litI, litL, nI_add, pk_mul, bd0_e, bd1_e, bd2_e, bd3_e, bd4_e, st_e, nI_leI, nI_ltI, nI_eq, if_pos, if_neg, if_true, if_false, ld_nI, sti_nI, stl_nI, ho, e3, e4, l1, mAt, e5, e6]
      simp -implicitDefEqProofs (disch := omega) only [fM_layWitness_135, litI, litL, nI_add, pk_mul, bd0_e, bd1_e, bd2_e, bd3_e, bd4_e, st_e, nI_leI, nI_ltI, nI_eq, if_pos, if_neg, if_true, if_false, ld_nI, sti_nI, stl_nI, ev, g1]
      simp -implicitDefEqProofs (disch := omega) only [fM_layWitness_149, litI, litL, nI_add, pk_mul, bd0_e, bd1_e, bd2_e, bd3_e, bd4_e, st_e, nI_leI, nI_ltI, nI_eq, if_pos, if_neg, if_true, if_false, ld_nI, sti_nI, stl_nI, es, ev, g1]
    · have g1 := p2 q
      refine Or.inr ⟨if_neg q, g, ?_⟩
      simp -implicitDefEqProofs (disch := omega) only [fx6_s, fM_layWitness_41, litI, litL, nI_add, pk_mul, bd0_e, bd1_e, bd2_e, bd3_e, bd4_e, st_e, nI_leI, nI_ltI, nI_eq, if_pos, if_neg, if_true, if_false, ld_nI, sti_nI, stl_nI, ho, e3, e4, l1, mAt, e5, e6]
      simp -implicitDefEqProofs (disch := omega) only [fM_layWitness_135, litI, litL, nI_add, pk_mul, bd0_e, bd1_e, bd2_e, bd3_e, bd4_e, st_e, nI_leI, nI_ltI, nI_eq, if_pos, if_neg, if_true, if_false, ld_nI, sti_nI, stl_nI, ev, g1]
      simp -implicitDefEqProofs (disch := omega) only [fM_layWitness_149, litI, litL, nI_add, pk_mul, bd0_e, bd1_e, bd2_e, bd3_e, bd4_e, st_e, nI_leI, nI_ltI, nI_eq, if_pos, if_neg, if_true, if_false, ld_nI, sti_nI, stl_nI, es, ev, g1]
  · obtain ⟨a, xt, b, yt, rfl, rfl, hb⟩ := apB_4 hap
    have ha6 := hx.2 a List.mem_cons_self
    have hb6 := hy.2 b List.mem_cons_self
    obtain ⟨v, rfl⟩ : ∃ v, b = v + 2 := ⟨b - 2, by omega⟩
    have ev : nI (v + 2) - nI 2 = nI v := by rw [pk_sub (by omega), Nat.add_sub_cancel]
    have e5 : g 2 = nI a := e5
    have e6 : g 14 = nI (v + 2) := e6
    obtain ⟨p1, p2⟩ := mPutAhead (v := v) (by omega) ha6 h0 hW hL bu
    by_cases q : (w a).length + (w (v + 2)).length ≤ 60
    · obtain ⟨wt', ws', bu', g1, g2⟩ := p1 q
      refine Or.inl ⟨setW w (v + 2) (w a ++ w (v + 2)), if_pos q, g, wt', ws', bu', ?_, g2⟩
      simp -implicitDefEqProofs (disch := omega) only [fx6_s, fM_layWitness_41, litI, litL, nI_add, pk_mul, bd0_e, bd1_e, bd2_e, bd3_e, bd4_e, st_e, nI_leI, nI_ltI, nI_eq, if_pos, if_neg, if_true, if_false, ld_nI, sti_nI, stl_nI, ho, e3, e4, l1, mAt, e5, e6]
      simp -implicitDefEqProofs (disch := omega) only [fM_layWitness_135, litI, litL, nI_add, pk_mul, bd0_e, bd1_e, bd2_e, bd3_e, bd4_e, st_e, nI_leI, nI_ltI, nI_eq, if_pos, if_neg, if_true, if_false, ld_nI, sti_nI, stl_nI, ev, g1]
      simp -implicitDefEqProofs (disch := omega) only [fM_layWitness_149, litI, litL, nI_add, pk_mul, bd0_e, bd1_e, bd2_e, bd3_e, bd4_e, st_e, nI_leI, nI_ltI, nI_eq, if_pos, if_neg, if_true, if_false, ld_nI, sti_nI, stl_nI, es, ev, g1]
    · have g1 := p2 q
      refine Or.inr ⟨if_neg q, g, ?_⟩
      simp -implicitDefEqProofs (disch := omega) only [fx6_s, fM_layWitness_41, litI, litL, nI_add, pk_mul, bd0_e, bd1_e, bd2_e, bd3_e, bd4_e, st_e, nI_leI, nI_ltI, nI_eq, if_pos, if_neg, if_true, if_false, ld_nI, sti_nI, stl_nI, ho, e3, e4, l1, mAt, e5, e6]
      simp -implicitDefEqProofs (disch := omega) only [fM_layWitness_135, litI, litL, nI_add, pk_mul, bd0_e, bd1_e, bd2_e, bd3_e, bd4_e, st_e, nI_leI, nI_ltI, nI_eq, if_pos, if_neg, if_true, if_false, ld_nI, sti_nI, stl_nI, ev, g1]
      simp -implicitDefEqProofs (disch := omega) only [fM_layWitness_149, litI, litL, nI_add, pk_mul, bd0_e, bd1_e, bd2_e, bd3_e, bd4_e, st_e, nI_leI, nI_ltI, nI_eq, if_pos, if_neg, if_true, if_false, ld_nI, sti_nI, stl_nI, es, ev, g1]
set_option maxRecDepth 100000 in
theorem bothBuild (hI : INV s) (hP : PI s) (hN : RN s Nz Ns Nd Nl Nr Np Nu Ne) (hM : RM s Mz Ms Md Mn Mp Mr) {j : Nat} (hs : s.2.1 = some j) (ho : ∀ k, k < dep s j → Mo k = nI (anc s (dep s j - 1 - k) j)) :
    ∀ (d t m1 m2 : Nat) (Al : Nat → Int64) (Ak Mt wt ws bu : Nat → Int32) (w : Nat → List Nat), t + d = dep s j → d < m1 → d < m2 → RA Al Ak w 60 → W0 w → WM wt ws w →
      ∃ o Al' Ak' tl' Mt' wt' ws' bu', fx4 (fN_buildWitness_14 Nz Nl Nr Np Nu) m1 Al Ak (nI (anc s t j)) (nI (dep s j - t)) = some (nI (b1 o), Al', Ak') ∧ RAI Al' Ak' ∧ fx6 (fM_layWitness_41 Mz Ms Md Mf Mq Mn Mp Mr Mc Mo) m2 (nI 0) Mt wt ws bu (nI (dep s j - t) - nI 1) = some (nI (b1 o), Mz, Ms, Md, Mf, Mq, tl', Mt', Mn, Mp, Mr, Mc, Mo, wt', ws', bu') ∧ (o = true → ∃ w', RA Al' Ak' w' 60 ∧ WM wt' ws' w') := by
  have hj := hI.2.2.1 j hs
  have hLn := hI.2.1
  have hd := dep_le hP j j (Nat.le_refl _) hj
  have e0 := hN.1
  subst e0
  intro d
  induction d with
  | zero =>
    intro t m1 m2 Al Ak Mt wt ws bu w ht h1 h2 hA h0 hW
    obtain ⟨m1, rfl⟩ := succ_of h1
    obtain ⟨m2, rfl⟩ := succ_of h2
    have ez := dn_0
    rw [show dep s j - t = 0 by omega]
    refine ⟨true, Al, Ak, nI 0, Mt, wt, ws, bu, ?_, hA.rai h0, ?_, fun _ => ⟨w, hA, hW⟩⟩
    · rw [b1_t]
      simp -implicitDefEqProofs (disch := omega) only [fx4_s, fN_buildWitness_14, litI, litL, nI_add, pk_mul, bd0_e, bd1_e, bd2_e, bd3_e, bd4_e, st_e, nI_leI, nI_ltI, nI_eq, if_pos, if_neg, if_true, if_false, ld_nI, sti_nI, stl_nI]
    · rw [b1_t]
      simp -implicitDefEqProofs (disch := omega) only [fx6_s, fM_layWitness_41, fM_layWitness_169, litI, litL, nI_add, pk_mul, bd0_e, bd1_e, bd2_e, bd3_e, bd4_e, st_e, nI_leI, nI_ltI, nI_eq, if_pos, if_neg, if_true, if_false, ld_nI, sti_nI, stl_nI, ez]
  | succ d ih =>
    intro t m1 m2 Al Ak Mt wt ws bu w ht h1 h2 hA h0 hW
    obtain ⟨m1, rfl⟩ := succ_of h1
    obtain ⟨m2, rfl⟩ := succ_of h2
    obtain ⟨a1, a2⟩ := anc_ok hP hj t (by omega)
    have a3 := anc_pos hP hj (t := t) (by omega)
    have hg := List.getElem?_eq_getElem a1
    obtain ⟨-, b⟩ := hP _ _ hg
    obtain ⟨b1, b2, m, b3, b4, b5⟩ := b a3
    have ep : prt s (anc s t j) = s.1[anc s t j].2.2.1 := by unfold prt; rw [hg]
    have er : rul s (anc s t j) = s.1[anc s t j].2.2.2.1 := by unfold rul; rw [hg]
    rw [← ep] at b3 b1
    rw [← er] at b2 b5
    have e1 := nIsNode hI a1
    have e3 := (RNf hN a1).1 a3
    have e5 := dnn (a := dep s j - t) (by omega)
    have e6 : nI (dep s j - t) - nI 1 = nI (dep s j - t - 1) := pk_sub (by omega)
    have hok := ho (dep s j - t - 1) (by omega)
    rw [show dep s j - 1 - (dep s j - t - 1) = t by omega] at hok
    have hN' := nTake hI hP hN hA h0 a1 a3 b3 b5 b2
    have hM' := mTake (Mf := Mf) (Mq := Mq) (Mc := Mc) (Mo := Mo) (n := m2) hI hM h0 hW hA.wl a1 a3 (k := dep s j - t - 1) (by omega) hok b3 b5 b2 bu Mt
    rw [e6]
    rcases hN' with ⟨w', c1, c2, Al1, Ak1, c3, c4⟩ | ⟨c1, c2⟩
    · rcases hM' with ⟨w2, f1, Mt1, wt1, ws1, bu1, f2, f3⟩ | ⟨f1, -⟩
      · obtain rfl : w' = w2 := Option.some.inj (c1.symm.trans f1)
        obtain ⟨o, Al', Ak', tl', Mt', wt', ws', bu', g1, g2, g3, g4⟩ := ih (t + 1) m1 m2 Al1 Ak1 Mt1 wt1 ws1 bu1 w' (by omega) (by omega) (by omega) c4 c2 f3
        rw [show dep s j - (t + 1) = dep s j - t - 1 by omega] at g1 g3
        rw [anc] at g1
        refine ⟨o, Al', Ak', tl', Mt', wt', ws', bu', ?_, g2, ?_, g4⟩
        · rw [← g1]
          simp -implicitDefEqProofs (disch := omega) only [fx4_s, fN_buildWitness_14, litI, litL, nI_add, pk_mul, bd0_e, bd1_e, bd2_e, bd3_e, bd4_e, st_e, nI_leI, nI_ltI, nI_eq, if_pos, if_neg, if_true, if_false, ld_nI, sti_nI, stl_nI, e1, c3, e3, e5]
        · rw [← g3]; exact f2
      · rw [c1] at f1; cases f1
    · rcases hM' with ⟨w2, f1, -⟩ | ⟨f1, Mt1, f2⟩
      · rw [c1] at f1; cases f1
      · obtain ⟨m2, rfl⟩ := succ_of (show 0 < m2 by omega)
        refine ⟨false, Al, Ak, nI 1, Mt1, wt, ws, bu, ?_, hA.rai h0, ?_, fun z => by cases z⟩
        · simp -implicitDefEqProofs (disch := omega) only [fx4_s, fN_buildWitness_14, litI, litL, nI_add, pk_mul, bd0_e, bd1_e, bd2_e, bd3_e, bd4_e, st_e, nI_leI, nI_ltI, nI_eq, if_pos, if_neg, if_true, if_false, ld_nI, sti_nI, stl_nI, e1, c2, b1_f]
        · refine f2.trans ?_
          rw [fx6_s]
          simp -implicitDefEqProofs (disch := omega) only [fM_layWitness_41, fM_layWitness_169, litI, litL, nI_add, pk_mul, bd0_e, bd1_e, bd2_e, bd3_e, bd4_e, st_e, nI_leI, nI_ltI, nI_eq, if_pos, if_neg, if_true, if_false, ld_nI, sti_nI, stl_nI, ite_self, b1_f]
end WB
set_option maxRecDepth 100000 in
theorem aEmpty {Al : Nat → Int64} {Ak : Nat → Int32} (h : RAI Al Ak) : ∃ Al' Ak', fA_empty Al Ak = some (Al', Ak') ∧ RA Al' Ak' (fun s => if s < 2 then [s] else []) 60 := by
  have key : ∀ (d i m : Nat) (Al : Nat → Int64) (Ak : Nat → Int32), i + d = 4 → d < m → RAI Al Ak → (∀ v, v < i → Ak (v + 3) = nI 0 ∧ Al (v + 3) = lN 0) → ∃ Al' Ak', fx3 fA_empty_2 m Al Ak (nI i) = some (Al', Ak') ∧ RAI Al' Ak' ∧ ∀ v, v < 4 → Ak' (v + 3) = nI 0 ∧ Al' (v + 3) = lN 0 := by
    intro d
    induction d with
    | zero =>
      intro i m Al Ak hi hm hA hv
      obtain ⟨m, rfl⟩ := succ_of hm
      refine ⟨Al, Ak, ?_, hA, fun v h => hv v (by omega)⟩
      simp -implicitDefEqProofs (disch := omega) only [fx3_s, fA_empty_2, litI, litL, nI_add, pk_mul, bd0_e, bd1_e, bd2_e, bd3_e, bd4_e, st_e, nI_leI, nI_ltI, nI_eq, if_pos, if_neg, if_true, if_false, ld_nI, sti_nI, stl_nI]
    | succ d ih =>
      intro i m Al Ak hi hm hA hv
      obtain ⟨m, rfl⟩ := succ_of hm
      have eg := aGive (v := i) (k := 0) (by omega) Al Ak (lN 0)
      obtain ⟨Al', Ak', e, h1, h2⟩ := ih (i + 1) m (vp_updL Al (i + 3) (lN 0)) (upd Ak (i + 3) (nI 0)) (by omega) (by omega) (hA.give _ _) (fun v h => by
        rw [upd_e, updL_e]
        by_cases q : v = i
        · rw [if_pos (by omega), if_pos (by omega)]; exact ⟨rfl, rfl⟩
        · rw [if_neg (by omega), if_neg (by omega)]; exact hv v (by omega))
      refine ⟨Al', Ak', ?_, h1, h2⟩
      rw [← e]
      simp -implicitDefEqProofs (disch := omega) only [fx3_s, fA_empty_2, zVar, litI, litL, nI_add, pk_mul, bd0_e, bd1_e, bd2_e, bd3_e, bd4_e, st_e, nI_leI, nI_ltI, nI_eq, if_pos, if_neg, if_true, if_false, ld_nI, sti_nI, stl_nI, eg]
  obtain ⟨Al', Ak', e, ⟨h1, h2, h3, h4⟩, hv⟩ := key 4 0 FU Al Ak (by omega) (fuel (by omega)) h (fun v h => absurd h (Nat.not_lt_zero _))
  refine ⟨Al', Ak', e, fun s hs => ?_⟩
  rcases (show s = 0 ∨ s = 1 ∨ ∃ v, v < 4 ∧ s = v + 2 by
    by_cases q : s < 2
    · rcases (show s = 0 ∨ s = 1 by omega) with z | z
      · exact Or.inl z
      · exact Or.inr (Or.inl z)
    · exact Or.inr (Or.inr ⟨s - 2, by omega, by omega⟩)) with rfl | rfl | ⟨v, hv4, rfl⟩
  · exact ⟨(by decide : (1 : Nat) ≤ 60), fun b hb => by rw [List.mem_singleton.mp hb]; decide, h1, h3⟩
  · exact ⟨(by decide : (1 : Nat) ≤ 60), fun b hb => by rw [List.mem_singleton.mp hb]; decide, h2, h4⟩
  · obtain ⟨a, b⟩ := hv v hv4
    show (if v + 2 < 2 then [v + 2] else []).length ≤ 60 ∧ bits (if v + 2 < 2 then [v + 2] else []) ∧ Ak' (v + 3) = nI (if v + 2 < 2 then [v + 2] else []).length ∧ Al' (v + 3) = lN (vl 0 (if v + 2 < 2 then [v + 2] else []))
    rw [if_neg (by omega)]
    exact ⟨by decide, bits_nil, a, b⟩
set_option maxRecDepth 100000 in
theorem mWit16 {Mz Ms Md Mf Mq tl : Int32} {Mt Mn Mp Mr Mc Mo wt bu : Nat → Int32} (ws : Nat → Int32) : ∃ ws', fx2 (fM_layWitness_16 Mz Ms Md Mf Mq tl Mt Mn Mp Mr Mc Mo wt bu) FU ws (nI 0) = fx6 (fM_layWitness_41 Mz Ms Md Mf Mq Mn Mp Mr Mc Mo) FU tl Mt wt ws' bu (Mq - nI 1) ∧ ∀ v, v < 4 → ws' v = nI 0 := by
  have key : ∀ (d i m : Nat) (ws : Nat → Int32), i + d = 4 → d < m → (∀ v, v < i → ws v = nI 0) → ∃ ws', fx2 (fM_layWitness_16 Mz Ms Md Mf Mq tl Mt Mn Mp Mr Mc Mo wt bu) m ws (nI i) = fx6 (fM_layWitness_41 Mz Ms Md Mf Mq Mn Mp Mr Mc Mo) FU tl Mt wt ws' bu (Mq - nI 1) ∧ ∀ v, v < 4 → ws' v = nI 0 := by
    intro d
    induction d with
    | zero =>
      intro i m ws hi hm hv
      obtain ⟨m, rfl⟩ := succ_of hm
      refine ⟨ws, ?_, fun v h => hv v (by omega)⟩
      simp -implicitDefEqProofs (disch := omega) only [fx2_s, fM_layWitness_16, litI, litL, nI_add, pk_mul, bd0_e, bd1_e, bd2_e, bd3_e, bd4_e, st_e, nI_leI, nI_ltI, nI_eq, if_pos, if_neg, if_true, if_false, ld_nI, sti_nI, stl_nI]
    | succ d ih =>
      intro i m ws hi hm hv
      obtain ⟨m, rfl⟩ := succ_of hm
      obtain ⟨ws', e, h⟩ := ih (i + 1) m (upd ws i (nI 0)) (by omega) (by omega) (fun v h => by
        rw [upd_e]
        by_cases q : v = i
        · rw [if_pos q]
        · rw [if_neg q]; exact hv v (by omega))
      refine ⟨ws', ?_, h⟩
      rw [← e]
      simp -implicitDefEqProofs (disch := omega) only [fx2_s, fM_layWitness_16, litI, litL, nI_add, pk_mul, bd0_e, bd1_e, bd2_e, bd3_e, bd4_e, st_e, nI_leI, nI_ltI, nI_eq, if_pos, if_neg, if_true, if_false, ld_nI, sti_nI, stl_nI]
  exact key 4 0 FU ws (by omega) (fuel (by omega)) (fun v h => absurd h (Nat.not_lt_zero _))
set_option maxRecDepth 100000 in
/-- the two together: answer of the search 1 and a witness that isn't too long, or neither -/
theorem bothWitness {row : Nat → Int32} {xs ys : List Nat} (hr : rowIs row xs ys) (hx : okS 12 xs) (hy : okS 12 ys) {Al : Nat → Int64} {Ak : Nat → Int32} (hA : RAI Al Ak) (Nl Nr : Nat → Int64) (Np Nu Ne : Nat → Int32) (Mf Mq Ml : Int32) (Mt Mn Mp Mr Mc Mo wt ws bu : Nat → Int32) :
    ∃ g Nz' Ns' Nd' Nl' Nr' Np' Nu' Ne' b Mz' Ms' Md' Mf' Mq' Ml' Mt' Mn' Mp' Mr' Mc' Mo' wt' ws' bu' Al' Ak', fN_answerFor Nl Nr Np Nu Ne (lN (pq xs)) (lN (pq ys)) = some (nI g, Nz', Ns', Nd', Nl', Nr', Np', Nu', Ne') ∧ fM_layWitness Mf Mq Ml row Mt Mn Mp Mr Mc Mo wt ws bu = some (nI (b1 b), Mz', Ms', Md', Mf', Mq', Ml', Mt', Mn', Mp', Mr', Mc', Mo', wt', ws', bu') ∧ RAI Al' Ak' ∧
      (((g = 0 ∨ g = 2) ∧ b = false ∧ Al' = Al ∧ Ak' = Ak) ∨ (g = 1 ∧ fN_buildWitness Nz' Ns' Nl' Nr' Np' Nu' Ne' Al Ak = some (nI (b1 b), Al', Ak') ∧ (b = true → ∃ w, RA Al' Ak' w 60 ∧ WM wt' ws' w))) := by
  obtain ⟨hI, hP, Nz', Ns', Nd', Nl', Nr', Np', Nu', Ne', b, Mz', Ms', Md', Mf', Mq', Mt', Mn', Mp', Mr', Mc', Mo', a1, a2, a3, a4, a5⟩ := bothProof hr hx hy Nl Nr Np Nu Ne Mf Mq Mt Mn Mp Mr Mc Mo
  generalize srS xs ys = s at *
  rcases a5 with ⟨hs, rfl, z⟩ | ⟨rfl, z, j, hs, rfl, ho⟩
  · refine ⟨ansS s, Nz', Ns', Nd', Nl', Nr', Np', Nu', Ne', false, Mz', Ms', Md', Mf', Mq', Ml, Mt', Mn', Mp', Mr', Mc', Mo', wt, ws, bu, Al, Ak, a1, ?_, hA, Or.inl ⟨z, rfl, rfl, rfl⟩⟩
    rw [b1_f]
    simp -implicitDefEqProofs (disch := omega) only [fM_layWitness, litI, litL, nI_add, pk_mul, bd0_e, bd1_e, bd2_e, bd3_e, bd4_e, st_e, nI_leI, nI_ltI, nI_eq, if_pos, if_neg, if_true, if_false, ld_nI, sti_nI, stl_nI, bd5_e, bd6_e, bd7_e, bd8_e, bd9_e, bd10_e, bd11_e, bd12_e, bd13_e, bd14_e, bd15_e, bd16_e, bd17_e, bd21_e, a3]
  · have e := nProofSize hI a2 hs
    have hj := hI.2.2.1 j hs
    have hLn := hI.2.1
    have hd := dep_le hP j j (Nat.le_refl _) hj
    obtain ⟨Al1, Ak1, c1, c2⟩ := aEmpty hA
    obtain ⟨ws1, c3, c4⟩ := mWit16 (Mz := Mz') (Ms := Ms') (Md := Md') (Mf := Mf') (Mq := nI (dep s j)) (tl := nI 0) (Mt := Mt') (Mn := Mn') (Mp := Mp') (Mr := Mr') (Mc := Mc') (Mo := Mo') (wt := wt) (bu := bu) ws
    obtain ⟨o, Al', Ak', tl', Mt2, wt', ws', bu', g1, g2, g3, g4⟩ := bothBuild (Mf := Mf') (Mq := nI (dep s j)) (Mc := Mc') hI hP a2 a4 hs ho (dep s j) 0 FU FU Al1 Ak1 Mt' wt ws1 bu (fun s => if s < 2 then [s] else []) (by omega) (fuel (by omega)) (fuel (by omega)) c2 ⟨rfl, rfl⟩ (fun v hv => by
      show ws1 v = nI (if v + 2 < 2 then [v + 2] else []).length ∧ ∀ k, k < (if v + 2 < 2 then [v + 2] else []).length → _
      rw [if_neg (by omega)]
      exact ⟨c4 v hv, fun k hk => absurd hk (Nat.not_lt_zero _)⟩)
    rw [Nat.sub_zero] at g1 g3
    have e2 : Ns' = nI j := by rw [a2.2.1, hs]; rfl
    refine ⟨1, Nz', Ns', Nd', Nl', Nr', Np', Nu', Ne', o, Mz', Ms', Md', Mf', nI (dep s j), tl', Mt2, Mn', Mp', Mr', Mc', Mo', wt', ws', bu', Al', Ak', ?_, ?_, g2, Or.inr ⟨rfl, ?_, g4⟩⟩
    · rw [← z]; exact a1
    · rw [← g3, ← c3]
      simp -implicitDefEqProofs (disch := omega) only [fM_layWitness, litI, litL, nI_add, pk_mul, bd0_e, bd1_e, bd2_e, bd3_e, bd4_e, st_e, nI_leI, nI_ltI, nI_eq, if_pos, if_neg, if_true, if_false, ld_nI, sti_nI, stl_nI, bd5_e, bd6_e, bd7_e, bd8_e, bd9_e, bd10_e, bd11_e, bd12_e, bd13_e, bd14_e, bd15_e, bd16_e, bd17_e, bd21_e, a3]
    · subst e2
      refine Eq.trans ?_ g1
      simp -implicitDefEqProofs (disch := omega) only [fN_buildWitness, litI, litL, nI_add, pk_mul, bd0_e, bd1_e, bd2_e, bd3_e, bd4_e, st_e, nI_leI, nI_ltI, nI_eq, if_pos, if_neg, if_true, if_false, ld_nI, sti_nI, stl_nI, c1, e, anc]
section WP
variable {El Er : Int64} {now : Nat → Int32} {xs ys : List Nat} {Al : Nat → Int64} {Ak : Nat → Int32}
set_option maxRecDepth 100000 in
theorem pWitnessLength (h : RE El Er now xs ys) (hA : RAI Al Ak) (Nz Ns Nd : Int32) (Nl Nr : Nat → Int64) (Np Nu Ne : Nat → Int32) (Mz Ms Md Mf Mq Ml : Int32) (Mt Mn Mp Mr Mc Mo wt ws bu : Nat → Int32) (x1 : Int32) :
    ∃ r Al' Ak' Nz' Ns' Nd' Nl' Nr' Np' Nu' Ne' Mz' Ms' Md' Mf' Mq' Ml' Mt' Mn' Mp' Mr' Mc' Mo' wt' ws' bu', fX_witnessLength El Er Al Ak Nz Ns Nd Nl Nr Np Nu Ne x1 = some (r, Al', Ak', Nz', Ns', Nd', Nl', Nr', Np', Nu', Ne') ∧ fM_witnessLength Mz Ms Md Mf Mq Ml now Mt Mn Mp Mr Mc Mo wt ws bu x1 = some (r, Mz', Ms', Md', Mf', Mq', Ml', Mt', Mn', Mp', Mr', Mc', Mo', wt', ws', bu') ∧ RAI Al' Ak' := by
  obtain ⟨hx, hy, rfl, rfl, hr⟩ := h
  by_cases hv : x1 < 0 ∨ nI 4 ≤ x1
  · obtain ⟨v1, v2⟩ := xIsVarNo hv
    refine ⟨-nI 1, Al, Ak, Nz, Ns, Nd, Nl, Nr, Np, Nu, Ne, Mz, Ms, Md, Mf, Mq, Ml, Mt, Mn, Mp, Mr, Mc, Mo, wt, ws, bu, ?_, ?_, hA⟩
    · simp -implicitDefEqProofs (disch := omega) only [fX_witnessLength, litI, litL, nI_add, pk_mul, bd0_e, bd1_e, bd2_e, bd3_e, bd4_e, st_e, nI_leI, nI_ltI, nI_eq, if_pos, if_neg, if_true, if_false, ld_nI, sti_nI, stl_nI, v1]
    · simp -implicitDefEqProofs (disch := omega) only [fM_witnessLength, litI, litL, nI_add, pk_mul, bd0_e, bd1_e, bd2_e, bd3_e, bd4_e, st_e, nI_leI, nI_ltI, nI_eq, if_pos, if_neg, if_true, if_false, ld_nI, sti_nI, stl_nI, v2]
  · obtain ⟨v, hv4, rfl⟩ : ∃ v, v < 4 ∧ x1 = nI v := by
      rcases pk_ix x1 (n := 4) (by decide) with c | c | c
      · exact absurd (Or.inl c) hv
      · exact absurd (Or.inr c) hv
      · exact c
    obtain ⟨v1, v2⟩ := xIsVarYes hv4
    obtain ⟨g, Nz', Ns', Nd', Nl', Nr', Np', Nu', Ne', b, Mz', Ms', Md', Mf', Mq', Ml', Mt', Mn', Mp', Mr', Mc', Mo', wt', ws', bu', Al', Ak', a1, a2, a3, a4⟩ := bothWitness hr hx hy hA Nl Nr Np Nu Ne Mf Mq Ml Mt Mn Mp Mr Mc Mo wt ws bu
    rcases a4 with ⟨z, rfl, rfl, rfl⟩ | ⟨rfl, c1, c2⟩
    · rw [b1_f] at a2
      refine ⟨-nI 9, Al', Ak', Nz', Ns', Nd', Nl', Nr', Np', Nu', Ne', Mz', Ms', Md', Mf', Mq', Ml', Mt', Mn', Mp', Mr', Mc', Mo', wt', ws', bu', ?_, ?_, a3⟩
      · rcases z with rfl | rfl
        · simp -implicitDefEqProofs (disch := omega) only [fX_witnessLength, litI, litL, nI_add, pk_mul, bd0_e, bd1_e, bd2_e, bd3_e, bd4_e, st_e, nI_leI, nI_ltI, nI_eq, if_pos, if_neg, if_true, if_false, ld_nI, sti_nI, stl_nI, bd5_e, bd6_e, bd7_e, bd8_e, bd9_e, bd10_e, bd11_e, v1, a1]
        · simp -implicitDefEqProofs (disch := omega) only [fX_witnessLength, litI, litL, nI_add, pk_mul, bd0_e, bd1_e, bd2_e, bd3_e, bd4_e, st_e, nI_leI, nI_ltI, nI_eq, if_pos, if_neg, if_true, if_false, ld_nI, sti_nI, stl_nI, bd5_e, bd6_e, bd7_e, bd8_e, bd9_e, bd10_e, bd11_e, v1, a1]
      · simp -implicitDefEqProofs (disch := omega) only [fM_witnessLength, litI, litL, nI_add, pk_mul, bd0_e, bd1_e, bd2_e, bd3_e, bd4_e, st_e, nI_leI, nI_ltI, nI_eq, if_pos, if_neg, if_true, if_false, ld_nI, sti_nI, stl_nI, bd5_e, bd6_e, bd7_e, bd8_e, bd9_e, bd10_e, bd11_e, bd12_e, bd13_e, bd14_e, bd15_e, bd16_e, bd17_e, bd21_e, v2, a2]
    · cases b with
      | false =>
        rw [b1_f] at a2 c1
        refine ⟨-nI 9, Al', Ak', Nz', Ns', Nd', Nl', Nr', Np', Nu', Ne', Mz', Ms', Md', Mf', Mq', Ml', Mt', Mn', Mp', Mr', Mc', Mo', wt', ws', bu', ?_, ?_, a3⟩
        · simp -implicitDefEqProofs (disch := omega) only [fX_witnessLength, litI, litL, nI_add, pk_mul, bd0_e, bd1_e, bd2_e, bd3_e, bd4_e, st_e, nI_leI, nI_ltI, nI_eq, if_pos, if_neg, if_true, if_false, ld_nI, sti_nI, stl_nI, bd5_e, bd6_e, bd7_e, bd8_e, bd9_e, bd10_e, bd11_e, v1, a1, c1]
        · simp -implicitDefEqProofs (disch := omega) only [fM_witnessLength, litI, litL, nI_add, pk_mul, bd0_e, bd1_e, bd2_e, bd3_e, bd4_e, st_e, nI_leI, nI_ltI, nI_eq, if_pos, if_neg, if_true, if_false, ld_nI, sti_nI, stl_nI, bd5_e, bd6_e, bd7_e, bd8_e, bd9_e, bd10_e, bd11_e, bd12_e, bd13_e, bd14_e, bd15_e, bd16_e, bd17_e, bd21_e, v2, a2]
      | true =>
        rw [b1_t] at a2 c1
        obtain ⟨w, hw1, hw2⟩ := c2 rfl
        have e1 := aLen hw1 (c := v + 2) (by omega)
        have e2 := (hw2 v hv4).1
        refine ⟨nI (w (v + 2)).length, Al', Ak', Nz', Ns', Nd', Nl', Nr', Np', Nu', Ne', Mz', Ms', Md', Mf', Mq', Ml', Mt', Mn', Mp', Mr', Mc', Mo', wt', ws', bu', ?_, ?_, a3⟩
        · simp -implicitDefEqProofs (disch := omega) only [fX_witnessLength, zVar, litI, litL, nI_add, pk_mul, bd0_e, bd1_e, bd2_e, bd3_e, bd4_e, st_e, nI_leI, nI_ltI, nI_eq, if_pos, if_neg, if_true, if_false, ld_nI, sti_nI, stl_nI, bd5_e, bd6_e, bd7_e, bd8_e, bd9_e, bd10_e, bd11_e, v1, a1, c1, e1]
        · simp -implicitDefEqProofs (disch := omega) only [fM_witnessLength, litI, litL, nI_add, pk_mul, bd0_e, bd1_e, bd2_e, bd3_e, bd4_e, st_e, nI_leI, nI_ltI, nI_eq, if_pos, if_neg, if_true, if_false, ld_nI, sti_nI, stl_nI, bd5_e, bd6_e, bd7_e, bd8_e, bd9_e, bd10_e, bd11_e, bd12_e, bd13_e, bd14_e, bd15_e, bd16_e, bd17_e, bd21_e, v2, a2, e2]
set_option maxRecDepth 100000 in
theorem vl_bit : ∀ (u : List Nat) (i : Nat), bits u → i < u.length → vl 0 u / 2 ^ (u.length - 1 - i) % 2 = u.getD i 0
  | [], i, _, h => absurd h (Nat.not_lt_zero _)
  | b :: u, i, hb, h => by
    have hb2 := hb b List.mem_cons_self
    have hu : bits u := fun x hx => hb x (List.mem_cons_of_mem _ hx)
    have hlt := vl_lt hu
    rw [List.length_cons] at h
    rw [vl, vl_split, List.length_cons, Nat.mul_zero, Nat.zero_add]
    cases i with
    | zero =>
      rw [show u.length + 1 - 1 - 0 = u.length by omega, Nat.add_comm, Nat.add_mul_div_right _ _ (Nat.two_pow_pos _), Nat.div_eq_of_lt hlt, Nat.zero_add, Nat.mod_eq_of_lt hb2]
      rfl
    | succ i =>
      have ih := vl_bit u i hu (by omega)
      have e : b * 2 ^ u.length = 2 ^ (u.length - 1 - i) * (2 * (b * 2 ^ i)) := by
        have : 2 ^ u.length = 2 ^ (u.length - 1 - i) * (2 * 2 ^ i) := by rw [← Nat.pow_succ', ← Nat.pow_add]; congr 1; omega
        rw [this]
        simp only [Nat.mul_left_comm]
      rw [show u.length + 1 - 1 - (i + 1) = u.length - 1 - i by omega, e, Nat.add_comm, Nat.add_mul_div_left _ _ (Nat.two_pow_pos _), Nat.add_mul_mod_self_left, ih]
      rfl
set_option maxRecDepth 100000 in
theorem pWitnessLetter (h : RE El Er now xs ys) (hA : RAI Al Ak) (Nz Ns Nd : Int32) (Nl Nr : Nat → Int64) (Np Nu Ne : Nat → Int32) (Mz Ms Md Mf Mq Ml : Int32) (Mt Mn Mp Mr Mc Mo wt ws bu : Nat → Int32) (x1 x2 : Int32) :
    ∃ r Al' Ak' Nz' Ns' Nd' Nl' Nr' Np' Nu' Ne' Mz' Ms' Md' Mf' Mq' Ml' Mt' Mn' Mp' Mr' Mc' Mo' wt' ws' bu', fX_witnessLetter El Er Al Ak Nz Ns Nd Nl Nr Np Nu Ne x1 x2 = some (r, Al', Ak', Nz', Ns', Nd', Nl', Nr', Np', Nu', Ne') ∧ fM_witnessLetter Mz Ms Md Mf Mq Ml now Mt Mn Mp Mr Mc Mo wt ws bu x1 x2 = some (r, Mz', Ms', Md', Mf', Mq', Ml', Mt', Mn', Mp', Mr', Mc', Mo', wt', ws', bu') ∧ RAI Al' Ak' := by
  obtain ⟨hx, hy, rfl, rfl, hr⟩ := h
  by_cases hv : x1 < 0 ∨ nI 4 ≤ x1
  · obtain ⟨v1, v2⟩ := xIsVarNo hv
    refine ⟨-nI 1, Al, Ak, Nz, Ns, Nd, Nl, Nr, Np, Nu, Ne, Mz, Ms, Md, Mf, Mq, Ml, Mt, Mn, Mp, Mr, Mc, Mo, wt, ws, bu, ?_, ?_, hA⟩
    · simp -implicitDefEqProofs (disch := omega) only [fX_witnessLetter, litI, litL, nI_add, pk_mul, bd0_e, bd1_e, bd2_e, bd3_e, bd4_e, st_e, nI_leI, nI_ltI, nI_eq, if_pos, if_neg, if_true, if_false, ld_nI, sti_nI, stl_nI, v1]
    · simp -implicitDefEqProofs (disch := omega) only [fM_witnessLetter, litI, litL, nI_add, pk_mul, bd0_e, bd1_e, bd2_e, bd3_e, bd4_e, st_e, nI_leI, nI_ltI, nI_eq, if_pos, if_neg, if_true, if_false, ld_nI, sti_nI, stl_nI, v2]
  · obtain ⟨v, hv4, rfl⟩ : ∃ v, v < 4 ∧ x1 = nI v := by
      rcases pk_ix x1 (n := 4) (by decide) with c | c | c
      · exact absurd (Or.inl c) hv
      · exact absurd (Or.inr c) hv
      · exact c
    obtain ⟨v1, v2⟩ := xIsVarYes hv4
    obtain ⟨g, Nz', Ns', Nd', Nl', Nr', Np', Nu', Ne', b, Mz', Ms', Md', Mf', Mq', Ml', Mt', Mn', Mp', Mr', Mc', Mo', wt', ws', bu', Al', Ak', a1, a2, a3, a4⟩ := bothWitness hr hx hy hA Nl Nr Np Nu Ne Mf Mq Ml Mt Mn Mp Mr Mc Mo wt ws bu
    rcases a4 with ⟨z, rfl, rfl, rfl⟩ | ⟨rfl, c1, c2⟩
    · rw [b1_f] at a2
      refine ⟨-nI 9, Al', Ak', Nz', Ns', Nd', Nl', Nr', Np', Nu', Ne', Mz', Ms', Md', Mf', Mq', Ml', Mt', Mn', Mp', Mr', Mc', Mo', wt', ws', bu', ?_, ?_, a3⟩
      · rcases z with rfl | rfl
        · simp -implicitDefEqProofs (disch := omega) only [fX_witnessLetter, litI, litL, nI_add, pk_mul, bd0_e, bd1_e, bd2_e, bd3_e, bd4_e, st_e, nI_leI, nI_ltI, nI_eq, if_pos, if_neg, if_true, if_false, ld_nI, sti_nI, stl_nI, bd5_e, bd6_e, bd7_e, bd8_e, bd9_e, bd10_e, bd11_e, v1, a1]
        · simp -implicitDefEqProofs (disch := omega) only [fX_witnessLetter, litI, litL, nI_add, pk_mul, bd0_e, bd1_e, bd2_e, bd3_e, bd4_e, st_e, nI_leI, nI_ltI, nI_eq, if_pos, if_neg, if_true, if_false, ld_nI, sti_nI, stl_nI, bd5_e, bd6_e, bd7_e, bd8_e, bd9_e, bd10_e, bd11_e, v1, a1]
      · simp -implicitDefEqProofs (disch := omega) only [fM_witnessLetter, litI, litL, nI_add, pk_mul, bd0_e, bd1_e, bd2_e, bd3_e, bd4_e, st_e, nI_leI, nI_ltI, nI_eq, if_pos, if_neg, if_true, if_false, ld_nI, sti_nI, stl_nI, bd5_e, bd6_e, bd7_e, bd8_e, bd9_e, bd10_e, bd11_e, bd12_e, bd13_e, bd14_e, bd15_e, bd16_e, bd17_e, bd21_e, v2, a2]
    · cases b with
      | false =>
        rw [b1_f] at a2 c1
        refine ⟨-nI 9, Al', Ak', Nz', Ns', Nd', Nl', Nr', Np', Nu', Ne', Mz', Ms', Md', Mf', Mq', Ml', Mt', Mn', Mp', Mr', Mc', Mo', wt', ws', bu', ?_, ?_, a3⟩
        · simp -implicitDefEqProofs (disch := omega) only [fX_witnessLetter, litI, litL, nI_add, pk_mul, bd0_e, bd1_e, bd2_e, bd3_e, bd4_e, st_e, nI_leI, nI_ltI, nI_eq, if_pos, if_neg, if_true, if_false, ld_nI, sti_nI, stl_nI, bd5_e, bd6_e, bd7_e, bd8_e, bd9_e, bd10_e, bd11_e, v1, a1, c1]
        · simp -implicitDefEqProofs (disch := omega) only [fM_witnessLetter, litI, litL, nI_add, pk_mul, bd0_e, bd1_e, bd2_e, bd3_e, bd4_e, st_e, nI_leI, nI_ltI, nI_eq, if_pos, if_neg, if_true, if_false, ld_nI, sti_nI, stl_nI, bd5_e, bd6_e, bd7_e, bd8_e, bd9_e, bd10_e, bd11_e, bd12_e, bd13_e, bd14_e, bd15_e, bd16_e, bd17_e, bd21_e, v2, a2]
      | true =>
        rw [b1_t] at a2 c1
        obtain ⟨w, hw1, hw2⟩ := c2 rfl
        have e1 := aLen hw1 (c := v + 2) (by omega)
        obtain ⟨e2, e3⟩ := hw2 v hv4
        obtain ⟨w1, w2, w3, w4⟩ := hw1 (v + 2) (by omega)
        rcases pk_ix x2 (n := (w (v + 2)).length) (by omega) with c | c | ⟨i, hi, rfl⟩
        · have q := mInD_lo (D := (w (v + 2)).length) c
          have c : x2 < nI 0 := c
          refine ⟨-nI 9, Al', Ak', Nz', Ns', Nd', Nl', Nr', Np', Nu', Ne', Mz', Ms', Md', Mf', Mq', Ml', Mt', Mn', Mp', Mr', Mc', Mo', wt', ws', bu', ?_, ?_, a3⟩
          · simp -implicitDefEqProofs (disch := omega) only [fX_witnessLetter, zVar, litI, litL, nI_add, pk_mul, bd0_e, bd1_e, bd2_e, bd3_e, bd4_e, st_e, nI_leI, nI_ltI, nI_eq, if_pos, if_neg, if_true, if_false, ld_nI, sti_nI, stl_nI, bd5_e, bd6_e, bd7_e, bd8_e, bd9_e, bd10_e, bd11_e, v1, a1, c1, c]
          · simp -implicitDefEqProofs (disch := omega) only [fM_witnessLetter, litI, litL, nI_add, pk_mul, bd0_e, bd1_e, bd2_e, bd3_e, bd4_e, st_e, nI_leI, nI_ltI, nI_eq, if_pos, if_neg, if_true, if_false, ld_nI, sti_nI, stl_nI, bd5_e, bd6_e, bd7_e, bd8_e, bd9_e, bd10_e, bd11_e, bd12_e, bd13_e, bd14_e, bd15_e, bd16_e, bd17_e, bd21_e, v2, a2, e2, q]
        · have q := mInD_hi (D := (w (v + 2)).length) (by omega) c
          have l1 : ¬ x2 < nI 0 := not_lo (by omega) c
          have l2 : ¬ x2 < nI (w (v + 2)).length := Int32.not_lt.mpr c
          refine ⟨-nI 9, Al', Ak', Nz', Ns', Nd', Nl', Nr', Np', Nu', Ne', Mz', Ms', Md', Mf', Mq', Ml', Mt', Mn', Mp', Mr', Mc', Mo', wt', ws', bu', ?_, ?_, a3⟩
          · simp -implicitDefEqProofs (disch := omega) only [fX_witnessLetter, zVar, litI, litL, nI_add, pk_mul, bd0_e, bd1_e, bd2_e, bd3_e, bd4_e, st_e, nI_leI, nI_ltI, nI_eq, if_pos, if_neg, if_true, if_false, ld_nI, sti_nI, stl_nI, bd5_e, bd6_e, bd7_e, bd8_e, bd9_e, bd10_e, bd11_e, v1, a1, c1, l1, e1, l2]
          · simp -implicitDefEqProofs (disch := omega) only [fM_witnessLetter, litI, litL, nI_add, pk_mul, bd0_e, bd1_e, bd2_e, bd3_e, bd4_e, st_e, nI_leI, nI_ltI, nI_eq, if_pos, if_neg, if_true, if_false, ld_nI, sti_nI, stl_nI, bd5_e, bd6_e, bd7_e, bd8_e, bd9_e, bd10_e, bd11_e, bd12_e, bd13_e, bd14_e, bd15_e, bd16_e, bd17_e, bd21_e, v2, a2, e2, q]
        · have q := mInD_in (D := (w (v + 2)).length) (by omega) hi
          have e3 := e3 i hi
          have hb := vl_bit (w (v + 2)) i w2 hi
          have hlt := vl_lt w2
          have hle : 2 ^ (w (v + 2)).length ≤ 2 ^ 60 := Nat.pow_le_pow_right (by decide) w1
          have b60 : (2 : Nat) ^ 60 < 2 ^ 64 := by decide
          have m8 : (v + 2 + 1) % 8 = v + 2 + 1 := Nat.mod_eq_of_lt (by omega)
          have f1 : nI (w (v + 2)).length - nI 1 = nI ((w (v + 2)).length - 1) := pk_sub (by omega)
          have f2 : nI ((w (v + 2)).length - 1) - nI i = nI ((w (v + 2)).length - 1 - i) := pk_sub (by omega)
          have f3 := ushk (n := vl 0 (w (v + 2))) (k := (w (v + 2)).length - 1 - i) (by omega) (by omega)
          have f4 : lN (vl 0 (w (v + 2)) / 2 ^ ((w (v + 2)).length - 1 - i)) &&& lN 1 = lN ((w (v + 2)).getD i 0) := by
            rw [show lN 1 = 1 from rfl, wb_a1 (Nat.lt_of_le_of_lt (Nat.div_le_self _ _) (by omega)), hb]
          have hbit : (w (v + 2)).getD i 0 < 2 := by rw [getD_in hi]; exact w2 _ (List.getElem_mem hi)
          generalize (w (v + 2)).getD i 0 = c at *
          rcases (show c = 0 ∨ c = 1 by omega) with rfl | rfl
          · have lg0 : lg_cmp (lN 0) (lN 0) = nI 0 := rfl
            refine ⟨nI 97, Al', Ak', Nz', Ns', Nd', Nl', Nr', Np', Nu', Ne', Mz', Ms', Md', Mf', Mq', Ml', Mt', Mn', Mp', Mr', Mc', Mo', wt', ws', bu', ?_, ?_, a3⟩
            · simp -implicitDefEqProofs (disch := omega) only [fX_witnessLetter, fA_letterOf, zVar, litI, litL, nI_add, pk_mul, bd0_e, bd1_e, bd2_e, bd3_e, bd4_e, st_e, nI_leI, nI_ltI, nI_eq, if_pos, if_neg, if_true, if_false, ld_nI, sti_nI, stl_nI, bd5_e, bd6_e, bd7_e, bd8_e, bd9_e, bd10_e, bd11_e, v1, a1, c1, e1, and7, m8, w4, f1, f2, f3, f4, lg0]
            · simp -implicitDefEqProofs (disch := omega) only [fM_witnessLetter, fM_charOf, litI, litL, nI_add, pk_mul, bd0_e, bd1_e, bd2_e, bd3_e, bd4_e, st_e, nI_leI, nI_ltI, nI_eq, if_pos, if_neg, if_true, if_false, ld_nI, sti_nI, stl_nI, bd5_e, bd6_e, bd7_e, bd8_e, bd9_e, bd10_e, bd11_e, bd12_e, bd13_e, bd14_e, bd15_e, bd16_e, bd17_e, bd21_e, v2, a2, e2, q, e3]
          · have lg1 : ¬ lg_cmp (lN 1) (lN 0) = nI 0 := by decide
            refine ⟨nI 98, Al', Ak', Nz', Ns', Nd', Nl', Nr', Np', Nu', Ne', Mz', Ms', Md', Mf', Mq', Ml', Mt', Mn', Mp', Mr', Mc', Mo', wt', ws', bu', ?_, ?_, a3⟩
            · simp -implicitDefEqProofs (disch := omega) only [fX_witnessLetter, fA_letterOf, zVar, litI, litL, nI_add, pk_mul, bd0_e, bd1_e, bd2_e, bd3_e, bd4_e, st_e, nI_leI, nI_ltI, nI_eq, if_pos, if_neg, if_true, if_false, ld_nI, sti_nI, stl_nI, bd5_e, bd6_e, bd7_e, bd8_e, bd9_e, bd10_e, bd11_e, v1, a1, c1, e1, and7, m8, w4, f1, f2, f3, f4, lg1]
            · simp -implicitDefEqProofs (disch := omega) only [fM_witnessLetter, fM_charOf, litI, litL, nI_add, pk_mul, bd0_e, bd1_e, bd2_e, bd3_e, bd4_e, st_e, nI_leI, nI_ltI, nI_eq, if_pos, if_neg, if_true, if_false, ld_nI, sti_nI, stl_nI, bd5_e, bd6_e, bd7_e, bd8_e, bd9_e, bd10_e, bd11_e, bd12_e, bd13_e, bd14_e, bd15_e, bd16_e, bd17_e, bd21_e, v2, a2, e2, q, e3]
end WP
