set_option maxRecDepth 100000 in
theorem mLookThrough {Cn : Int32} {Cv Cr Ck : Nat → Int32} {many : Int32} {con : Nat → Int32} {cs : List (Nat × Nat × Nat)} (h : RC Cn Cv Cr Ck many con cs) {now : Nat → Int32} {xs ys : List Nat} (hr : rowIs now xs ys) (hx : okS 12 xs) (hy : okS 12 ys) {x : Nat} (hxx : x < 4) (word size number M1 : Nat → Int32) :
    ∃ Mf' Ms' word' size' number' M1', fM_lookThrough many con word size number M1 now (nI x) = some (Mf', Ms', word', size', number', M1') ∧ RMs (fd (fun t => stepS cs xs ys (atT (bOf xs ys (2 ^ (x + 1) - 1)) t)) (rad (bOf xs ys (2 ^ (x + 1) - 1)) 4) (0, 0, fun _ => 0)) Mf' Ms' M1' := by
  have key : ∀ (d i m : Nat) (number : Nat → Int32), i + d = 4 → d < m → (∀ v, v < i → number v = nI 0) → ∃ number', fx2 (fM_lookThrough_13 many (nI 0) (-nI 9) con word size M1 now (nI x)) m number (nI i) = fx7 (fM_lookThrough_33 many con now (nI x)) FU (nI 0) (-nI 9) word size number' M1 (nI 1) ∧ ∀ v, v < 4 → number' v = nI 0 := by
    intro d
    induction d with
    | zero =>
      intro i m number hi hm hn
      obtain ⟨m, rfl⟩ := succ_of hm
      refine ⟨number, ?_, fun v hv => hn v (by omega)⟩
      simp -implicitDefEqProofs (disch := omega) only [fx2_s, fM_lookThrough_13, litI, litL, nI_add, pk_mul, bd0_e, bd1_e, bd2_e, bd3_e, bd4_e, st_e, nI_leI, nI_ltI, nI_eq, if_pos, if_neg, if_true, if_false, ld_nI, sti_nI, stl_nI]
    | succ d ih =>
      intro i m number hi hm hn
      obtain ⟨m, rfl⟩ := succ_of hm
      obtain ⟨number', e, hn'⟩ := ih (i + 1) m (upd number i (nI 0)) (by omega) (by omega) (fun v hv => by
        rw [upd_e]
        by_cases q : v = i
        · rw [if_pos q]
        · rw [if_neg q]; exact hn v (by omega))
      refine ⟨number', ?_, hn'⟩
      rw [← e]
      simp -implicitDefEqProofs (disch := omega) only [fx2_s, fM_lookThrough_13, litI, litL, nI_add, pk_mul, bd0_e, bd1_e, bd2_e, bd3_e, bd4_e, st_e, nI_leI, nI_ltI, nI_eq, if_pos, if_neg, if_true, if_false, ld_nI, sti_nI, stl_nI]
  obtain ⟨number0, z1, z2⟩ := key 4 0 FU number (by omega) (fuel (by omega)) (fun v hv => absurd hv (Nat.not_lt_zero _))
  obtain ⟨p1, p2⟩ := two_b x hxx
  have hB := bOf_pos (xs := xs) (ys := ys) (b := 2 ^ (x + 1) - 1) p1
  have hB2 : ∀ v, bOf xs ys (2 ^ (x + 1) - 1) v ≤ 15 := fun v => by unfold bOf; split <;> omega
  have hT : rad (bOf xs ys (2 ^ (x + 1) - 1)) 4 ≤ 50625 := rad_le hB2 4
  obtain ⟨Mf', Ms', word', size', number', M1', e, hR⟩ := mLookLoop h hr hx hy hxx (s0 := (0, 0, fun _ => 0)) rfl (rad (bOf xs ys (2 ^ (x + 1) - 1)) 4) 0 FU (nI 0) (-nI 9) word size number0 M1 (by omega) (fuel (by omega)) (fun v hv => by rw [z2 v hv, dgt_0]) ⟨(by decide : (0 : Nat) < 2 ^ 30), rfl, fun _ => rfl, fun z => absurd rfl z⟩
  rw [decide_eq_true (rad_pos hB 4), b1_t] at e
  refine ⟨Mf', Ms', word', size', number', M1', ?_, hR⟩
  rw [← e, ← z1]
  simp -implicitDefEqProofs (disch := omega) only [fM_lookThrough, litI, litL, nI_add, pk_mul, bd0_e, bd1_e, bd2_e, bd3_e, bd4_e, st_e]
