def nm4 (i j k l : Nat) : Nat → Nat := setN (setN (setN (setN (fun _ => 0) 0 i) 1 j) 2 k) 3 l
set_option maxRecDepth 100000 in
theorem nm4_0 (i j k l : Nat) : nm4 i j k l 0 = i := rfl
set_option maxRecDepth 100000 in
theorem nm4_1 (i j k l : Nat) : nm4 i j k l 1 = j := rfl
set_option maxRecDepth 100000 in
theorem nm4_2 (i j k l : Nat) : nm4 i j k l 2 = k := rfl
set_option maxRecDepth 100000 in
theorem nm4_3 (i j k l : Nat) : nm4 i j k l 3 = l := rfl
def atT (B : Nat → Nat) (t : Nat) : Nat → Nat := nm4 (dgt B 4 t 0) (dgt B 4 t 1) (dgt B 4 t 2) (dgt B 4 t 3)
set_option maxRecDepth 100000 in
theorem atT_v (B : Nat → Nat) (t v : Nat) (hv : v < 4) : atT B t v = dgt B 4 t v := by
  rcases (show v = 0 ∨ v = 1 ∨ v = 2 ∨ v = 3 by omega) with rfl | rfl | rfl | rfl <;> rfl
set_option maxRecDepth 100000 in
theorem fd_count {cs : List (Nat × Nat × Nat)} {xs ys : List Nat} {g : Nat → Nat → Nat} : ∀ (n : Nat) (s : ST), (fd (fun t => stepS cs xs ys (g t)) n s).1 ≤ s.1 + n
  | 0, _ => Nat.le_refl _
  | n + 1, s => by
    have := fd_count (cs := cs) (xs := xs) (ys := ys) (g := g) n s
    rw [fd, stepS]
    split
    · show (fd (fun t => stepS cs xs ys (g t)) n s).1 + 1 ≤ _
      omega
    · omega
set_option maxRecDepth 100000 in
theorem two_c : ∀ x, x < 4 → shl (nI 2) (nI x) - nI 1 = nI (2 ^ (x + 1) - 1) := by decide +kernel
set_option maxRecDepth 100000 in
theorem two_b : ∀ x, x < 4 → 0 < 2 ^ (x + 1) - 1 ∧ 2 ^ (x + 1) - 1 ≤ 15 := by decide +kernel
set_option maxRecDepth 100000 in
theorem mLookLoop {Cn : Int32} {Cv Cr Ck : Nat → Int32} {many : Int32} {con : Nat → Int32} {cs : List (Nat × Nat × Nat)} (h : RC Cn Cv Cr Ck many con cs) {now : Nat → Int32} {xs ys : List Nat} (hr : rowIs now xs ys) (hx : okS 12 xs) (hy : okS 12 ys) {x : Nat} (hxx : x < 4) {s0 : ST} (hs0 : s0.1 = 0) :
    ∀ (d a m : Nat) (Mf Ms : Int32) (word size number M1 : Nat → Int32), a + d = rad (bOf xs ys (2 ^ (x + 1) - 1)) 4 → d < m → (∀ v, v < 4 → number v = nI (dgt (bOf xs ys (2 ^ (x + 1) - 1)) 4 a v)) → RMs (fd (fun t => stepS cs xs ys (atT (bOf xs ys (2 ^ (x + 1) - 1)) t)) a s0) Mf Ms M1 →
      ∃ Mf' Ms' word' size' number' M1', fx7 (fM_lookThrough_33 many con now (nI x)) m Mf Ms word size number M1 (nI (b1 (decide (a < rad (bOf xs ys (2 ^ (x + 1) - 1)) 4)))) = some (Mf', Ms', word', size', number', M1') ∧ RMs (fd (fun t => stepS cs xs ys (atT (bOf xs ys (2 ^ (x + 1) - 1)) t)) (rad (bOf xs ys (2 ^ (x + 1) - 1)) 4) s0) Mf' Ms' M1' := by
  obtain ⟨p1, p2⟩ := two_b x hxx
  have p3 := two_c x hxx
  generalize 2 ^ (x + 1) - 1 = b at *
  have hB := bOf_pos (xs := xs) (ys := ys) (b := b) p1
  have hB2 : ∀ v, bOf xs ys b v ≤ 15 := fun v => by unfold bOf; split <;> omega
  have hT : rad (bOf xs ys b) 4 ≤ 50625 := rad_le hB2 4
  intro d
  induction d with
  | zero =>
    intro a m Mf Ms word size number M1 ha hm hn hR
    obtain ⟨m, rfl⟩ := succ_of hm
    have e : a = rad (bOf xs ys b) 4 := by omega
    rw [e] at hR
    rw [decide_eq_false (by omega), b1_f]
    refine ⟨Mf, Ms, word, size, number, M1, ?_, hR⟩
    simp -implicitDefEqProofs (disch := omega) only [fx7_s, fM_lookThrough_33, litI, litL, nI_add, pk_mul, bd0_e, bd1_e, bd2_e, bd3_e, bd4_e, st_e, nI_leI, nI_ltI, nI_eq, if_pos, if_neg, if_true, if_false, ld_nI, sti_nI, stl_nI]
  | succ d ih =>
    intro a m Mf Ms word size number M1 ha hm hn hR
    obtain ⟨m, rfl⟩ := succ_of hm
    have hc := fd_count (cs := cs) (xs := xs) (ys := ys) (g := atT (bOf xs ys b)) a s0
    obtain ⟨number1, g1, g2⟩ := mGo hr hx hy (b := b) p1 (by omega) (a := a) (by omega) hn
    have hnm : ∀ v, v < 4 → atT (bOf xs ys b) a v < 15 ∧ number v = nI (atT (bOf xs ys b) a v) := fun v hv => by
      rw [atT_v _ _ _ hv]
      exact ⟨Nat.lt_of_lt_of_le (dgt_lt hB 4 a v hv) (hB2 v), hn v hv⟩
    obtain ⟨word1, size1, e1⟩ := mIsSolution h (number := number) (nm := atT (bOf xs ys b) a) (fun v hv => ⟨Nat.lt_trans (hnm v hv).1 (by decide), (hnm v hv).2⟩) hr hx hy word size
    rw [decide_eq_true (by omega), b1_t]
    cases o : sol cs (wOf (atT (bOf xs ys b) a)) xs ys with
    | false =>
      rw [o, b1_f] at e1
      have es : fd (fun t => stepS cs xs ys (atT (bOf xs ys b) t)) (a + 1) s0 = fd (fun t => stepS cs xs ys (atT (bOf xs ys b) t)) a s0 := by
        rw [fd, stepS, o, if_neg Bool.false_ne_true]
      rw [← es] at hR
      obtain ⟨Mf', Ms', word', size', number', M1', e, hR'⟩ := ih (a + 1) m Mf Ms word1 size1 number1 M1 (by omega) (by omega) g2 hR
      refine ⟨Mf', Ms', word', size', number', M1', ?_, hR'⟩
      rw [← e]
      simp -implicitDefEqProofs (disch := omega) only [fx7_s, fM_lookThrough_33, fM_lookThrough_148, litI, litL, nI_add, pk_mul, bd0_e, bd1_e, bd2_e, bd3_e, bd4_e, st_e, nI_leI, nI_ltI, nI_eq, if_pos, if_neg, if_true, if_false, ld_nI, sti_nI, stl_nI, e1, p3, g1]
    | true =>
      rw [o, b1_t] at e1
      have es : fd (fun t => stepS cs xs ys (atT (bOf xs ys b) t)) (a + 1) s0 = recS (atT (bOf xs ys b) a) (fd (fun t => stepS cs xs ys (atT (bOf xs ys b) t)) a s0) := by
        rw [fd, stepS, o, if_pos rfl]
      obtain ⟨Mf1, Ms1, M11, r1, hR1⟩ := mRecord (k33 := fx7 (fM_lookThrough_33 many con now (nI x)) m) (many := many) (con := con) (word := word1) (size := size1) (number := number) (now := now) (v2 := nI x) hnm hR (by omega)
      rw [← es] at hR1
      obtain ⟨Mf', Ms', word', size', number', M1', e, hR'⟩ := ih (a + 1) m Mf1 Ms1 word1 size1 number1 M11 (by omega) (by omega) g2 hR1
      refine ⟨Mf', Ms', word', size', number', M1', ?_, hR'⟩
      rw [← e]
      have e2 : fM_lookThrough_148 (fx7 (fM_lookThrough_33 many con now (nI x)) m) many Mf1 Ms1 con word1 size1 number M11 now (nI x) = fx7 (fM_lookThrough_33 many con now (nI x)) m Mf1 Ms1 word1 size1 number1 M11 (nI (b1 (decide (a + 1 < rad (bOf xs ys b) 4)))) := by
        simp -implicitDefEqProofs (disch := omega) only [fM_lookThrough_148, litI, litL, nI_add, pk_mul, bd0_e, bd1_e, bd2_e, bd3_e, bd4_e, st_e, p3, g1]
      rw [← e2, ← r1]
      simp -implicitDefEqProofs (disch := omega) only [fx7_s, fM_lookThrough_33, litI, litL, nI_add, pk_mul, bd0_e, bd1_e, bd2_e, bd3_e, bd4_e, st_e, nI_leI, nI_ltI, nI_eq, if_pos, if_neg, if_true, if_false, ld_nI, sti_nI, stl_nI, e1]
