/-! record of the class -/
def RBs (s : ST) (Bf Bl : Int32) (B1 : Nat → Int32) : Prop := s.1 < 2 ^ 30 ∧ Bf = nI s.1 ∧ (s.1 ≠ 0 → s.2.1 ≤ 20 ∧ Bl = nI s.2.1 ∧ ∀ v, v < 4 → B1 v = nI (s.2.2 v))
def totN (nm : Nat → Nat) : Nat → Nat → Nat
  | _, 0 => 0
  | i, d + 1 => wl (nm i) + totN nm (i + 1) d
set_option maxRecDepth 100000 in
theorem wOf_3 (nm : Nat → Nat) (v : Nat) : wOf nm (v + 2) = wd (nm v) := by
  unfold wOf
  rw [if_neg (by omega), Nat.add_sub_cancel]
set_option maxRecDepth 100000 in
theorem aNumberOf {Al : Nat → Int64} {Ak : Nat → Int32} {nm : Nat → Nat} {N : Nat} (hA : RA Al Ak (wOf nm) N) {v : Nat} (hv : v < 4) (hn : nm v < 15) : fA_numberOf Al Ak (nI (v + 2 + 1)) = some (nI (nm v)) := by
  obtain ⟨w1, w2, w3, w4⟩ := hA (v + 2) (by omega)
  rw [wOf_3] at w3 w4
  rw [wd_len] at w3
  have e : (v + 2 + 1) % 8 = v + 2 + 1 := Nat.mod_eq_of_lt (by omega)
  have e2 := num_c (nm v) hn
  simp -implicitDefEqProofs (disch := omega) only [fA_numberOf, litI, litL, nI_add, pk_mul, bd0_e, bd1_e, bd2_e, bd3_e, bd4_e, st_e, and7, e, nI_leI, nI_ltI, nI_eq, if_pos, if_neg, if_true, if_false, ld_nI, sti_nI, stl_nI, w3, w4, e2]
set_option maxRecDepth 100000 in
theorem wl_le3 : ∀ n, n < 15 → wl n ≤ 3 := by decide +kernel
set_option maxRecDepth 100000 in
theorem bRecord {Al : Nat → Int64} {Ak : Nat → Int32} {nm : Nat → Nat} {N : Nat} (hA : RA Al Ak (wOf nm) N) (hnm : ∀ v, v < 4 → nm v < 15) {s : ST} {Bf Bl : Int32} {B1 : Nat → Int32} (h : RBs s Bf Bl B1) (hs : s.1 + 1 < 2 ^ 30) :
    ∃ Bf' Bl' B1', fB_record Bf Bl B1 Al Ak = some (Bf', Bl', B1') ∧ RBs (recS nm s) Bf' Bl' B1' := by
  obtain ⟨h1, rfl, h3⟩ := h
  have t3 : tot nm ≤ 12 := by
    have := wl_le3 _ (hnm 0 (by decide)); have := wl_le3 _ (hnm 1 (by decide)); have := wl_le3 _ (hnm 2 (by decide)); have := wl_le3 _ (hnm 3 (by decide))
    unfold tot
    omega
  have et : totN nm 0 4 = tot nm := by
    unfold tot
    show wl (nm 0) + (wl (nm 1) + (wl (nm 2) + (wl (nm 3) + 0))) = _
    omega
  by_cases q : s.1 = 0
  · have key : ∀ (d i m a : Nat) (B1 : Nat → Int32), i + d = 4 → d < m → (∀ v, v < i → B1 v = nI (nm v)) → ∃ B1', fx3 (fB_record_4 (nI s.1) Bl Al Ak) m B1 (nI a) (nI i) = some (nI (s.1 + 1), nI (a + totN nm i d), B1') ∧ ∀ v, v < 4 → B1' v = nI (nm v) := by
      intro d
      induction d with
      | zero =>
        intro i m a B1 hi hm hb
        obtain ⟨m, rfl⟩ := succ_of hm
        refine ⟨B1, ?_, fun v hv => hb v (by omega)⟩
        rw [totN, Nat.add_zero]
        simp -implicitDefEqProofs (disch := omega) only [fx3_s, fB_record_4, fB_record_72, litI, litL, nI_add, pk_mul, bd0_e, bd1_e, bd2_e, bd3_e, bd4_e, st_e, nI_leI, nI_ltI, nI_eq, if_pos, if_neg, if_true, if_false, ld_nI, sti_nI, stl_nI, Nat.add_zero]
      | succ d ih =>
        intro i m a B1 hi hm hb
        obtain ⟨m, rfl⟩ := succ_of hm
        have el := aLengthOf hA (v := i) (by omega)
        rw [wOf_2] at el
        have en := aNumberOf hA (v := i) (by omega) (hnm i (by omega))
        obtain ⟨B1', e, hb'⟩ := ih (i + 1) m (a + wl (nm i)) (upd B1 i (nI (nm i))) (by omega) (by omega) (fun v hv => by
          rw [upd_e]
          by_cases qv : v = i
          · rw [if_pos qv, qv]
          · rw [if_neg qv]; exact hb v (by omega))
        refine ⟨B1', ?_, hb'⟩
        rw [totN, ← Nat.add_assoc, ← e]
        simp -implicitDefEqProofs (disch := omega) only [fx3_s, fB_record_4, zVar, litI, litL, nI_add, pk_mul, bd0_e, bd1_e, bd2_e, bd3_e, bd4_e, st_e, nI_leI, nI_ltI, nI_eq, if_pos, if_neg, if_true, if_false, ld_nI, sti_nI, stl_nI, el, en]
    obtain ⟨B1', e, hb'⟩ := key 4 0 FU 0 B1 (by omega) (fuel (by omega)) (fun v hv => absurd hv (Nat.not_lt_zero _))
    rw [et, Nat.zero_add] at e
    refine ⟨nI (s.1 + 1), nI (tot nm), B1', e, hs, rfl, fun _ => ?_⟩
    show (if s.1 = 0 then tot nm else min (tot nm) s.2.1) ≤ 20 ∧ nI (tot nm) = nI (if s.1 = 0 then tot nm else min (tot nm) s.2.1) ∧ ∀ v, v < 4 → B1' v = nI ((if s.1 = 0 then nm else s.2.2) v)
    rw [if_pos q, if_pos q]
    exact ⟨by omega, rfl, hb'⟩
  · obtain ⟨g1, rfl, g3⟩ := h3 q
    have key : ∀ (d i m a : Nat), i + d = 4 → d < m → a + totN nm i d ≤ 12 → fx3 (fB_record_4 (nI s.1) (nI s.2.1) Al Ak) m B1 (nI a) (nI i) = some (nI (s.1 + 1), nI (min (a + totN nm i d) s.2.1), B1) := by
      intro d
      induction d with
      | zero =>
        intro i m a hi hm ha
        obtain ⟨m, rfl⟩ := succ_of hm
        rw [totN, Nat.add_zero]
        rw [totN] at ha
        by_cases c : a < s.2.1
        · rw [Nat.min_eq_left (by omega)]
          simp -implicitDefEqProofs (disch := omega) only [fx3_s, fB_record_4, fB_record_72, litI, litL, nI_add, pk_mul, bd0_e, bd1_e, bd2_e, bd3_e, bd4_e, st_e, nI_leI, nI_ltI, nI_eq, if_pos, if_neg, if_true, if_false, ld_nI, sti_nI, stl_nI, Nat.add_zero]
        · rw [Nat.min_eq_right (by omega)]
          simp -implicitDefEqProofs (disch := omega) only [fx3_s, fB_record_4, fB_record_72, litI, litL, nI_add, pk_mul, bd0_e, bd1_e, bd2_e, bd3_e, bd4_e, st_e, nI_leI, nI_ltI, nI_eq, if_pos, if_neg, if_true, if_false, ld_nI, sti_nI, stl_nI, Nat.add_zero]
      | succ d ih =>
        intro i m a hi hm ha
        obtain ⟨m, rfl⟩ := succ_of hm
        have el := aLengthOf hA (v := i) (by omega)
        rw [wOf_2] at el
        rw [totN, ← Nat.add_assoc] at ha
        rw [totN, ← Nat.add_assoc, ← ih (i + 1) m (a + wl (nm i)) (by omega) (by omega) ha]
        simp -implicitDefEqProofs (disch := omega) only [fx3_s, fB_record_4, zVar, litI, litL, nI_add, pk_mul, bd0_e, bd1_e, bd2_e, bd3_e, bd4_e, st_e, nI_leI, nI_ltI, nI_eq, if_pos, if_neg, if_true, if_false, ld_nI, sti_nI, stl_nI, el]
    have e := key 4 0 FU 0 (by omega) (fuel (by omega)) (by rw [et]; omega)
    rw [et, Nat.zero_add] at e
    refine ⟨nI (s.1 + 1), nI (min (tot nm) s.2.1), B1, e, hs, rfl, fun _ => ?_⟩
    show (if s.1 = 0 then tot nm else min (tot nm) s.2.1) ≤ 20 ∧ nI (min (tot nm) s.2.1) = nI (if s.1 = 0 then tot nm else min (tot nm) s.2.1) ∧ ∀ v, v < 4 → B1 v = nI ((if s.1 = 0 then nm else s.2.2) v)
    rw [if_neg q, if_neg q]
    exact ⟨by omega, rfl, g3⟩
