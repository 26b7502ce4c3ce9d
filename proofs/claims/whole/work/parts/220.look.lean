/-! lookThrough of the reference -/
def RMs (s : ST) (Mf Ms : Int32) (M1 : Nat → Int32) : Prop := s.1 < 2 ^ 30 ∧ Mf = nI s.1 ∧ (s.1 = 0 → Ms = -nI 9) ∧ (s.1 ≠ 0 → s.2.1 ≤ 20 ∧ Ms = nI s.2.1 ∧ ∀ v, v < 4 → M1 v = nI (s.2.2 v))
section LK
variable {k33 : Int32 → Int32 → (Nat → Int32) → (Nat → Int32) → (Nat → Int32) → (Nat → Int32) → Int32 → Option (Int32 × Int32 × (Nat → Int32) × (Nat → Int32) × (Nat → Int32) × (Nat → Int32))} {many : Int32} {con word size number now : Nat → Int32} {v2 : Int32}
set_option maxRecDepth 100000 in
theorem mRecord {nm : Nat → Nat} (hnm : ∀ v, v < 4 → nm v < 15 ∧ number v = nI (nm v)) {s : ST} {Mf Ms : Int32} {M1 : Nat → Int32} (h : RMs s Mf Ms M1) (hs : s.1 + 1 < 2 ^ 30) :
    ∃ Mf' Ms' M1', fx3 (fM_lookThrough_51 k33 many Mf Ms con word size number now v2) FU M1 (nI 0) (nI 0) = fM_lookThrough_148 k33 many Mf' Ms' con word size number M1' now v2 ∧ RMs (recS nm s) Mf' Ms' M1' := by
  obtain ⟨h1, rfl, h2, h3⟩ := h
  have t3 : tot nm ≤ 12 := by
    have := wl_le3 _ (hnm 0 (by decide)).1; have := wl_le3 _ (hnm 1 (by decide)).1; have := wl_le3 _ (hnm 2 (by decide)).1; have := wl_le3 _ (hnm 3 (by decide)).1
    unfold tot
    omega
  have et : totN nm 0 4 = tot nm := by
    unfold tot
    show wl (nm 0) + (wl (nm 1) + (wl (nm 2) + (wl (nm 3) + 0))) = _
    omega
  by_cases q : s.1 = 0
  · have key : ∀ (d i m a : Nat) (M1 : Nat → Int32), i + d = 4 → d < m → (∀ v, v < i → M1 v = nI (nm v)) → ∃ M1', fx3 (fM_lookThrough_51 k33 many (nI s.1) Ms con word size number now v2) m M1 (nI a) (nI i) = fM_lookThrough_148 k33 many (nI (s.1 + 1)) (nI (a + totN nm i d)) con word size number M1' now v2 ∧ ∀ v, v < 4 → M1' v = nI (nm v) := by
      intro d
      induction d with
      | zero =>
        intro i m a M1 hi hm hb
        obtain ⟨m, rfl⟩ := succ_of hm
        refine ⟨M1, ?_, fun v hv => hb v (by omega)⟩
        rw [totN]
        simp -implicitDefEqProofs (disch := omega) only [fx3_s, fM_lookThrough_51, fM_lookThrough_135, litI, litL, nI_add, pk_mul, bd0_e, bd1_e, bd2_e, bd3_e, bd4_e, st_e, nI_leI, nI_ltI, nI_eq, if_pos, if_neg, if_true, if_false, ld_nI, sti_nI, stl_nI, Nat.add_zero]
      | succ d ih =>
        intro i m a M1 hi hm hb
        obtain ⟨m, rfl⟩ := succ_of hm
        obtain ⟨n1, n2⟩ := hnm i (by omega)
        have el := mLengthOf (n := nm i) (by omega)
        obtain ⟨M1', e, hb'⟩ := ih (i + 1) m (a + wl (nm i)) (upd M1 i (nI (nm i))) (by omega) (by omega) (fun v hv => by
          rw [upd_e]
          by_cases qv : v = i
          · rw [if_pos qv, qv]
          · rw [if_neg qv]; exact hb v (by omega))
        refine ⟨M1', ?_, hb'⟩
        rw [totN, ← Nat.add_assoc, ← e]
        simp -implicitDefEqProofs (disch := omega) only [fx3_s, fM_lookThrough_51, fM_lookThrough_102, litI, litL, nI_add, pk_mul, bd0_e, bd1_e, bd2_e, bd3_e, bd4_e, st_e, nI_leI, nI_ltI, nI_eq, if_pos, if_neg, if_true, if_false, ld_nI, sti_nI, stl_nI, el, n2]
    obtain ⟨M1', e, hb'⟩ := key 4 0 FU 0 M1 (by omega) (fuel (by omega)) (fun v hv => absurd hv (Nat.not_lt_zero _))
    rw [et, Nat.zero_add] at e
    refine ⟨nI (s.1 + 1), nI (tot nm), M1', e, hs, rfl, fun z => absurd z (Nat.succ_ne_zero _), fun _ => ?_⟩
    show (if s.1 = 0 then tot nm else min (tot nm) s.2.1) ≤ 20 ∧ nI (tot nm) = nI (if s.1 = 0 then tot nm else min (tot nm) s.2.1) ∧ ∀ v, v < 4 → M1' v = nI ((if s.1 = 0 then nm else s.2.2) v)
    rw [if_pos q, if_pos q]
    exact ⟨by omega, rfl, hb'⟩
  · obtain ⟨g1, rfl, g3⟩ := h3 q
    have key : ∀ (d i m a : Nat) (M1 : Nat → Int32), i + d = 4 → d < m → a + totN nm i d ≤ 12 → (∀ v, v < 4 → M1 v = nI (s.2.2 v)) → ∃ M1', fx3 (fM_lookThrough_51 k33 many (nI s.1) (nI s.2.1) con word size number now v2) m M1 (nI a) (nI i) = fM_lookThrough_148 k33 many (nI (s.1 + 1)) (nI (min (a + totN nm i d) s.2.1)) con word size number M1' now v2 ∧ ∀ v, v < 4 → M1' v = nI (s.2.2 v) := by
      intro d
      induction d with
      | zero =>
        intro i m a M1 hi hm ha hb
        obtain ⟨m, rfl⟩ := succ_of hm
        rw [totN] at ha
        refine ⟨M1, ?_, hb⟩
        rw [totN]
        by_cases c : s.2.1 ≤ a
        · rw [Nat.min_eq_right (by omega)]
          simp -implicitDefEqProofs (disch := omega) only [fx3_s, fM_lookThrough_51, fM_lookThrough_135, litI, litL, nI_add, pk_mul, bd0_e, bd1_e, bd2_e, bd3_e, bd4_e, st_e, nI_leI, nI_ltI, nI_eq, if_pos, if_neg, if_true, if_false, ld_nI, sti_nI, stl_nI, Nat.add_zero]
        · rw [Nat.min_eq_left (by omega)]
          simp -implicitDefEqProofs (disch := omega) only [fx3_s, fM_lookThrough_51, fM_lookThrough_135, litI, litL, nI_add, pk_mul, bd0_e, bd1_e, bd2_e, bd3_e, bd4_e, st_e, nI_leI, nI_ltI, nI_eq, if_pos, if_neg, if_true, if_false, ld_nI, sti_nI, stl_nI, Nat.add_zero]
      | succ d ih =>
        intro i m a M1 hi hm ha hb
        obtain ⟨m, rfl⟩ := succ_of hm
        obtain ⟨n1, n2⟩ := hnm i (by omega)
        have el := mLengthOf (n := nm i) (by omega)
        rw [totN, ← Nat.add_assoc] at ha
        obtain ⟨M1', e, hb'⟩ := ih (i + 1) m (a + wl (nm i)) (upd M1 i (M1 i)) (by omega) (by omega) ha (fun v hv => by
          rw [upd_e]
          by_cases qv : v = i
          · rw [if_pos qv, ← qv]; exact hb v hv
          · rw [if_neg qv]; exact hb v hv)
        refine ⟨M1', ?_, hb'⟩
        rw [totN, ← Nat.add_assoc, ← e]
        simp -implicitDefEqProofs (disch := omega) only [fx3_s, fM_lookThrough_51, fM_lookThrough_102, litI, litL, nI_add, pk_mul, bd0_e, bd1_e, bd2_e, bd3_e, bd4_e, st_e, nI_leI, nI_ltI, nI_eq, if_pos, if_neg, if_true, if_false, ld_nI, sti_nI, stl_nI, el, n2]
    obtain ⟨M1', e, hb'⟩ := key 4 0 FU 0 M1 (by omega) (fuel (by omega)) (by rw [et]; omega) g3
    rw [et, Nat.zero_add] at e
    refine ⟨nI (s.1 + 1), nI (min (tot nm) s.2.1), M1', e, hs, rfl, fun z => absurd z (Nat.succ_ne_zero _), fun _ => ?_⟩
    show (if s.1 = 0 then tot nm else min (tot nm) s.2.1) ≤ 20 ∧ nI (min (tot nm) s.2.1) = nI (if s.1 = 0 then tot nm else min (tot nm) s.2.1) ∧ ∀ v, v < 4 → M1' v = nI ((if s.1 = 0 then nm else s.2.2) v)
    rw [if_neg q, if_neg q]
    exact ⟨by omega, rfl, hb'⟩
end LK
