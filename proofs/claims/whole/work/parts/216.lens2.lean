/-! countLengths of the reference -/
set_option maxRecDepth 100000 in
theorem sm_zero {f : Nat → Nat} : ∀ {n : Nat}, (∀ t, t < n → f t = 0) → sm n f = 0
  | 0, _ => rfl
  | n + 1, h => by rw [sm, sm_zero (fun t ht => h t (by omega)), h n (by omega)]
set_option maxRecDepth 100000 in
theorem sm_cut {p : Nat → Bool} {g : Nat → Nat} {N L : Nat} (h : L + 1 ≤ N) : sm N (fun l => if (decide (l ≤ L) && p l) = true then g l else 0) = sm (L + 1) (fun l => if p l = true then g l else 0) := by
  obtain ⟨r, rfl⟩ : ∃ r, N = L + 1 + r := ⟨N - (L + 1), by omega⟩
  rw [sm_add, sm_zero (n := r) (fun t _ => if_neg (by rw [decide_eq_false (by omega), Bool.false_and]; exact Bool.false_ne_true)), Nat.add_zero]
  exact sm_cong fun t ht => by rw [decide_eq_true (by omega), Bool.true_and]
def aN (cs : List (Nat × Nat × Nat)) (n : Nat → Nat) : Nat → Nat → Bool
  | _, 0 => true
  | i, d + 1 => alw i (n i) cs && aN cs n (i + 1) d
def bal (w : Nat → Int32) (n : Nat → Nat) : Nat → Nat → Int32 → Int32
  | _, 0, s => s
  | i, d + 1, s => bal w n (i + 1) d (s + w i * nI (n i))
def cnt (cs : List (Nat × Nat × Nat)) (w : Nat → Int32) (s : Int32) (n : Nat → Nat) : Nat := b1 (aN cs n 0 4 && decide (bal w n 0 4 s = nI 0))
def cnt4 (cs : List (Nat × Nat × Nat)) (w : Nat → Int32) (s : Int32) (i j k l : Nat) : Nat := b1 ((alw 0 i cs && (alw 1 j cs && (alw 2 k cs && (alw 3 l cs && true)))) && decide (s + w 0 * nI i + w 1 * nI j + w 2 * nI k + w 3 * nI l = nI 0))
set_option maxRecDepth 100000 in
theorem ways_nest {cs : List (Nat × Nat × Nat)} {w : Nat → Int32} {lim : Nat → Nat} (hl : ∀ v, v < 4 → lim v ≤ 9) (s : Int32) : ways w (fun v l => decide (l ≤ lim v) && alw v l cs) 4 0 s = sm (lim 0 + 1) (fun i => sm (lim 1 + 1) (fun j => sm (lim 2 + 1) (fun k => sm (lim 3 + 1) (fun l => cnt4 cs w s i j k l)))) := by
  have h0 := hl 0 (by decide)
  have h1 := hl 1 (by decide)
  have h2 := hl 2 (by decide)
  have h3 := hl 3 (by decide)
  rw [ways, sm_cut (by omega)]
  refine sm_cong fun i _ => ?_
  cases o0 : alw 0 i cs with
  | false => exact (sm_zero fun _ _ => sm_zero fun _ _ => sm_zero fun _ _ => by rw [cnt4, o0]; rfl).symm
  | true =>
    rw [if_pos rfl, ways, sm_cut (show lim (0 + 1) + 1 ≤ 10 from Nat.succ_le_succ h1)]
    refine sm_cong fun j _ => ?_
    cases o1 : alw 1 j cs with
    | false => exact (sm_zero fun _ _ => sm_zero fun _ _ => by rw [cnt4, o0, o1]; rfl).symm
    | true =>
      rw [if_pos rfl, ways, sm_cut (show lim (0 + 1 + 1) + 1 ≤ 10 from Nat.succ_le_succ h2)]
      refine sm_cong fun k _ => ?_
      cases o2 : alw 2 k cs with
      | false => exact (sm_zero fun _ _ => by rw [cnt4, o0, o1, o2]; rfl).symm
      | true =>
        rw [if_pos rfl, ways, sm_cut (show lim (0 + 1 + 1 + 1) + 1 ≤ 10 from Nat.succ_le_succ h3)]
        refine sm_cong fun l _ => ?_
        rw [cnt4, o0, o1, o2]
        cases o3 : alw 3 l cs with
        | false => rfl
        | true => rw [if_pos rfl, ways]; rfl
section CL
variable {Cn : Int32} {Cv Cr Ck : Nat → Int32} {many : Int32} {con : Nat → Int32} {cs : List (Nat × Nat × Nat)}
set_option maxRecDepth 100000 in
theorem mOne (h : RC Cn Cv Cr Ck many con cs) {now : Nat → Int32} {xs ys : List Nat} (hr : rowIs now xs ys) (hx : okS 12 xs) (hy : okS 12 ys) {k80 : (Nat → Int32) → Int32 → Int32 → Option (Int32 × (Nat → Int32))} {number : Nat → Int32} {v1 v2 v3 : Int32} {n : Nat → Nat} (hn : ∀ v, v < 4 → n v < 1000 ∧ number v = nI (n v)) :
    ∀ (d i m : Nat) (s : Int32) (f : Bool), i + d = 4 → d < m → fx3 (fM_countLengths_94 k80 many now con number v1 v2 v3) m s (nI (b1 f)) (nI i) = fM_countLengths_188 k80 many now con number v1 v2 v3 (nI (b1 ((f && aN cs n i d) && decide (bal (fun v => nI (xs.count (v + 2)) - nI (ys.count (v + 2))) n i d s = nI 0)))) := by
  intro d
  induction d with
  | zero =>
    intro i m s f hi hm
    obtain ⟨m, rfl⟩ := succ_of hm
    rw [aN, bal, Bool.and_true]
    cases f with
    | false =>
      rw [Bool.false_and, b1_f]
      simp -implicitDefEqProofs (disch := omega) only [fx3_s, fM_countLengths_94, litI, litL, nI_add, pk_mul, bd0_e, bd1_e, bd2_e, bd3_e, bd4_e, st_e, nI_leI, nI_ltI, nI_eq, if_pos, if_neg, if_true, if_false, ld_nI, sti_nI, stl_nI]
    | true =>
      rw [Bool.true_and]
      by_cases q : s = nI 0
      · rw [decide_eq_true q, b1_t, q]
        simp -implicitDefEqProofs (disch := omega) only [fx3_s, fM_countLengths_94, litI, litL, nI_add, pk_mul, bd0_e, bd1_e, bd2_e, bd3_e, bd4_e, st_e, nI_leI, nI_ltI, nI_eq, if_pos, if_neg, if_true, if_false, ld_nI, sti_nI, stl_nI]
      · rw [decide_eq_false q, b1_f, b1_t]
        simp -implicitDefEqProofs (disch := omega) only [fx3_s, fM_countLengths_94, litI, litL, nI_add, pk_mul, bd0_e, bd1_e, bd2_e, bd3_e, bd4_e, st_e, nI_leI, nI_ltI, nI_eq, if_pos, if_neg, if_true, if_false, ld_nI, sti_nI, stl_nI, q]
  | succ d ih =>
    intro i m s f hi hm
    obtain ⟨m, rfl⟩ := succ_of hm
    obtain ⟨n1, n2⟩ := hn i (by omega)
    have k1 := mCountOf hr (s := 0) (by decide) hx (c := i + 2) (by omega)
    have k2 := mCountOf hr (s := 1) (by decide) hy (c := i + 2) (by omega)
    rw [sd_0] at k1
    rw [sd_1] at k2
    have eh := mHolds h (v := i) (k := n i) (by omega) (by omega)
    have ec : nI (n i) * (nI (xs.count (i + 2)) - nI (ys.count (i + 2))) = (nI (xs.count (i + 2)) - nI (ys.count (i + 2))) * nI (n i) := Int32.mul_comm _ _
    rw [bal, aN, ← Bool.and_assoc]
    have e := ih (i + 1) m (s + (nI (xs.count (i + 2)) - nI (ys.count (i + 2))) * nI (n i)) (f && alw i (n i) cs) (by omega) (by omega)
    rw [← e]
    cases f with
    | false =>
      rw [Bool.false_and, b1_f]
      simp -implicitDefEqProofs (disch := omega) only [fx3_s, fM_countLengths_94, litI, litL, nI_add, pk_mul, bd0_e, bd1_e, bd2_e, bd3_e, bd4_e, st_e, nI_leI, nI_ltI, nI_eq, if_pos, if_neg, if_true, if_false, ld_nI, sti_nI, stl_nI, n2, k1, k2, ec]
    | true =>
      rw [Bool.true_and, b1_t]
      cases o : alw i (n i) cs with
      | true =>
        rw [o, b1_t] at eh
        rw [b1_t]
        simp -implicitDefEqProofs (disch := omega) only [fx3_s, fM_countLengths_94, litI, litL, nI_add, pk_mul, bd0_e, bd1_e, bd2_e, bd3_e, bd4_e, st_e, nI_leI, nI_ltI, nI_eq, if_pos, if_neg, if_true, if_false, ld_nI, sti_nI, stl_nI, n2, k1, k2, ec, eh]
      | false =>
        rw [o, b1_f] at eh
        rw [b1_f]
        simp -implicitDefEqProofs (disch := omega) only [fx3_s, fM_countLengths_94, litI, litL, nI_add, pk_mul, bd0_e, bd1_e, bd2_e, bd3_e, bd4_e, st_e, nI_leI, nI_ltI, nI_eq, if_pos, if_neg, if_true, if_false, ld_nI, sti_nI, stl_nI, n2, k1, k2, ec, eh]
set_option maxRecDepth 100000 in
theorem mCountLoop (h : RC Cn Cv Cr Ck many con cs) {now : Nat → Int32} {xs ys : List Nat} (hr : rowIs now xs ys) (hx : okS 12 xs) (hy : okS 12 ys) {x : Nat} (hxx : x ≤ 9) {v2 : Int32} :
    ∀ (d a m : Nat) (number : Nat → Int32), a + d = rad (bOf xs ys (x + 1)) 4 → d < m → (∀ v, v < 4 → number v = nI (dgt (bOf xs ys (x + 1)) 4 a v)) →
      ∃ number', fx3 (fM_countLengths_80 many now con (nI x) v2) m number (nI (sm a (fun t => cnt cs (fun v => nI (xs.count (v + 2)) - nI (ys.count (v + 2))) v2 (dgt (bOf xs ys (x + 1)) 4 t)))) (nI (b1 (decide (a < rad (bOf xs ys (x + 1)) 4)))) = some (nI (sm (rad (bOf xs ys (x + 1)) 4) (fun t => cnt cs (fun v => nI (xs.count (v + 2)) - nI (ys.count (v + 2))) v2 (dgt (bOf xs ys (x + 1)) 4 t))), number') := by
  have hB := bOf_pos (xs := xs) (ys := ys) (b := x + 1) (by omega)
  have hB2 : ∀ v, bOf xs ys (x + 1) v < 1000 := fun v => by unfold bOf; split <;> omega
  intro d
  induction d with
  | zero =>
    intro a m number ha hm hn
    obtain ⟨m, rfl⟩ := succ_of hm
    have : a = rad (bOf xs ys (x + 1)) 4 := by omega
    rw [decide_eq_false (by omega), b1_f, this]
    refine ⟨number, ?_⟩
    simp -implicitDefEqProofs (disch := omega) only [fx3_s, fM_countLengths_80, litI, litL, nI_add, pk_mul, bd0_e, bd1_e, bd2_e, bd3_e, bd4_e, st_e, nI_leI, nI_ltI, nI_eq, if_pos, if_neg, if_true, if_false, ld_nI, sti_nI, stl_nI]
  | succ d ih =>
    intro a m number ha hm hn
    obtain ⟨m, rfl⟩ := succ_of hm
    obtain ⟨number1, g1, g2⟩ := mGo hr hx hy (b := x + 1) (by omega) (by omega) (a := a) (by omega) hn
    obtain ⟨number', e⟩ := ih (a + 1) m number1 (by omega) (by omega) g2
    refine ⟨number', ?_⟩
    rw [← e, decide_eq_true (by omega), b1_t]
    have e1 := mOne h hr hx hy (k80 := fx3 (fM_countLengths_80 many now con (nI x) v2) m) (number := number) (v1 := nI x) (v2 := v2) (v3 := nI (sm a (fun t => cnt cs (fun v => nI (xs.count (v + 2)) - nI (ys.count (v + 2))) v2 (dgt (bOf xs ys (x + 1)) 4 t)))) (n := dgt (bOf xs ys (x + 1)) 4 a) (fun v hv => ⟨Nat.lt_trans (dgt_lt hB 4 a v hv) (hB2 v), hn v hv⟩) 4 0 FU v2 true (by omega) (fuel (by omega))
    rw [b1_t, Bool.true_and] at e1
    rw [sm]
    generalize sm a (fun t => cnt cs (fun v => nI (xs.count (v + 2)) - nI (ys.count (v + 2))) v2 (dgt (bOf xs ys (x + 1)) 4 t)) = S at *
    have e2 : fM_countLengths_188 (fx3 (fM_countLengths_80 many now con (nI x) v2) m) many now con number (nI x) v2 (nI S) (nI (cnt cs (fun v => nI (xs.count (v + 2)) - nI (ys.count (v + 2))) v2 (dgt (bOf xs ys (x + 1)) 4 a))) = fx3 (fM_countLengths_80 many now con (nI x) v2) m number1 (nI (S + cnt cs (fun v => nI (xs.count (v + 2)) - nI (ys.count (v + 2))) v2 (dgt (bOf xs ys (x + 1)) 4 a))) (nI (b1 (decide (a + 1 < rad (bOf xs ys (x + 1)) 4)))) := by
      simp -implicitDefEqProofs (disch := omega) only [fM_countLengths_188, litI, litL, nI_add, pk_mul, bd0_e, bd1_e, bd2_e, bd3_e, bd4_e, st_e, g1]
    rw [← e2]
    refine Eq.trans ?_ e1
    simp -implicitDefEqProofs (disch := omega) only [fx3_s, fM_countLengths_80, litI, litL, nI_add, pk_mul, bd0_e, bd1_e, bd2_e, bd3_e, bd4_e, st_e, nI_leI, nI_ltI, nI_eq, if_pos, if_neg, if_true, if_false, ld_nI, sti_nI, stl_nI]
end CL
set_option maxRecDepth 100000 in
theorem add4 (a b c d : Int32) : (a - b) + (c - d) = a + c - b - d := by
  apply Int32.toBitVec_inj.mp
  apply BitVec.eq_of_toInt_eq
  simp only [Int32.toBitVec_add, Int32.toBitVec_sub, BitVec.toInt_add, BitVec.toInt_sub]
  simp only [Int.bmod_add_bmod, Int.add_bmod_bmod, Int.bmod_sub_bmod, Int.sub_bmod_bmod]
  congr 1
  omega
set_option maxRecDepth 100000 in
theorem rad_le {B : Nat → Nat} {b : Nat} (h : ∀ v, B v ≤ b) : ∀ d, rad B d ≤ b ^ d
  | 0 => Nat.le_refl _
  | d + 1 => by rw [rad, Nat.pow_succ]; exact Nat.mul_le_mul (rad_le h d) (h d)
set_option maxRecDepth 100000 in
theorem dgt_0 (B : Nat → Nat) : ∀ (d v : Nat), dgt B d 0 v = 0
  | 0, _ => rfl
  | d + 1, v => by
    rw [dgt, Nat.zero_mod, Nat.zero_div, dgt_0 B d v]
    split <;> rfl
set_option maxRecDepth 100000 in
theorem mCount57 {many : Int32} {now con : Nat → Int32} {v1 v2 : Int32} (number : Nat → Int32) : ∃ number', fx2 (fM_countLengths_57 many now con v1 v2) FU number (nI 0) = fx3 (fM_countLengths_80 many now con v1 v2) FU number' (nI 0) (nI 1) ∧ ∀ v, v < 4 → number' v = nI 0 := by
  have key : ∀ (d i m : Nat) (number : Nat → Int32), i + d = 4 → d < m → (∀ v, v < i → number v = nI 0) → ∃ number', fx2 (fM_countLengths_57 many now con v1 v2) m number (nI i) = fx3 (fM_countLengths_80 many now con v1 v2) FU number' (nI 0) (nI 1) ∧ ∀ v, v < 4 → number' v = nI 0 := by
    intro d
    induction d with
    | zero =>
      intro i m number hi hm hn
      obtain ⟨m, rfl⟩ := succ_of hm
      refine ⟨number, ?_, fun v hv => hn v (by omega)⟩
      simp -implicitDefEqProofs (disch := omega) only [fx2_s, fM_countLengths_57, litI, litL, nI_add, pk_mul, bd0_e, bd1_e, bd2_e, bd3_e, bd4_e, st_e, nI_leI, nI_ltI, nI_eq, if_pos, if_neg, if_true, if_false, ld_nI, sti_nI, stl_nI]
    | succ d ih =>
      intro i m number hi hm hn
      obtain ⟨m, rfl⟩ := succ_of hm
      obtain ⟨number', e, hn'⟩ := ih (i + 1) m (upd number i (nI 0)) (by omega) (by omega) (fun v hv => by
        rw [upd_e]
        by_cases q : v = i
        · rw [if_pos q]
        · rw [if_neg q]; exact hn v (by omega))
      refine ⟨number', ?_, hn'⟩
      rw [← e]
      simp -implicitDefEqProofs (disch := omega) only [fx2_s, fM_countLengths_57, litI, litL, nI_add, pk_mul, bd0_e, bd1_e, bd2_e, bd3_e, bd4_e, st_e, nI_leI, nI_ltI, nI_eq, if_pos, if_neg, if_true, if_false, ld_nI, sti_nI, stl_nI]
  exact key 4 0 FU number (by omega) (fuel (by omega)) (fun v hv => absurd hv (Nat.not_lt_zero _))
set_option maxRecDepth 100000 in
theorem pCountLengths {El Er : Int64} {now : Nat → Int32} {xs ys : List Nat} (h : RE El Er now xs ys) {Cn : Int32} {Cv Cr Ck : Nat → Int32} {many : Int32} {con : Nat → Int32} {cs : List (Nat × Nat × Nat)} (hC : RC Cn Cv Cr Ck many con cs) (Qs : Int32) (Qw Qp number : Nat → Int32) (x1 : Int32) :
    ∃ r Qs' Qw' Qp' number', fX_countLengths El Er Qs Qw Qp Cn Cv Cr Ck x1 = some (r, Qs', Qw', Qp') ∧ fM_countLengths many now con number x1 = some (r, number') := by
  obtain ⟨hx, hy, rfl, rfl, hr⟩ := h
  rcases pk_ix x1 (n := 10) (by decide) with c | c | ⟨x, hxx, rfl⟩
  · have b := mInLo (n := 9) c
    exact ⟨-2, Qs, Qw, Qp, number, by rw [fX_countLengths, if_pos c], by simp -implicitDefEqProofs (disch := omega) only [fM_countLengths, litI, litL, nI_add, pk_mul, bd0_e, bd1_e, bd2_e, bd3_e, bd4_e, st_e, nI_leI, nI_ltI, nI_eq, if_pos, if_neg, if_true, if_false, ld_nI, sti_nI, stl_nI, b] <;> rfl⟩
  · have l : nI 9 < x1 := hi_of (by decide) c
    have b := mInHi (n := 9) (by decide) l
    exact ⟨-2, Qs, Qw, Qp, number, by rw [fX_countLengths, if_neg (not_lo (by decide) c), if_neg (fun (z : x1 ≤ 9) => absurd l (Int32.not_lt.mpr z))], by simp -implicitDefEqProofs (disch := omega) only [fM_countLengths, litI, litL, nI_add, pk_mul, bd0_e, bd1_e, bd2_e, bd3_e, bd4_e, st_e, nI_leI, nI_ltI, nI_eq, if_pos, if_neg, if_true, if_false, ld_nI, sti_nI, stl_nI, b] <;> rfl⟩
  · have b := mInIn (j := x) (n := 9) (by decide) (by omega)
    obtain ⟨Qs', Qw', Qp', e1, hQ⟩ := qPrepare hC hx hy (x := x) (by omega) Qw Qp
    have e2 := qWays hQ 4 0 8 Qs' (by omega) (by omega)
    have hQ1 := hQ.1
    have hQ2 := hQ.2
    obtain ⟨number0, z1, z2⟩ := mCount57 (many := many) (now := now) (con := con) (v1 := nI x) (v2 := Qs') number
    have hB := bOf_pos (xs := xs) (ys := ys) (b := x + 1) (by omega)
    have hB2 : ∀ v, bOf xs ys (x + 1) v ≤ 10 := fun v => by unfold bOf; split <;> omega
    have hT := rad_le hB2 4
    obtain ⟨number', e3⟩ := mCountLoop hC hr hx hy (x := x) (by omega) (v2 := Qs') (rad (bOf xs ys (x + 1)) 4) 0 FU number0 (by omega) (fuel (by omega)) (fun v hv => by rw [z2 v hv, dgt_0])
    rw [decide_eq_true (rad_pos hB 4), b1_t, show sm 0 _ = 0 from rfl] at e3
    have lims : ∀ v, bOf xs ys (x + 1) v - 1 + 1 = bOf xs ys (x + 1) v := fun v => by have := hB v; omega
    have hw : ∀ v, v < 4 → Qw' v = nI (xs.count (v + 2)) - nI (ys.count (v + 2)) := fun v hv => (hQ2 v hv).2.1
    have eq : ways Qw' (fun v l => decide (l ≤ bOf xs ys (x + 1) v - 1) && alw v l cs) 4 0 Qs' = sm (rad (bOf xs ys (x + 1)) 4) (fun t => cnt cs (fun v => nI (xs.count (v + 2)) - nI (ys.count (v + 2))) Qs' (dgt (bOf xs ys (x + 1)) 4 t)) := by
      rw [ways_nest (lim := fun v => bOf xs ys (x + 1) v - 1) (fun v hv => (hQ2 v hv).1)]
      have e4 := sm_dgt (bOf xs ys (x + 1)) (cnt4 cs (fun v => nI (xs.count (v + 2)) - nI (ys.count (v + 2))) Qs')
      refine Eq.trans ?_ (Eq.trans e4.symm (sm_cong fun t _ => rfl))
      show sm (bOf xs ys (x + 1) 0 - 1 + 1) (fun i => sm (bOf xs ys (x + 1) 1 - 1 + 1) (fun j => sm (bOf xs ys (x + 1) 2 - 1 + 1) (fun k => sm (bOf xs ys (x + 1) 3 - 1 + 1) (fun l => cnt4 cs Qw' Qs' i j k l)))) = _
      rw [lims 0, lims 1, lims 2, lims 3]
      refine sm_cong fun i _ => sm_cong fun j _ => sm_cong fun k _ => sm_cong fun l _ => ?_
      rw [cnt4, cnt4, hw 0 (by decide), hw 1 (by decide), hw 2 (by decide), hw 3 (by decide)]
    have k00 := mCountOf hr (s := 0) (by decide) hx (c := 0) (by decide)
    have k01 := mCountOf hr (s := 0) (by decide) hx (c := 1) (by decide)
    have k10 := mCountOf hr (s := 1) (by decide) hy (c := 0) (by decide)
    have k11 := mCountOf hr (s := 1) (by decide) hy (c := 1) (by decide)
    rw [sd_0] at k00 k01
    rw [sd_1] at k10 k11
    rw [add4, nI_add] at hQ1
    rw [eq] at e2
    have e5 : fQ_waysFrom Qw' Qp' (nI 0) Qs' = some (nI (sm (rad (bOf xs ys (x + 1)) 4) (fun t => cnt cs (fun v => nI (xs.count (v + 2)) - nI (ys.count (v + 2))) Qs' (dgt (bOf xs ys (x + 1)) 4 t)))) := e2
    refine ⟨nI (sm (rad (bOf xs ys (x + 1)) 4) (fun t => cnt cs (fun v => nI (xs.count (v + 2)) - nI (ys.count (v + 2))) Qs' (dgt (bOf xs ys (x + 1)) 4 t))), Qs', Qw', Qp', number', ?_, ?_⟩
    · simp -implicitDefEqProofs (disch := omega) only [fX_countLengths, fQ_solutions, litI, litL, nI_add, pk_mul, bd0_e, bd1_e, bd2_e, bd3_e, bd4_e, st_e, nI_leI, nI_ltI, nI_eq, if_pos, if_neg, if_true, if_false, ld_nI, sti_nI, stl_nI, e1, e5]
    · rw [← e3, ← z1]
      simp -implicitDefEqProofs (disch := omega) only [fM_countLengths, litI, litL, nI_add, pk_mul, bd0_e, bd1_e, bd2_e, bd3_e, bd4_e, st_e, nI_leI, nI_ltI, nI_eq, if_pos, if_neg, if_true, if_false, ld_nI, sti_nI, stl_nI, b, k00, k01, k10, k11, ← hQ1]
