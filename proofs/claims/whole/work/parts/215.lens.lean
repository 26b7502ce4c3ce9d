/-! countLengths -/
set_option maxRecDepth 100000 in
theorem sh_c : ∀ k, k < 31 → ((nI k &&& 31).toBitVec.smod 32).toNat = k := by decide +kernel
set_option maxRecDepth 100000 in
theorem shr_n {n k : Nat} (hn : n < 2 ^ 31) (hk : k < 31) : shr (nI n) (nI k) = nI (n / 2 ^ k) := pk_shrN hn _ _ (sh_c k hk)
set_option maxRecDepth 100000 in
theorem and1 (n : Nat) : nI n &&& nI 1 = nI (n % 2) := fa_mask n 1
set_option maxRecDepth 100000 in
theorem shl1_c : ∀ k, k < 31 → shl (nI 1) (nI k) = nI (2 ^ k) := by decide +kernel
/-- a set of lengths as bits -/
def pm (f : Nat → Bool) : Nat → Nat
  | 0 => 0
  | n + 1 => pm f n + b1 (f n) * 2 ^ n
set_option maxRecDepth 100000 in
theorem pm_lt (f : Nat → Bool) : ∀ n, pm f n < 2 ^ n
  | 0 => Nat.one_pos
  | n + 1 => by
    have h1 := pm_lt f n
    have h2 := b1_lt (f n)
    have h3 : b1 (f n) * 2 ^ n ≤ 1 * 2 ^ n := Nat.mul_le_mul_right _ (by omega)
    rw [pm, Nat.pow_succ]
    omega
set_option maxRecDepth 100000 in
theorem pm_or (f : Nat → Bool) {n : Nat} (h : f n = true) : nI (pm f n) ||| nI (2 ^ n) = nI (pm f (n + 1)) := by
  have e := fa_or_sum (a := pm f n) (k := n) 1 (pm_lt f n)
  rw [Nat.mul_one, fa_or, Nat.or_comm, ← fa_or] at e
  rw [e, pm, h, b1_t, Nat.one_mul, Nat.add_comm]
set_option maxRecDepth 100000 in
theorem pm_no (f : Nat → Bool) {n : Nat} (h : f n = false) : pm f (n + 1) = pm f n := by rw [pm, h, b1_f, Nat.zero_mul, Nat.add_zero]
set_option maxRecDepth 100000 in
theorem pm_bit (f : Nat → Bool) : ∀ (n l : Nat), pm f n / 2 ^ l % 2 = if l < n then b1 (f l) else 0 := by
  intro n
  induction n with
  | zero => intro l; rw [if_neg (by omega), pm, Nat.zero_div]
  | succ n ih =>
    intro l
    have hl := pm_lt f n
    have hb := b1_lt (f n)
    rcases Nat.lt_trichotomy l n with q | q | q
    · rw [if_pos (by omega), pm]
      have e : b1 (f n) * 2 ^ n = 2 ^ l * (2 * (b1 (f n) * 2 ^ (n - l - 1))) := by
        have : 2 ^ n = 2 ^ l * (2 * 2 ^ (n - l - 1)) := by rw [← Nat.pow_succ', ← Nat.pow_add]; congr 1; omega
        rw [this]
        simp only [Nat.mul_left_comm]
      rw [e, Nat.add_mul_div_left _ _ (Nat.two_pow_pos l), Nat.add_mul_mod_self_left, ih l, if_pos q]
    · subst q
      rw [if_pos (by omega), pm, Nat.add_mul_div_right _ _ (Nat.two_pow_pos l), Nat.div_eq_of_lt hl, Nat.zero_add, Nat.mod_eq_of_lt hb]
    · rw [if_neg (by omega)]
      have h2 := pm_lt f (n + 1)
      rw [Nat.div_eq_of_lt (Nat.lt_of_lt_of_le h2 (Nat.pow_le_pow_right (by decide) q)), Nat.zero_mod]
section LN
variable {Cn : Int32} {Cv Cr Ck : Nat → Int32} {many : Int32} {con : Nat → Int32} {cs : List (Nat × Nat × Nat)}
set_option maxRecDepth 100000 in
theorem qPossible (h : RC Cn Cv Cr Ck many con cs) {v n : Nat} (hv : v < 4) (hn : n ≤ 9) : fQ_possibleUpTo Cn Cv Cr Ck (nI n) (nI v) = some (nI (pm (fun l => alw v l cs) (n + 1))) := by
  have key : ∀ (d i m : Nat), i + d = n + 1 → d < m → fx2 (fQ_possibleUpTo_5 Cn Cv Cr Ck (nI n) (nI v)) m (nI (pm (fun l => alw v l cs) i)) (nI i) = some (nI (pm (fun l => alw v l cs) (n + 1))) := by
    intro d
    induction d with
    | zero =>
      intro i m hi hm
      obtain ⟨m, rfl⟩ := succ_of hm
      rw [show i = n + 1 by omega]
      simp -implicitDefEqProofs (disch := omega) only [fx2_s, fQ_possibleUpTo_5, litI, litL, nI_add, pk_mul, bd0_e, bd1_e, bd2_e, bd3_e, bd4_e, st_e, nI_leI, nI_ltI, nI_eq, if_pos, if_neg, if_true, if_false, ld_nI, sti_nI, stl_nI]
    | succ d ih =>
      intro i m hi hm
      obtain ⟨m, rfl⟩ := succ_of hm
      have ec := cAllow h (v := v) (k := i) hv (by omega)
      have es := shl1_c i (by omega)
      cases o : alw v i cs with
      | true =>
        rw [o, b1_t] at ec
        have eo := pm_or (fun l => alw v l cs) (n := i) o
        rw [← ih (i + 1) m (by omega) (by omega)]
        simp -implicitDefEqProofs (disch := omega) only [fx2_s, fQ_possibleUpTo_5, litI, litL, nI_add, pk_mul, bd0_e, bd1_e, bd2_e, bd3_e, bd4_e, st_e, nI_leI, nI_ltI, nI_eq, if_pos, if_neg, if_true, if_false, ld_nI, sti_nI, stl_nI, ec, es, eo]
      | false =>
        rw [o, b1_f] at ec
        have eo := pm_no (fun l => alw v l cs) (n := i) o
        rw [← ih (i + 1) m (by omega) (by omega), eo]
        simp -implicitDefEqProofs (disch := omega) only [fx2_s, fQ_possibleUpTo_5, litI, litL, nI_add, pk_mul, bd0_e, bd1_e, bd2_e, bd3_e, bd4_e, st_e, nI_leI, nI_ltI, nI_eq, if_pos, if_neg, if_true, if_false, ld_nI, sti_nI, stl_nI, ec]
  exact key (n + 1) 0 FU (by omega) (fuel (by omega))
/-- what prepare leaves -/
def RQ (Qs : Int32) (Qw Qp : Nat → Int32) (cs : List (Nat × Nat × Nat)) (xs ys : List Nat) (lim : Nat → Nat) : Prop :=
  Qs = (nI (xs.count 0) - nI (ys.count 0)) + (nI (xs.count 1) - nI (ys.count 1)) ∧ ∀ v, v < 4 → lim v ≤ 9 ∧ Qw v = nI (xs.count (v + 2)) - nI (ys.count (v + 2)) ∧ Qp v = nI (pm (fun l => alw v l cs) (lim v + 1))
set_option maxRecDepth 100000 in
theorem qPrepare (h : RC Cn Cv Cr Ck many con cs) {xs ys : List Nat} (hx : okS 12 xs) (hy : okS 12 ys) {x : Nat} (hxx : x ≤ 9) (Qw Qp : Nat → Int32) :
    ∃ Qs' Qw' Qp', fQ_prepare Qw Qp Cn Cv Cr Ck (lN (pq xs)) (lN (pq ys)) (nI x) = some (Qs', Qw', Qp') ∧ RQ Qs' Qw' Qp' cs xs ys (fun v => bOf xs ys (x + 1) v - 1) := by
  have z0 := eSurplus hx hy (c := 0) (by decide)
  have z1 := eSurplus hx hy (c := 1) (by decide)
  rw [Nat.zero_add] at z0
  rw [show (1 + 1 : Nat) = 2 from rfl] at z1
  have key : ∀ (d i m : Nat) (Qs : Int32) (Qw Qp : Nat → Int32), i + d = 4 → d < m → (∀ v, v < i → Qw v = nI (xs.count (v + 2)) - nI (ys.count (v + 2)) ∧ Qp v = nI (pm (fun l => alw v l cs) (bOf xs ys (x + 1) v - 1 + 1))) →
      ∃ Qw' Qp', fx3 (fQ_prepare_17 Qs Cn Cv Cr Ck (lN (pq xs)) (lN (pq ys)) (nI x)) m Qw Qp (nI i) = some (Qs, Qw', Qp') ∧ ∀ v, v < 4 → Qw' v = nI (xs.count (v + 2)) - nI (ys.count (v + 2)) ∧ Qp' v = nI (pm (fun l => alw v l cs) (bOf xs ys (x + 1) v - 1 + 1)) := by
    intro d
    induction d with
    | zero =>
      intro i m Qs Qw Qp hi hm hp
      obtain ⟨m, rfl⟩ := succ_of hm
      refine ⟨Qw, Qp, ?_, fun v hv => hp v (by omega)⟩
      simp -implicitDefEqProofs (disch := omega) only [fx3_s, fQ_prepare_17, litI, litL, nI_add, pk_mul, bd0_e, bd1_e, bd2_e, bd3_e, bd4_e, st_e, nI_leI, nI_ltI, nI_eq, if_pos, if_neg, if_true, if_false, ld_nI, sti_nI, stl_nI]
    | succ d ih =>
      intro i m Qs Qw Qp hi hm hp
      obtain ⟨m, rfl⟩ := succ_of hm
      have es := eSurplus hx hy (c := i + 2) (by omega)
      have et := eTotal hx hy (c := i + 2) (by omega)
      have c1 := List.count_le_length (a := i + 2) (l := xs)
      have c2 := List.count_le_length (a := i + 2) (l := ys)
      have l1 := hx.1
      have l2 := hy.1
      obtain ⟨Qw', Qp', f1, f2⟩ := ih (i + 1) m Qs (upd Qw i (nI (xs.count (i + 2)) - nI (ys.count (i + 2)))) (upd Qp i (nI (pm (fun l => alw i l cs) (bOf xs ys (x + 1) i - 1 + 1)))) (by omega) (by omega) (fun v hv => by
        by_cases q : v = i
        · rw [upd_e, if_pos q, upd_e, if_pos q, q]; exact ⟨rfl, rfl⟩
        · rw [upd_e, if_neg q, upd_e, if_neg q]; exact hp v (by omega))
      refine ⟨Qw', Qp', ?_, f2⟩
      rw [← f1]
      by_cases q : xs.count (i + 2) + ys.count (i + 2) = 0
      · have u : bOf xs ys (x + 1) i - 1 = 0 := by
          unfold bOf usd
          rw [decide_eq_true (by omega), decide_eq_true (by omega)]; rfl
        have ep := qPossible h (v := i) (n := 0) (by omega) (by decide)
        rw [u]
        simp -implicitDefEqProofs (disch := omega) only [fx3_s, fQ_prepare_17, fQ_prepare_60, zVar, litI, litL, nI_add, pk_mul, bd0_e, bd1_e, bd2_e, bd3_e, bd4_e, st_e, nI_leI, nI_ltI, nI_eq, if_pos, if_neg, if_true, if_false, ld_nI, sti_nI, stl_nI, es, et, ep]
      · have u : bOf xs ys (x + 1) i - 1 = x := by
          unfold bOf usd
          rw [show (!(decide (xs.count (i + 2) = 0) && decide (ys.count (i + 2) = 0))) = true by
            by_cases q1 : xs.count (i + 2) = 0
            · rw [decide_eq_false (p := ys.count (i + 2) = 0) (by omega), Bool.and_false]; rfl
            · rw [decide_eq_false q1]; rfl]
          rfl
        have ep := qPossible h (v := i) (n := x) (by omega) hxx
        rw [u]
        simp -implicitDefEqProofs (disch := omega) only [fx3_s, fQ_prepare_17, fQ_prepare_60, zVar, litI, litL, nI_add, pk_mul, bd0_e, bd1_e, bd2_e, bd3_e, bd4_e, st_e, nI_leI, nI_ltI, nI_eq, if_pos, if_neg, if_true, if_false, ld_nI, sti_nI, stl_nI, es, et, ep]
  obtain ⟨Qw', Qp', f1, f2⟩ := key 4 0 FU ((nI (xs.count 0) - nI (ys.count 0)) + (nI (xs.count 1) - nI (ys.count 1))) Qw Qp (by omega) (fuel (by omega)) (fun v hv => absurd hv (Nat.not_lt_zero _))
  refine ⟨_, Qw', Qp', ?_, rfl, fun v hv => ⟨?_, (f2 v hv).1, (f2 v hv).2⟩⟩
  · rw [← f1]
    simp -implicitDefEqProofs (disch := omega) only [fQ_prepare, litI, litL, nI_add, pk_mul, bd0_e, bd1_e, bd2_e, bd3_e, bd4_e, st_e, z0, z1]
  · show bOf xs ys (x + 1) v - 1 ≤ 9
    unfold bOf
    split <;> omega
def ways (w : Nat → Int32) (ok : Nat → Nat → Bool) : Nat → Nat → Int32 → Nat
  | 0, _, s => b1 (decide (s = nI 0))
  | k + 1, v, s => sm 10 (fun l => if ok v l = true then ways w ok k (v + 1) (s + w v * nI l) else 0)
set_option maxRecDepth 100000 in
theorem qWays {Qs : Int32} {Qw Qp : Nat → Int32} {xs ys : List Nat} {lim : Nat → Nat} (h : RQ Qs Qw Qp cs xs ys lim) : ∀ (k v n : Nat) (s : Int32), v + k = 4 → k < n → fx4 fQ_waysFrom_b n Qw Qp (nI v) s = some (nI (ways Qw (fun v l => decide (l ≤ lim v) && alw v l cs) k v s)) := by
  intro k
  induction k with
  | zero =>
    intro v n s hv hn
    obtain ⟨n, rfl⟩ := succ_of hn
    rw [ways]
    by_cases q : s = nI 0
    · rw [decide_eq_true q, b1_t, q]
      simp -implicitDefEqProofs (disch := omega) only [fx4_s, fQ_waysFrom_b, fQ_waysFrom_9, litI, litL, nI_add, pk_mul, bd0_e, bd1_e, bd2_e, bd3_e, bd4_e, st_e, nI_leI, nI_ltI, nI_eq, if_pos, if_neg, if_true, if_false, ld_nI, sti_nI, stl_nI]
    · rw [decide_eq_false q, b1_f]
      simp -implicitDefEqProofs (disch := omega) only [fx4_s, fQ_waysFrom_b, fQ_waysFrom_9, litI, litL, nI_add, pk_mul, bd0_e, bd1_e, bd2_e, bd3_e, bd4_e, st_e, nI_leI, nI_ltI, nI_eq, if_pos, if_neg, if_true, if_false, ld_nI, sti_nI, stl_nI, q]
  | succ k ih =>
    intro v n s hv hn
    obtain ⟨n, rfl⟩ := succ_of hn
    obtain ⟨hl, hw, hp⟩ := h.2 v (by omega)
    have hpl : pm (fun l => alw v l cs) (lim v + 1) < 2 ^ 31 := Nat.lt_of_lt_of_le (pm_lt _ _) (Nat.pow_le_pow_right (by decide) (by omega))
    have key : ∀ (d i m : Nat), i + d = 10 → d < m → fx2 (fQ_waysFrom_24 (fx4 fQ_waysFrom_b n) Qw Qp (nI v) s) m (nI (sm i (fun l => if (decide (l ≤ lim v) && alw v l cs) = true then ways Qw (fun v l => decide (l ≤ lim v) && alw v l cs) k (v + 1) (s + Qw v * nI l) else 0))) (nI i) = some (nI (sm 10 (fun l => if (decide (l ≤ lim v) && alw v l cs) = true then ways Qw (fun v l => decide (l ≤ lim v) && alw v l cs) k (v + 1) (s + Qw v * nI l) else 0))) := by
      intro d
      induction d with
      | zero =>
        intro i m hi hm
        obtain ⟨m, rfl⟩ := succ_of hm
        have : i = 10 := by omega
        subst this
        simp -implicitDefEqProofs (disch := omega) only [fx2_s, fQ_waysFrom_24, litI, litL, nI_add, pk_mul, bd0_e, bd1_e, bd2_e, bd3_e, bd4_e, st_e, nI_leI, nI_ltI, nI_eq, if_pos, if_neg, if_true, if_false, ld_nI, sti_nI, stl_nI]
      | succ d ihd =>
        intro i m hi hm
        obtain ⟨m, rfl⟩ := succ_of hm
        have e1 := shr_n hpl (k := i) (by omega)
        have e2 := pm_bit (fun l => alw v l cs) (lim v + 1) i
        have e3 := and1 (pm (fun l => alw v l cs) (lim v + 1) / 2 ^ i)
        rw [e2] at e3
        have e4 := ih (v + 1) n (s + Qw v * nI i) (by omega) (by omega)
        have e5 := ihd (i + 1) m (by omega) (by omega)
        rw [sm] at e5
        rw [← e5]
        cases o : (decide (i ≤ lim v) && alw v i cs) with
        | true =>
          rw [Bool.and_eq_true, decide_eq_true_eq] at o
          rw [if_pos (by omega), o.2, b1_t] at e3
          rw [if_pos rfl]
          simp -implicitDefEqProofs (disch := omega) only [fx2_s, fQ_waysFrom_24, litI, litL, nI_add, pk_mul, bd0_e, bd1_e, bd2_e, bd3_e, bd4_e, st_e, nI_leI, nI_ltI, nI_eq, if_pos, if_neg, if_true, if_false, ld_nI, sti_nI, stl_nI, hp, e1, e3, e4]
        | false =>
          have e6 : (if i < lim v + 1 then b1 (alw v i cs) else 0) = 0 := by
            by_cases q : i < lim v + 1
            · rw [decide_eq_true (by omega), Bool.true_and] at o
              rw [if_pos q, o, b1_f]
            · rw [if_neg q]
          rw [e6] at e3
          rw [if_neg Bool.false_ne_true]
          simp -implicitDefEqProofs (disch := omega) only [fx2_s, fQ_waysFrom_24, litI, litL, nI_add, pk_mul, bd0_e, bd1_e, bd2_e, bd3_e, bd4_e, st_e, nI_leI, nI_ltI, nI_eq, if_pos, if_neg, if_true, if_false, ld_nI, sti_nI, stl_nI, hp, e1, e3, Nat.add_zero]
    have e := key 10 0 FU (by omega) (fuel (by omega))
    rw [ways, ← e]
    simp -implicitDefEqProofs (disch := omega) only [fx4_s, fQ_waysFrom_b, litI, litL, nI_add, pk_mul, bd0_e, bd1_e, bd2_e, bd3_e, bd4_e, st_e, nI_leI, nI_ltI, nI_eq, if_pos, if_neg, if_true, if_false, ld_nI, sti_nI, stl_nI]
    rfl
end LN
