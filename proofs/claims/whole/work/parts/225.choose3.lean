/-! chooseWord of the class is the fold FC -/
set_option maxRecDepth 100000 in
theorem bal_congw {w w' : Nat → Int32} {n : Nat → Nat} : ∀ (k v : Nat) (s : Int32), (∀ u, v ≤ u → u < v + k → w u = w' u) → bal w n v k s = bal w' n v k s := by
  intro k
  induction k with
  | zero => intro v s _; rfl
  | succ k ih =>
    intro v s h
    rw [bal, bal, h v (Nat.le_refl _) (by omega)]
    exact ih (v + 1) _ (fun u a b => h u (by omega) (by omega))
set_option maxRecDepth 100000 in
theorem aC_of {cs : List (Nat × Nat × Nat)} {w : Nat → List Nat} : ∀ (d i : Nat), (∀ v, i ≤ v → v < i + d → alw v (w (v + 2)).length cs = true) → aC cs w i d = true := by
  intro d
  induction d with
  | zero => intro i _; rfl
  | succ d ih =>
    intro i h
    rw [aC, h i (Nat.le_refl _) (by omega), Bool.true_and]
    exact ih (i + 1) (fun v a b => h v (by omega) (by omega))
set_option maxRecDepth 100000 in
theorem wl_lim : ∀ L, L < 4 → ∀ i, i < 2 ^ (L + 1) - 1 → wl i ≤ L := by decide +kernel
set_option maxRecDepth 100000 in
theorem pw_c : ∀ l, l < 4 → 2 ^ l - 1 + 2 ^ l = 2 ^ (l + 1) - 1 ∧ 2 ^ l - 1 + 2 ^ l ≤ 15 ∧ 0 < 2 ^ l ∧ 2 ^ l ≤ 8 := by decide +kernel
set_option maxRecDepth 100000 in
theorem wide_c : ∀ c, c < 8 → Int32.toInt64 (nI c) = lN c := by decide +kernel
set_option maxRecDepth 100000 in
theorem fd_skip {σ : Type} {f : Nat → σ → σ} {a b : Nat} {s : σ} (h : ∀ t, t < b → ∀ s, f (a + t) s = s) : fd f (a + b) s = fd f a s := by
  rw [fd_add]
  exact fd_id h
section CW
variable {Cn : Int32} {Cv Cr Ck : Nat → Int32} {many : Int32} {con : Nat → Int32} {cs : List (Nat × Nat × Nat)} {xs ys : List Nat} {Qs : Int32} {Qw Qp : Nat → Int32} {lim B : Nat → Nat}
def CWk (cs : List (Nat × Nat × Nat)) (xs ys : List Nat) (Qs : Int32) (Qw Qp : Nat → Int32) (B : Nat → Nat) (k n : Nat) : Prop :=
  ∀ (v : Nat) (nm : Nat → Nat) (s : ST) (sp Bf Bl : Int32) (B1 : Nat → Int32) (Al : Nat → Int64) (Ak : Nat → Int32), v + k = 4 → PA v nm Al Ak → (∀ u, u < v → alw u (wl (nm u)) cs = true) → sp = bal Qw (fun u => wl (nm u)) 0 v Qs → RBs s Bf Bl B1 → s.1 + 15 ^ k < 2 ^ 30 →
    ∃ Bf' Bl' B1' Al' Ak', fx11 fB_chooseWord_b n (lN (pq xs)) (lN (pq ys)) Bf Bl B1 Qw Qp Al Ak (nI v) sp = some (Bf', Bl', B1', Al', Ak') ∧ RBs (FC cs xs ys B k v nm s) Bf' Bl' B1' ∧ PA v nm Al' Ak'
set_option maxRecDepth 100000 in
theorem cwZero (hx : okS 12 xs) (hy : okS 12 ys) {n : Nat} (hn : 0 < n) : CWk cs xs ys Qs Qw Qp B 0 n := by
  intro v nm s sp Bf Bl B1 Al Ak hv hP ha hsp hB hs
  obtain ⟨n, rfl⟩ := succ_of hn
  have hv : v = 4 := hv
  subst hv
  have e1 := (xIsVarNo (x := nI 4) (Or.inr (Int32.le_refl _))).1
  have e2 := aEquates hP.ra (by decide) hx hy
  have e3 : aC cs (wOf nm) 0 4 = true := aC_of 4 0 (fun v _ h => by rw [wOf_2]; exact ha v (by omega))
  rw [FC, stepS, sol, e3, Bool.true_and]
  by_cases q : xs.flatMap (wOf nm) = ys.flatMap (wOf nm)
  · rw [decide_eq_true q, b1_t] at e2
    obtain ⟨Bf', Bl', B1', r1, r2⟩ := bRecord hP.ra (fun v hv => (hP.2 v hv).1) hB (by omega)
    refine ⟨Bf', Bl', B1', Al, Ak, ?_, ?_, hP⟩
    · simp -implicitDefEqProofs (disch := omega) only [fx11_s, fB_chooseWord_b, litI, litL, nI_add, pk_mul, bd0_e, bd1_e, bd2_e, bd3_e, bd4_e, st_e, nI_leI, nI_ltI, nI_eq, if_pos, if_neg, if_true, if_false, ld_nI, sti_nI, stl_nI, e1, e2, r1]
    · rw [decide_eq_true q, if_pos rfl]; exact r2
  · rw [decide_eq_false q, b1_f] at e2
    refine ⟨Bf, Bl, B1, Al, Ak, ?_, ?_, hP⟩
    · simp -implicitDefEqProofs (disch := omega) only [fx11_s, fB_chooseWord_b, litI, litL, nI_add, pk_mul, bd0_e, bd1_e, bd2_e, bd3_e, bd4_e, st_e, nI_leI, nI_ltI, nI_eq, if_pos, if_neg, if_true, if_false, ld_nI, sti_nI, stl_nI, e1, e2]
    · rw [decide_eq_false q, if_neg Bool.false_ne_true]; exact hB
set_option maxRecDepth 100000 in
theorem cwLet {k n : Nat} (hN : ∀ v, B v ≤ 15) (IH : CWk cs xs ys Qs Qw Qp B k n) {v l : Nat} (hv : v + (k + 1) = 4) (hl : l < 4) {nm : Nat → Nat} (ha : ∀ u, u < v → alw u (wl (nm u)) cs = true) (hal : alw v l cs = true) {sp : Int32} (hsp : sp = bal Qw (fun u => wl (nm u)) 0 v Qs + Qw v * nI l) {s : ST} (hs : s.1 + 15 ^ (k + 1) < 2 ^ 30) :
    ∀ (d c m : Nat) (Bf Bl : Int32) (B1 : Nat → Int32) (Al : Nat → Int64) (Ak : Nat → Int32), c + d = 2 ^ l → d < m → PA v nm Al Ak → RBs (fd (fun i => FC cs xs ys B k (v + 1) (setN nm v i)) (2 ^ l - 1 + c) s) Bf Bl B1 →
      ∃ Bf' Bl' B1' Al' Ak', fx6 (fB_chooseLetters_18 (fx11 fB_chooseWord_b n) (lN (pq xs)) (lN (pq ys)) Qw Qp (nI v) (nI l) sp) m Bf Bl B1 Al Ak (nI c) = some (Bf', Bl', B1', Al', Ak') ∧ RBs (fd (fun i => FC cs xs ys B k (v + 1) (setN nm v i)) (2 ^ l - 1 + 2 ^ l) s) Bf' Bl' B1' ∧ PA v nm Al' Ak' := by
  obtain ⟨p1, p2, p3, p4⟩ := pw_c l hl
  have es := shl1_c l (by omega)
  intro d
  induction d with
  | zero =>
    intro c m Bf Bl B1 Al Ak hc hm hP hB
    obtain ⟨m, rfl⟩ := succ_of hm
    have hc : c = 2 ^ l := hc
    rw [hc] at hB
    refine ⟨Bf, Bl, B1, Al, Ak, ?_, hB, hP⟩
    rw [hc]
    simp -implicitDefEqProofs (disch := omega) only [fx6_s, fB_chooseLetters_18, litI, litL, nI_add, pk_mul, bd0_e, bd1_e, bd2_e, bd3_e, bd4_e, st_e, nI_leI, nI_ltI, nI_eq, if_pos, if_neg, if_true, if_false, ld_nI, sti_nI, stl_nI, es]
  | succ d ih =>
    intro c m Bf Bl B1 Al Ak hc hm hP hB
    obtain ⟨m, rfl⟩ := succ_of hm
    have hi : 2 ^ l - 1 + c < 15 := by omega
    have w1 := wl_pow l hl c (by omega)
    have w2 := wd_pow l hl c (by omega)
    have hP1 := hP.give hi
    rw [w1, w2] at hP1
    have hbd := fd_le (cs := cs) (xs := xs) (ys := ys) hN k v nm s (2 ^ l - 1 + c)
    have hbd2 : (2 ^ l - 1 + c) * 15 ^ k + 15 ^ k ≤ 15 ^ (k + 1) := by
      rw [← Nat.succ_mul, Nat.pow_succ, Nat.mul_comm (15 ^ k)]
      exact Nat.mul_le_mul_right _ hi
    have hsp1 : sp = bal Qw (fun u => wl (setN nm v (2 ^ l - 1 + c) u)) 0 (v + 1) Qs := by
      rw [bal_snoc, setN_at, w1, hsp]
      congr 1
      exact bal_cong v 0 Qs (fun u _ hu => by rw [setN_ne (by omega)])
    obtain ⟨Bf1, Bl1, B11, Al1, Ak1, e1, hB1, hP2⟩ := IH (v + 1) (setN nm v (2 ^ l - 1 + c)) _ sp Bf Bl B1 _ _ (by omega) hP1 (fun u hu => by
      by_cases q : u = v
      · rw [q, setN_at, w1]; exact hal
      · rw [setN_ne q]; exact ha u (by omega)) hsp1 hB (by omega)
    obtain ⟨Bf', Bl', B1', Al', Ak', e, hB', hP'⟩ := ih (c + 1) m Bf1 Bl1 B11 Al1 Ak1 (by omega) (by omega) hP2.back hB1
    refine ⟨Bf', Bl', B1', Al', Ak', ?_, hB', hP'⟩
    rw [← e]
    have eg := aGive (v := v) (k := l) (by omega) Al Ak (lN c)
    have ew := wide_c c (by omega)
    simp -implicitDefEqProofs (disch := omega) only [fx6_s, fB_chooseLetters_18, zVar, litI, litL, nI_add, pk_mul, bd0_e, bd1_e, bd2_e, bd3_e, bd4_e, st_e, nI_leI, nI_ltI, nI_eq, if_pos, if_neg, if_true, if_false, ld_nI, sti_nI, stl_nI, bd5_e, bd6_e, bd7_e, bd8_e, bd9_e, bd10_e, bd11_e, es, ew, eg, e1]
set_option maxRecDepth 100000 in
theorem cwNone (hx : okS 12 xs) (hy : okS 12 ys) (hQ : RQ Qs Qw Qp cs xs ys lim) (hlb : ∀ v, v < 4 → lim v < 4 ∧ B v = 2 ^ (lim v + 1) - 1) {k v l c : Nat} (hv : v + (k + 1) = 4) (hl : l < 4) (hc : c < 2 ^ l) {nm : Nat → Nat} (hw : ways Qw (fun v l => decide (l ≤ lim v) && alw v l cs) k (v + 1) (bal Qw (fun u => wl (nm u)) 0 v Qs + Qw v * nI l) = 0 ∨ alw v l cs = false) (s : ST) : FC cs xs ys B k (v + 1) (setN nm v (2 ^ l - 1 + c)) s = s := by
  refine FC_id k (v + 1) _ (fun nm' h1 h2 h3 => ?_) s
  have w1 := wl_pow l hl c hc
  have hnv : nm' v = 2 ^ l - 1 + c := by rw [h1 v (by omega), setN_at]
  cases o : sol cs (wOf nm') xs ys with
  | false => rfl
  | true =>
    exfalso
    rcases hw with hw | hw
    · have b := sol_bal hx hy o
      rw [← hQ.1] at b
      have b2 : bal Qw (fun v => wl (nm' v)) 0 4 Qs = nI 0 := by
        rw [← b]
        exact bal_congw 4 0 Qs (fun u _ hu => (hQ.2 u (by omega)).2.1)
      rw [show 4 = (v + 1) + k by omega, bal_app k (v + 1) 0 Qs, bal_snoc, hnv, w1, Nat.zero_add, bal_cong (n := fun v => wl (nm' v)) (n' := fun u => wl (nm u)) v 0 Qs (fun u _ hu => by
        show wl (nm' u) = wl (nm u)
        rw [h1 u (by omega), setN_ne (by omega)])] at b2
      have := ways_pos (ok := fun v l => decide (l ≤ lim v) && alw v l cs) k (v + 1) _ (fun u a b => by
        obtain ⟨g1, g2⟩ := hlb u (by omega)
        have g3 := h2 u a b
        rw [g2] at g3
        have g4 := wl_lim (lim u) g1 _ g3
        refine ⟨by omega, ?_⟩
        rw [decide_eq_true g4, Bool.true_and]
        exact sol_alw o (by omega)) b2
      omega
    · have := sol_alw o (v := v) (by omega)
      rw [hnv, w1, hw] at this
      exact Bool.false_ne_true this
set_option maxRecDepth 100000 in
theorem qAllows (hQ : RQ Qs Qw Qp cs xs ys lim) {v l : Nat} (hv : v < 4) (hl : l < 4) : fQ_allows Qp (nI v) (nI l) = some (nI (b1 (decide (l ≤ lim v) && alw v l cs))) := by
  obtain ⟨hl9, hw, hp⟩ := hQ.2 v hv
  have hpl : pm (fun l => alw v l cs) (lim v + 1) < 2 ^ 31 := Nat.lt_of_lt_of_le (pm_lt _ _) (Nat.pow_le_pow_right (by decide) (by omega))
  have e0 := (xIsVarYes hv).1
  have e1 := shr_n hpl (k := l) (by omega)
  have e2 := pm_bit (fun l => alw v l cs) (lim v + 1) l
  have e3 := and1 (pm (fun l => alw v l cs) (lim v + 1) / 2 ^ l)
  rw [e2] at e3
  cases o : (decide (l ≤ lim v) && alw v l cs) with
  | true =>
    rw [Bool.and_eq_true, decide_eq_true_eq] at o
    rw [if_pos (by omega), o.2, b1_t] at e3
    rw [b1_t]
    simp -implicitDefEqProofs (disch := omega) only [fQ_allows, litI, litL, nI_add, pk_mul, bd0_e, bd1_e, bd2_e, bd3_e, bd4_e, st_e, nI_leI, nI_ltI, nI_eq, if_pos, if_neg, if_true, if_false, ld_nI, sti_nI, stl_nI, e0, hp, e1, e3]
  | false =>
    have e6 : (if l < lim v + 1 then b1 (alw v l cs) else 0) = 0 := by
      by_cases q : l < lim v + 1
      · rw [decide_eq_true (by omega), Bool.true_and] at o
        rw [if_pos q, o, b1_f]
      · rw [if_neg q]
    rw [e6] at e3
    rw [b1_f]
    simp -implicitDefEqProofs (disch := omega) only [fQ_allows, litI, litL, nI_add, pk_mul, bd0_e, bd1_e, bd2_e, bd3_e, bd4_e, st_e, nI_leI, nI_ltI, nI_eq, if_pos, if_neg, if_true, if_false, ld_nI, sti_nI, stl_nI, e0, hp, e1, e3]
set_option maxRecDepth 100000 in
theorem cwStep (hx : okS 12 xs) (hy : okS 12 ys) (hQ : RQ Qs Qw Qp cs xs ys lim) (hlb : ∀ v, v < 4 → lim v < 4 ∧ B v = 2 ^ (lim v + 1) - 1) (hN : ∀ v, B v ≤ 15) {k n : Nat} (hk : k < 4) (IH : CWk cs xs ys Qs Qw Qp B k n) : CWk cs xs ys Qs Qw Qp B (k + 1) (n + 1) := by
  intro v nm s sp Bf Bl B1 Al Ak hv hP ha hsp hB hs
  obtain ⟨L4, hBv⟩ := hlb v (by omega)
  have hw := (hQ.2 v (by omega)).2.1
  have e0 := (xIsVarYes (v := v) (by omega)).1
  have key : ∀ (d l m : Nat) (Bf Bl : Int32) (B1 : Nat → Int32) (Al : Nat → Int64) (Ak : Nat → Int32), l + d = 4 → d < m → PA v nm Al Ak → RBs (fd (fun i => FC cs xs ys B k (v + 1) (setN nm v i)) (2 ^ (min l (lim v + 1)) - 1) s) Bf Bl B1 →
      ∃ Bf' Bl' B1' Al' Ak', fx6 (fB_chooseWord_32 (fx11 fB_chooseWord_b n) (lN (pq xs)) (lN (pq ys)) Qw Qp (nI v) sp) m Bf Bl B1 Al Ak (nI l) = some (Bf', Bl', B1', Al', Ak') ∧ RBs (fd (fun i => FC cs xs ys B k (v + 1) (setN nm v i)) (B v) s) Bf' Bl' B1' ∧ PA v nm Al' Ak' := by
    intro d
    induction d with
    | zero =>
      intro l m Bf Bl B1 Al Ak hd hm hP hB
      obtain ⟨m, rfl⟩ := succ_of hm
      have hd : l = 4 := hd
      subst hd
      rw [Nat.min_eq_right (by omega), ← hBv] at hB
      refine ⟨Bf, Bl, B1, Al, Ak, ?_, hB, hP⟩
      simp -implicitDefEqProofs (disch := omega) only [fx6_s, fB_chooseWord_32, litI, litL, nI_add, pk_mul, bd0_e, bd1_e, bd2_e, bd3_e, bd4_e, st_e, nI_leI, nI_ltI, nI_eq, if_pos, if_neg, if_true, if_false, ld_nI, sti_nI, stl_nI]
    | succ d ih =>
      intro l m Bf Bl B1 Al Ak hd hm hP hB
      obtain ⟨m, rfl⟩ := succ_of hm
      have hl : l < 4 := by omega
      obtain ⟨p1, p2, p3, p4⟩ := pw_c l hl
      have ea := qAllows hQ (v := v) (l := l) (by omega) hl
      by_cases qL : l ≤ lim v
      · rw [Nat.min_eq_left (by omega)] at hB
        have enext : 2 ^ (min (l + 1) (lim v + 1)) - 1 = 2 ^ l - 1 + 2 ^ l := by rw [Nat.min_eq_left (by omega), p1]
        rw [decide_eq_true qL, Bool.true_and] at ea
        have ew := qWays hQ k (v + 1) 8 (sp + Qw v * nI l) (by omega) (by omega)
        have ewl := ways_le (w := Qw) (ok := fun v l => decide (l ≤ lim v) && alw v l cs) k (v + 1) (sp + Qw v * nI l)
        have ewb : 10 ^ k ≤ 10 ^ 3 := Nat.pow_le_pow_right (by decide) (by omega)
        have ew8 : fQ_waysFrom Qw Qp (nI (v + 1)) (sp + Qw v * nI l) = some (nI (ways Qw (fun v l => decide (l ≤ lim v) && alw v l cs) k (v + 1) (sp + Qw v * nI l))) := ew
        cases o : alw v l cs with
        | false =>
          rw [o, b1_f] at ea
          have en : fd (fun i => FC cs xs ys B k (v + 1) (setN nm v i)) (2 ^ (min (l + 1) (lim v + 1)) - 1) s = fd (fun i => FC cs xs ys B k (v + 1) (setN nm v i)) (2 ^ l - 1) s := by
            rw [enext]
            exact fd_skip fun t ht s => cwNone hx hy hQ hlb hv hl ht (Or.inr o) s
          rw [← en] at hB
          obtain ⟨Bf', Bl', B1', Al', Ak', e, hB', hP'⟩ := ih (l + 1) m Bf Bl B1 Al Ak (by omega) (by omega) hP hB
          refine ⟨Bf', Bl', B1', Al', Ak', ?_, hB', hP'⟩
          rw [← e]
          simp -implicitDefEqProofs (disch := omega) only [fx6_s, fB_chooseWord_32, litI, litL, nI_add, pk_mul, bd0_e, bd1_e, bd2_e, bd3_e, bd4_e, st_e, nI_leI, nI_ltI, nI_eq, if_pos, if_neg, if_true, if_false, ld_nI, sti_nI, stl_nI, ea]
        | true =>
          rw [o, b1_t] at ea
          by_cases z : ways Qw (fun v l => decide (l ≤ lim v) && alw v l cs) k (v + 1) (sp + Qw v * nI l) = 0
          · have en : fd (fun i => FC cs xs ys B k (v + 1) (setN nm v i)) (2 ^ (min (l + 1) (lim v + 1)) - 1) s = fd (fun i => FC cs xs ys B k (v + 1) (setN nm v i)) (2 ^ l - 1) s := by
              rw [enext]
              exact fd_skip fun t ht s => cwNone hx hy hQ hlb hv hl ht (Or.inl (by rw [← hsp]; exact z)) s
            rw [← en] at hB
            rw [z] at ew8
            obtain ⟨Bf', Bl', B1', Al', Ak', e, hB', hP'⟩ := ih (l + 1) m Bf Bl B1 Al Ak (by omega) (by omega) hP hB
            refine ⟨Bf', Bl', B1', Al', Ak', ?_, hB', hP'⟩
            rw [← e]
            simp -implicitDefEqProofs (disch := omega) only [fx6_s, fB_chooseWord_32, fQ_surplusWith, fB_chooseLetters_b, fQ_canBalance, litI, litL, nI_add, pk_mul, bd0_e, bd1_e, bd2_e, bd3_e, bd4_e, st_e, nI_leI, nI_ltI, nI_eq, if_pos, if_neg, if_true, if_false, ld_nI, sti_nI, stl_nI, bd5_e, bd6_e, bd7_e, bd8_e, bd9_e, bd10_e, bd11_e, e0, ea, ew8]
          · generalize ways Qw (fun v l => decide (l ≤ lim v) && alw v l cs) k (v + 1) (sp + Qw v * nI l) = W at *
            obtain ⟨Bf1, Bl1, B11, Al1, Ak1, e1, hB1, hP1⟩ := cwLet hN IH hv hl ha o (sp := sp + Qw v * nI l) (by rw [hsp]) hs (2 ^ l) 0 FU Bf Bl B1 Al Ak (by omega) (fuel (by omega)) hP (by rw [Nat.add_zero]; exact hB)
            rw [← enext] at hB1
            obtain ⟨Bf', Bl', B1', Al', Ak', e, hB', hP'⟩ := ih (l + 1) m Bf1 Bl1 B11 Al1 Ak1 (by omega) (by omega) hP1 hB1
            refine ⟨Bf', Bl', B1', Al', Ak', ?_, hB', hP'⟩
            rw [← e]
            simp -implicitDefEqProofs (disch := omega) only [fx6_s, fB_chooseWord_32, fQ_surplusWith, fB_chooseLetters_b, fQ_canBalance, litI, litL, nI_add, pk_mul, bd0_e, bd1_e, bd2_e, bd3_e, bd4_e, st_e, nI_leI, nI_ltI, nI_eq, if_pos, if_neg, if_true, if_false, ld_nI, sti_nI, stl_nI, bd5_e, bd6_e, bd7_e, bd8_e, bd9_e, bd10_e, bd11_e, e0, ea, ew8, e1]
      · rw [decide_eq_false qL, Bool.false_and, b1_f] at ea
        have em : min (l + 1) (lim v + 1) = min l (lim v + 1) := by omega
        rw [← em] at hB
        obtain ⟨Bf', Bl', B1', Al', Ak', e, hB', hP'⟩ := ih (l + 1) m Bf Bl B1 Al Ak (by omega) (by omega) hP hB
        refine ⟨Bf', Bl', B1', Al', Ak', ?_, hB', hP'⟩
        rw [← e]
        simp -implicitDefEqProofs (disch := omega) only [fx6_s, fB_chooseWord_32, litI, litL, nI_add, pk_mul, bd0_e, bd1_e, bd2_e, bd3_e, bd4_e, st_e, nI_leI, nI_ltI, nI_eq, if_pos, if_neg, if_true, if_false, ld_nI, sti_nI, stl_nI, ea]
  obtain ⟨Bf', Bl', B1', Al', Ak', e, hB', hP'⟩ := key 4 0 FU Bf Bl B1 Al Ak (by omega) (fuel (by omega)) hP (by rw [Nat.zero_min]; exact hB)
  refine ⟨Bf', Bl', B1', Al', Ak', ?_, hB', hP'⟩
  rw [← e]
  simp -implicitDefEqProofs (disch := omega) only [fx11_s, fB_chooseWord_b, litI, litL, nI_add, pk_mul, bd0_e, bd1_e, bd2_e, bd3_e, bd4_e, st_e, nI_leI, nI_ltI, nI_eq, if_pos, if_neg, if_true, if_false, ld_nI, sti_nI, stl_nI, e0]
set_option maxRecDepth 100000 in
theorem cwAll (hx : okS 12 xs) (hy : okS 12 ys) (hQ : RQ Qs Qw Qp cs xs ys lim) (hlb : ∀ v, v < 4 → lim v < 4 ∧ B v = 2 ^ (lim v + 1) - 1) (hN : ∀ v, B v ≤ 15) : CWk cs xs ys Qs Qw Qp B 4 8 :=
  cwStep hx hy hQ hlb hN (by decide) (cwStep hx hy hQ hlb hN (by decide) (cwStep hx hy hQ hlb hN (by decide) (cwStep hx hy hQ hlb hN (by decide) (cwZero hx hy (by decide)))))
end CW
