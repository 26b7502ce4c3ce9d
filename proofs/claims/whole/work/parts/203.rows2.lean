set_option maxRecDepth 100000 in
theorem if_else {β : Type} {c : Prop} [Decidable c] {a b x : Option β} (h1 : c → a = x) (h2 : ¬ c → b = x) : (if c then a else b) = x := by
  by_cases h : c
  · rw [if_pos h]; exact h1 h
  · rw [if_neg h]; exact h2 h
set_option maxRecDepth 100000 in
theorem mCancelStart (u : List Nat) : ∀ (v : List Nat) (f : Nat → Int32) (k n : Nat), okS 12 u → okS 12 v → rowIs f u v → u.length < n → ∃ g, fx2 fM_cancelIn_2 n f (nI k) = fx2 fM_cancelIn_47 FU g (nI (k + (canc u v).1)) ∧ rowIs g (canc u v).2.1 (canc u v).2.2 := by
  induction u with
  | nil =>
    intro v f k n hu hv h hn
    obtain ⟨n, rfl⟩ := succ_of hn
    refine ⟨f, ?_, h⟩
    have h0 := h.l0
    rw [List.length_nil] at h0
    simp -implicitDefEqProofs (disch := omega) only [fx2_s, fM_cancelIn_2, litI, litL, nI_add, pk_mul, bd0_e, bd1_e, bd2_e, bd3_e, bd4_e, st_e, nI_leI, nI_ltI, nI_eq, if_pos, if_neg, if_true, if_false, ld_nI, sti_nI, stl_nI, h0]
    rfl
  | cons x u ih =>
    intro v f k n hu hv h hn
    obtain ⟨n, rfl⟩ := succ_of hn
    have h0 := h.l0
    have h1 := h.l1
    have hl := hu.1
    rw [List.length_cons] at hl hn h0
    cases v with
    | nil =>
      refine ⟨f, ?_, h⟩
      rw [List.length_nil] at h1
      simp -implicitDefEqProofs (disch := omega) only [fx2_s, fM_cancelIn_2, litI, litL, nI_add, pk_mul, bd0_e, bd1_e, bd2_e, bd3_e, bd4_e, st_e, nI_leI, nI_ltI, nI_eq, if_pos, if_neg, if_true, if_false, ld_nI, sti_nI, stl_nI, h0, h1]
      rfl
    | cons y v =>
      have hl2 := hv.1
      rw [List.length_cons] at hl2 h1
      have hx := hu.2 x List.mem_cons_self
      have hy := hv.2 y List.mem_cons_self
      have E0 : f (2 + 12 * 0 + 0) = nI x := h.s0 (i := 0) (by decide)
      have E1 : f (2 + 12 * 1 + 0) = nI y := h.s1 (i := 0) (by decide)
      rw [canc]
      by_cases q : x = y
      · rw [if_pos q]
        obtain ⟨g1, e1, r1⟩ := mDropFirst h (s := 0) (by decide) (z := x) (zs := u) rfl hu
        rw [if_pos rfl, if_pos rfl] at r1
        obtain ⟨g2, e2, r2⟩ := mDropFirst r1 (s := 1) (by decide) (z := y) (zs := v) rfl hv
        rw [if_neg (by decide), if_neg (by decide)] at r2
        obtain ⟨g, eg, hg⟩ := ih v g2 (k + 1) n ⟨by omega, fun z hz => hu.2 z (List.mem_cons_of_mem _ hz)⟩ ⟨by omega, fun z hz => hv.2 z (List.mem_cons_of_mem _ hz)⟩ r2 (by omega)
        refine ⟨g, ?_, hg⟩
        dsimp only
        rw [show k + ((canc u v).1 + 1) = k + 1 + (canc u v).1 by omega, ← eg]
        simp -implicitDefEqProofs (disch := omega) only [fx2_s, fM_cancelIn_2, litI, litL, nI_add, pk_mul, bd0_e, bd1_e, bd2_e, bd3_e, bd4_e, st_e, nI_leI, nI_ltI, nI_eq, if_pos, if_neg, if_true, if_false, ld_nI, sti_nI, stl_nI, h0, h1, mAt, E0, E1, e1, e2]
      · rw [if_neg q]
        refine ⟨f, ?_, h⟩
        simp -implicitDefEqProofs (disch := omega) only [fx2_s, fM_cancelIn_2, litI, litL, nI_add, pk_mul, bd0_e, bd1_e, bd2_e, bd3_e, bd4_e, st_e, nI_leI, nI_ltI, nI_eq, if_pos, if_neg, if_true, if_false, ld_nI, sti_nI, stl_nI, h0, h1, mAt, E0, E1]
        rfl
/-- cancelling: heads, then ends -/
def cancel2 (xs ys : List Nat) : Nat × List Nat × List Nat :=
  let a := canc xs ys
  let b := canc a.2.1.reverse a.2.2.reverse
  (a.1 + b.1, b.2.1.reverse, b.2.2.reverse)
set_option maxRecDepth 100000 in
theorem cancel2_ok {xs ys : List Nat} (hx : okS 12 xs) (hy : okS 12 ys) : okS 12 (cancel2 xs ys).2.1 ∧ okS 12 (cancel2 xs ys).2.2 ∧ (cancel2 xs ys).1 ≤ 24 := by
  obtain ⟨a, b, c⟩ := canc_ok hx hy
  obtain ⟨a2, b2, c2⟩ := canc_ok a.rev b.rev
  refine ⟨a2.rev, b2.rev, ?_⟩
  have := hx.1
  have := a.rev.1
  show (canc xs ys).1 + (canc (canc xs ys).2.1.reverse (canc xs ys).2.2.reverse).1 ≤ 24
  omega
set_option maxRecDepth 100000 in
theorem mCancelIn {f : Nat → Int32} {xs ys : List Nat} (h : rowIs f xs ys) (hx : okS 12 xs) (hy : okS 12 ys) : ∃ g, fM_cancelIn f = some (nI (cancel2 xs ys).1, g) ∧ rowIs g (cancel2 xs ys).2.1 (cancel2 xs ys).2.2 := by
  obtain ⟨a, b, c⟩ := canc_ok hx hy
  have hxl := hx.1
  obtain ⟨g, e, hg⟩ := mCancelStart xs ys f 0 FU hx hy h (fuel (by omega))
  have hal := a.rev.1
  obtain ⟨g2, e2, hg2⟩ := mCancelEnd (canc xs ys).2.1.reverse (canc xs ys).2.2.reverse g (0 + (canc xs ys).1) FU a.rev b.rev (by rw [List.reverse_reverse, List.reverse_reverse]; exact hg) (fuel (by omega))
  refine ⟨g2, ?_, hg2⟩
  rw [e2] at e
  rw [fM_cancelIn, litI, e, Nat.zero_add]
  rfl
set_option maxRecDepth 100000 in
theorem rpl_nil (v : Nat) (xs : List Nat) : rpl v [] xs = xs.filter (fun x => decide (x ≠ v)) := by
  unfold rpl
  induction xs with
  | nil => rfl
  | cons x xs ih =>
    rw [List.flatMap_cons, ih, List.filter_cons]
    by_cases h : x = v
    · simp [h]
    · simp [h]
set_option maxRecDepth 100000 in
theorem rpl_nil_take {v : Nat} {xs : List Nat} {i : Nat} (hi : i < xs.length) : rpl v [] (xs.take (i + 1)) = rpl v [] (xs.take i) ++ (if xs[i] = v then [] else [xs[i]]) := by
  rw [List.take_succ_eq_append_getElem hi]
  unfold rpl
  rw [List.flatMap_append, List.flatMap_singleton]
set_option maxRecDepth 100000 in
theorem rpl_nil_len {v : Nat} {xs : List Nat} : (rpl v [] xs).length + xs.count v = xs.length := by
  have := rpl_length v [] xs
  simp only [List.length_nil, Nat.mul_zero, Nat.add_zero] at this
  exact this
set_option maxRecDepth 100000 in
theorem mElimSide {f : Nat → Int32} {zs : List Nat} {s v : Nat} (hs : s < 2) (hv : v < 4) (hz : okS 12 zs) (h1 : f s = nI zs.length) (h2 : ∀ i, i < 12 → f (2 + 12 * s + i) = nI (zs.getD i 0)) (had : Int32) (k10 : (Nat → Int32) → Int32 → Option (Int32 × (Nat → Int32))) :
    ∃ g, fx3 (fM_eliminateIn_21 k10 (nI v) had (nI s)) FU f (nI 0) (nI 0) = k10 g (nI (s + 1)) ∧ g s = nI (rpl (v + 2) [] zs).length ∧ (∀ i, i < 12 → g (2 + 12 * s + i) = nI ((rpl (v + 2) [] zs).getD i 0)) ∧ ∀ k, k ≠ s → (k < 2 + 12 * s ∨ 2 + 12 * s + 12 ≤ k) → g k = f k := by
  have hl := hz.1
  have hr := rpl_nil_len (v := v + 2) (xs := zs)
  -- the zeros behind
  have fill : ∀ (d i n : Nat) (g : Nat → Int32), i + d = zs.length → d < n → (rpl (v + 2) [] zs).length ≤ i → (g s = nI zs.length ∧ (∀ j, j < 12 → j < i ∨ zs.length ≤ j → g (2 + 12 * s + j) = nI ((rpl (v + 2) [] zs).getD j 0)) ∧ ∀ k, k ≠ s → (k < 2 + 12 * s ∨ 2 + 12 * s + 12 ≤ k) → g k = f k) →
      ∃ g', fx2 (fM_eliminateIn_70 k10 (nI v) had (nI s) (nI (rpl (v + 2) [] zs).length)) n g (nI i) = k10 g' (nI (s + 1)) ∧ g' s = nI (rpl (v + 2) [] zs).length ∧ (∀ i, i < 12 → g' (2 + 12 * s + i) = nI ((rpl (v + 2) [] zs).getD i 0)) ∧ ∀ k, k ≠ s → (k < 2 + 12 * s ∨ 2 + 12 * s + 12 ≤ k) → g' k = f k := by
    intro d
    induction d with
    | zero =>
      intro i n g hi hn hri hg
      obtain ⟨n, rfl⟩ := succ_of hn
      refine ⟨upd g s (nI (rpl (v + 2) [] zs).length), ?_, by rw [upd_e, if_pos rfl], fun j hj => ?_, fun k hk hk2 => ?_⟩
      · simp -implicitDefEqProofs (disch := omega) only [fx2_s, fM_eliminateIn_70, litI, litL, nI_add, pk_mul, bd0_e, bd1_e, bd2_e, bd3_e, bd4_e, st_e, nI_leI, nI_ltI, nI_eq, if_pos, if_neg, if_true, if_false, ld_nI, sti_nI, stl_nI, hg.1]
      · rw [upd_e, if_neg (by omega)]; exact hg.2.1 j hj (by omega)
      · rw [upd_e, if_neg hk]; exact hg.2.2 k hk hk2
    | succ d ih =>
      intro i n g hi hn hri hg
      obtain ⟨n, rfl⟩ := succ_of hn
      obtain ⟨g', e, hg'⟩ := ih (i + 1) n (upd g (2 + 12 * s + i) (nI 0)) (by omega) (by omega) (by omega) ⟨by rw [upd_e, if_neg (by omega)]; exact hg.1, fun j hj hji => by
        by_cases q : j = i
        · rw [upd_e, if_pos (by omega), getD_out (by omega)]
        · rw [upd_e, if_neg (by omega)]; exact hg.2.1 j hj (by omega), fun k hk hk2 => by rw [upd_e, if_neg (by omega)]; exact hg.2.2 k hk hk2⟩
      refine ⟨g', ?_, hg'⟩
      rw [← e]
      simp -implicitDefEqProofs (disch := omega) only [fx2_s, fM_eliminateIn_70, litI, litL, nI_add, pk_mul, bd0_e, bd1_e, bd2_e, bd3_e, bd4_e, st_e, nI_leI, nI_ltI, nI_eq, if_pos, if_neg, if_true, if_false, ld_nI, sti_nI, stl_nI, hg.1, mAt]
  have key : ∀ (d i n : Nat) (g : Nat → Int32), i + d = zs.length → d < n → (g s = nI zs.length ∧ (∀ j, j < (rpl (v + 2) [] (zs.take i)).length → g (2 + 12 * s + j) = nI ((rpl (v + 2) [] (zs.take i)).getD j 0)) ∧ (∀ j, j < 12 → i ≤ j → g (2 + 12 * s + j) = nI (zs.getD j 0)) ∧ ∀ k, k ≠ s → (k < 2 + 12 * s ∨ 2 + 12 * s + 12 ≤ k) → g k = f k) →
      ∃ g', fx3 (fM_eliminateIn_21 k10 (nI v) had (nI s)) n g (nI (rpl (v + 2) [] (zs.take i)).length) (nI i) = k10 g' (nI (s + 1)) ∧ g' s = nI (rpl (v + 2) [] zs).length ∧ (∀ i, i < 12 → g' (2 + 12 * s + i) = nI ((rpl (v + 2) [] zs).getD i 0)) ∧ ∀ k, k ≠ s → (k < 2 + 12 * s ∨ 2 + 12 * s + 12 ≤ k) → g' k = f k := by
    intro d
    induction d with
    | zero =>
      intro i n g hi hn hg
      obtain ⟨n, rfl⟩ := succ_of hn
      rw [List.take_of_length_le (by omega)] at hg ⊢
      obtain ⟨g', e, hg'⟩ := fill (zs.length - (rpl (v + 2) [] zs).length) (rpl (v + 2) [] zs).length FU g (by omega) (fuel (by omega)) (Nat.le_refl _) ⟨hg.1, fun j hj hji => by
        by_cases q : j < (rpl (v + 2) [] zs).length
        · exact hg.2.1 j q
        · rw [hg.2.2.1 j hj (by omega), getD_out (by omega), getD_out (by omega)], hg.2.2.2⟩
      refine ⟨g', ?_, hg'⟩
      rw [← e]
      simp -implicitDefEqProofs (disch := omega) only [fx3_s, fM_eliminateIn_21, litI, litL, nI_add, pk_mul, bd0_e, bd1_e, bd2_e, bd3_e, bd4_e, st_e, nI_leI, nI_ltI, nI_eq, if_pos, if_neg, if_true, if_false, ld_nI, sti_nI, stl_nI, hg.1]
    | succ d ih =>
      intro i n g hi hn hg
      obtain ⟨n, rfl⟩ := succ_of hn
      have hi2 : i < zs.length := by omega
      have hm := hz.2 _ (List.getElem_mem hi2)
      have e0 := hg.2.2.1 i (by omega) (Nat.le_refl _)
      rw [getD_in hi2] at e0
      have ht := rpl_nil_take (v := v + 2) hi2
      have hlt := rpl_nil_len (v := v + 2) (xs := zs.take i)
      rw [List.length_take, Nat.min_eq_left (by omega)] at hlt
      by_cases q : zs[i] = v + 2
      · rw [if_pos q, List.append_nil] at ht
        obtain ⟨g', e, hg'⟩ := ih (i + 1) n g (by omega) (by omega) ⟨hg.1, by rw [ht]; exact hg.2.1, fun j hj hji => hg.2.2.1 j hj (by omega), hg.2.2.2⟩
        refine ⟨g', ?_, hg'⟩
        rw [ht] at e
        rw [← e]
        simp -implicitDefEqProofs (disch := omega) only [fx3_s, fM_eliminateIn_21, litI, litL, nI_add, pk_mul, bd0_e, bd1_e, bd2_e, bd3_e, bd4_e, st_e, nI_leI, nI_ltI, nI_eq, if_pos, if_neg, if_true, if_false, ld_nI, sti_nI, stl_nI, hg.1, mAt, e0]
      · rw [if_neg q] at ht
        have hlen : (rpl (v + 2) [] (zs.take (i + 1))).length = (rpl (v + 2) [] (zs.take i)).length + 1 := by rw [ht, List.length_append, List.length_singleton]
        obtain ⟨g', e, hg'⟩ := ih (i + 1) n (upd g (2 + 12 * s + (rpl (v + 2) [] (zs.take i)).length) (nI zs[i])) (by omega) (by omega) ⟨by rw [upd_e, if_neg (by omega)]; exact hg.1, fun j hj => by
          rw [hlen] at hj
          by_cases q2 : j = (rpl (v + 2) [] (zs.take i)).length
          · rw [upd_e, if_pos (by omega), ht, q2, getD_append_last]
          · rw [upd_e, if_neg (by omega), ht, getD_append_l (by omega)]; exact hg.2.1 j (by omega), fun j hj hji => by rw [upd_e, if_neg (by omega)]; exact hg.2.2.1 j hj (by omega), fun k hk hk2 => by rw [upd_e, if_neg (by omega)]; exact hg.2.2.2 k hk hk2⟩
        refine ⟨g', ?_, hg'⟩
        rw [hlen] at e
        rw [← e]
        simp -implicitDefEqProofs (disch := omega) only [fx3_s, fM_eliminateIn_21, litI, litL, nI_add, pk_mul, bd0_e, bd1_e, bd2_e, bd3_e, bd4_e, st_e, nI_leI, nI_ltI, nI_eq, if_pos, if_neg, if_true, if_false, ld_nI, sti_nI, stl_nI, hg.1, mAt, e0]
  obtain ⟨g', e, hg'⟩ := key zs.length 0 FU f (by omega) (fuel (by omega)) ⟨h1, fun j hj => absurd hj (by simp [rpl]), fun j hj _ => h2 j hj, fun _ _ _ => rfl⟩
  exact ⟨g', e, hg'⟩
set_option maxRecDepth 100000 in
theorem mEliminateIn {f : Nat → Int32} {xs ys : List Nat} (h : rowIs f xs ys) (hx : okS 12 xs) (hy : okS 12 ys) {v : Nat} (hv : v < 4) : ∃ g, fM_eliminateIn f (nI v) = some (nI (xs.count (v + 2) + ys.count (v + 2)), g) ∧ rowIs g (rpl (v + 2) [] xs) (rpl (v + 2) [] ys) := by
  have hlx := hx.1
  have hly := hy.1
  have cx := rpl_nil_len (v := v + 2) (xs := xs)
  have cy := rpl_nil_len (v := v + 2) (xs := ys)
  obtain ⟨g, e1, a1, b1, c1⟩ := mElimSide (s := 0) (by decide) hv hx h.l0 (h 0 (by decide)).2 (nI (xs.length + ys.length)) (fx2 (fM_eliminateIn_10 (nI v) (nI (xs.length + ys.length))) 999999)
  obtain ⟨g2, e2, a2, b2, c2⟩ := mElimSide (f := g) (s := 1) (by decide) hv hy (by rw [c1 1 (by omega) (by omega)]; exact h.l1) (fun i hi => by rw [c1 _ (by omega) (by omega)]; exact (h 1 (by decide)).2 i hi) (nI (xs.length + ys.length)) (fx2 (fM_eliminateIn_10 (nI v) (nI (xs.length + ys.length))) 999998)
  have F1 : ∀ (g : Nat → Int32) (n s : Nat), s < 2 → fx2 (fM_eliminateIn_10 (nI v) (nI (xs.length + ys.length))) (n + 1) g (nI s) = fx3 (fM_eliminateIn_21 (fx2 (fM_eliminateIn_10 (nI v) (nI (xs.length + ys.length))) n) (nI v) (nI (xs.length + ys.length)) (nI s)) FU g (nI 0) (nI 0) := fun g n s hs => by simp -implicitDefEqProofs (disch := omega) only [fx2_s, fM_eliminateIn_10, litI, litL, nI_add, pk_mul, bd0_e, bd1_e, bd2_e, bd3_e, bd4_e, st_e, nI_leI, nI_ltI, nI_eq, if_pos, if_neg, if_true, if_false, ld_nI, sti_nI, stl_nI]
  have g0 : g2 0 = nI (rpl (v + 2) [] xs).length := by rw [c2 0 (by omega) (by omega)]; exact a1
  refine ⟨g2, ?_, rowIs_of g0 a2 (fun i hi => by rw [c2 _ (by omega) (by omega)]; exact b1 i hi) b2⟩
  simp -implicitDefEqProofs (disch := omega) only [fM_eliminateIn, litI, litL, nI_add, pk_mul, bd0_e, bd1_e, bd2_e, bd3_e, bd4_e, st_e, nI_leI, nI_ltI, nI_eq, if_pos, if_neg, if_true, if_false, ld_nI, sti_nI, stl_nI, h.l0, h.l1]
  rw [show FU = 999999 + 1 from rfl, F1 f 999999 0 (by decide), e1, show (999999 : Nat) = 999998 + 1 from rfl, F1 g 999998 1 (by decide), e2, show (999998 : Nat) = 999997 + 1 from rfl]
  simp -implicitDefEqProofs (disch := omega) only [fx2_s, fM_eliminateIn_10, litI, litL, nI_add, pk_mul, bd0_e, bd1_e, bd2_e, bd3_e, bd4_e, st_e, nI_leI, nI_ltI, nI_eq, if_pos, if_neg, if_true, if_false, ld_nI, sti_nI, stl_nI, g0, a2, pk_sub]
  rw [show xs.length + ys.length - (rpl (v + 2) [] xs).length - (rpl (v + 2) [] ys).length = xs.count (v + 2) + ys.count (v + 2) by omega]
def letters (xs : List Nat) : Nat := xs.count 0 + xs.count 1
set_option maxRecDepth 100000 in
theorem swp_small {x : Nat} (h : x < 2) : swp x = 1 - x := by
  rcases (show x = 0 ∨ x = 1 by omega) with rfl | rfl <;> rfl
set_option maxRecDepth 100000 in
theorem swp_big {x : Nat} (h : 2 ≤ x) : swp x = x := by unfold swp; rw [if_neg (by omega), if_neg (by omega)]
set_option maxRecDepth 100000 in
theorem mExchSide {f : Nat → Int32} {zs : List Nat} {s : Nat} (hs : s < 2) (hz : okS 12 zs) (h1 : f s = nI zs.length) (h2 : ∀ i, i < 12 → f (2 + 12 * s + i) = nI (zs.getD i 0)) (acts next : Int32) (diary : Nat → Int32) (k8 : (Nat → Int32) → Int32 → Int32 → Option (Int32 × Int32 × Int32 × (Nat → Int32) × (Nat → Int32))) (c : Nat) :
    ∃ g, fx3 (fM_exchangeLetters_15 k8 acts next diary (nI s)) FU f (nI c) (nI 0) = k8 g (nI (c + letters zs)) (nI (s + 1)) ∧ g s = nI zs.length ∧ (∀ i, i < 12 → g (2 + 12 * s + i) = nI ((zs.map swp).getD i 0)) ∧ ∀ k, k ≠ s → (k < 2 + 12 * s ∨ 2 + 12 * s + 12 ≤ k) → g k = f k := by
  have hl := hz.1
  have key : ∀ (d i n : Nat) (g : Nat → Int32), i + d = zs.length → d < n → (g s = nI zs.length ∧ (∀ j, j < 12 → g (2 + 12 * s + j) = if j < i then nI ((zs.map swp).getD j 0) else nI (zs.getD j 0)) ∧ ∀ k, k ≠ s → (k < 2 + 12 * s ∨ 2 + 12 * s + 12 ≤ k) → g k = f k) →
      ∃ g', fx3 (fM_exchangeLetters_15 k8 acts next diary (nI s)) n g (nI (c + letters (zs.take i))) (nI i) = k8 g' (nI (c + letters zs)) (nI (s + 1)) ∧ g' s = nI zs.length ∧ (∀ i, i < 12 → g' (2 + 12 * s + i) = nI ((zs.map swp).getD i 0)) ∧ ∀ k, k ≠ s → (k < 2 + 12 * s ∨ 2 + 12 * s + 12 ≤ k) → g' k = f k := by
    intro d
    induction d with
    | zero =>
      intro i n g hi hn hg
      obtain ⟨n, rfl⟩ := succ_of hn
      refine ⟨g, ?_, hg.1, fun j hj => ?_, hg.2.2⟩
      · rw [List.take_of_length_le (by omega)]
        simp -implicitDefEqProofs (disch := omega) only [fx3_s, fM_exchangeLetters_15, litI, litL, nI_add, pk_mul, bd0_e, bd1_e, bd2_e, bd3_e, bd4_e, st_e, nI_leI, nI_ltI, nI_eq, if_pos, if_neg, if_true, if_false, ld_nI, sti_nI, stl_nI, hg.1]
      · rw [hg.2.1 j hj]
        rcases Nat.lt_or_ge j i with q | q
        · rw [if_pos q]
        · rw [if_neg (by omega), getD_out (by omega), getD_out (by rw [List.length_map]; omega)]
    | succ d ih =>
      intro i n g hi hn hg
      obtain ⟨n, rfl⟩ := succ_of hn
      have hi2 : i < zs.length := by omega
      have hm := hz.2 _ (List.getElem_mem hi2)
      have e0 := hg.2.1 i (by omega)
      rw [if_neg (by omega), getD_in hi2] at e0
      obtain ⟨g', e, hg'⟩ := ih (i + 1) n (upd g (2 + 12 * s + i) (nI (swp zs[i]))) (by omega) (by omega) ⟨by rw [upd_e, if_neg (by omega)]; exact hg.1, fun j hj => by
        by_cases q : j = i
        · rw [upd_e, if_pos (by omega), if_pos (by omega), q, getD_in (by rw [List.length_map]; exact hi2), List.getElem_map]
        · rw [upd_e, if_neg (by omega), hg.2.1 j hj]
          exact if_iff (by omega) _ _, fun k hk hk2 => by rw [upd_e, if_neg (by omega)]; exact hg.2.2 k hk hk2⟩
      refine ⟨g', ?_, hg'⟩
      rw [← e, List.take_succ_eq_append_getElem hi2]
      have el : letters (zs.take i ++ [zs[i]]) = letters (zs.take i) + (if zs[i] < 2 then 1 else 0) := by
        unfold letters
        rw [List.count_append, List.count_append, List.count_singleton, List.count_singleton]
        by_cases q0 : zs[i] = 0
        · simp [q0]; omega
        · by_cases q1 : zs[i] = 1
          · simp [q1]; omega
          · simp [q0, q1, show ¬ zs[i] < 2 by omega]
      rw [el]
      by_cases q : zs[i] < 2
      · rw [swp_small q, if_pos q, ← Nat.add_assoc]
        simp -implicitDefEqProofs (disch := omega) only [fx3_s, fM_exchangeLetters_15, fM_exchangeLetters_49, fM_exchangeLetters_87, litI, litL, nI_add, pk_mul, bd0_e, bd1_e, bd2_e, bd3_e, bd4_e, st_e, nI_leI, nI_ltI, nI_eq, if_pos, if_neg, if_true, if_false, ld_nI, sti_nI, stl_nI, hg.1, mAt, e0, pk_sub]
      · rw [swp_big (by omega), if_neg q, ← Nat.add_assoc]
        simp -implicitDefEqProofs (disch := omega) only [fx3_s, fM_exchangeLetters_15, fM_exchangeLetters_49, fM_exchangeLetters_87, litI, litL, nI_add, pk_mul, bd0_e, bd1_e, bd2_e, bd3_e, bd4_e, st_e, nI_leI, nI_ltI, nI_eq, if_pos, if_neg, if_true, if_false, ld_nI, sti_nI, stl_nI, hg.1, mAt, e0]
  obtain ⟨g', e, hg'⟩ := key zs.length 0 FU f (by omega) (fuel (by omega)) ⟨h1, fun j hj => by rw [if_neg (by omega)]; exact h2 j hj, fun _ _ _ => rfl⟩
  exact ⟨g', e, hg'⟩
