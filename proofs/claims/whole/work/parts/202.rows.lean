/-! the reference's rows: two sides of up to 12 symbols in 26 places -/
def sd (s : Nat) (xs ys : List Nat) : List Nat := if s = 0 then xs else ys
set_option maxRecDepth 100000 in
theorem sd_0 (xs ys : List Nat) : sd 0 xs ys = xs := rfl
set_option maxRecDepth 100000 in
theorem sd_1 (xs ys : List Nat) : sd 1 xs ys = ys := rfl
def rowIs (f : Nat → Int32) (xs ys : List Nat) : Prop := ∀ s, s < 2 → f s = nI (sd s xs ys).length ∧ ∀ i, i < 12 → f (2 + 12 * s + i) = nI ((sd s xs ys).getD i 0)
set_option maxRecDepth 100000 in
theorem rowIs_of {f : Nat → Int32} {xs ys : List Nat} (h0 : f 0 = nI xs.length) (h1 : f 1 = nI ys.length) (h2 : ∀ i, i < 12 → f (2 + i) = nI (xs.getD i 0)) (h3 : ∀ i, i < 12 → f (14 + i) = nI (ys.getD i 0)) : rowIs f xs ys := by
  intro s hs
  rcases (show s = 0 ∨ s = 1 by omega) with rfl | rfl
  · exact ⟨h0, fun i hi => h2 i hi⟩
  · exact ⟨h1, fun i hi => h3 i hi⟩
set_option maxRecDepth 100000 in
theorem rowIs.l0 {f : Nat → Int32} {xs ys : List Nat} (h : rowIs f xs ys) : f 0 = nI xs.length := (h 0 (by decide)).1
set_option maxRecDepth 100000 in
theorem rowIs.l1 {f : Nat → Int32} {xs ys : List Nat} (h : rowIs f xs ys) : f 1 = nI ys.length := (h 1 (by decide)).1
set_option maxRecDepth 100000 in
theorem rowIs.s0 {f : Nat → Int32} {xs ys : List Nat} (h : rowIs f xs ys) {i : Nat} (hi : i < 12) : f (2 + i) = nI (xs.getD i 0) := (h 0 (by decide)).2 i hi
set_option maxRecDepth 100000 in
theorem rowIs.s1 {f : Nat → Int32} {xs ys : List Nat} (h : rowIs f xs ys) {i : Nat} (hi : i < 12) : f (14 + i) = nI (ys.getD i 0) := (h 1 (by decide)).2 i hi
set_option maxRecDepth 100000 in
theorem rowIs.cong {f g : Nat → Int32} {xs ys : List Nat} (h : rowIs f xs ys) (e : ∀ k, k < 26 → g k = f k) : rowIs g xs ys := fun s hs => ⟨by rw [e s (by omega)]; exact (h s hs).1, fun i hi => by rw [e _ (by omega)]; exact (h s hs).2 i hi⟩
set_option maxRecDepth 100000 in
theorem getD_in {xs : List Nat} {i : Nat} (hi : i < xs.length) : xs.getD i 0 = xs[i] := by rw [List.getD_eq_getElem?_getD, List.getElem?_eq_getElem hi]; rfl
set_option maxRecDepth 100000 in
theorem getD_out {xs : List Nat} {i : Nat} (hi : xs.length ≤ i) : xs.getD i 0 = 0 := by rw [List.getD_eq_getElem?_getD, List.getElem?_eq_none hi]; rfl
set_option maxRecDepth 100000 in
theorem getD_lt6 {xs : List Nat} (h : ∀ x ∈ xs, x < 6) (i : Nat) : xs.getD i 0 < 6 := by
  rcases Nat.lt_or_ge i xs.length with hi | hi
  · rw [getD_in hi]; exact h _ (List.getElem_mem hi)
  · rw [getD_out hi]; decide
set_option maxRecDepth 100000 in
theorem if_iff {α : Type} {p q : Prop} [Decidable p] [Decidable q] (h : p ↔ q) (a b : α) : (if p then a else b) = (if q then a else b) := by
  by_cases hp : p
  · rw [if_pos hp, if_pos (h.mp hp)]
  · rw [if_neg hp, if_neg (fun z => hp (h.mpr z))]
set_option maxRecDepth 100000 in
theorem mAt (s i : Nat) : fM_at (nI s) (nI i) = some (nI (2 + 12 * s + i)) := by
  simp only [fM_at, litI, litL, nI_add, pk_mul, bd0_e, bd1_e, bd2_e, bd3_e, bd4_e, st_e]
set_option maxRecDepth 100000 in
theorem mCopy (f g : Nat → Int32) : ∃ g', fM_copy f g = some g' ∧ ∀ k, k < 26 → g' k = f k := by
  have key : ∀ (d i n : Nat) (g : Nat → Int32), i + d = 26 → d < n → (∀ k, k < i → g k = f k) → ∃ g', fx2 (fM_copy_2 f) n g (nI i) = some g' ∧ ∀ k, k < 26 → g' k = f k := by
    intro d
    induction d with
    | zero =>
      intro i n g hi hn hg
      obtain ⟨n, rfl⟩ := succ_of hn
      refine ⟨g, ?_, fun k hk => hg k (by omega)⟩
      simp -implicitDefEqProofs (disch := omega) only [fx2_s, fM_copy_2, litI, litL, nI_add, pk_mul, bd0_e, bd1_e, bd2_e, bd3_e, bd4_e, st_e, nI_leI, nI_ltI, nI_eq, if_pos, if_neg, if_true, if_false, ld_nI, sti_nI, stl_nI]
    | succ d ih =>
      intro i n g hi hn hg
      obtain ⟨n, rfl⟩ := succ_of hn
      obtain ⟨g', e, hg'⟩ := ih (i + 1) n (upd g i (f i)) (by omega) (by omega) (fun k hk => by
        by_cases q : k = i
        · rw [q, upd_e, if_pos rfl]
        · rw [upd_e, if_neg q]; exact hg k (by omega))
      refine ⟨g', ?_, hg'⟩
      rw [← e]
      simp -implicitDefEqProofs (disch := omega) only [fx2_s, fM_copy_2, litI, litL, nI_add, pk_mul, bd0_e, bd1_e, bd2_e, bd3_e, bd4_e, st_e, nI_leI, nI_ltI, nI_eq, if_pos, if_neg, if_true, if_false, ld_nI, sti_nI, stl_nI]
  exact key 26 0 FU g (by omega) (fuel (by omega)) (fun k hk => absurd hk (by omega))
set_option maxRecDepth 100000 in
theorem mCountOf {f : Nat → Int32} {xs ys : List Nat} (h : rowIs f xs ys) {s : Nat} (hs : s < 2) (hx : okS 12 (sd s xs ys)) {c : Nat} (hc : c < 6) : fM_countOf f (nI s) (nI c) = some (nI ((sd s xs ys).count c)) := by
  obtain ⟨h1, h2⟩ := h s hs
  generalize sd s xs ys = zs at h1 h2 hx ⊢
  have hl := hx.1
  have key : ∀ (d i k n : Nat), i + d = zs.length → d < n → fx2 (fM_countOf_5 f (nI s) (nI c)) n (nI k) (nI i) = some (nI (k + (zs.drop i).count c)) := by
    intro d
    induction d with
    | zero =>
      intro i k n hi hn
      obtain ⟨n, rfl⟩ := succ_of hn
      rw [List.drop_eq_nil_of_le (by omega)]
      simp -implicitDefEqProofs (disch := omega) only [fx2_s, fM_countOf_5, litI, litL, nI_add, pk_mul, bd0_e, bd1_e, bd2_e, bd3_e, bd4_e, st_e, nI_leI, nI_ltI, nI_eq, if_pos, if_neg, if_true, if_false, ld_nI, sti_nI, stl_nI, h1]
      rfl
    | succ d ih =>
      intro i k n hi hn
      obtain ⟨n, rfl⟩ := succ_of hn
      have hi2 : i < zs.length := by omega
      have hm := hx.2 _ (List.getElem_mem hi2)
      have e := h2 i (by omega)
      rw [getD_in hi2] at e
      rw [List.drop_eq_getElem_cons hi2, List.count_cons]
      simp -implicitDefEqProofs (disch := omega) only [fx2_s, fM_countOf_5, litI, litL, nI_add, pk_mul, bd0_e, bd1_e, bd2_e, bd3_e, bd4_e, st_e, nI_leI, nI_ltI, nI_eq, if_pos, if_neg, if_true, if_false, ld_nI, sti_nI, stl_nI, h1, mAt, e]
      by_cases q : zs[i] = c
      · rw [if_pos q, ih (i + 1) (k + 1) n (by omega) (by omega)]
        simp only [q, beq_self_eq_true, if_true]
        rw [show k + 1 + List.count c (List.drop (i + 1) zs) = k + (List.count c (List.drop (i + 1) zs) + 1) by omega]
      · rw [if_neg q, ih (i + 1) (k + 0) n (by omega) (by omega)]
        simp only [q, beq_iff_eq, if_false, Nat.add_zero]
  have := key zs.length 0 0 FU (by omega) (fuel (by omega))
  rw [List.drop_zero, Nat.zero_add] at this
  exact this
set_option maxRecDepth 100000 in
theorem mSwapIn {f : Nat → Int32} {xs ys : List Nat} (h : rowIs f xs ys) : ∃ g, fM_swapIn f = some g ∧ rowIs g ys xs := by
  have key : ∀ (d i n : Nat) (g : Nat → Int32), i + d = 12 → d < n → (g 0 = f 1 ∧ g 1 = f 0 ∧ ∀ j, j < 12 → (g (2 + j) = if j < i then f (14 + j) else f (2 + j)) ∧ (g (14 + j) = if j < i then f (2 + j) else f (14 + j))) →
      ∃ g', fx2 fM_swapIn_16 n g (nI i) = some g' ∧ g' 0 = f 1 ∧ g' 1 = f 0 ∧ ∀ j, j < 12 → g' (2 + j) = f (14 + j) ∧ g' (14 + j) = f (2 + j) := by
    intro d
    induction d with
    | zero =>
      intro i n g hi hn hg
      obtain ⟨n, rfl⟩ := succ_of hn
      refine ⟨g, ?_, hg.1, hg.2.1, fun j hj => ?_⟩
      · simp -implicitDefEqProofs (disch := omega) only [fx2_s, fM_swapIn_16, litI, litL, nI_add, pk_mul, bd0_e, bd1_e, bd2_e, bd3_e, bd4_e, st_e, nI_leI, nI_ltI, nI_eq, if_pos, if_neg, if_true, if_false, ld_nI, sti_nI, stl_nI]
      · have := hg.2.2 j hj
        rw [if_pos (by omega), if_pos (by omega)] at this
        exact this
    | succ d ih =>
      intro i n g hi hn hg
      obtain ⟨n, rfl⟩ := succ_of hn
      obtain ⟨g', e, hg'⟩ := ih (i + 1) n (upd (upd g (2 + 12 * 0 + i) (g (2 + 12 * 1 + i))) (2 + 12 * 1 + i) (g (2 + 12 * 0 + i))) (by omega) (by omega) ⟨by simp -implicitDefEqProofs (disch := omega) only [upd_e, if_neg, hg.1], by simp -implicitDefEqProofs (disch := omega) only [upd_e, if_neg, hg.2.1], fun j hj => by
        have a := hg.2.2 j hj
        by_cases q : j = i
        · subst q
          rw [if_neg (by omega), if_neg (by omega)] at a
          rw [if_pos (by omega), if_pos (by omega), ← a.1, ← a.2]
          exact ⟨by rw [upd_e, if_neg (by omega), upd_e, if_pos (by omega)], by rw [upd_e, if_pos (by omega)]⟩
        · rw [if_iff (show j < i + 1 ↔ j < i by omega), if_iff (show j < i + 1 ↔ j < i by omega), ← a.1, ← a.2]
          exact ⟨by rw [upd_e, if_neg (by omega), upd_e, if_neg (by omega)], by rw [upd_e, if_neg (by omega), upd_e, if_neg (by omega)]⟩⟩
      refine ⟨g', ?_, hg'⟩
      rw [← e]
      simp -implicitDefEqProofs (disch := omega) only [fx2_s, fM_swapIn_16, litI, litL, nI_add, pk_mul, bd0_e, bd1_e, bd2_e, bd3_e, bd4_e, st_e, nI_leI, nI_ltI, nI_eq, if_pos, if_neg, if_true, if_false, ld_nI, sti_nI, stl_nI, mAt]
  obtain ⟨g', e, h0, h1, h2⟩ := key 12 0 FU (upd (upd f 0 (f 1)) 1 (f 0)) (by omega) (fuel (by omega)) ⟨rfl, rfl, fun j hj => ⟨by rw [if_neg (by omega)]; simp -implicitDefEqProofs (disch := omega) only [upd_e, if_neg], by rw [if_neg (by omega)]; simp -implicitDefEqProofs (disch := omega) only [upd_e, if_neg]⟩⟩
  refine ⟨g', ?_, rowIs_of (by rw [h0]; exact h.l1) (by rw [h1]; exact h.l0) (fun i hi => by rw [(h2 i hi).1]; exact h.s1 hi) (fun i hi => by rw [(h2 i hi).2]; exact h.s0 hi)⟩
  rw [← e]
  simp -implicitDefEqProofs (disch := omega) only [fM_swapIn, litI, litL, nI_add, pk_mul, bd0_e, bd1_e, bd2_e, bd3_e, bd4_e, st_e, nI_leI, nI_ltI, nI_eq, if_pos, if_neg, if_true, if_false, ld_nI, sti_nI, stl_nI]
set_option maxRecDepth 100000 in
/-- one side of a row changes, the other stays -/
theorem rowIs.side {f g : Nat → Int32} {xs ys zs : List Nat} (h : rowIs f xs ys) {s : Nat} (hs : s < 2) (hl : g s = nI zs.length) (hz : ∀ i, i < 12 → g (2 + 12 * s + i) = nI (zs.getD i 0)) (ho : ∀ t, t < 2 → t ≠ s → g t = f t ∧ ∀ i, i < 12 → g (2 + 12 * t + i) = f (2 + 12 * t + i)) :
    rowIs g (if s = 0 then zs else xs) (if s = 0 then ys else zs) := by
  intro t ht
  by_cases q : t = s
  · subst q
    have e : sd t (if t = 0 then zs else xs) (if t = 0 then ys else zs) = zs := by unfold sd; split <;> rfl
    rw [e]
    exact ⟨hl, hz⟩
  · have e : sd t (if s = 0 then zs else xs) (if s = 0 then ys else zs) = sd t xs ys := by
      rcases (show t = 0 ∧ s = 1 ∨ t = 1 ∧ s = 0 by omega) with ⟨rfl, rfl⟩ | ⟨rfl, rfl⟩ <;> rfl
    rw [e]
    obtain ⟨a, b⟩ := ho t ht q
    exact ⟨by rw [a]; exact (h t ht).1, fun i hi => by rw [b i hi]; exact (h t ht).2 i hi⟩
set_option maxRecDepth 100000 in
theorem getD_rev {xs : List Nat} {i : Nat} (hi : i < xs.length) : xs.reverse.getD i 0 = xs.getD (xs.length - 1 - i) 0 := by
  rw [getD_in (by rw [List.length_reverse]; exact hi), getD_in (by omega), List.getElem_reverse]
set_option maxRecDepth 100000 in
theorem mRevSide {f : Nat → Int32} {zs : List Nat} {s : Nat} (hs : s < 2) (hz : okS 12 zs) (h2 : ∀ i, i < 12 → f (2 + 12 * s + i) = nI (zs.getD i 0)) (k2 : (Nat → Int32) → Int32 → Option (Nat → Int32)) :
    ∃ g, fx2 (fM_reverseIn_13 k2 (nI s) (nI zs.length)) FU f (nI 0) = k2 g (nI (s + 1)) ∧ (∀ i, i < 12 → g (2 + 12 * s + i) = nI (zs.reverse.getD i 0)) ∧ ∀ k, (k < 2 + 12 * s ∨ 2 + 12 * s + 12 ≤ k) → g k = f k := by
  have hl := hz.1
  have key : ∀ (d i n : Nat) (g : Nat → Int32), i + d = zs.length / 2 → d < n → ((∀ j, j < 12 → g (2 + 12 * s + j) = if j < i ∨ (zs.length - i ≤ j ∧ j < zs.length) then nI (zs.getD (zs.length - 1 - j) 0) else nI (zs.getD j 0)) ∧ ∀ k, (k < 2 + 12 * s ∨ 2 + 12 * s + 12 ≤ k) → g k = f k) →
      ∃ g', fx2 (fM_reverseIn_13 k2 (nI s) (nI zs.length)) n g (nI i) = k2 g' (nI (s + 1)) ∧ (∀ i, i < 12 → g' (2 + 12 * s + i) = nI (zs.reverse.getD i 0)) ∧ ∀ k, (k < 2 + 12 * s ∨ 2 + 12 * s + 12 ≤ k) → g' k = f k := by
    intro d
    induction d with
    | zero =>
      intro i n g hi hn hg
      obtain ⟨n, rfl⟩ := succ_of hn
      refine ⟨g, ?_, fun j hj => ?_, hg.2⟩
      · simp -implicitDefEqProofs (disch := omega) only [fx2_s, fM_reverseIn_13, litI, litL, nI_add, pk_mul, bd0_e, bd1_e, bd2_e, bd3_e, bd4_e, st_e, nI_leI, nI_ltI, nI_eq, if_pos, if_neg, if_true, if_false, ld_nI, sti_nI, stl_nI, pk_div]
      · rw [hg.1 j hj]
        rcases Nat.lt_or_ge j zs.length with q | q
        · rw [getD_rev q]
          by_cases c : j < i ∨ (zs.length - i ≤ j ∧ j < zs.length)
          · rw [if_pos c]
          · rw [if_neg c, show zs.length - 1 - j = j by omega]
        · rw [if_neg (by omega), getD_out q, getD_out (by rw [List.length_reverse]; exact q)]
    | succ d ih =>
      intro i n g hi hn hg
      obtain ⟨n, rfl⟩ := succ_of hn
      obtain ⟨g', e, hg'⟩ := ih (i + 1) n (upd (upd g (2 + 12 * s + i) (g (2 + 12 * s + (zs.length - 1 - i)))) (2 + 12 * s + (zs.length - 1 - i)) (g (2 + 12 * s + i))) (by omega) (by omega) ⟨fun j hj => by
        have a := hg.1 j hj
        by_cases q1 : j = zs.length - 1 - i
        · rw [if_pos (by omega), upd_e, if_pos (by omega), hg.1 i (by omega), if_neg (by omega), show zs.length - 1 - j = i by omega]
        · by_cases q2 : j = i
          · rw [if_pos (by omega), upd_e, if_neg (by omega), upd_e, if_pos (by omega), hg.1 _ (by omega), if_neg (by omega), q2]
          · rw [upd_e, if_neg (by omega), upd_e, if_neg (by omega), a]
            exact if_iff (by omega) _ _, fun k hk => by rw [upd_e, if_neg (by omega), upd_e, if_neg (by omega)]; exact hg.2 k hk⟩
      refine ⟨g', ?_, hg'⟩
      rw [← e]
      simp -implicitDefEqProofs (disch := omega) only [fx2_s, fM_reverseIn_13, litI, litL, nI_add, pk_mul, bd0_e, bd1_e, bd2_e, bd3_e, bd4_e, st_e, nI_leI, nI_ltI, nI_eq, if_pos, if_neg, if_true, if_false, ld_nI, sti_nI, stl_nI, pk_div, pk_sub, mAt]
  exact key (zs.length / 2) 0 FU f (by omega) (fuel (by omega)) ⟨fun j hj => by rw [if_neg (by omega)]; exact h2 j hj, fun _ _ => rfl⟩
set_option maxRecDepth 100000 in
theorem mReverseIn {f : Nat → Int32} {xs ys : List Nat} (h : rowIs f xs ys) (hx : okS 12 xs) (hy : okS 12 ys) : ∃ g, fM_reverseIn f = some g ∧ rowIs g xs.reverse ys.reverse := by
  have hlx := hx.1
  have hly := hy.1
  have F2 : ∀ (g : Nat → Int32) (n : Nat), fx2 fM_reverseIn_2 (n + 1) g (nI 2) = some g := fun g n => by simp -implicitDefEqProofs (disch := omega) only [fx2_s, fM_reverseIn_2, litI, litL, nI_add, pk_mul, bd0_e, bd1_e, bd2_e, bd3_e, bd4_e, st_e, nI_leI, nI_ltI, nI_eq, if_pos, if_neg, if_true, if_false, ld_nI, sti_nI, stl_nI]
  have F1 : ∀ (g : Nat → Int32) (n s : Nat), s < 2 → fx2 fM_reverseIn_2 (n + 1) g (nI s) = fx2 (fM_reverseIn_13 (fx2 fM_reverseIn_2 n) (nI s) (g s)) FU g (nI 0) := fun g n s hs => by simp -implicitDefEqProofs (disch := omega) only [fx2_s, fM_reverseIn_2, litI, litL, nI_add, pk_mul, bd0_e, bd1_e, bd2_e, bd3_e, bd4_e, st_e, nI_leI, nI_ltI, nI_eq, if_pos, if_neg, if_true, if_false, ld_nI, sti_nI, stl_nI]
  obtain ⟨g, e1, a1, b1⟩ := mRevSide (s := 0) (by decide) hx (h 0 (by decide)).2 (fx2 fM_reverseIn_2 999999)
  obtain ⟨g2, e2, a2, b2⟩ := mRevSide (f := g) (s := 1) (by decide) hy (fun i hi => by rw [b1 _ (by omega)]; exact (h 1 (by decide)).2 i hi) (fx2 fM_reverseIn_2 999998)
  refine ⟨g2, ?_, rowIs_of ?_ ?_ ?_ ?_⟩
  · simp only [fM_reverseIn, litI]
    rw [show FU = 999999 + 1 from rfl, F1 f 999999 0 (by decide), h.l0, e1, show (999999 : Nat) = 999998 + 1 from rfl, F1 g 999998 1 (by decide), b1 1 (by omega), h.l1, e2, show (999998 : Nat) = 999997 + 1 from rfl, F2]
  · rw [b2 0 (by omega), b1 0 (by omega), h.l0, List.length_reverse]
  · rw [b2 1 (by omega), b1 1 (by omega), h.l1, List.length_reverse]
  · intro i hi; rw [b2 _ (by omega)]; exact a1 i hi
  · intro i hi; exact a2 i hi
set_option maxRecDepth 100000 in
theorem mDropFirst {f : Nat → Int32} {xs ys : List Nat} (h : rowIs f xs ys) {s : Nat} (hs : s < 2) {z : Nat} {zs : List Nat} (e : sd s xs ys = z :: zs) (hz : okS 12 (z :: zs)) : ∃ g, fM_dropFirst f (nI s) = some g ∧ rowIs g (if s = 0 then zs else xs) (if s = 0 then ys else zs) := by
  obtain ⟨h1, h2⟩ := h s hs
  rw [e] at h1 h2
  have hl := hz.1
  rw [List.length_cons] at h1 hl
  have key : ∀ (d i n : Nat) (g : Nat → Int32), i + d = zs.length → d < n → (g s = nI zs.length ∧ (∀ j, j < 12 → g (2 + 12 * s + j) = if j < i then nI (zs.getD j 0) else nI ((z :: zs).getD j 0)) ∧ ∀ t, t < 2 → t ≠ s → g t = f t ∧ ∀ i, i < 12 → g (2 + 12 * t + i) = f (2 + 12 * t + i)) →
      ∃ g', fx2 (fM_dropFirst_9 (nI s)) n g (nI i) = some g' ∧ g' s = nI zs.length ∧ (∀ j, j < 12 → g' (2 + 12 * s + j) = nI (zs.getD j 0)) ∧ ∀ t, t < 2 → t ≠ s → g' t = f t ∧ ∀ i, i < 12 → g' (2 + 12 * t + i) = f (2 + 12 * t + i) := by
    intro d
    induction d with
    | zero =>
      intro i n g hi hn hg
      obtain ⟨n, rfl⟩ := succ_of hn
      refine ⟨upd g (2 + 12 * s + zs.length) (nI 0), ?_, ?_, ?_, ?_⟩
      · simp -implicitDefEqProofs (disch := omega) only [fx2_s, fM_dropFirst_9, litI, litL, nI_add, pk_mul, bd0_e, bd1_e, bd2_e, bd3_e, bd4_e, st_e, nI_leI, nI_ltI, nI_eq, if_pos, if_neg, if_true, if_false, ld_nI, sti_nI, stl_nI, hg.1, mAt]
      · rw [upd_e, if_neg (by omega)]; exact hg.1
      · intro j hj
        by_cases q : j = zs.length
        · rw [upd_e, if_pos (by omega), getD_out (by omega)]
        · rw [upd_e, if_neg (by omega), hg.2.1 j hj]
          rcases Nat.lt_or_ge j i with q2 | q2
          · rw [if_pos q2]
          · rw [if_neg (by omega), getD_out (by rw [List.length_cons]; omega), getD_out (by omega)]
      · intro t ht hts
        exact ⟨by rw [upd_e, if_neg (by omega)]; exact (hg.2.2 t ht hts).1, fun i hi => by rw [upd_e, if_neg (by omega)]; exact (hg.2.2 t ht hts).2 i hi⟩
    | succ d ih =>
      intro i n g hi hn hg
      obtain ⟨n, rfl⟩ := succ_of hn
      obtain ⟨g', e, hg'⟩ := ih (i + 1) n (upd g (2 + 12 * s + i) (g (2 + 12 * s + (i + 1)))) (by omega) (by omega) ⟨by rw [upd_e, if_neg (by omega)]; exact hg.1, fun j hj => by
        by_cases q : j = i
        · rw [upd_e, if_pos (by omega), if_pos (by omega), hg.2.1 _ (by omega), if_neg (by omega), q]
          rfl
        · rw [upd_e, if_neg (by omega), hg.2.1 j hj]
          exact if_iff (by omega) _ _, fun t ht hts => ⟨by rw [upd_e, if_neg (by omega)]; exact (hg.2.2 t ht hts).1, fun i hi => by rw [upd_e, if_neg (by omega)]; exact (hg.2.2 t ht hts).2 i hi⟩⟩
      refine ⟨g', ?_, hg'⟩
      rw [← e]
      simp -implicitDefEqProofs (disch := omega) only [fx2_s, fM_dropFirst_9, litI, litL, nI_add, pk_mul, bd0_e, bd1_e, bd2_e, bd3_e, bd4_e, st_e, nI_leI, nI_ltI, nI_eq, if_pos, if_neg, if_true, if_false, ld_nI, sti_nI, stl_nI, hg.1, mAt]
  obtain ⟨g', e', a, b, c⟩ := key zs.length 0 FU (upd f s (nI zs.length)) (by omega) (fuel (by omega)) ⟨by rw [upd_e, if_pos rfl], fun j hj => by rw [upd_e, if_neg (by omega), if_neg (by omega)]; exact h2 j hj, fun t ht hts => ⟨by rw [upd_e, if_neg hts], fun i hi => by rw [upd_e, if_neg (by omega)]⟩⟩
  refine ⟨g', ?_, h.side hs a b c⟩
  rw [← e']
  simp -implicitDefEqProofs (disch := omega) only [fM_dropFirst, litI, litL, nI_add, pk_mul, bd0_e, bd1_e, bd2_e, bd3_e, bd4_e, st_e, nI_leI, nI_ltI, nI_eq, if_pos, if_neg, if_true, if_false, ld_nI, sti_nI, stl_nI, h1, pk_sub]
  rw [Nat.add_sub_cancel]
/-- equal heads are taken away -/
def canc : List Nat → List Nat → Nat × List Nat × List Nat
  | x :: xs, y :: ys => if x = y then ((canc xs ys).1 + 1, (canc xs ys).2) else (0, x :: xs, y :: ys)
  | xs, ys => (0, xs, ys)
set_option maxRecDepth 100000 in
theorem canc_nil (xs : List Nat) : canc xs [] = (0, xs, []) := by cases xs <;> rfl
set_option maxRecDepth 100000 in
theorem canc_ok {n : Nat} : ∀ {xs ys : List Nat}, okS n xs → okS n ys → okS n (canc xs ys).2.1 ∧ okS n (canc xs ys).2.2 ∧ (canc xs ys).1 ≤ xs.length
  | [], ys, hx, hy => ⟨hx, hy, Nat.zero_le _⟩
  | x :: xs, [], hx, hy => ⟨hx, hy, Nat.zero_le _⟩
  | x :: xs, y :: ys, hx, hy => by
    rw [canc]
    split
    · obtain ⟨a, b, c⟩ := canc_ok (n := n) (xs := xs) (ys := ys) ⟨by have := hx.1; simp at this; omega, fun z hz => hx.2 z (List.mem_cons_of_mem _ hz)⟩ ⟨by have := hy.1; simp at this; omega, fun z hz => hy.2 z (List.mem_cons_of_mem _ hz)⟩
      exact ⟨a, b, by rw [List.length_cons]; dsimp only; omega⟩
    · exact ⟨hx, hy, Nat.zero_le _⟩
set_option maxRecDepth 100000 in
theorem getD_append_last {xs : List Nat} {x : Nat} : (xs ++ [x]).getD xs.length 0 = x := by
  rw [getD_in (by simp)]
  simp
set_option maxRecDepth 100000 in
theorem getD_append_l {xs ys : List Nat} {i : Nat} (h : i < xs.length) : (xs ++ ys).getD i 0 = xs.getD i 0 := by
  rw [getD_in (by rw [List.length_append]; omega), getD_in h, List.getElem_append_left h]
set_option maxRecDepth 100000 in
theorem mCancelEnd (u : List Nat) : ∀ (v : List Nat) (f : Nat → Int32) (k n : Nat), okS 12 u → okS 12 v → rowIs f u.reverse v.reverse → u.length < n → ∃ g, fx2 fM_cancelIn_47 n f (nI k) = some (nI (k + (canc u v).1), g) ∧ rowIs g (canc u v).2.1.reverse (canc u v).2.2.reverse := by
  induction u with
  | nil =>
    intro v f k n hu hv h hn
    obtain ⟨n, rfl⟩ := succ_of hn
    refine ⟨f, ?_, h⟩
    have h0 := h.l0
    rw [List.length_reverse, List.length_nil] at h0
    simp -implicitDefEqProofs (disch := omega) only [fx2_s, fM_cancelIn_47, litI, litL, nI_add, pk_mul, bd0_e, bd1_e, bd2_e, bd3_e, bd4_e, st_e, nI_leI, nI_ltI, nI_eq, if_pos, if_neg, if_true, if_false, ld_nI, sti_nI, stl_nI, h0]
    rfl
  | cons x u ih =>
    intro v f k n hu hv h hn
    obtain ⟨n, rfl⟩ := succ_of hn
    have h0 := h.l0
    have h1 := h.l1
    have hl := hu.1
    rw [List.length_cons] at hl hn
    rw [List.length_reverse, List.length_cons] at h0
    cases v with
    | nil =>
      refine ⟨f, ?_, h⟩
      rw [List.length_reverse, List.length_nil] at h1
      simp -implicitDefEqProofs (disch := omega) only [fx2_s, fM_cancelIn_47, litI, litL, nI_add, pk_mul, bd0_e, bd1_e, bd2_e, bd3_e, bd4_e, st_e, nI_leI, nI_ltI, nI_eq, if_pos, if_neg, if_true, if_false, ld_nI, sti_nI, stl_nI, h0, h1]
      rfl
    | cons y v =>
      have hl2 := hv.1
      rw [List.length_cons] at hl2
      rw [List.length_reverse, List.length_cons] at h1
      have hx := hu.2 x List.mem_cons_self
      have hy := hv.2 y List.mem_cons_self
      have e0 := h.s0 (i := u.length) (by omega)
      have e1 := h.s1 (i := v.length) (by omega)
      rw [List.reverse_cons, show u.length = u.reverse.length by rw [List.length_reverse], getD_append_last, List.length_reverse] at e0
      rw [List.reverse_cons, show v.length = v.reverse.length by rw [List.length_reverse], getD_append_last, List.length_reverse] at e1
      have E0 : f (2 + 12 * 0 + u.length) = nI x := e0
      have E1 : f (2 + 12 * 1 + v.length) = nI y := e1
      rw [canc]
      by_cases q : x = y
      · rw [if_pos q]
        have hrow : rowIs (upd (upd (upd (upd f 0 (nI u.length)) 1 (nI v.length)) (2 + 12 * 0 + u.length) (nI 0)) (2 + 12 * 1 + v.length) (nI 0)) u.reverse v.reverse := by
          refine rowIs_of ?_ ?_ ?_ ?_
          · simp -implicitDefEqProofs (disch := omega) only [upd_e, if_pos, if_neg, if_true, List.length_reverse]
          · simp -implicitDefEqProofs (disch := omega) only [upd_e, if_pos, if_neg, if_true, List.length_reverse]
          · intro i hi
            by_cases q2 : i = u.length
            · simp -implicitDefEqProofs (disch := omega) only [upd_e, if_pos, if_neg, if_true]
              rw [getD_out (by rw [List.length_reverse]; omega)]
            · simp -implicitDefEqProofs (disch := omega) only [upd_e, if_neg]
              rw [h.s0 hi, List.reverse_cons]
              rcases Nat.lt_or_ge i u.length with q3 | q3
              · rw [getD_append_l (by rw [List.length_reverse]; exact q3)]
              · rw [getD_out (by rw [List.length_append, List.length_reverse, List.length_singleton]; omega), getD_out (by rw [List.length_reverse]; omega)]
          · intro i hi
            by_cases q2 : i = v.length
            · simp -implicitDefEqProofs (disch := omega) only [upd_e, if_pos, if_true]
              rw [getD_out (by rw [List.length_reverse]; omega)]
            · simp -implicitDefEqProofs (disch := omega) only [upd_e, if_neg]
              rw [h.s1 hi, List.reverse_cons]
              rcases Nat.lt_or_ge i v.length with q3 | q3
              · rw [getD_append_l (by rw [List.length_reverse]; exact q3)]
              · rw [getD_out (by rw [List.length_append, List.length_reverse, List.length_singleton]; omega), getD_out (by rw [List.length_reverse]; omega)]
        obtain ⟨g, eg, hg⟩ := ih v _ (k + 1) n ⟨by omega, fun z hz => hu.2 z (List.mem_cons_of_mem _ hz)⟩ ⟨by omega, fun z hz => hv.2 z (List.mem_cons_of_mem _ hz)⟩ hrow (by omega)
        refine ⟨g, ?_, hg⟩
        dsimp only
        rw [show k + ((canc u v).1 + 1) = k + 1 + (canc u v).1 by omega, ← eg]
        simp -implicitDefEqProofs (disch := omega) only [fx2_s, fM_cancelIn_47, litI, litL, nI_add, pk_mul, bd0_e, bd1_e, bd2_e, bd3_e, bd4_e, st_e, nI_leI, nI_ltI, nI_eq, if_pos, if_neg, if_true, if_false, ld_nI, sti_nI, stl_nI, h0, h1, pk_sub, Nat.add_sub_cancel, mAt, E0, E1, upd_e]
      · rw [if_neg q]
        refine ⟨f, ?_, h⟩
        simp -implicitDefEqProofs (disch := omega) only [fx2_s, fM_cancelIn_47, litI, litL, nI_add, pk_mul, bd0_e, bd1_e, bd2_e, bd3_e, bd4_e, st_e, nI_leI, nI_ltI, nI_eq, if_pos, if_neg, if_true, if_false, ld_nI, sti_nI, stl_nI, h0, h1, pk_sub, Nat.add_sub_cancel, mAt, E0, E1]
        rfl
