/-! spelling a side, in the class -/
def RA (Al : Nat → Int64) (Ak : Nat → Int32) (w : Nat → List Nat) (N : Nat) : Prop := ∀ s, s < 6 → (w s).length ≤ N ∧ bits (w s) ∧ Ak (s + 1) = nI (w s).length ∧ Al (s + 1) = lN (vl 0 (w s))
set_option maxRecDepth 100000 in
theorem bits_app {u v : List Nat} (hu : bits u) (hv : bits v) : bits (u ++ v) := fun b hb => by
  rcases List.mem_append.mp hb with h | h
  · exact hu b h
  · exact hv b h
set_option maxRecDepth 100000 in
theorem bits_nil : bits [] := fun b hb => by cases hb
set_option maxRecDepth 100000 in
theorem bits_flat {w : Nat → List Nat} {xs : List Nat} (hx : ∀ x ∈ xs, x < 6) (hw : ∀ s, s < 6 → bits (w s)) : bits (xs.flatMap w) := fun b hb => by
  obtain ⟨x, h1, h2⟩ := List.mem_flatMap.mp hb
  exact hw x (hx x h1) b h2
set_option maxRecDepth 100000 in
theorem flat_len {w : Nat → List Nat} {N : Nat} : ∀ {xs : List Nat}, (∀ x ∈ xs, x < 6) → (∀ s, s < 6 → (w s).length ≤ N) → (xs.flatMap w).length ≤ N * xs.length
  | [], _, _ => Nat.zero_le _
  | x :: xs, hx, hw => by
    have h1 := flat_len (fun y hy => hx y (List.mem_cons_of_mem _ hy)) hw
    have h2 := hw x (hx x List.mem_cons_self)
    rw [List.flatMap_cons, List.length_append, List.length_cons, Nat.mul_add, Nat.mul_one]
    omega
set_option maxRecDepth 100000 in
theorem shl_vl {u v : List Nat} (hu : bits u) (hv : bits v) (hl : u.length + v.length ≤ 60) : shlL (lN (vl 1 u)) (nI v.length) ||| lN (vl 0 v) = lN (vl 1 (u ++ v)) := by
  have h1 := (vl1_bd (bits_app hu hv)).2
  have h2 : 2 ^ ((u ++ v).length + 1) ≤ 2 ^ 61 := Nat.pow_le_pow_right (by decide) (by rw [List.length_append]; omega)
  have h3 : vl 1 (u ++ v) = vl 1 u * 2 ^ v.length + vl 0 v := by rw [vl_append, vl_split v (vl 1 u)]
  have h4 : (2 : Nat) ^ 61 < 2 ^ 64 := by decide
  rw [shlk _ (by omega), wb_or (by omega) (by omega), Nat.or_comm, or_add (vl_lt hv), h3, Nat.add_comm]
set_option maxRecDepth 100000 in
theorem aSpelled {Al : Nat → Int64} {Ak : Nat → Int32} {w : Nat → List Nat} {N : Nat} (hA : RA Al Ak w N) : ∀ (xs u : List Nat) (i m : Nat), (∀ x ∈ xs, x < 6) → i + xs.length ≤ 12 → xs.length < m → bits u → u.length + N * xs.length ≤ 60 → fx3 (fA_spelled_8 Al Ak) m (lN (vl 1 u)) (lN (pq xs)) (nI i) = some (lN (vl 1 (u ++ xs.flatMap w))) := by
  intro xs
  induction xs with
  | nil =>
    intro u i m hx hi hm hu hl
    obtain ⟨m, rfl⟩ := succ_of hm
    have z : lg_cmp (lN (pq [])) (lN 0) = nI 0 := rfl
    rw [List.flatMap_nil, List.append_nil]
    by_cases q : 12 ≤ i
    · simp -implicitDefEqProofs (disch := omega) only [fx3_s, fA_spelled_8, litI, litL, nI_add, pk_mul, bd0_e, bd1_e, bd2_e, bd3_e, bd4_e, st_e, nI_leI, nI_ltI, nI_eq, if_pos, if_neg, if_true, if_false, ld_nI, sti_nI, stl_nI]
    · simp -implicitDefEqProofs (disch := omega) only [fx3_s, fA_spelled_8, litI, litL, nI_add, pk_mul, bd0_e, bd1_e, bd2_e, bd3_e, bd4_e, st_e, nI_leI, nI_ltI, nI_eq, if_pos, if_neg, if_true, if_false, ld_nI, sti_nI, stl_nI, z]
  | cons x xs ih =>
    intro u i m hx hi hm hu hl
    rw [List.length_cons] at hi hm
    rw [List.length_cons, Nat.mul_add, Nat.mul_one] at hl
    obtain ⟨m, rfl⟩ := succ_of hm
    have h6 := hx x List.mem_cons_self
    have hx' : ∀ y ∈ xs, y < 6 := fun y hy => hx y (List.mem_cons_of_mem _ hy)
    have hp : pq (x :: xs) < 549755813888 := pq_lt13 ⟨by rw [List.length_cons]; omega, hx⟩
    obtain ⟨w1, w2, w3, w4⟩ := hA x h6
    have z : ¬ lg_cmp (lN (pq (x :: xs))) (lN 0) = nI 0 := by
      rw [show nI 0 = 0 from rfl, lgc (by omega) (by decide), pq]
      omega
    have e1 : (lN (pq (x :: xs))).toInt32 &&& nI 7 = nI (x + 1) := by rw [lN_i, and7, pq_mod h6]
    have e2 : ushrL (lN (pq (x :: xs))) (nI 3) = lN (pq xs) := by
      rw [ushk (by omega) (by decide), show (2 : Nat) ^ 3 = 8 from rfl, pq_div h6]
    have e3 := shl_vl hu w2 (by omega)
    rw [List.flatMap_cons, ← List.append_assoc, ← ih (u ++ w x) (i + 1) m hx' (by omega) (by omega) (bits_app hu w2) (by rw [List.length_append]; omega)]
    simp -implicitDefEqProofs (disch := omega) only [fx3_s, fA_spelled_8, litI, litL, nI_add, pk_mul, bd0_e, bd1_e, bd2_e, bd3_e, bd4_e, st_e, nI_leI, nI_ltI, nI_eq, if_pos, if_neg, if_true, if_false, ld_nI, sti_nI, stl_nI, z, e1, e2, w3, w4, e3]
set_option maxRecDepth 100000 in
theorem aEquates {Al : Nat → Int64} {Ak : Nat → Int32} {w : Nat → List Nat} {N : Nat} (hA : RA Al Ak w N) (hN : N ≤ 5) {xs ys : List Nat} (hx : okS 12 xs) (hy : okS 12 ys) : fA_equates Al Ak (lN (pq xs)) (lN (pq ys)) = some (nI (b1 (decide (xs.flatMap w = ys.flatMap w)))) := by
  have hw : ∀ s, s < 6 → bits (w s) := fun s hs => (hA s hs).2.1
  have hwl : ∀ s, s < 6 → (w s).length ≤ N := fun s hs => (hA s hs).1
  have lx : N * xs.length ≤ 5 * 12 := Nat.mul_le_mul hN hx.1
  have ly : N * ys.length ≤ 5 * 12 := Nat.mul_le_mul hN hy.1
  have sx : fA_spelled Al Ak (lN (pq xs)) = some (lN (vl 1 ([] ++ xs.flatMap w))) := aSpelled hA xs [] 0 FU hx.2 (by have := hx.1; omega) (fuel (by have := hx.1; omega)) bits_nil (by rw [List.length_nil]; omega)
  have sy : fA_spelled Al Ak (lN (pq ys)) = some (lN (vl 1 ([] ++ ys.flatMap w))) := aSpelled hA ys [] 0 FU hy.2 (by have := hy.1; omega) (fuel (by have := hy.1; omega)) bits_nil (by rw [List.length_nil]; omega)
  rw [List.nil_append] at sx sy
  have bx := bits_flat hx.2 hw
  have by' := bits_flat hy.2 hw
  have gx := (vl1_bd bx).2
  have gy := (vl1_bd by').2
  have kx : 2 ^ ((xs.flatMap w).length + 1) ≤ 2 ^ 61 := Nat.pow_le_pow_right (by decide) (by have := flat_len hx.2 hwl; omega)
  have ky : 2 ^ ((ys.flatMap w).length + 1) ≤ 2 ^ 61 := Nat.pow_le_pow_right (by decide) (by have := flat_len hy.2 hwl; omega)
  have k3 : (2 : Nat) ^ 61 < 2 ^ 63 := by decide
  have c := lgc (a := vl 1 (xs.flatMap w)) (b := vl 1 (ys.flatMap w)) (by omega) (by omega)
  rw [show (0 : Int32) = nI 0 from rfl] at c
  by_cases q : xs.flatMap w = ys.flatMap w
  · have z : lg_cmp (lN (vl 1 (xs.flatMap w))) (lN (vl 1 (ys.flatMap w))) = nI 0 := c.mpr (by rw [q])
    rw [decide_eq_true q, b1_t]
    simp -implicitDefEqProofs (disch := omega) only [fA_equates, litI, litL, nI_add, pk_mul, bd0_e, bd1_e, bd2_e, bd3_e, bd4_e, st_e, nI_leI, nI_ltI, nI_eq, if_pos, if_neg, if_true, if_false, ld_nI, sti_nI, stl_nI, sx, sy, z]
  · have z : ¬ lg_cmp (lN (vl 1 (xs.flatMap w))) (lN (vl 1 (ys.flatMap w))) = nI 0 := fun z => q (vl_inj1 bx by' (c.mp z))
    rw [decide_eq_false q, b1_f]
    simp -implicitDefEqProofs (disch := omega) only [fA_equates, litI, litL, nI_add, pk_mul, bd0_e, bd1_e, bd2_e, bd3_e, bd4_e, st_e, nI_leI, nI_ltI, nI_eq, if_pos, if_neg, if_true, if_false, ld_nI, sti_nI, stl_nI, sx, sy, z]
/-! spelling a side, in the reference -/
def WR (word : Nat → Int32) (s : Nat) (u : List Nat) : Prop := ∀ i, i < u.length → word (60 * s + i) = nI (u.getD i 0)
def other (s : Nat) (word size word' size' : Nat → Int32) : Prop := (∀ t, t ≠ s → size' t = size t) ∧ ∀ j, (j < 60 * s ∨ 60 * s + 60 ≤ j) → word' j = word j
set_option maxRecDepth 100000 in
theorem other.refl (s : Nat) (word size : Nat → Int32) : other s word size word size := ⟨fun _ _ => rfl, fun _ _ => rfl⟩
set_option maxRecDepth 100000 in
theorem other.trans {s : Nat} {a b a' b' a'' b'' : Nat → Int32} (h : other s a b a' b') (h2 : other s a' b' a'' b'') : other s a b a'' b'' := ⟨fun t ht => by rw [h2.1 t ht, h.1 t ht], fun j hj => by rw [h2.2 j hj, h.2 j hj]⟩
set_option maxRecDepth 100000 in
theorem WR.push {word : Nat → Int32} {s : Nat} {u : List Nat} (h : WR word s u) (x : Nat) : WR (upd word (60 * s + u.length) (nI x)) s (u ++ [x]) := fun i hi => by
  rw [List.length_append, List.length_singleton] at hi
  rw [upd_e]
  by_cases q : i = u.length
  · rw [if_pos (by omega), q, getD_append_last]
  · rw [if_neg (by omega), getD_append_l (by omega)]
    exact h i (by omega)
set_option maxRecDepth 100000 in
theorem other_push (s : Nat) {word size : Nat → Int32} {l : Nat} (hl : l < 60) (x y : Int32) : other s word size (upd word (60 * s + l) x) (upd size s y) := ⟨fun t ht => by rw [upd_e, if_neg ht], fun j hj => by rw [upd_e, if_neg (by omega)]⟩
set_option maxRecDepth 100000 in
theorem bt_c : ∀ c, c < 64 → ∀ d, d < 6 → (shr (nI c) (nI d)) &&& nI 1 = nI (c / 2 ^ d % 2) := by decide +kernel
set_option maxRecDepth 100000 in
theorem dn_c : ∀ d, d < 7 → nI d + -nI 1 = nI d - nI 1 := by decide +kernel
set_option maxRecDepth 100000 in
theorem dn_0 : nI 0 - nI 1 < nI 0 := by decide +kernel
set_option maxRecDepth 100000 in
theorem sBits {k44 : (Nat → Int32) → (Nat → Int32) → Int32 → Option (Int32 × (Nat → Int32) × (Nat → Int32))} {k63 : (Nat → Int32) → (Nat → Int32) → Int32 → Option (Int32 × (Nat → Int32) × (Nat → Int32))} {number R1 : Nat → Int32} {v2 : Int32} {s i c : Nat} (hs : s < 2) (hc : c < 64) :
    ∀ (d m : Nat) (u : List Nat) (word size : Nat → Int32), d ≤ 5 → d < m → u.length + d ≤ 60 → size s = nI u.length → WR word s u → ∃ word' size', fx3 (fM_isSolution_153 k44 k63 number R1 v2 (nI s) (nI i) (nI c)) m word size (nI d - nI 1) = k63 word' size' (nI (i + 1)) ∧ size' s = nI (u ++ bt d c).length ∧ WR word' s (u ++ bt d c) ∧ other s word size word' size' := by
  intro d
  induction d with
  | zero =>
    intro m u word size hd hm hl h1 h2
    obtain ⟨m, rfl⟩ := succ_of hm
    have e0 := dn_0
    refine ⟨word, size, ?_, ?_, ?_, other.refl _ _ _⟩
    · simp -implicitDefEqProofs (disch := omega) only [fx3_s, fM_isSolution_153, litI, litL, nI_add, pk_mul, bd0_e, bd1_e, bd2_e, bd3_e, bd4_e, st_e, e0, if_true]
    · rw [bt, List.append_nil]; exact h1
    · rw [bt, List.append_nil]; exact h2
  | succ d ih =>
    intro m u word size hd hm hl h1 h2
    obtain ⟨m, rfl⟩ := succ_of hm
    have e1 : nI (d + 1) - nI 1 = nI d := by rw [pk_sub (by omega), Nat.add_sub_cancel]
    have e2 := bt_c c hc d (by omega)
    have e3 := dn_c d (by omega)
    have hlen : (u ++ [c / 2 ^ d % 2]).length = u.length + 1 := by rw [List.length_append, List.length_singleton]
    obtain ⟨word', size', e, a1, a2, a3⟩ := ih m (u ++ [c / 2 ^ d % 2]) (upd word (60 * s + u.length) (nI (c / 2 ^ d % 2))) (upd size s (nI (u.length + 1))) (by omega) (by omega) (by omega) (by rw [upd_e, if_pos rfl, hlen]) (h2.push _)
    rw [List.append_assoc, List.singleton_append] at a1 a2
    refine ⟨word', size', ?_, a1, a2, (other_push s (by omega) _ _).trans a3⟩
    rw [← e, e1]
    simp -implicitDefEqProofs (disch := omega) only [fx3_s, fM_isSolution_153, litI, litL, nI_add, pk_mul, bd0_e, bd1_e, bd2_e, bd3_e, bd4_e, st_e, nI_leI, nI_ltI, nI_eq, if_pos, if_neg, if_true, if_false, ld_nI, sti_nI, stl_nI, h1, e2, e3]
def wOf (nm : Nat → Nat) (s : Nat) : List Nat := if s < 2 then [s] else wd (nm (s - 2))
set_option maxRecDepth 100000 in
theorem flat_take {w : Nat → List Nat} {xs : List Nat} {i : Nat} (hi : i < xs.length) : (xs.take (i + 1)).flatMap w = (xs.take i).flatMap w ++ w xs[i] := by
  rw [List.take_succ_eq_append_getElem hi, List.flatMap_append, List.flatMap_singleton]
set_option maxRecDepth 100000 in
theorem wv_c : ∀ n, n < 63 → nI (n + 1) - shl (nI 1) (nI (wl n)) = nI (n + 1 - 2 ^ wl n) := by decide +kernel
set_option maxRecDepth 100000 in
theorem sSpell {k44 : (Nat → Int32) → (Nat → Int32) → Int32 → Option (Int32 × (Nat → Int32) × (Nat → Int32))} {number now : Nat → Int32} {v2 : Int32} {nm : Nat → Nat} (hnm : ∀ v, v < 4 → nm v < 63 ∧ number v = nI (nm v)) {s : Nat} (hs : s < 2) {zs : List Nat} (hz : okS 12 zs) (h1 : now s = nI zs.length) (h2 : ∀ i, i < 12 → now (2 + 12 * s + i) = nI (zs.getD i 0)) (hlen : (zs.flatMap (wOf nm)).length ≤ 60) :
    ∀ (d i m : Nat) (word size : Nat → Int32), i + d = zs.length → d < m → size s = nI ((zs.take i).flatMap (wOf nm)).length → WR word s ((zs.take i).flatMap (wOf nm)) → ∃ word' size', fx3 (fM_isSolution_63 k44 number now v2 (nI s)) m word size (nI i) = k44 word' size' (nI (s + 1)) ∧ size' s = nI (zs.flatMap (wOf nm)).length ∧ WR word' s (zs.flatMap (wOf nm)) ∧ other s word size word' size' := by
  have hl := hz.1
  intro d
  induction d with
  | zero =>
    intro i m word size hi hm g1 g2
    obtain ⟨m, rfl⟩ := succ_of hm
    rw [List.take_of_length_le (by omega)] at g1 g2
    refine ⟨word, size, ?_, g1, g2, other.refl _ _ _⟩
    simp -implicitDefEqProofs (disch := omega) only [fx3_s, fM_isSolution_63, litI, litL, nI_add, pk_mul, bd0_e, bd1_e, bd2_e, bd3_e, bd4_e, st_e, nI_leI, nI_ltI, nI_eq, if_pos, if_neg, if_true, if_false, ld_nI, sti_nI, stl_nI, h1]
  | succ d ih =>
    intro i m word size hi hm g1 g2
    obtain ⟨m, rfl⟩ := succ_of hm
    have hi2 : i < zs.length := by omega
    have hx := hz.2 _ (List.getElem_mem hi2)
    have e0 := h2 i (by omega)
    rw [getD_in hi2] at e0
    have ht := flat_take (w := wOf nm) hi2
    have hle : ((zs.take (i + 1)).flatMap (wOf nm)).length ≤ 60 := by
      have : zs.flatMap (wOf nm) = (zs.take (i + 1)).flatMap (wOf nm) ++ (zs.drop (i + 1)).flatMap (wOf nm) := by rw [← List.flatMap_append, List.take_append_drop]
      rw [this, List.length_append] at hlen
      omega
    rw [ht, List.length_append] at hle
    by_cases q : zs[i] < 2
    · have ew : wOf nm zs[i] = [zs[i]] := if_pos q
      rw [ew] at ht hle
      rw [List.length_singleton] at hle
      obtain ⟨word', size', e, a1, a2, a3⟩ := ih (i + 1) m (upd word (60 * s + ((zs.take i).flatMap (wOf nm)).length) (nI zs[i])) (upd size s (nI (((zs.take i).flatMap (wOf nm)).length + 1))) (by omega) (by omega) (by rw [upd_e, if_pos rfl, ht, List.length_append, List.length_singleton]) (by rw [ht]; exact g2.push _)
      refine ⟨word', size', ?_, a1, a2, (other_push s (by omega) _ _).trans a3⟩
      rw [← e]
      simp -implicitDefEqProofs (disch := omega) only [fx3_s, fM_isSolution_63, litI, litL, nI_add, pk_mul, bd0_e, bd1_e, bd2_e, bd3_e, bd4_e, st_e, nI_leI, nI_ltI, nI_eq, if_pos, if_neg, if_true, if_false, ld_nI, sti_nI, stl_nI, h1, mAt, e0, g1]
    · have ew : wOf nm zs[i] = wd (nm (zs[i] - 2)) := if_neg q
      obtain ⟨n1, n2⟩ := hnm (zs[i] - 2) (by omega)
      have w5 := wl_le _ n1
      have eb : wd (nm (zs[i] - 2)) = bt (wl (nm (zs[i] - 2))) (nm (zs[i] - 2) + 1 - 2 ^ wl (nm (zs[i] - 2))) := rfl
      rw [ew, wd_len] at hle
      rw [ew, eb] at ht
      obtain ⟨word1, size1, f1, b1, b2, b3⟩ := sBits (k44 := k44) (k63 := fx3 (fM_isSolution_63 k44 number now v2 (nI s)) m) (number := number) (R1 := now) (v2 := v2) (i := i) (c := nm (zs[i] - 2) + 1 - 2 ^ wl (nm (zs[i] - 2))) hs (Nat.lt_of_le_of_lt (Nat.sub_le _ _) (by omega)) (wl (nm (zs[i] - 2))) FU _ word size w5 (fuel (by omega)) hle g1 g2
      rw [← ht] at b1 b2
      obtain ⟨word', size', e, a1, a2, a3⟩ := ih (i + 1) m word1 size1 (by omega) (by omega) b1 b2
      refine ⟨word', size', ?_, a1, a2, b3.trans a3⟩
      have es : nI zs[i] - nI 2 = nI (zs[i] - 2) := pk_sub (by omega)
      have el := mLengthOf n1
      have ev := wv_c _ n1
      rw [← e, ← f1]
      simp -implicitDefEqProofs (disch := omega) only [fx3_s, fM_isSolution_63, litI, litL, nI_add, pk_mul, bd0_e, bd1_e, bd2_e, bd3_e, bd4_e, st_e, nI_leI, nI_ltI, nI_eq, if_pos, if_neg, if_true, if_false, ld_nI, sti_nI, stl_nI, h1, mAt, e0, es, n2, el, ev]
/-! a solution -/
def aC (cs : List (Nat × Nat × Nat)) (w : Nat → List Nat) : Nat → Nat → Bool
  | _, 0 => true
  | i, d + 1 => alw i (w (i + 2)).length cs && aC cs w (i + 1) d
def sol (cs : List (Nat × Nat × Nat)) (w : Nat → List Nat) (xs ys : List Nat) : Bool := aC cs w 0 4 && decide (xs.flatMap w = ys.flatMap w)
set_option maxRecDepth 100000 in
theorem mSame {word size : Nat → Int32} {u v : List Nat} (h0 : size 0 = nI u.length) (h1 : size 1 = nI v.length) (g0 : WR word 0 u) (g1 : WR word 1 v) (hu : bits u) (hv : bits v) (lu : u.length ≤ 60) (lv : v.length ≤ 60) : fM_isSolution_209 word size (nI 1) = some (nI (b1 (decide (u = v))), word, size) := by
  have dead : ∀ i m, 0 < m → fx2 (fM_isSolution_236 word size) m (nI 0) (nI i) = some (nI 0, word, size) := by
    intro i m hm
    obtain ⟨m, rfl⟩ := succ_of hm
    simp -implicitDefEqProofs (disch := omega) only [fx2_s, fM_isSolution_236, litI, litL, nI_add, pk_mul, bd0_e, bd1_e, bd2_e, bd3_e, bd4_e, st_e, nI_leI, nI_ltI, nI_eq, if_pos, if_neg, if_true, if_false, ld_nI, sti_nI, stl_nI, ckzn0]
  by_cases hl : u.length = v.length
  · have key : ∀ (d i m : Nat), i + d = u.length → d < m → fx2 (fM_isSolution_236 word size) m (nI 1) (nI i) = some (nI (b1 (decide (u.drop i = v.drop i))), word, size) := by
      intro d
      induction d with
      | zero =>
        intro i m hi hm
        obtain ⟨m, rfl⟩ := succ_of hm
        rw [List.drop_eq_nil_of_le (by omega), List.drop_eq_nil_of_le (by omega), decide_eq_true rfl, b1_t]
        simp -implicitDefEqProofs (disch := omega) only [fx2_s, fM_isSolution_236, litI, litL, nI_add, pk_mul, bd0_e, bd1_e, bd2_e, bd3_e, bd4_e, st_e, nI_leI, nI_ltI, nI_eq, if_pos, if_neg, if_true, if_false, ld_nI, sti_nI, stl_nI, ckzn1, h0]
      | succ d ih =>
        intro i m hi hm
        obtain ⟨m, rfl⟩ := succ_of hm
        have hi1 : i < u.length := by omega
        have hi2 : i < v.length := by omega
        have e0 := g0 i hi1
        have e1 := g1 i hi2
        rw [getD_in hi1, Nat.mul_zero, Nat.zero_add] at e0
        rw [getD_in hi2, Nat.mul_one] at e1
        have c0 := hu _ (List.getElem_mem hi1)
        have c1 := hv _ (List.getElem_mem hi2)
        rw [List.drop_eq_getElem_cons hi1, List.drop_eq_getElem_cons hi2]
        by_cases q : u[i] = v[i]
        · have e : decide (u[i] :: u.drop (i + 1) = v[i] :: v.drop (i + 1)) = decide (u.drop (i + 1) = v.drop (i + 1)) := decide_eq_decide.mpr ⟨fun h => (List.cons.inj h).2, fun h => by rw [q, h]⟩
          rw [e, ← ih (i + 1) m (by omega) (by omega)]
          simp -implicitDefEqProofs (disch := omega) only [fx2_s, fM_isSolution_236, litI, litL, nI_add, pk_mul, bd0_e, bd1_e, bd2_e, bd3_e, bd4_e, st_e, nI_leI, nI_ltI, nI_eq, if_pos, if_neg, if_true, if_false, ld_nI, sti_nI, stl_nI, h0, e0, e1]
        · rw [decide_eq_false (fun h => q (List.cons.inj h).1), b1_f, ← dead (i + 1) m (by omega)]
          simp -implicitDefEqProofs (disch := omega) only [fx2_s, fM_isSolution_236, litI, litL, nI_add, pk_mul, bd0_e, bd1_e, bd2_e, bd3_e, bd4_e, st_e, nI_leI, nI_ltI, nI_eq, if_pos, if_neg, if_true, if_false, ld_nI, sti_nI, stl_nI, h0, e0, e1]
    have := key u.length 0 FU (by omega) (fuel (by omega))
    rw [List.drop_zero, List.drop_zero] at this
    rw [← this]
    simp -implicitDefEqProofs (disch := omega) only [fM_isSolution_209, litI, litL, nI_add, pk_mul, bd0_e, bd1_e, bd2_e, bd3_e, bd4_e, st_e, nI_leI, nI_ltI, nI_eq, if_pos, if_neg, if_true, if_false, ld_nI, sti_nI, stl_nI, h0, h1]
  · rw [decide_eq_false (fun h => hl (by rw [h])), b1_f, ← dead 0 FU (fuel (by omega))]
    simp -implicitDefEqProofs (disch := omega) only [fM_isSolution_209, litI, litL, nI_add, pk_mul, bd0_e, bd1_e, bd2_e, bd3_e, bd4_e, st_e, nI_leI, nI_ltI, nI_eq, if_pos, if_neg, if_true, if_false, ld_nI, sti_nI, stl_nI, h0, h1]
set_option maxRecDepth 100000 in
theorem wOf_ok {nm : Nat → Nat} (hnm : ∀ v, v < 4 → nm v < 63) {s : Nat} (hs : s < 6) : (wOf nm s).length ≤ 5 ∧ bits (wOf nm s) := by
  unfold wOf
  by_cases q : s < 2
  · rw [if_pos q]
    exact ⟨by simp, fun b hb => by rw [List.mem_singleton.mp hb]; exact q⟩
  · rw [if_neg q]
    exact ⟨by rw [wd_len]; exact wl_le _ (hnm _ (by omega)), wd_bits _⟩
set_option maxRecDepth 100000 in
theorem dead236 (word size : Nat → Int32) (i : Nat) {m : Nat} (hm : 0 < m) : fx2 (fM_isSolution_236 word size) m (nI 0) (nI i) = some (nI 0, word, size) := by
  obtain ⟨m, rfl⟩ := succ_of hm
  simp -implicitDefEqProofs (disch := omega) only [fx2_s, fM_isSolution_236, litI, litL, nI_add, pk_mul, bd0_e, bd1_e, bd2_e, bd3_e, bd4_e, st_e, nI_leI, nI_ltI, nI_eq, if_pos, if_neg, if_true, if_false, ld_nI, sti_nI, stl_nI, ckzn0]
set_option maxRecDepth 100000 in
theorem dead44 (number now word size : Nat → Int32) {m : Nat} (hm : 0 < m) : fx3 (fM_isSolution_44 number now (nI 0)) m word size (nI 0) = some (nI 0, word, size) := by
  obtain ⟨m, rfl⟩ := succ_of hm
  have Z2 := dead236 word size 0 (m := FU) (fuel (by omega))
  simp -implicitDefEqProofs (disch := omega) only [fx3_s, fM_isSolution_44, fM_isSolution_209, litI, litL, nI_add, pk_mul, bd0_e, bd1_e, bd2_e, bd3_e, bd4_e, st_e, nI_leI, nI_ltI, nI_eq, if_pos, if_neg, if_true, if_false, ld_nI, sti_nI, stl_nI, Z2]
set_option maxRecDepth 100000 in
theorem live44 {number now : Nat → Int32} {nm : Nat → Nat} (hnm : ∀ v, v < 4 → nm v < 63 ∧ number v = nI (nm v)) {xs ys : List Nat} (hr : rowIs now xs ys) (hx : okS 12 xs) (hy : okS 12 ys) (word size : Nat → Int32) {m : Nat} (hm : 2 < m) :
    ∃ word' size', fx3 (fM_isSolution_44 number now (nI 1)) m word size (nI 0) = some (nI (b1 (decide (xs.flatMap (wOf nm) = ys.flatMap (wOf nm)))), word', size') := by
  have hw : ∀ s, s < 6 → (wOf nm s).length ≤ 5 := fun s hs => (wOf_ok (fun v hv => (hnm v hv).1) hs).1
  have hb : ∀ s, s < 6 → bits (wOf nm s) := fun s hs => (wOf_ok (fun v hv => (hnm v hv).1) hs).2
  have lx : (xs.flatMap (wOf nm)).length ≤ 60 := by have := flat_len hx.2 hw; have := hx.1; omega
  have ly : (ys.flatMap (wOf nm)).length ≤ 60 := by have := flat_len hy.2 hw; have := hy.1; omega
  obtain ⟨m, rfl⟩ := succ_of hm
  obtain ⟨m, rfl⟩ := succ_of (show 1 < m by omega)
  obtain ⟨m, rfl⟩ := succ_of (show 0 < m by omega)
  obtain ⟨w1, s1, p1, p2, p3, -⟩ := sSpell (k44 := fx3 (fM_isSolution_44 number now (nI 1)) (m + 1 + 1)) (v2 := nI 1) hnm (s := 0) (by decide) hx hr.l0 (hr 0 (by decide)).2 lx xs.length 0 FU word (upd size 0 (nI 0)) (by omega) (fuel (by have := hx.1; omega)) (by rw [upd_e, if_pos rfl]; rfl) (fun i hi => absurd hi (Nat.not_lt_zero _))
  obtain ⟨w2, s2, q1, q2, q3, q4⟩ := sSpell (k44 := fx3 (fM_isSolution_44 number now (nI 1)) (m + 1)) (v2 := nI 1) hnm (s := 1) (by decide) hy hr.l1 (hr 1 (by decide)).2 ly ys.length 0 FU w1 (upd s1 1 (nI 0)) (by omega) (fuel (by have := hy.1; omega)) (by rw [upd_e, if_pos rfl]; rfl) (fun i hi => absurd hi (Nat.not_lt_zero _))
  have h0 : s2 0 = nI (xs.flatMap (wOf nm)).length := by rw [q4.1 0 (by decide), upd_e, if_neg (by decide), p2]
  have h3 : WR w2 0 (xs.flatMap (wOf nm)) := fun i hi => by rw [q4.2 (60 * 0 + i) (Or.inl (by omega))]; exact p3 i hi
  have hs := mSame h0 q2 h3 q3 (bits_flat hx.2 hb) (bits_flat hy.2 hb) lx ly
  have E3 : fx3 (fM_isSolution_44 number now (nI 1)) (m + 1) w2 s2 (nI (1 + 1)) = some (nI (b1 (decide (xs.flatMap (wOf nm) = ys.flatMap (wOf nm)))), w2, s2) := by
    rw [← hs]
    simp -implicitDefEqProofs (disch := omega) only [fx3_s, fM_isSolution_44, litI, litL, nI_add, pk_mul, bd0_e, bd1_e, bd2_e, bd3_e, bd4_e, st_e, nI_leI, nI_ltI, nI_eq, if_pos, if_neg, if_true, if_false, ld_nI, sti_nI, stl_nI]
  have E2 : fx3 (fM_isSolution_44 number now (nI 1)) (m + 1 + 1) w1 s1 (nI (0 + 1)) = some (nI (b1 (decide (xs.flatMap (wOf nm) = ys.flatMap (wOf nm)))), w2, s2) := by
    rw [← E3, ← q1]
    generalize m + 1 = m
    simp -implicitDefEqProofs (disch := omega) only [fx3_s, fM_isSolution_44, litI, litL, nI_add, pk_mul, bd0_e, bd1_e, bd2_e, bd3_e, bd4_e, st_e, nI_leI, nI_ltI, nI_eq, if_pos, if_neg, if_true, if_false, ld_nI, sti_nI, stl_nI]
  refine ⟨w2, s2, ?_⟩
  rw [← E2, ← p1]
  generalize m + 1 + 1 = m
  simp -implicitDefEqProofs (disch := omega) only [fx3_s, fM_isSolution_44, litI, litL, nI_add, pk_mul, bd0_e, bd1_e, bd2_e, bd3_e, bd4_e, st_e, nI_leI, nI_ltI, nI_eq, if_pos, if_neg, if_true, if_false, ld_nI, sti_nI, stl_nI]
set_option maxRecDepth 100000 in
theorem mIsSolution {Cn : Int32} {Cv Cr Ck : Nat → Int32} {many : Int32} {con : Nat → Int32} {cs : List (Nat × Nat × Nat)} (h : RC Cn Cv Cr Ck many con cs) {number now : Nat → Int32} {nm : Nat → Nat} (hnm : ∀ v, v < 4 → nm v < 63 ∧ number v = nI (nm v)) {xs ys : List Nat} (hr : rowIs now xs ys) (hx : okS 12 xs) (hy : okS 12 ys) (word size : Nat → Int32) :
    ∃ word' size', fM_isSolution many con word size number now = some (nI (b1 (sol cs (wOf nm) xs ys)), word', size') := by
  obtain ⟨w2, s2, E1⟩ := live44 hnm hr hx hy word size (m := FU) (fuel (by omega))
  have Z1 := dead44 number now word size (m := FU) (fuel (by omega))
  have dead : ∀ (d i m : Nat), i + d = 4 → d < m → fx2 (fM_isSolution_4 many con word size number now) m (nI 0) (nI i) = some (nI 0, word, size) := by
    intro d
    induction d with
    | zero =>
      intro i m hi hm
      obtain ⟨m, rfl⟩ := succ_of hm
      simp -implicitDefEqProofs (disch := omega) only [fx2_s, fM_isSolution_4, litI, litL, nI_add, pk_mul, bd0_e, bd1_e, bd2_e, bd3_e, bd4_e, st_e, nI_leI, nI_ltI, nI_eq, if_pos, if_neg, if_true, if_false, ld_nI, sti_nI, stl_nI, Z1]
    | succ d ih =>
      intro i m hi hm
      obtain ⟨m, rfl⟩ := succ_of hm
      rw [← ih (i + 1) m (by omega) (by omega)]
      simp -implicitDefEqProofs (disch := omega) only [fx2_s, fM_isSolution_4, litI, litL, nI_add, pk_mul, bd0_e, bd1_e, bd2_e, bd3_e, bd4_e, st_e, nI_leI, nI_ltI, nI_eq, if_pos, if_neg, if_true, if_false, ld_nI, sti_nI, stl_nI]
  have key : ∀ (d i m : Nat), i + d = 4 → d < m → ∃ word' size', fx2 (fM_isSolution_4 many con word size number now) m (nI 1) (nI i) = some (nI (b1 (aC cs (wOf nm) i d && decide (xs.flatMap (wOf nm) = ys.flatMap (wOf nm)))), word', size') := by
    intro d
    induction d with
    | zero =>
      intro i m hi hm
      obtain ⟨m, rfl⟩ := succ_of hm
      refine ⟨w2, s2, ?_⟩
      rw [aC, Bool.true_and]
      simp -implicitDefEqProofs (disch := omega) only [fx2_s, fM_isSolution_4, litI, litL, nI_add, pk_mul, bd0_e, bd1_e, bd2_e, bd3_e, bd4_e, st_e, nI_leI, nI_ltI, nI_eq, if_pos, if_neg, if_true, if_false, ld_nI, sti_nI, stl_nI, E1]
    | succ d ih =>
      intro i m hi hm
      obtain ⟨m, rfl⟩ := succ_of hm
      obtain ⟨n1, n2⟩ := hnm i (by omega)
      have w5 := wl_le _ n1
      have ew : wOf nm (i + 2) = wd (nm i) := by unfold wOf; rw [if_neg (by omega), Nat.add_sub_cancel]
      have eh := mHolds h (v := i) (k := wl (nm i)) (by omega) (by omega)
      have el := mLengthOf n1
      rw [aC, ew, wd_len]
      cases o : alw i (wl (nm i)) cs with
      | true =>
        rw [o, b1_t] at eh
        obtain ⟨word', size', e⟩ := ih (i + 1) m (by omega) (by omega)
        refine ⟨word', size', ?_⟩
        rw [Bool.true_and, ← e]
        simp -implicitDefEqProofs (disch := omega) only [fx2_s, fM_isSolution_4, litI, litL, nI_add, pk_mul, bd0_e, bd1_e, bd2_e, bd3_e, bd4_e, st_e, nI_leI, nI_ltI, nI_eq, if_pos, if_neg, if_true, if_false, ld_nI, sti_nI, stl_nI, n2, el, eh]
      | false =>
        rw [o, b1_f] at eh
        refine ⟨word, size, ?_⟩
        rw [Bool.false_and, Bool.false_and, b1_f, ← dead d (i + 1) m (by omega) (by omega)]
        simp -implicitDefEqProofs (disch := omega) only [fx2_s, fM_isSolution_4, litI, litL, nI_add, pk_mul, bd0_e, bd1_e, bd2_e, bd3_e, bd4_e, st_e, nI_leI, nI_ltI, nI_eq, if_pos, if_neg, if_true, if_false, ld_nI, sti_nI, stl_nI, n2, el, eh]
  exact key 4 0 FU (by omega) (fuel (by omega))
