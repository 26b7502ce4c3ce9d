/-! the children of a node: which rules apply, what they make -/
def hv : List Nat → Bool
  | [] => false
  | x :: _ => decide (2 ≤ x)
def sm2 : List Nat → List Nat → Bool
  | x :: _, y :: _ => decide (x = y)
  | _, _ => false
def bo : List Nat → List Nat → Bool
  | _ :: _, _ :: _ => true
  | _, _ => false
def apC (r : Nat) (bt s l rr : Bool) : Bool := if r = 0 then s else if r = 1 then !s && l else if r = 2 then !s && rr else if r = 3 then !s && (l && bt) else !s && (rr && bt)
def apB (r : Nat) (xs ys : List Nat) : Bool := apC r (bo xs ys) (sm2 xs ys) (hv xs) (hv ys)
set_option maxRecDepth 100000 in
theorem mAp115 : ∀ r, r < 5 → ∀ bt s l rr : Bool, fM_applies_115 (nI r) (nI (b1 bt)) (nI (b1 s)) (nI (b1 l)) (nI (b1 rr)) = some (nI (b1 (apC r bt s l rr))) := by decide +kernel
set_option maxRecDepth 100000 in
theorem mAp85 {trial : Nat → Int32} {xs ys : List Nat} (h : rowIs trial xs ys) (hy : okS 12 ys) {v1 v2 v3 v4 : Int32} : fM_applies_85 trial v1 v2 v3 v4 = fM_applies_115 v1 v2 v3 v4 (nI (b1 (hv ys))) := by
  have h1 := h.l1
  have h3 := h.s1 (i := 0) (by decide)
  have hl := hy.1
  cases ys with
  | nil =>
    rw [List.length_nil] at h1
    rw [hv, b1_f]
    simp -implicitDefEqProofs (disch := omega) only [fM_applies_85, litI, litL, nI_add, pk_mul, bd0_e, bd1_e, bd2_e, bd3_e, bd4_e, st_e, nI_leI, nI_ltI, nI_eq, if_pos, if_neg, if_true, if_false, ld_nI, sti_nI, stl_nI, h1]
  | cons y ys =>
    have hy6 := hy.2 y List.mem_cons_self
    rw [List.length_cons] at h1 hl
    have h3 : trial 14 = nI y := h3
    rw [hv]
    by_cases q : 2 ≤ y
    · rw [decide_eq_true q, b1_t]
      simp -implicitDefEqProofs (disch := omega) only [fM_applies_85, litI, litL, nI_add, pk_mul, bd0_e, bd1_e, bd2_e, bd3_e, bd4_e, st_e, nI_leI, nI_ltI, nI_eq, if_pos, if_neg, if_true, if_false, ld_nI, sti_nI, stl_nI, h1, mAt, h3]
    · rw [decide_eq_false q, b1_f]
      simp -implicitDefEqProofs (disch := omega) only [fM_applies_85, litI, litL, nI_add, pk_mul, bd0_e, bd1_e, bd2_e, bd3_e, bd4_e, st_e, nI_leI, nI_ltI, nI_eq, if_pos, if_neg, if_true, if_false, ld_nI, sti_nI, stl_nI, h1, mAt, h3]
set_option maxRecDepth 100000 in
theorem mAp56 {trial : Nat → Int32} {xs ys : List Nat} (h : rowIs trial xs ys) (hx : okS 12 xs) {v1 v2 v3 : Int32} : fM_applies_56 trial v1 v2 v3 = fM_applies_85 trial v1 v2 v3 (nI (b1 (hv xs))) := by
  have h1 := h.l0
  have h3 := h.s0 (i := 0) (by decide)
  have hl := hx.1
  cases xs with
  | nil =>
    rw [List.length_nil] at h1
    rw [hv, b1_f]
    simp -implicitDefEqProofs (disch := omega) only [fM_applies_56, litI, litL, nI_add, pk_mul, bd0_e, bd1_e, bd2_e, bd3_e, bd4_e, st_e, nI_leI, nI_ltI, nI_eq, if_pos, if_neg, if_true, if_false, ld_nI, sti_nI, stl_nI, h1]
  | cons y ys =>
    have hy6 := hx.2 y List.mem_cons_self
    rw [List.length_cons] at h1 hl
    have h3 : trial 2 = nI y := h3
    rw [hv]
    by_cases q : 2 ≤ y
    · rw [decide_eq_true q, b1_t]
      simp -implicitDefEqProofs (disch := omega) only [fM_applies_56, litI, litL, nI_add, pk_mul, bd0_e, bd1_e, bd2_e, bd3_e, bd4_e, st_e, nI_leI, nI_ltI, nI_eq, if_pos, if_neg, if_true, if_false, ld_nI, sti_nI, stl_nI, h1, mAt, h3]
    · rw [decide_eq_false q, b1_f]
      simp -implicitDefEqProofs (disch := omega) only [fM_applies_56, litI, litL, nI_add, pk_mul, bd0_e, bd1_e, bd2_e, bd3_e, bd4_e, st_e, nI_leI, nI_ltI, nI_eq, if_pos, if_neg, if_true, if_false, ld_nI, sti_nI, stl_nI, h1, mAt, h3]
set_option maxRecDepth 100000 in
theorem mApplies {trial : Nat → Int32} {xs ys : List Nat} (h : rowIs trial xs ys) (hx : okS 12 xs) (hy : okS 12 ys) {r : Nat} (hr : r < 5) : fM_applies trial (nI r) = some (nI (b1 (apB r xs ys))) := by
  rw [apB, ← mAp115 r hr, ← mAp85 h hy, ← mAp56 h hx]
  have h0 := h.l0
  have h1 := h.l1
  have h2 := h.s0 (i := 0) (by decide)
  have h3 := h.s1 (i := 0) (by decide)
  have lx := hx.1
  have ly := hy.1
  cases xs with
  | nil =>
    rw [List.length_nil] at h0
    rw [show bo [] ys = false from rfl, show sm2 [] ys = false by unfold sm2; cases ys <;> rfl, b1_f]
    simp -implicitDefEqProofs (disch := omega) only [fM_applies, fM_applies_23, litI, litL, nI_add, pk_mul, bd0_e, bd1_e, bd2_e, bd3_e, bd4_e, st_e, nI_leI, nI_ltI, nI_eq, if_pos, if_neg, if_true, if_false, ld_nI, sti_nI, stl_nI, h0]
  | cons x xs =>
    have hx6 := hx.2 x List.mem_cons_self
    rw [List.length_cons] at h0 lx
    have h2 : trial 2 = nI x := h2
    cases ys with
    | nil =>
      rw [List.length_nil] at h1
      rw [show bo (x :: xs) [] = false from rfl, show sm2 (x :: xs) [] = false from rfl, b1_f]
      simp -implicitDefEqProofs (disch := omega) only [fM_applies, fM_applies_23, litI, litL, nI_add, pk_mul, bd0_e, bd1_e, bd2_e, bd3_e, bd4_e, st_e, nI_leI, nI_ltI, nI_eq, if_pos, if_neg, if_true, if_false, ld_nI, sti_nI, stl_nI, h0, h1]
    | cons y ys =>
      have hy6 := hy.2 y List.mem_cons_self
      rw [List.length_cons] at h1 ly
      have h3 : trial 14 = nI y := h3
      rw [show bo (x :: xs) (y :: ys) = true from rfl, sm2, b1_t]
      by_cases q : x = y
      · rw [decide_eq_true q, b1_t]
        simp -implicitDefEqProofs (disch := omega) only [fM_applies, fM_applies_23, litI, litL, nI_add, pk_mul, bd0_e, bd1_e, bd2_e, bd3_e, bd4_e, st_e, nI_leI, nI_ltI, nI_eq, if_pos, if_neg, if_true, if_false, ld_nI, sti_nI, stl_nI, h0, h1, mAt, h2, h3, q]
      · rw [decide_eq_false q, b1_f]
        simp -implicitDefEqProofs (disch := omega) only [fM_applies, fM_applies_23, litI, litL, nI_add, pk_mul, bd0_e, bd1_e, bd2_e, bd3_e, bd4_e, st_e, nI_leI, nI_ltI, nI_eq, if_pos, if_neg, if_true, if_false, ld_nI, sti_nI, stl_nI, h0, h1, mAt, h2, h3]
/-! what a rule makes of a side -/
def chl (r a b : Nat) (zs : List Nat) : List Nat := if r = 0 then zs.tail else if r = 1 then rpl a [] zs else if r = 2 then rpl b [] zs else if r = 3 then (rpl a [b, a] zs).tail else (rpl b [a, b] zs).tail
def hdI : List Nat → Int32
  | [] => -nI 9
  | x :: _ => nI x
set_option maxRecDepth 100000 in
theorem ac_rpl {cb : Nat → Nat → List Nat} {v : Nat} {rs : List Nat} (h : ∀ i x, cb i x = if x = v then rs else [x]) : ∀ (xs : List Nat) (i : Nat), ac cb i xs = rpl v rs xs
  | [], _ => rfl
  | x :: xs, i => by rw [ac, ac_rpl h xs (i + 1), h]; rfl
set_option maxRecDepth 100000 in
theorem ac_id {cb : Nat → Nat → List Nat} (h : ∀ i x, cb i x = if i = 0 then [] else [x]) : ∀ (xs : List Nat) (i : Nat), ac cb (i + 1) xs = xs
  | [], _ => rfl
  | x :: xs, i => by rw [ac, ac_id h xs (i + 1), h, if_neg (by omega)]; rfl
set_option maxRecDepth 100000 in
theorem ac_tail {cb : Nat → Nat → List Nat} (h : ∀ i x, cb i x = if i = 0 then [] else [x]) (xs : List Nat) : ac cb 0 xs = xs.tail := by
  cases xs with
  | nil => rfl
  | cons x xs => rw [ac, h, if_pos rfl, ac_id h xs 0]; rfl
set_option maxRecDepth 100000 in
theorem lcZero {trial : Nat → Int32} {v1 : Int32} {xs ys : List Nat} (ht : rowIs trial xs ys) (hx : okS 12 xs) (hy : okS 12 ys) (child : Nat → Int32) : ∃ c0, fM_layChild trial child v1 = fM_layChild_75 (nI 1) trial c0 v1 (hdI xs) (hdI ys) ∧ ∀ k, k < 26 → c0 k = nI 0 := by
  have h0 := ht.l0
  have h1 := ht.l1
  have h2 := ht.s0 (i := 0) (by decide)
  have h3 := ht.s1 (i := 0) (by decide)
  have lx := hx.1
  have ly := hy.1
  have e50 : ∀ (c0 : Nat → Int32) (a : Int32), fM_layChild_50 (nI 1) trial c0 v1 a = fM_layChild_75 (nI 1) trial c0 v1 a (hdI ys) := by
    intro c0 a
    cases ys with
    | nil =>
      rw [List.length_nil] at h1
      simp -implicitDefEqProofs (disch := omega) only [fM_layChild_50, hdI, litI, litL, nI_add, pk_mul, bd0_e, bd1_e, bd2_e, bd3_e, bd4_e, st_e, nI_leI, nI_ltI, nI_eq, if_pos, if_neg, if_true, if_false, ld_nI, sti_nI, stl_nI, h1]
    | cons y ys =>
      rw [List.length_cons] at h1 ly
      have h3 : trial 14 = nI y := h3
      simp -implicitDefEqProofs (disch := omega) only [fM_layChild_50, hdI, litI, litL, nI_add, pk_mul, bd0_e, bd1_e, bd2_e, bd3_e, bd4_e, st_e, nI_leI, nI_ltI, nI_eq, if_pos, if_neg, if_true, if_false, ld_nI, sti_nI, stl_nI, h1, mAt, h3]
  have key : ∀ (d i m : Nat) (child : Nat → Int32), i + d = 26 → d < m → (∀ k, k < i → child k = nI 0) → ∃ c0, fx2 (fM_layChild_2 trial v1) m child (nI i) = fM_layChild_75 (nI 1) trial c0 v1 (hdI xs) (hdI ys) ∧ ∀ k, k < 26 → c0 k = nI 0 := by
    intro d
    induction d with
    | zero =>
      intro i m child hi hm hk
      obtain ⟨m, rfl⟩ := succ_of hm
      refine ⟨child, ?_, fun k hk2 => hk k (by omega)⟩
      rw [← e50]
      cases xs with
      | nil =>
        rw [List.length_nil] at h0
        simp -implicitDefEqProofs (disch := omega) only [fx2_s, fM_layChild_2, hdI, litI, litL, nI_add, pk_mul, bd0_e, bd1_e, bd2_e, bd3_e, bd4_e, st_e, nI_leI, nI_ltI, nI_eq, if_pos, if_neg, if_true, if_false, ld_nI, sti_nI, stl_nI, h0]
      | cons x xs =>
        rw [List.length_cons] at h0 lx
        have h2 : trial 2 = nI x := h2
        simp -implicitDefEqProofs (disch := omega) only [fx2_s, fM_layChild_2, hdI, litI, litL, nI_add, pk_mul, bd0_e, bd1_e, bd2_e, bd3_e, bd4_e, st_e, nI_leI, nI_ltI, nI_eq, if_pos, if_neg, if_true, if_false, ld_nI, sti_nI, stl_nI, h0, mAt, h2]
    | succ d ih =>
      intro i m child hi hm hk
      obtain ⟨m, rfl⟩ := succ_of hm
      obtain ⟨c0, e, hc⟩ := ih (i + 1) m (upd child i (nI 0)) (by omega) (by omega) (fun k hk2 => by
        rw [upd_e]
        by_cases q : k = i
        · rw [if_pos q]
        · rw [if_neg q]; exact hk k (by omega))
      refine ⟨c0, ?_, hc⟩
      rw [← e]
      simp -implicitDefEqProofs (disch := omega) only [fx2_s, fM_layChild_2, litI, litL, nI_add, pk_mul, bd0_e, bd1_e, bd2_e, bd3_e, bd4_e, st_e, nI_leI, nI_ltI, nI_eq, if_pos, if_neg, if_true, if_false, ld_nI, sti_nI, stl_nI]
  exact key 26 0 FU child (by omega) (fuel (by omega)) (fun k hk => absurd hk (Nat.not_lt_zero _))
set_option maxRecDepth 100000 in
theorem rpl_ne {v : Nat} {rs xs : List Nat} (hr : rs ≠ []) (hx : xs ≠ []) : 1 ≤ (rpl v rs xs).length := by
  cases xs with
  | nil => exact absurd rfl hx
  | cons x xs =>
    show 1 ≤ ((if x = v then rs else [x]) ++ rpl v rs xs).length
    rw [List.length_append]
    split
    · cases rs with
      | nil => exact absurd rfl hr
      | cons a rs => rw [List.length_cons]; omega
    · rw [List.length_singleton]; omega
set_option maxRecDepth 100000 in
theorem mLayChild {trial : Nat → Int32} {xs ys : List Nat} (ht : rowIs trial xs ys) (hx : okS 12 xs) (hy : okS 12 ys) {r : Nat} (hr : r < 5) (hap : apB r xs ys = true) (child : Nat → Int32) :
    ∃ child', fM_layChild trial child (nI r) = some (nI (b1 (decide ((chl r (xs.headD 0) (ys.headD 0) xs).length ≤ 12) && decide ((chl r (xs.headD 0) (ys.headD 0) ys).length ≤ 12))), child') ∧ rowIs child' (chl r (xs.headD 0) (ys.headD 0) xs) (chl r (xs.headD 0) (ys.headD 0) ys) := by
  obtain ⟨c0, e0, hc⟩ := lcZero (v1 := nI r) ht hx hy child
  rcases (show r = 0 ∨ r = 1 ∨ r = 2 ∨ r = 3 ∨ r = 4 by omega) with rfl | rfl | rfl | rfl | rfl
  · obtain ⟨c, e, hR⟩ := lcBoth ht hx hy (r := 0) hr (v4 := hdI ys) (v5 := hdI xs) (cb := fun i x => if i = 0 then [] else [x]) (fun i x hi hx6 => by
      refine ⟨?_, fun k108 k120 Mf trial child v6 v7 => ?_⟩ <;> dsimp only
      · by_cases q : i = 0
        · exact Or.inl (if_pos q)
        · exact Or.inr (Or.inl (if_neg q))
      · by_cases q : i = 0
        · rw [if_pos q]
          split <;> · simp -implicitDefEqProofs (disch := omega) only [fM_layChild_158, litI, litL, nI_add, pk_mul, bd0_e, bd1_e, bd2_e, bd3_e, bd4_e, st_e, nI_leI, nI_ltI, nI_eq, if_pos, if_neg, if_true, if_false, ld_nI, sti_nI, stl_nI, List.length_nil]
        · rw [if_neg q]
          split <;> · simp -implicitDefEqProofs (disch := omega) only [fM_layChild_158, litI, litL, nI_add, pk_mul, bd0_e, bd1_e, bd2_e, bd3_e, bd4_e, st_e, nI_leI, nI_ltI, nI_eq, if_pos, if_neg, if_true, if_false, ld_nI, sti_nI, stl_nI, List.length_singleton]) (Nat.zero_le _) (Nat.zero_le _) hc
    rw [show off 0 = 0 from rfl, List.drop_zero, List.drop_zero, ac_tail (fun _ _ => rfl), ac_tail (fun _ _ => rfl)] at e hR
    refine ⟨c, ?_, hR⟩
    refine Eq.trans e0 (Eq.trans ?_ e)
    simp -implicitDefEqProofs (disch := omega) only [fM_layChild_75, fM_layChild_91, litI, litL, nI_add, pk_mul, bd0_e, bd1_e, bd2_e, bd3_e, bd4_e, st_e, nI_leI, nI_ltI, nI_eq, if_pos, if_neg, if_true, if_false, ld_nI, sti_nI, stl_nI]
  · cases xs with
    | nil => rw [apB, apC, if_neg (by decide), if_pos rfl, hv, Bool.and_false] at hap; cases hap
    | cons a xs =>
      have ha6 := hx.2 a List.mem_cons_self
      obtain ⟨c, e, hR⟩ := lcBoth ht hx hy (r := 1) hr (v4 := nI a) (v5 := nI a) (cb := fun i x => if x = a then [] else [x]) (fun i x hi hx6 => by
        refine ⟨?_, fun k108 k120 Mf trial child v6 v7 => ?_⟩ <;> dsimp only
        · by_cases q : x = a
          · exact Or.inl (if_pos q)
          · exact Or.inr (Or.inl (if_neg q))
        · by_cases q : x = a
          · rw [if_pos q, if_pos (by rw [q])]
            simp -implicitDefEqProofs (disch := omega) only [fM_layChild_158, litI, litL, nI_add, pk_mul, bd0_e, bd1_e, bd2_e, bd3_e, bd4_e, st_e, nI_leI, nI_ltI, nI_eq, if_pos, if_neg, if_true, if_false, ld_nI, sti_nI, stl_nI, List.length_nil]
          · rw [if_neg q, if_neg (fun z => q ((nI_eq (by omega) (by omega)).mp z))]
            simp -implicitDefEqProofs (disch := omega) only [fM_layChild_158, litI, litL, nI_add, pk_mul, bd0_e, bd1_e, bd2_e, bd3_e, bd4_e, st_e, nI_leI, nI_ltI, nI_eq, if_pos, if_neg, if_true, if_false, ld_nI, sti_nI, stl_nI, List.length_singleton]) (Nat.zero_le _) (Nat.zero_le _) hc
      rw [show off 1 = 0 from rfl, List.drop_zero, List.drop_zero, ac_rpl (fun _ _ => rfl), ac_rpl (fun _ _ => rfl)] at e hR
      refine ⟨c, ?_, hR⟩
      refine Eq.trans e0 (Eq.trans ?_ e)
      simp -implicitDefEqProofs (disch := omega) only [fM_layChild_75, fM_layChild_91, hdI, litI, litL, nI_add, pk_mul, bd0_e, bd1_e, bd2_e, bd3_e, bd4_e, st_e, nI_leI, nI_ltI, nI_eq, if_pos, if_neg, if_true, if_false, ld_nI, sti_nI, stl_nI]
  · cases ys with
    | nil => rw [apB, apC, if_neg (by decide), if_neg (by decide), if_pos rfl, show hv [] = false from rfl, Bool.and_false] at hap; cases hap
    | cons b ys =>
      have ha6 := hy.2 b List.mem_cons_self
      obtain ⟨c, e, hR⟩ := lcBoth ht hx hy (r := 2) hr (v4 := nI b) (v5 := hdI xs) (cb := fun i x => if x = b then [] else [x]) (fun i x hi hx6 => by
        refine ⟨?_, fun k108 k120 Mf trial child v6 v7 => ?_⟩ <;> dsimp only
        · by_cases q : x = b
          · exact Or.inl (if_pos q)
          · exact Or.inr (Or.inl (if_neg q))
        · by_cases q : x = b
          · rw [if_pos q, if_pos (by rw [q])]
            simp -implicitDefEqProofs (disch := omega) only [fM_layChild_158, litI, litL, nI_add, pk_mul, bd0_e, bd1_e, bd2_e, bd3_e, bd4_e, st_e, nI_leI, nI_ltI, nI_eq, if_pos, if_neg, if_true, if_false, ld_nI, sti_nI, stl_nI, List.length_nil]
          · rw [if_neg q, if_neg (fun z => q ((nI_eq (by omega) (by omega)).mp z))]
            simp -implicitDefEqProofs (disch := omega) only [fM_layChild_158, litI, litL, nI_add, pk_mul, bd0_e, bd1_e, bd2_e, bd3_e, bd4_e, st_e, nI_leI, nI_ltI, nI_eq, if_pos, if_neg, if_true, if_false, ld_nI, sti_nI, stl_nI, List.length_singleton]) (Nat.zero_le _) (Nat.zero_le _) hc
      rw [show off 2 = 0 from rfl, List.drop_zero, List.drop_zero, ac_rpl (fun _ _ => rfl), ac_rpl (fun _ _ => rfl)] at e hR
      refine ⟨c, ?_, hR⟩
      refine Eq.trans e0 (Eq.trans ?_ e)
      simp -implicitDefEqProofs (disch := omega) only [fM_layChild_75, fM_layChild_91, show hdI (b :: ys) = nI b from rfl, litI, litL, nI_add, pk_mul, bd0_e, bd1_e, bd2_e, bd3_e, bd4_e, st_e, nI_leI, nI_ltI, nI_eq, if_pos, if_neg, if_true, if_false, ld_nI, sti_nI, stl_nI]
  · cases xs with
    | nil => rw [apB, apC, if_neg (by decide), if_neg (by decide), if_neg (by decide), if_pos rfl, hv, Bool.false_and, Bool.and_false] at hap; cases hap
    | cons a xs =>
      cases ys with
      | nil => rw [apB, apC, if_neg (by decide), if_neg (by decide), if_neg (by decide), if_pos rfl, show bo (a :: xs) [] = false from rfl, Bool.and_false, Bool.and_false] at hap; cases hap
      | cons b ys =>
        have ha6 := hx.2 a List.mem_cons_self
        have hb6 := hy.2 b List.mem_cons_self
        have er : ∀ zs, ac (fun (_ : Nat) x => if x = a then [b, a] else [x]) 0 zs = rpl a [b, a] zs := fun zs => ac_rpl (fun _ _ => rfl) zs 0
        obtain ⟨c, e, hR⟩ := lcBoth ht hx hy (r := 3) hr (v4 := nI a) (v5 := nI b) (cb := fun i x => if x = a then [b, a] else [x]) (fun i x hi hx6 => by
          refine ⟨?_, fun k108 k120 Mf trial child v6 v7 => ?_⟩ <;> dsimp only
          · by_cases q : x = a
            · exact Or.inr (Or.inr ⟨b, by rw [if_pos q, q], rfl⟩)
            · exact Or.inr (Or.inl (if_neg q))
          · by_cases q : x = a
            · rw [if_pos q, if_pos (by rw [q])]
              simp -implicitDefEqProofs (disch := omega) only [fM_layChild_158, litI, litL, nI_add, pk_mul, bd0_e, bd1_e, bd2_e, bd3_e, bd4_e, st_e, nI_leI, nI_ltI, nI_eq, if_pos, if_neg, if_true, if_false, ld_nI, sti_nI, stl_nI, List.length_cons, List.length_nil]
            · rw [if_neg q, if_neg (fun z => q ((nI_eq (by omega) (by omega)).mp z))]
              simp -implicitDefEqProofs (disch := omega) only [fM_layChild_158, litI, litL, nI_add, pk_mul, bd0_e, bd1_e, bd2_e, bd3_e, bd4_e, st_e, nI_leI, nI_ltI, nI_eq, if_pos, if_neg, if_true, if_false, ld_nI, sti_nI, stl_nI, List.length_singleton]) (by rw [er]; exact rpl_ne (by simp) (by simp)) (by rw [er]; exact rpl_ne (by simp) (by simp)) hc
        rw [show off 3 = 1 from rfl, List.drop_one, List.drop_one, er, er] at e hR
        refine ⟨c, ?_, hR⟩
        refine Eq.trans e0 (Eq.trans ?_ e)
        simp -implicitDefEqProofs (disch := omega) only [fM_layChild_75, fM_layChild_91, show hdI (a :: xs) = nI a from rfl, show hdI (b :: ys) = nI b from rfl, litI, litL, nI_add, pk_mul, bd0_e, bd1_e, bd2_e, bd3_e, bd4_e, st_e, nI_leI, nI_ltI, nI_eq, if_pos, if_neg, if_true, if_false, ld_nI, sti_nI, stl_nI]
  · cases xs with
    | nil => rw [apB, apC, if_neg (by decide), if_neg (by decide), if_neg (by decide), if_neg (by decide), show bo [] ys = false from rfl, Bool.and_false, Bool.and_false] at hap; cases hap
    | cons a xs =>
      cases ys with
      | nil => rw [apB, apC, if_neg (by decide), if_neg (by decide), if_neg (by decide), if_neg (by decide), show bo (a :: xs) [] = false from rfl, Bool.and_false, Bool.and_false] at hap; cases hap
      | cons b ys =>
        have ha6 := hx.2 a List.mem_cons_self
        have hb6 := hy.2 b List.mem_cons_self
        have er : ∀ zs, ac (fun (_ : Nat) x => if x = b then [a, b] else [x]) 0 zs = rpl b [a, b] zs := fun zs => ac_rpl (fun _ _ => rfl) zs 0
        obtain ⟨c, e, hR⟩ := lcBoth ht hx hy (r := 4) hr (v4 := nI b) (v5 := nI a) (cb := fun i x => if x = b then [a, b] else [x]) (fun i x hi hx6 => by
          refine ⟨?_, fun k108 k120 Mf trial child v6 v7 => ?_⟩ <;> dsimp only
          · by_cases q : x = b
            · exact Or.inr (Or.inr ⟨a, by rw [if_pos q, q], rfl⟩)
            · exact Or.inr (Or.inl (if_neg q))
          · by_cases q : x = b
            · rw [if_pos q, if_pos (by rw [q])]
              simp -implicitDefEqProofs (disch := omega) only [fM_layChild_158, litI, litL, nI_add, pk_mul, bd0_e, bd1_e, bd2_e, bd3_e, bd4_e, st_e, nI_leI, nI_ltI, nI_eq, if_pos, if_neg, if_true, if_false, ld_nI, sti_nI, stl_nI, List.length_cons, List.length_nil]
            · rw [if_neg q, if_neg (fun z => q ((nI_eq (by omega) (by omega)).mp z))]
              simp -implicitDefEqProofs (disch := omega) only [fM_layChild_158, litI, litL, nI_add, pk_mul, bd0_e, bd1_e, bd2_e, bd3_e, bd4_e, st_e, nI_leI, nI_ltI, nI_eq, if_pos, if_neg, if_true, if_false, ld_nI, sti_nI, stl_nI, List.length_singleton]) (by rw [er]; exact rpl_ne (by simp) (by simp)) (by rw [er]; exact rpl_ne (by simp) (by simp)) hc
        rw [show off 4 = 1 from rfl, List.drop_one, List.drop_one, er, er] at e hR
        refine ⟨c, ?_, hR⟩
        refine Eq.trans e0 (Eq.trans ?_ e)
        simp -implicitDefEqProofs (disch := omega) only [fM_layChild_75, fM_layChild_91, show hdI (a :: xs) = nI a from rfl, show hdI (b :: ys) = nI b from rfl, litI, litL, nI_add, pk_mul, bd0_e, bd1_e, bd2_e, bd3_e, bd4_e, st_e, nI_leI, nI_ltI, nI_eq, if_pos, if_neg, if_true, if_false, ld_nI, sti_nI, stl_nI]
