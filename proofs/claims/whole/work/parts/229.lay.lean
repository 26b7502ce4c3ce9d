/-! layChild of the reference -/
def ac (cb : Nat → Nat → List Nat) : Nat → List Nat → List Nat
  | _, [] => []
  | i, x :: xs => cb i x ++ ac cb (i + 1) xs
def off (r : Nat) : Nat := if r ≤ 2 then 0 else 1
/-- what stands in a side of the child -/
def WS (child : Nat → Int32) (s o : Nat) (acc : List Nat) : Prop := ∀ j, j < 12 → child (2 + 12 * s + j) = nI ((acc.drop o).getD j 0)
/-- what doesn't change -/
def FR (c c' : Nat → Int32) (s : Nat) : Prop := ∀ k, (k < 2 + 12 * s ∨ 2 + 12 * s + 12 ≤ k) → c' k = c k
set_option maxRecDepth 100000 in
theorem FR.refl (c : Nat → Int32) (s : Nat) : FR c c s := fun _ _ => rfl
set_option maxRecDepth 100000 in
theorem FR.trans {a b c : Nat → Int32} {s : Nat} (h1 : FR a b s) (h2 : FR b c s) : FR a c s := fun k hk => (h2 k hk).trans (h1 k hk)
set_option maxRecDepth 100000 in
theorem n1lt : nI 0 - nI 1 < (0 : Int32) := by decide
section LC
variable {k108 : Int32 → (Nat → Int32) → Int32 → Option (Int32 × (Nat → Int32))} {k120 k210 : (Nat → Int32) → Int32 → Int32 → Option (Int32 × (Nat → Int32))} {Mf v1 v4 v5 v8 v9 v11 : Int32} {trial : Nat → Int32}
set_option maxRecDepth 100000 in
theorem lcPush {s o k p : Nat} (hs : s < 2) (ho : o ≤ 1) {acc : List Nat} (ha : acc.length ≤ 40) {child : Nat → Int32} (hw : WS child s o acc) {to : Int32} (hto : to = nI acc.length - nI o) :
    ∃ child', fM_layChild_251 k108 k120 k210 Mf trial child v1 v4 v5 (nI s) (nI acc.length) v8 v9 v11 (nI k) to (nI p) = k210 child' (nI (acc ++ [p]).length) (nI (k + 1)) ∧ WS child' s o (acc ++ [p]) ∧ FR child child' s := by
  have el : (acc ++ [p]).length = acc.length + 1 := by rw [List.length_append]; rfl
  rw [el]
  by_cases q : o ≤ acc.length
  · have e1 : to = nI (acc.length - o) := by rw [hto, pk_sub q]
    have ed : (acc ++ [p]).drop o = acc.drop o ++ [p] := List.drop_append_of_le_length q
    have ld : (acc.drop o).length = acc.length - o := List.length_drop ..
    by_cases q2 : acc.length - o ≤ 11
    · have b := mInIn (j := acc.length - o) (n := 11) (by decide) q2
      refine ⟨upd child (2 + 12 * s + (acc.length - o)) (nI p), ?_, fun j hj => ?_, fun k hk => ?_⟩
      · rw [e1]
        simp -implicitDefEqProofs (disch := omega) only [fM_layChild_251, litI, litL, nI_add, pk_mul, bd0_e, bd1_e, bd2_e, bd3_e, bd4_e, st_e, nI_leI, nI_ltI, nI_eq, if_pos, if_neg, if_true, if_false, ld_nI, sti_nI, stl_nI, b, mAt]
      · rw [ed, upd_e]
        by_cases qj : j = acc.length - o
        · rw [if_pos (by omega), qj, ← ld, getD_append_last]
        · rw [if_neg (by omega), hw j hj]
          by_cases qk : j < acc.length - o
          · rw [getD_append_l (by omega)]
          · rw [getD_out (by omega), getD_out (by rw [List.length_append, ld]; simp; omega)]
      · rw [upd_e, if_neg (by omega)]
    · have b := mInHi (x := nI (acc.length - o)) (n := 11) (by decide) ((nI_ltI (by decide) (by omega)).mpr (by omega))
      refine ⟨child, ?_, fun j hj => ?_, FR.refl _ _⟩
      · rw [e1]
        simp -implicitDefEqProofs (disch := omega) only [fM_layChild_251, litI, litL, nI_add, pk_mul, bd0_e, bd1_e, bd2_e, bd3_e, bd4_e, st_e, nI_leI, nI_ltI, nI_eq, if_pos, if_neg, if_true, if_false, ld_nI, sti_nI, stl_nI, b]
      · rw [ed, hw j hj, getD_append_l (by omega)]
  · have ho1 : o = 1 := by omega
    have ha0 : acc = [] := List.length_eq_zero_iff.mp (by omega)
    subst ho1 ha0
    have b := mInLo (n := 11) n1lt
    have e1 : to = nI 0 - nI 1 := hto
    refine ⟨child, ?_, hw, FR.refl _ _⟩
    rw [e1]
    show fM_layChild_251 k108 k120 k210 Mf trial child v1 v4 v5 (nI s) (nI 0) v8 v9 v11 (nI k) (nI 0 - nI 1) (nI p) = k210 child (nI (0 + 1)) (nI (k + 1))
    simp -implicitDefEqProofs (disch := omega) only [fM_layChild_251, litI, litL, nI_add, pk_mul, bd0_e, bd1_e, bd2_e, bd3_e, bd4_e, st_e, nI_leI, nI_ltI, nI_eq, if_pos, if_neg, if_true, if_false, ld_nI, sti_nI, stl_nI, b]
end LC
section LD
variable {k108 : Int32 → (Nat → Int32) → Int32 → Option (Int32 × (Nat → Int32))} {k120 : (Nat → Int32) → Int32 → Int32 → Option (Int32 × (Nat → Int32))} {Mf v4 v5 : Int32} {trial : Nat → Int32}
set_option maxRecDepth 100000 in
theorem lcTo {r n : Nat} (hr : r < 5) {α : Type} (F : Int32 → α) : (if nI r ≤ nI 2 then F (nI n) else F (nI n - nI 1)) = F (nI n - nI (off r)) := by
  unfold off
  by_cases q : r ≤ 2
  · rw [if_pos q, if_pos ((nI_leI (by omega) (by omega)).mpr q), pk_sub (Nat.zero_le _), Nat.sub_zero]
  · rw [if_neg q, if_neg (fun z => q ((nI_leI (by omega) (by omega)).mp z))]
set_option maxRecDepth 100000 in
theorem lcOne {s r i x : Nat} (hs : s < 2) (hr : r < 5) {w : List Nat} (hw : w = [] ∨ w = [x] ∨ ∃ p, w = [p, x] ∧ v5 = nI p) {acc : List Nat} (ha : acc.length ≤ 38) {child : Nat → Int32} (hc : WS child s (off r) acc) :
    ∃ child', fx3 (fM_layChild_210 k108 k120 Mf trial (nI r) v4 v5 (nI s) (nI i) (nI x) (nI w.length)) FU child (nI acc.length) (nI 0) = k120 child' (nI (acc ++ w).length) (nI (i + 1)) ∧ WS child' s (off r) (acc ++ w) ∧ FR child child' s := by
  have ho : off r ≤ 1 := by unfold off; split <;> decide
  have key : ∀ m, 3 < m → ∃ child', fx3 (fM_layChild_210 k108 k120 Mf trial (nI r) v4 v5 (nI s) (nI i) (nI x) (nI w.length)) m child (nI acc.length) (nI 0) = k120 child' (nI (acc ++ w).length) (nI (i + 1)) ∧ WS child' s (off r) (acc ++ w) ∧ FR child child' s := by
    intro m hm
    rcases hw with rfl | rfl | ⟨p, rfl, rfl⟩
    · obtain ⟨m, rfl⟩ := succ_of hm
      rw [List.append_nil]
      refine ⟨child, ?_, hc, FR.refl _ _⟩
      show fx3 (fM_layChild_210 k108 k120 Mf trial (nI r) v4 v5 (nI s) (nI i) (nI x) (nI 0)) (m + 1) child (nI acc.length) (nI 0) = _
      simp -implicitDefEqProofs (disch := omega) only [fx3_s, fM_layChild_210, litI, litL, nI_add, pk_mul, bd0_e, bd1_e, bd2_e, bd3_e, bd4_e, st_e, nI_leI, nI_ltI, nI_eq, if_pos, if_neg, if_true, if_false, ld_nI, sti_nI, stl_nI]
    · obtain ⟨m, rfl⟩ := succ_of hm
      obtain ⟨m, rfl⟩ := succ_of (show 0 < m by omega)
      obtain ⟨c1, e1, w1, f1⟩ := lcPush (k108 := k108) (k120 := k120) (k210 := fx3 (fM_layChild_210 k108 k120 Mf trial (nI r) v4 v5 (nI s) (nI i) (nI x) (nI 1)) (m + 1)) (Mf := Mf) (trial := trial) (v1 := nI r) (v4 := v4) (v5 := v5) (v8 := nI i) (v9 := nI x) (v11 := nI 1) (k := 0) (p := x) hs ho (by omega) hc rfl
      have e2 : fx3 (fM_layChild_210 k108 k120 Mf trial (nI r) v4 v5 (nI s) (nI i) (nI x) (nI 1)) (m + 1) c1 (nI (acc ++ [x]).length) (nI (0 + 1)) = k120 c1 (nI (acc ++ [x]).length) (nI (i + 1)) := by
        simp -implicitDefEqProofs (disch := omega) only [fx3_s, fM_layChild_210, litI, litL, nI_add, pk_mul, bd0_e, bd1_e, bd2_e, bd3_e, bd4_e, st_e, nI_leI, nI_ltI, nI_eq, if_pos, if_neg, if_true, if_false, ld_nI, sti_nI, stl_nI]
      refine ⟨c1, ?_, w1, f1⟩
      rw [← e2, ← e1, ← lcTo hr (n := acc.length) (fun to => fM_layChild_251 k108 k120 (fx3 (fM_layChild_210 k108 k120 Mf trial (nI r) v4 v5 (nI s) (nI i) (nI x) (nI 1)) (m + 1)) Mf trial child (nI r) v4 v5 (nI s) (nI acc.length) (nI i) (nI x) (nI 1) (nI 0) to (nI x))]
      show fx3 (fM_layChild_210 k108 k120 Mf trial (nI r) v4 v5 (nI s) (nI i) (nI x) (nI 1)) (m + 1 + 1) child (nI acc.length) (nI 0) = _
      rw [fx3_s]
      by_cases q : r ≤ 2
      · simp -implicitDefEqProofs (disch := omega) only [fM_layChild_210, fM_layChild_231, litI, litL, nI_add, pk_mul, bd0_e, bd1_e, bd2_e, bd3_e, bd4_e, st_e, nI_leI, nI_ltI, nI_eq, if_pos, if_neg, if_true, if_false, ld_nI, sti_nI, stl_nI]
      · simp -implicitDefEqProofs (disch := omega) only [fM_layChild_210, fM_layChild_231, litI, litL, nI_add, pk_mul, bd0_e, bd1_e, bd2_e, bd3_e, bd4_e, st_e, nI_leI, nI_ltI, nI_eq, if_pos, if_neg, if_true, if_false, ld_nI, sti_nI, stl_nI]
    · obtain ⟨m, rfl⟩ := succ_of hm
      obtain ⟨m, rfl⟩ := succ_of (show 0 < m by omega)
      obtain ⟨m, rfl⟩ := succ_of (show 0 < m by omega)
      obtain ⟨c1, e1, w1, f1⟩ := lcPush (k108 := k108) (k120 := k120) (k210 := fx3 (fM_layChild_210 k108 k120 Mf trial (nI r) v4 (nI p) (nI s) (nI i) (nI x) (nI 2)) (m + 1 + 1)) (Mf := Mf) (trial := trial) (v1 := nI r) (v4 := v4) (v5 := nI p) (v8 := nI i) (v9 := nI x) (v11 := nI 2) (k := 0) (p := p) hs ho (by omega) hc rfl
      obtain ⟨c2, e2, w2, f2⟩ := lcPush (k108 := k108) (k120 := k120) (k210 := fx3 (fM_layChild_210 k108 k120 Mf trial (nI r) v4 (nI p) (nI s) (nI i) (nI x) (nI 2)) (m + 1)) (Mf := Mf) (trial := trial) (v1 := nI r) (v4 := v4) (v5 := nI p) (v8 := nI i) (v9 := nI x) (v11 := nI 2) (k := 1) (p := x) hs ho (by rw [List.length_append]; simp; omega) w1 rfl
      rw [List.append_assoc, List.singleton_append] at w2 e2
      have e3 : fx3 (fM_layChild_210 k108 k120 Mf trial (nI r) v4 (nI p) (nI s) (nI i) (nI x) (nI 2)) (m + 1) c2 (nI (acc ++ [p, x]).length) (nI (1 + 1)) = k120 c2 (nI (acc ++ [p, x]).length) (nI (i + 1)) := by
        simp -implicitDefEqProofs (disch := omega) only [fx3_s, fM_layChild_210, litI, litL, nI_add, pk_mul, bd0_e, bd1_e, bd2_e, bd3_e, bd4_e, st_e, nI_leI, nI_ltI, nI_eq, if_pos, if_neg, if_true, if_false, ld_nI, sti_nI, stl_nI]
      refine ⟨c2, ?_, w2, f1.trans f2⟩
      have g1 : fx3 (fM_layChild_210 k108 k120 Mf trial (nI r) v4 (nI p) (nI s) (nI i) (nI x) (nI 2)) (m + 1 + 1) c1 (nI (acc ++ [p]).length) (nI (0 + 1)) = fM_layChild_251 k108 k120 (fx3 (fM_layChild_210 k108 k120 Mf trial (nI r) v4 (nI p) (nI s) (nI i) (nI x) (nI 2)) (m + 1)) Mf trial c1 (nI r) v4 (nI p) (nI s) (nI (acc ++ [p]).length) (nI i) (nI x) (nI 2) (nI 1) (nI (acc ++ [p]).length - nI (off r)) (nI x) := by
        rw [← lcTo hr (n := (acc ++ [p]).length) (fun to => fM_layChild_251 k108 k120 (fx3 (fM_layChild_210 k108 k120 Mf trial (nI r) v4 (nI p) (nI s) (nI i) (nI x) (nI 2)) (m + 1)) Mf trial c1 (nI r) v4 (nI p) (nI s) (nI (acc ++ [p]).length) (nI i) (nI x) (nI 2) (nI 1) to (nI x)), fx3_s]
        generalize (acc ++ [p]).length = N
        by_cases q : r ≤ 2
        · simp -implicitDefEqProofs (disch := omega) only [fM_layChild_210, fM_layChild_231, litI, litL, nI_add, pk_mul, bd0_e, bd1_e, bd2_e, bd3_e, bd4_e, st_e, nI_leI, nI_ltI, nI_eq, if_pos, if_neg, if_true, if_false, ld_nI, sti_nI, stl_nI]
        · simp -implicitDefEqProofs (disch := omega) only [fM_layChild_210, fM_layChild_231, litI, litL, nI_add, pk_mul, bd0_e, bd1_e, bd2_e, bd3_e, bd4_e, st_e, nI_leI, nI_ltI, nI_eq, if_pos, if_neg, if_true, if_false, ld_nI, sti_nI, stl_nI]
      rw [← e3, ← e2, ← g1, ← e1, ← lcTo hr (n := acc.length) (fun to => fM_layChild_251 k108 k120 (fx3 (fM_layChild_210 k108 k120 Mf trial (nI r) v4 (nI p) (nI s) (nI i) (nI x) (nI 2)) (m + 1 + 1)) Mf trial child (nI r) v4 (nI p) (nI s) (nI acc.length) (nI i) (nI x) (nI 2) (nI 0) to (nI p))]
      show fx3 (fM_layChild_210 k108 k120 Mf trial (nI r) v4 (nI p) (nI s) (nI i) (nI x) (nI 2)) (m + 1 + 1 + 1) child (nI acc.length) (nI 0) = _
      rw [fx3_s]
      by_cases q : r ≤ 2
      · simp -implicitDefEqProofs (disch := omega) only [fM_layChild_210, fM_layChild_231, litI, litL, nI_add, pk_mul, bd0_e, bd1_e, bd2_e, bd3_e, bd4_e, st_e, nI_leI, nI_ltI, nI_eq, if_pos, if_neg, if_true, if_false, ld_nI, sti_nI, stl_nI]
      · simp -implicitDefEqProofs (disch := omega) only [fM_layChild_210, fM_layChild_231, litI, litL, nI_add, pk_mul, bd0_e, bd1_e, bd2_e, bd3_e, bd4_e, st_e, nI_leI, nI_ltI, nI_eq, if_pos, if_neg, if_true, if_false, ld_nI, sti_nI, stl_nI]
  exact key FU (fuel (by omega))
/-- what a rule makes of a symbol -/
def HCB (r : Nat) (v4 v5 : Int32) (cb : Nat → Nat → List Nat) : Prop :=
  ∀ i x, i < 12 → x < 6 → (cb i x = [] ∨ cb i x = [x] ∨ ∃ p, cb i x = [p, x] ∧ v5 = nI p) ∧ ∀ (k108 : Int32 → (Nat → Int32) → Int32 → Option (Int32 × (Nat → Int32))) (k120 : (Nat → Int32) → Int32 → Int32 → Option (Int32 × (Nat → Int32))) (Mf : Int32) (trial child : Nat → Int32) (v6 v7 : Int32),
    (if nI x = v4 then fM_layChild_158 k108 k120 Mf trial child (nI r) v4 v5 v6 v7 (nI i) (nI x) (nI 1) else fM_layChild_158 k108 k120 Mf trial child (nI r) v4 v5 v6 v7 (nI i) (nI x) (nI 0)) = fx3 (fM_layChild_210 k108 k120 Mf trial (nI r) v4 v5 v6 (nI i) (nI x) (nI (cb i x).length)) FU child v7 (nI 0)
set_option maxRecDepth 100000 in
theorem lcSide {s r : Nat} (hs : s < 2) (hr : r < 5) {cb : Nat → Nat → List Nat} (hcb : HCB r v4 v5 cb) {zs : List Nat} (hz : okS 12 zs) (h1 : trial s = nI zs.length) (h2 : ∀ i, i < 12 → trial (2 + 12 * s + i) = nI (zs.getD i 0)) :
    ∀ (us : List Nat) (i m : Nat) (acc : List Nat) (child : Nat → Int32), zs.drop i = us → i + us.length = zs.length → us.length < m → acc.length ≤ 2 * i → WS child s (off r) acc →
      ∃ child', fx3 (fM_layChild_120 k108 Mf trial (nI r) v4 v5 (nI s)) m child (nI acc.length) (nI i) = fM_layChild_315 k108 Mf trial child' (nI r) v4 v5 (nI s) (nI s) (nI (acc ++ ac cb i us).length - nI (off r)) ∧ WS child' s (off r) (acc ++ ac cb i us) ∧ FR child child' s ∧ (acc ++ ac cb i us).length ≤ 24 := by
  have hl := hz.1
  intro us
  induction us with
  | nil =>
    intro i m acc child hd hi hm ha hw
    obtain ⟨m, rfl⟩ := succ_of hm
    have hi : i = zs.length := hi
    rw [ac, List.append_nil]
    refine ⟨child, ?_, hw, FR.refl _ _, by omega⟩
    rw [← lcTo hr (n := acc.length) (fun to => fM_layChild_315 k108 Mf trial child (nI r) v4 v5 (nI s) (nI s) to), fx3_s]
    by_cases q : r ≤ 2
    · simp -implicitDefEqProofs (disch := omega) only [fM_layChild_120, litI, litL, nI_add, pk_mul, bd0_e, bd1_e, bd2_e, bd3_e, bd4_e, st_e, nI_leI, nI_ltI, nI_eq, if_pos, if_neg, if_true, if_false, ld_nI, sti_nI, stl_nI, h1]
    · simp -implicitDefEqProofs (disch := omega) only [fM_layChild_120, litI, litL, nI_add, pk_mul, bd0_e, bd1_e, bd2_e, bd3_e, bd4_e, st_e, nI_leI, nI_ltI, nI_eq, if_pos, if_neg, if_true, if_false, ld_nI, sti_nI, stl_nI, h1]
  | cons x us ih =>
    intro i m acc child hd hi hm ha hw
    obtain ⟨m, rfl⟩ := succ_of hm
    rw [List.length_cons] at hi hm
    have hi2 : i < zs.length := by omega
    rw [List.drop_eq_getElem_cons hi2] at hd
    obtain ⟨hx, hd⟩ := List.cons.inj hd
    have hx6 : x < 6 := by rw [← hx]; exact hz.2 _ (List.getElem_mem hi2)
    obtain ⟨c1, c2⟩ := hcb i x (by omega) hx6
    have hlen : (cb i x).length ≤ 2 := by
      rcases c1 with e | e | ⟨p, e, -⟩ <;> rw [e] <;> simp
    obtain ⟨child1, e1, w1, f1⟩ := lcOne (k108 := k108) (k120 := fx3 (fM_layChild_120 k108 Mf trial (nI r) v4 v5 (nI s)) m) (Mf := Mf) (v4 := v4) (v5 := v5) (trial := trial) (i := i) hs hr c1 (by omega) hw
    obtain ⟨child', e2, w2, f2, l2⟩ := ih (i + 1) m (acc ++ cb i x) child1 hd (by omega) (by omega) (by rw [List.length_append]; omega) w1
    rw [ac, ← List.append_assoc]
    refine ⟨child', ?_, w2, f1.trans f2, l2⟩
    have hg := h2 i (by omega)
    rw [getD_in hi2, hx] at hg
    rw [← e2, ← e1, ← c2, fx3_s]
    simp -implicitDefEqProofs (disch := omega) only [fM_layChild_120, litI, litL, nI_add, pk_mul, bd0_e, bd1_e, bd2_e, bd3_e, bd4_e, st_e, nI_leI, nI_ltI, nI_eq, if_pos, if_neg, if_true, if_false, ld_nI, sti_nI, stl_nI, h1, hg, mAt]
set_option maxRecDepth 100000 in
theorem lcEnd {s r n : Nat} (hs : s < 2) (hn : n ≤ 24) {child : Nat → Int32} {f : Bool} : fM_layChild_315 k108 (nI (b1 f)) trial child (nI r) v4 v5 (nI s) (nI s) (nI n) = k108 (nI (b1 (f && decide (n ≤ 12)))) (upd child s (nI n)) (nI (s + 1)) := by
  have hu : upd child s (nI n) s = nI n := by rw [upd_e, if_pos rfl]
  cases f with
  | false =>
    rw [Bool.false_and, b1_f]
    simp -implicitDefEqProofs (disch := omega) only [fM_layChild_315, fM_layChild_341, litI, litL, nI_add, pk_mul, bd0_e, bd1_e, bd2_e, bd3_e, bd4_e, st_e, nI_leI, nI_ltI, nI_eq, if_pos, if_neg, if_true, if_false, ld_nI, sti_nI, stl_nI, ckzn0]
  | true =>
    rw [Bool.true_and]
    by_cases q : n ≤ 12
    · rw [decide_eq_true q, b1_t]
      simp -implicitDefEqProofs (disch := omega) only [fM_layChild_315, fM_layChild_341, litI, litL, nI_add, pk_mul, bd0_e, bd1_e, bd2_e, bd3_e, bd4_e, st_e, nI_leI, nI_ltI, nI_eq, if_pos, if_neg, if_true, if_false, ld_nI, sti_nI, stl_nI, hu, ckzn1]
    · rw [decide_eq_false q, b1_f, b1_t]
      simp -implicitDefEqProofs (disch := omega) only [fM_layChild_315, fM_layChild_341, litI, litL, nI_add, pk_mul, bd0_e, bd1_e, bd2_e, bd3_e, bd4_e, st_e, nI_leI, nI_ltI, nI_eq, if_pos, if_neg, if_true, if_false, ld_nI, sti_nI, stl_nI, hu, ckzn0]
end LD
set_option maxRecDepth 100000 in
theorem lcBoth {trial : Nat → Int32} {xs ys : List Nat} (ht : rowIs trial xs ys) (hx : okS 12 xs) (hy : okS 12 ys) {r : Nat} (hr : r < 5) {v4 v5 : Int32} {cb : Nat → Nat → List Nat} (hcb : HCB r v4 v5 cb) (hx1 : off r ≤ (ac cb 0 xs).length) (hy1 : off r ≤ (ac cb 0 ys).length) {child : Nat → Int32} (hc : ∀ k, k < 26 → child k = nI 0) :
    ∃ child', fx3 (fM_layChild_108 trial (nI r) v4 v5) FU (nI 1) child (nI 0) = some (nI (b1 (decide (((ac cb 0 xs).drop (off r)).length ≤ 12) && decide (((ac cb 0 ys).drop (off r)).length ≤ 12))), child') ∧ rowIs child' ((ac cb 0 xs).drop (off r)) ((ac cb 0 ys).drop (off r)) := by
  have key : ∀ m, 3 < m → ∃ child', fx3 (fM_layChild_108 trial (nI r) v4 v5) m (nI 1) child (nI 0) = some (nI (b1 (decide (((ac cb 0 xs).drop (off r)).length ≤ 12) && decide (((ac cb 0 ys).drop (off r)).length ≤ 12))), child') ∧ rowIs child' ((ac cb 0 xs).drop (off r)) ((ac cb 0 ys).drop (off r)) := by
    intro m hm
    obtain ⟨m, rfl⟩ := succ_of hm
    obtain ⟨m, rfl⟩ := succ_of (show 0 < m by omega)
    obtain ⟨m, rfl⟩ := succ_of (show 0 < m by omega)
    have w0 : ∀ s, s < 2 → WS child s (off r) [] := fun s hs j hj => by
      rw [hc _ (by omega), List.drop_nil]
      rfl
    obtain ⟨c1, e1, w1, f1, l1⟩ := lcSide (k108 := fx3 (fM_layChild_108 trial (nI r) v4 v5) (m + 1 + 1)) (Mf := nI (b1 true)) (trial := trial) (s := 0) (by decide) hr hcb hx ht.l0 (fun i hi => by rw [show 2 + 12 * 0 + i = 2 + i by omega]; exact ht.s0 hi) xs 0 FU [] child rfl (Nat.zero_add _) (fuel (by have := hx.1; omega)) (Nat.zero_le _) (w0 0 (by decide))
    rw [List.nil_append] at e1 w1 l1
    rw [pk_sub hx1, ← List.length_drop, lcEnd (by decide) (by rw [List.length_drop]; omega), Bool.true_and] at e1
    have w2 : WS (upd c1 0 (nI ((ac cb 0 xs).drop (off r)).length)) 1 (off r) [] := fun j hj => by
      rw [upd_e, if_neg (by omega), f1 _ (by omega)]
      exact w0 1 (by decide) j hj
    obtain ⟨c2, e2, w3, f2, l2⟩ := lcSide (k108 := fx3 (fM_layChild_108 trial (nI r) v4 v5) (m + 1)) (Mf := nI (b1 (decide (((ac cb 0 xs).drop (off r)).length ≤ 12)))) (trial := trial) (s := 1) (by decide) hr hcb hy ht.l1 (fun i hi => by rw [show 2 + 12 * 1 + i = 14 + i by omega]; exact ht.s1 hi) ys 0 FU [] (upd c1 0 (nI ((ac cb 0 xs).drop (off r)).length)) rfl (Nat.zero_add _) (fuel (by have := hy.1; omega)) (Nat.zero_le _) w2
    rw [List.nil_append] at e2 w3 l2
    rw [pk_sub hy1, ← List.length_drop, lcEnd (by decide) (by rw [List.length_drop]; omega)] at e2
    generalize hX : (ac cb 0 xs).drop (off r) = X at *
    generalize hY : (ac cb 0 ys).drop (off r) = Y at *
    refine ⟨upd c2 1 (nI Y.length), ?_, rowIs_of ?_ ?_ (fun i hi => ?_) (fun i hi => ?_)⟩
    · have e3 : fx3 (fM_layChild_108 trial (nI r) v4 v5) (m + 1) (nI (b1 (decide (X.length ≤ 12) && decide (Y.length ≤ 12)))) (upd c2 1 (nI Y.length)) (nI (1 + 1)) = some (nI (b1 (decide (X.length ≤ 12) && decide (Y.length ≤ 12))), upd c2 1 (nI Y.length)) := by
        simp -implicitDefEqProofs (disch := omega) only [fx3_s, fM_layChild_108, litI, litL, nI_add, pk_mul, bd0_e, bd1_e, bd2_e, bd3_e, bd4_e, st_e, nI_leI, nI_ltI, nI_eq, if_pos, if_neg, if_true, if_false, ld_nI, sti_nI, stl_nI]
      rw [← e3, ← e2]
      have e4 : fx3 (fM_layChild_108 trial (nI r) v4 v5) (m + 1 + 1) (nI (b1 (decide (X.length ≤ 12)))) (upd c1 0 (nI X.length)) (nI (0 + 1)) = fx3 (fM_layChild_120 (fx3 (fM_layChild_108 trial (nI r) v4 v5) (m + 1)) (nI (b1 (decide (X.length ≤ 12)))) trial (nI r) v4 v5 (nI 1)) FU (upd c1 0 (nI X.length)) (nI 0) (nI 0) := by
        rw [fx3_s]
        simp -implicitDefEqProofs (disch := omega) only [fM_layChild_108, litI, litL, nI_add, pk_mul, bd0_e, bd1_e, bd2_e, bd3_e, bd4_e, st_e, nI_leI, nI_ltI, nI_eq, if_pos, if_neg, if_true, if_false, ld_nI, sti_nI, stl_nI]
      refine Eq.trans ?_ e4
      rw [← e1, fx3_s]
      simp -implicitDefEqProofs (disch := omega) only [fM_layChild_108, litI, litL, nI_add, pk_mul, bd0_e, bd1_e, bd2_e, bd3_e, bd4_e, st_e, nI_leI, nI_ltI, nI_eq, if_pos, if_neg, if_true, if_false, ld_nI, sti_nI, stl_nI]
      rfl
    · rw [upd_e, if_neg (by decide), f2 0 (by omega), upd_e, if_pos rfl]
    · rw [upd_e, if_pos rfl]
    · rw [upd_e, if_neg (by omega), f2 _ (by omega), upd_e, if_neg (by omega)]
      have := w1 i hi
      rw [hX, show 2 + 12 * 0 + i = 2 + i by omega] at this
      exact this
    · rw [upd_e, if_neg (by omega)]
      have := w3 i hi
      rw [hY, show 2 + 12 * 1 + i = 14 + i by omega] at this
      exact this
  exact key FU (fuel (by omega))
