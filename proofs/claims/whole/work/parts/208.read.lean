/-! the reference reads the text -/
def syms (tx : Nat → Nat) (f k : Nat) : List Nat := (List.range k).map (fun j => (symb (tx (f + j))).getD 0)
set_option maxRecDepth 100000 in
theorem syms_len (tx : Nat → Nat) (f k : Nat) : (syms tx f k).length = k := by simp [syms]
set_option maxRecDepth 100000 in
theorem syms_0 (tx : Nat → Nat) (f : Nat) : syms tx f 0 = [] := rfl
set_option maxRecDepth 100000 in
theorem syms_s (tx : Nat → Nat) (f k : Nat) : syms tx f (k + 1) = syms tx f k ++ [(symb (tx (f + k))).getD 0] := by
  unfold syms
  rw [List.range_succ, List.map_append]
  rfl
set_option maxRecDepth 100000 in
theorem syms_ok (tx : Nat → Nat) (f k : Nat) : ∀ x ∈ syms tx f k, x < 6 := by
  intro x hx
  obtain ⟨j, -, rfl⟩ := List.mem_map.mp hx
  cases h : symb (tx (f + j)) with
  | none => decide
  | some s => exact symb_lt h
set_option maxRecDepth 100000 in
theorem rowIs_push {f : Nat → Int32} {xs ys : List Nat} (h : rowIs f xs ys) {P j s : Nat} (hP : P < 2) (hj : (sd P xs ys).length = j) (hj2 : j < 12) : rowIs (upd (upd f (2 + 12 * P + j) (nI s)) P (nI (j + 1))) (if P = 0 then sd P xs ys ++ [s] else xs) (if P = 0 then ys else sd P xs ys ++ [s]) := by
  refine h.side hP ?_ ?_ ?_
  · rw [upd_e, if_pos rfl, List.length_append, List.length_singleton, hj]
  · intro i hi
    rw [upd_e, if_neg (by omega), upd_e]
    by_cases q : i = j
    · rw [if_pos (by omega), q, ← hj, getD_append_last]
    · rw [if_neg (by omega), (h P hP).2 i hi]
      rcases Nat.lt_or_ge i j with q2 | q2
      · rw [getD_append_l (by omega)]
      · rw [getD_out (by omega), getD_out (by rw [List.length_append, List.length_singleton]; omega)]
  · intro t ht hts
    exact ⟨by rw [upd_e, if_neg hts, upd_e, if_neg (by omega)], fun i hi => by rw [upd_e, if_neg (by omega), upd_e, if_neg (by omega)]⟩
set_option maxRecDepth 100000 in
theorem mInR {c a b : Nat} (hc : c < 2 ^ 31) (ha : a < 2 ^ 31) (hb : b < 2 ^ 31) : fM_in (nI c).toInt64 (lN a) (lN b) = some (nI (if a ≤ c ∧ c ≤ b then 1 else 0)) := by
  rw [mIn, nI_l hc]
  by_cases q : a ≤ c ∧ c ≤ b
  · rw [if_pos q, if_neg]
    · rfl
    · rw [pk_lLT (by omega) (by omega), pk_lLT (by omega) (by omega)]; omega
  · rw [if_neg q, if_pos]
    · rfl
    · rw [pk_lLT (by omega) (by omega), pk_lLT (by omega) (by omega)]; omega
set_option maxRecDepth 100000 in
theorem ckz_n {β : Type} {k : Option β} {c : Prop} [Decidable c] : ckz (nI (if c then 1 else 0)) k = k := by by_cases h : c <;> simp only [h, if_true, if_false] <;> rfl
set_option maxRecDepth 100000 in
theorem mTake0 {c : Nat} (hc : c ≤ 4) (rc : Nat → Int32) {ch : Nat} (hh : ch < 256) : fM_takeOfConstraint (nI c) rc (nI 0) (nI ch) = some (nI (if fit 0 ch = true ∧ c < 4 then 1 else 0), nI c, rc) := by
  by_cases q : ch = 59
  · subst q
    by_cases q2 : c < 4
    · rw [if_pos ⟨by decide, q2⟩]
      simp -implicitDefEqProofs (disch := omega) only [fM_takeOfConstraint, litI, litL, nI_add, pk_mul, bd0_e, bd1_e, bd2_e, bd3_e, bd4_e, st_e, nI_leI, nI_ltI, nI_eq, if_pos, if_neg, if_true, if_false, ld_nI, sti_nI, stl_nI]
    · rw [if_neg (fun z => q2 z.2)]
      simp -implicitDefEqProofs (disch := omega) only [fM_takeOfConstraint, litI, litL, nI_add, pk_mul, bd0_e, bd1_e, bd2_e, bd3_e, bd4_e, st_e, nI_leI, nI_ltI, nI_eq, if_pos, if_neg, if_true, if_false, ld_nI, sti_nI, stl_nI]
  · rw [if_neg (fun z => q (by simpa [fit] using z.1))]
    simp -implicitDefEqProofs (disch := omega) only [fM_takeOfConstraint, litI, litL, nI_add, pk_mul, bd0_e, bd1_e, bd2_e, bd3_e, bd4_e, st_e, nI_leI, nI_ltI, nI_eq, if_pos, if_neg, if_true, if_false, ld_nI, sti_nI, stl_nI]
set_option maxRecDepth 100000 in
theorem mTake1 {c : Nat} (hc : c < 4) (rc : Nat → Int32) {ch : Nat} (hh : ch < 256) : fM_takeOfConstraint (nI c) rc (nI 1) (nI ch) = some (nI (if fit 1 ch = true then 1 else 0), nI c, upd rc (3 * c) (nI ch - nI 87)) := by
  have e : fM_in (nI ch).toInt64 (lN 87) (lN 90) = some (nI (if fit 1 ch = true then 1 else 0)) := by
    rw [mInR (by omega) (by decide) (by decide)]
    exact congrArg (fun z => some (nI z)) (if_iff (by simp [fit]) _ _)
  simp -implicitDefEqProofs (disch := omega) only [fM_takeOfConstraint, litI, litL, nI_add, pk_mul, bd0_e, bd1_e, bd2_e, bd3_e, bd4_e, st_e, nI_leI, nI_ltI, nI_eq, if_pos, if_neg, if_true, if_false, ld_nI, sti_nI, stl_nI, e, ckz_n, pk_sub (a := 3 * c + 1) (b := 1) (by omega), Nat.add_sub_cancel]
set_option maxRecDepth 100000 in
theorem mTake2 {c : Nat} (hc : c < 4) (rc : Nat → Int32) {ch : Nat} (hh : ch < 256) : fM_takeOfConstraint (nI c) rc (nI 2) (nI ch) = some (nI (if fit 2 ch = true then 1 else 0), nI c, upd rc (3 * c + 1) (nI ch - nI 60)) := by
  have e : fM_in (nI ch).toInt64 (lN 60) (lN 62) = some (nI (if fit 2 ch = true then 1 else 0)) := by
    rw [mInR (by omega) (by decide) (by decide)]
    exact congrArg (fun z => some (nI z)) (if_iff (by simp [fit]) _ _)
  simp -implicitDefEqProofs (disch := omega) only [fM_takeOfConstraint, litI, litL, nI_add, pk_mul, bd0_e, bd1_e, bd2_e, bd3_e, bd4_e, st_e, nI_leI, nI_ltI, nI_eq, if_pos, if_neg, if_true, if_false, ld_nI, sti_nI, stl_nI, e, ckz_n, pk_sub (a := 3 * c + 2) (b := 1) (by omega), show 3 * c + 2 - 1 = 3 * c + 1 by omega]
set_option maxRecDepth 100000 in
theorem mTake3 {c : Nat} (hc : c < 4) (rc : Nat → Int32) {ch : Nat} (hh : ch < 256) : fM_takeOfConstraint (nI c) rc (nI 3) (nI ch) = some (nI (if fit 3 ch = true then 1 else 0), nI (c + 1), upd rc (3 * c + 2) (nI ch - nI 48)) := by
  have e : fM_in (nI ch).toInt64 (lN 48) (lN 57) = some (nI (if fit 3 ch = true then 1 else 0)) := by
    rw [mInR (by omega) (by decide) (by decide)]
    exact congrArg (fun z => some (nI z)) (if_iff (by simp [fit]) _ _)
  simp -implicitDefEqProofs (disch := omega) only [fM_takeOfConstraint, litI, litL, nI_add, pk_mul, bd0_e, bd1_e, bd2_e, bd3_e, bd4_e, st_e, nI_leI, nI_ltI, nI_eq, if_pos, if_neg, if_true, if_false, ld_nI, sti_nI, stl_nI, e, ckz_n, pk_sub (a := 3 * c + 3) (b := 1) (by omega), show 3 * c + 3 - 1 = 3 * c + 2 by omega]
set_option maxRecDepth 100000 in
theorem fit_lt {tx : Nat → Nat} {n s i : Nat} (h : fit s (tA tx n i) = true) : i < n ∧ tA tx n i = tx i := by
  unfold tA at h ⊢
  by_cases q : i < n
  · exact ⟨q, if_pos q⟩
  · rw [if_neg q] at h
    exfalso
    unfold fit at h
    split at h
    · exact absurd h (by decide)
    · split at h
      · exact absurd h (by decide)
      · split at h
        · exact absurd h (by decide)
        · exact absurd h (by decide)
section RD
variable {Mt : Nat → Int32} {n : Nat} {tx : Nat → Nat}
set_option maxRecDepth 100000 in
theorem rStepS (hn : n ≤ 40) (ht : ∀ j, j < n → tx j < 256 ∧ Mt j = nI (tx j)) {many : Int32} {read rc : Nat → Int32} {P k j s m : Nat} (hP : P < 2) (hk : k < n) (hs : symb (tx k) = some s) (hr : read P = nI j) (hj : j < 8) :
    fx6 (fM_readText_32 (nI n) Mt) (m + 1) many read rc (nI P) (nI 0) (nI k) = fx6 (fM_readText_32 (nI n) Mt) m many (upd (upd read (2 + 12 * P + j) (nI s)) P (nI (j + 1))) rc (nI P) (nI 0) (nI (k + 1)) := by
  obtain ⟨hc, hm⟩ := ht k hk
  have e9 : ¬ nI s = -nI 9 := fun z => by
    have := (syM_9 (tx k)).mp (show syM (tx k) = -9 by unfold syM; rw [hs]; exact z)
    rw [hs] at this
    cases this
  have es : fM_symbolOf (nI (tx k)) = some (nI s) := by rw [mSymbolOf _ hc]; unfold syM; rw [hs]
  have eu : upd read (2 + 12 * P + j) (nI s) P = nI j := by rw [upd_e, if_neg (by omega)]; exact hr
  simp -implicitDefEqProofs (disch := omega) only [fx6_s, fM_readText_32, fM_readText_86, fM_readText_163, litI, litL, nI_add, pk_mul, bd0_e, bd1_e, bd2_e, bd3_e, bd4_e, st_e, nI_leI, nI_ltI, nI_eq, if_pos, if_neg, if_true, if_false, ld_nI, sti_nI, stl_nI, hm, es, e9, hr, mAt, eu]
set_option maxRecDepth 100000 in
theorem rStepF (hn : n ≤ 40) (ht : ∀ j, j < n → tx j < 256 ∧ Mt j = nI (tx j)) {many : Int32} {read rc : Nat → Int32} {P k s m : Nat} (hP : P < 2) (hk : k < n) (hs : symb (tx k) = some s) (hr : read P = nI 8) :
    fx6 (fM_readText_32 (nI n) Mt) (m + 1) many read rc (nI P) (nI 0) (nI k) = some (nI k, many, read, rc) := by
  obtain ⟨hc, hm⟩ := ht k hk
  have e9 : ¬ nI s = -nI 9 := fun z => by
    have := (syM_9 (tx k)).mp (show syM (tx k) = -9 by unfold syM; rw [hs]; exact z)
    rw [hs] at this
    cases this
  have es : fM_symbolOf (nI (tx k)) = some (nI s) := by rw [mSymbolOf _ hc]; unfold syM; rw [hs]
  simp -implicitDefEqProofs (disch := omega) only [fx6_s, fM_readText_32, fM_readText_86, fM_readText_163, litI, litL, nI_add, pk_mul, bd0_e, bd1_e, bd2_e, bd3_e, bd4_e, st_e, nI_leI, nI_ltI, nI_eq, if_pos, if_neg, if_true, if_false, ld_nI, sti_nI, stl_nI, hm, es, e9, hr]
set_option maxRecDepth 100000 in
theorem rStepE (hn : n ≤ 40) (ht : ∀ j, j < n → tx j < 256 ∧ Mt j = nI (tx j)) {many : Int32} {read rc : Nat → Int32} {k m : Nat} (hk : k < n) (hs : symb (tx k) = none) :
    fx6 (fM_readText_32 (nI n) Mt) (m + 1) many read rc (nI 0) (nI 0) (nI k) = if tx k = 61 then fx6 (fM_readText_32 (nI n) Mt) m many read rc (nI 1) (nI 0) (nI (k + 1)) else some (nI k, many, read, rc) := by
  obtain ⟨hc, hm⟩ := ht k hk
  have es : fM_symbolOf (nI (tx k)) = some (-nI 9) := by rw [mSymbolOf _ hc]; unfold syM; rw [hs]; rfl
  by_cases q : tx k = 61
  · simp -implicitDefEqProofs (disch := omega) only [fx6_s, fM_readText_32, fM_readText_123, fM_readText_163, litI, litL, nI_add, pk_mul, bd0_e, bd1_e, bd2_e, bd3_e, bd4_e, st_e, nI_leI, nI_ltI, nI_eq, if_pos, if_neg, if_true, if_false, ld_nI, sti_nI, stl_nI, hm, es]
  · simp -implicitDefEqProofs (disch := omega) only [fx6_s, fM_readText_32, fM_readText_123, fM_readText_163, litI, litL, nI_add, pk_mul, bd0_e, bd1_e, bd2_e, bd3_e, bd4_e, st_e, nI_leI, nI_ltI, nI_eq, if_pos, if_neg, if_true, if_false, ld_nI, sti_nI, stl_nI, hm, es]
set_option maxRecDepth 100000 in
theorem rStepC (hn : n ≤ 40) (ht : ∀ j, j < n → tx j < 256 ∧ Mt j = nI (tx j)) {many many' : Int32} {read rc rc' : Nat → Int32} {P k m s : Nat} {b : Bool} (hP : P = 2 ∨ (P = 1 ∧ symb (tx k) = none)) (hk : k < n) (hs : s < 4) (htk : fM_takeOfConstraint many rc (nI s) (nI (tx k)) = some (nI (if b = true then 1 else 0), many', rc')) :
    fx6 (fM_readText_32 (nI n) Mt) (m + 1) many read rc (nI P) (nI s) (nI k) = if b = true then fx6 (fM_readText_32 (nI n) Mt) m many' read rc' (nI 2) (nI ((s + 1) % 4)) (nI (k + 1)) else some (nI k, many', read, rc') := by
  obtain ⟨hc, hm⟩ := ht k hk
  have es := mSymbolOf _ hc
  rcases hP with rfl | ⟨rfl, hs0⟩
  · cases b <;> simp -implicitDefEqProofs (disch := omega) only [fx6_s, fM_readText_32, fM_readText_123, fM_readText_163, litI, litL, nI_add, pk_mul, bd0_e, bd1_e, bd2_e, bd3_e, bd4_e, st_e, nI_leI, nI_ltI, nI_eq, if_pos, if_neg, if_true, if_false, ld_nI, sti_nI, stl_nI, hm, es, htk, rem_nI, Bool.false_eq_true]
  · have es : fM_symbolOf (nI (tx k)) = some (-nI 9) := by rw [mSymbolOf _ hc]; unfold syM; rw [hs0]; rfl
    cases b <;> simp -implicitDefEqProofs (disch := omega) only [fx6_s, fM_readText_32, fM_readText_123, fM_readText_163, litI, litL, nI_add, pk_mul, bd0_e, bd1_e, bd2_e, bd3_e, bd4_e, st_e, nI_leI, nI_ltI, nI_eq, if_pos, if_neg, if_true, if_false, ld_nI, sti_nI, stl_nI, hm, es, htk, rem_nI, Bool.false_eq_true]
set_option maxRecDepth 100000 in
theorem rEnd (hn : n ≤ 40) {many : Int32} {read rc : Nat → Int32} {P s m : Nat} (hP : P < 3) (hs : s < 4) :
    fx6 (fM_readText_32 (nI n) Mt) (m + 1) many read rc (nI P) (nI s) (nI n) = some (if P = 0 then nI n else if s = 0 then -9 else nI n, many, read, rc) := by
  by_cases q : P = 0
  · subst q
    simp -implicitDefEqProofs (disch := omega) only [fx6_s, fM_readText_32, litI, litL, nI_add, pk_mul, bd0_e, bd1_e, bd2_e, bd3_e, bd4_e, st_e, nI_leI, nI_ltI, nI_eq, if_pos, if_neg, if_true, if_false, ld_nI, sti_nI, stl_nI]
  · by_cases q2 : s = 0
    · subst q2
      simp -implicitDefEqProofs (disch := omega) only [fx6_s, fM_readText_32, litI, litL, nI_add, pk_mul, bd0_e, bd1_e, bd2_e, bd3_e, bd4_e, st_e, nI_leI, nI_ltI, nI_eq, if_pos, if_neg, if_true, if_false, ld_nI, sti_nI, stl_nI]
    · simp -implicitDefEqProofs (disch := omega) only [fx6_s, fM_readText_32, litI, litL, nI_add, pk_mul, bd0_e, bd1_e, bd2_e, bd3_e, bd4_e, st_e, nI_leI, nI_ltI, nI_eq, if_pos, if_neg, if_true, if_false, ld_nI, sti_nI, stl_nI]
/-- one constraint, as it stands in the text at p and in the reference's row at i -/
def CF (tx : Nat → Nat) (n : Nat) (rc : Nat → Int32) (i p : Nat) : Prop := p + 4 ≤ n ∧ fit 1 (tx (p + 1)) = true ∧ fit 2 (tx (p + 2)) = true ∧ fit 3 (tx (p + 3)) = true ∧ rc (3 * i) = nI (tx (p + 1) - 87) ∧ rc (3 * i + 1) = nI (tx (p + 2) - 60) ∧ rc (3 * i + 2) = nI (tx (p + 3) - 48)
set_option maxRecDepth 100000 in
theorem CF.cong {rc rc' : Nat → Int32} {i p : Nat} (h : CF tx n rc i p) (e : ∀ j, j < 3 * i + 3 → rc' j = rc j) : CF tx n rc' i p := by
  obtain ⟨h1, h2, h3, h4, h5, h6, h7⟩ := h
  exact ⟨h1, h2, h3, h4, by rw [e _ (by omega)]; exact h5, by rw [e _ (by omega)]; exact h6, by rw [e _ (by omega)]; exact h7⟩
set_option maxRecDepth 100000 in
theorem rCons (hn : n ≤ 40) (ht : ∀ j, j < n → tx j < 256 ∧ Mt j = nI (tx j)) (read : Nat → Int32) : ∀ (r c k m P : Nat) (rc : Nat → Int32), c + r = 4 → k ≤ n → n - k + 1 ≤ m → (P = 2 ∨ (P = 1 ∧ (k < n → symb (tx k) = none))) →
    ∃ many' rc', fx6 (fM_readText_32 (nI n) Mt) m (nI c) read rc (nI P) (nI 0) (nI k) = some (eres (cerr tx n r k), many', read, rc') ∧ (∀ i, i < 3 * c → rc' i = rc i) ∧ (cerr tx n r k = none → ∃ c', c ≤ c' ∧ c' ≤ 4 ∧ many' = nI c' ∧ k + 4 * (c' - c) = n ∧ ∀ i, c ≤ i → i < c' → CF tx n rc' i (k + 4 * (i - c))) := by
  intro r
  induction r with
  | zero =>
    intro c k m P rc hc hk hm hP
    obtain ⟨m, rfl⟩ := succ_of (show 0 < m by omega)
    rw [cerr]
    by_cases q : k = n
    · subst q
      refine ⟨nI c, rc, ?_, fun _ _ => rfl, fun _ => ⟨c, Nat.le_refl _, by omega, rfl, by omega, fun i h1 h2 => absurd h2 (by omega)⟩⟩
      rw [rEnd hn (by rcases hP with h | h <;> omega) (by decide), if_neg (by rcases hP with h | h <;> omega), if_pos rfl, if_pos rfl]
      rfl
    · have hk2 : k < n := by omega
      refine ⟨nI c, rc, ?_, fun _ _ => rfl, fun z => absurd z (by rw [if_neg q]; exact fun z => by cases z)⟩
      have e := mTake0 (c := c) (by omega) rc (ht k hk2).1
      rw [rStepC hn ht (b := false) (by rcases hP with h | ⟨h, h'⟩; exact Or.inl h; exact Or.inr ⟨h, h' hk2⟩) hk2 (by decide) (by rw [e, if_neg (show ¬ (fit 0 (tx k) = true ∧ c < 4) from fun z => by omega)]; rfl), if_neg (by decide), if_neg q]
      rfl
  | succ r ih =>
    intro c k m P rc hc hk hm hP
    obtain ⟨m, rfl⟩ := succ_of (show 0 < m by omega)
    rw [cerr]
    by_cases q : n ≤ k
    · have qk : k = n := by omega
      subst qk
      rw [if_pos q, if_pos rfl]
      refine ⟨nI c, rc, ?_, fun _ _ => rfl, fun _ => ⟨c, Nat.le_refl _, by omega, rfl, by omega, fun i h1 h2 => absurd h2 (by omega)⟩⟩
      rw [rEnd hn (by rcases hP with h | h <;> omega) (by decide), if_neg (by rcases hP with h | h <;> omega), if_pos rfl]
      rfl
    · have hk2 : k < n := by omega
      have a0 : tA tx n k = tx k := if_pos hk2
      have hP' : P = 2 ∨ (P = 1 ∧ symb (tx k) = none) := by
        rcases hP with h | ⟨h, h'⟩
        · exact Or.inl h
        · exact Or.inr ⟨h, h' hk2⟩
      rw [if_neg q, a0]
      have e0 := mTake0 (c := c) (by omega) rc (ht k hk2).1
      by_cases f0 : fit 0 (tx k) = false
      · rw [if_pos f0]
        refine ⟨nI c, rc, ?_, fun _ _ => rfl, fun z => by cases z⟩
        rw [rStepC hn ht (b := false) hP' hk2 (by decide) (by rw [e0, if_neg (show ¬ (fit 0 (tx k) = true ∧ c < 4) from fun z => by rw [f0] at z; exact absurd z.1 (by decide))]; rfl), if_neg (by decide)]
        rfl
      · have t0 : fit 0 (tx k) = true := by simpa using f0
        rw [if_neg f0]
        have S0 := rStepC (s := 0) (many := nI c) (many' := nI c) (rc := rc) (rc' := rc) (m := m) (read := read) hn ht (b := true) hP' hk2 (by decide) (by rw [e0, if_pos (show fit 0 (tx k) = true ∧ c < 4 from ⟨t0, by omega⟩)]; rfl)
        rw [if_pos rfl, show (0 + 1) % 4 = 1 from rfl] at S0
        rw [S0]
        by_cases q1 : k + 1 = n
        · have z1 : tA tx n (k + 1) = 0 := if_neg (by omega)
          rw [z1, if_pos (by decide)]
          obtain ⟨m, rfl⟩ := succ_of (show 0 < m by omega)
          refine ⟨nI c, rc, ?_, fun _ _ => rfl, fun z => by cases z⟩
          rw [q1, rEnd hn (by decide) (by decide)]
          rfl
        · have k1 : k + 1 < n := by omega
          have a1 : tA tx n (k + 1) = tx (k + 1) := if_pos k1
          obtain ⟨m, rfl⟩ := succ_of (show 0 < m by omega)
          have e1 := mTake1 (c := c) (by omega) rc (ht (k + 1) k1).1
          rw [a1]
          have S1 := rStepC (P := 2) (m := m) (read := read) hn ht (Or.inl rfl) k1 (by decide) e1
          by_cases f1 : fit 1 (tx (k + 1)) = false
          · rw [if_pos f1]
            refine ⟨nI c, (upd rc (3 * c) (nI (tx (k + 1)) - nI 87)), ?_, fun i hi => ?_, fun z => by cases z⟩
            · rw [S1, f1, if_neg (by decide)]
              rfl
            · rw [upd_e, if_neg (by omega)]
          · have t1 : fit 1 (tx (k + 1)) = true := by simpa using f1
            rw [if_neg f1]
            rw [t1, if_pos rfl, show (1 + 1) % 4 = 2 from rfl, show k + 1 + 1 = k + 2 from rfl] at S1
            rw [S1]
            by_cases q2 : k + 2 = n
            · have z2 : tA tx n (k + 2) = 0 := if_neg (by omega)
              rw [z2, if_pos (by decide)]
              obtain ⟨m, rfl⟩ := succ_of (show 0 < m by omega)
              refine ⟨nI c, (upd rc (3 * c) (nI (tx (k + 1)) - nI 87)), ?_, fun i hi => ?_, fun z => by cases z⟩
              · rw [q2, rEnd hn (by decide) (by decide)]
                rfl
              · rw [upd_e, if_neg (by omega)]
            · have k2 : k + 2 < n := by omega
              have a2 : tA tx n (k + 2) = tx (k + 2) := if_pos k2
              obtain ⟨m, rfl⟩ := succ_of (show 0 < m by omega)
              have e2 := mTake2 (c := c) (by omega) (upd rc (3 * c) (nI (tx (k + 1)) - nI 87)) (ht (k + 2) k2).1
              rw [a2]
              have S2 := rStepC (P := 2) (m := m) (read := read) hn ht (Or.inl rfl) k2 (by decide) e2
              by_cases f2 : fit 2 (tx (k + 2)) = false
              · rw [if_pos f2]
                refine ⟨nI c, (upd (upd rc (3 * c) (nI (tx (k + 1)) - nI 87)) (3 * c + 1) (nI (tx (k + 2)) - nI 60)), ?_, fun i hi => ?_, fun z => by cases z⟩
                · rw [S2, f2, if_neg (by decide)]
                  rfl
                · rw [upd_e, if_neg (by omega), upd_e, if_neg (by omega)]
              · have t2 : fit 2 (tx (k + 2)) = true := by simpa using f2
                rw [if_neg f2]
                rw [t2, if_pos rfl, show (2 + 1) % 4 = 3 from rfl, show k + 2 + 1 = k + 3 from rfl] at S2
                rw [S2]
                by_cases q3 : k + 3 = n
                · have z3 : tA tx n (k + 3) = 0 := if_neg (by omega)
                  rw [z3, if_pos (by decide)]
                  obtain ⟨m, rfl⟩ := succ_of (show 0 < m by omega)
                  refine ⟨nI c, (upd (upd rc (3 * c) (nI (tx (k + 1)) - nI 87)) (3 * c + 1) (nI (tx (k + 2)) - nI 60)), ?_, fun i hi => ?_, fun z => by cases z⟩
                  · rw [q3, rEnd hn (by decide) (by decide)]
                    rfl
                  · rw [upd_e, if_neg (by omega), upd_e, if_neg (by omega)]
                · have k3 : k + 3 < n := by omega
                  have a3 : tA tx n (k + 3) = tx (k + 3) := if_pos k3
                  obtain ⟨m, rfl⟩ := succ_of (show 0 < m by omega)
                  have e3 := mTake3 (c := c) (by omega) (upd (upd rc (3 * c) (nI (tx (k + 1)) - nI 87)) (3 * c + 1) (nI (tx (k + 2)) - nI 60)) (ht (k + 3) k3).1
                  rw [a3]
                  have S3 := rStepC (P := 2) (m := m) (read := read) hn ht (Or.inl rfl) k3 (by decide) e3
                  by_cases f3 : fit 3 (tx (k + 3)) = false
                  · rw [if_pos f3]
                    refine ⟨nI (c + 1), (upd (upd (upd rc (3 * c) (nI (tx (k + 1)) - nI 87)) (3 * c + 1) (nI (tx (k + 2)) - nI 60)) (3 * c + 2) (nI (tx (k + 3)) - nI 48)), ?_, fun i hi => ?_, fun z => by cases z⟩
                    · rw [S3, f3, if_neg (by decide)]
                      rfl
                    · rw [upd_e, if_neg (by omega), upd_e, if_neg (by omega), upd_e, if_neg (by omega)]
                  · have t3 : fit 3 (tx (k + 3)) = true := by simpa using f3
                    rw [if_neg f3]
                    rw [t3, if_pos rfl, show (3 + 1) % 4 = 0 from rfl, show k + 3 + 1 = k + 4 from rfl] at S3
                    rw [S3]
                    obtain ⟨many', rc', e, b1, b2⟩ := ih (c + 1) (k + 4) m 2 (upd (upd (upd rc (3 * c) (nI (tx (k + 1)) - nI 87)) (3 * c + 1) (nI (tx (k + 2)) - nI 60)) (3 * c + 2) (nI (tx (k + 3)) - nI 48)) (by omega) (by omega) (by omega) (Or.inl rfl)
                    refine ⟨many', rc', e, fun i hi => ?_, fun z => ?_⟩
                    · rw [b1 i (by omega), upd_e, if_neg (by omega), upd_e, if_neg (by omega), upd_e, if_neg (by omega)]
                    · obtain ⟨c', d1, d2, d3, d4, d5⟩ := b2 z
                      refine ⟨c', by omega, d2, d3, by omega, fun i h1 h2 => ?_⟩
                      by_cases qi : i = c
                      · subst qi
                        rw [Nat.sub_self, Nat.mul_zero, Nat.add_zero]
                        have g1 : 87 ≤ tx (k + 1) := by have := t1; simp [fit] at this; omega
                        have g2 : 60 ≤ tx (k + 2) := by have := t2; simp [fit] at this; omega
                        have g3 : 48 ≤ tx (k + 3) := by have := t3; simp [fit] at this; omega
                        refine ⟨by omega, t1, t2, t3, ?_, ?_, ?_⟩
                        · rw [b1 _ (by omega), upd_e, if_neg (by omega), upd_e, if_neg (by omega), upd_e, if_pos rfl, pk_sub g1]
                        · rw [b1 _ (by omega), upd_e, if_neg (by omega), upd_e, if_pos rfl, pk_sub g2]
                        · rw [b1 _ (by omega), upd_e, if_pos rfl, pk_sub g3]
                      · rw [show k + 4 * (i - c) = k + 4 + 4 * (i - (c + 1)) by omega]
                        exact d5 i (by omega) h2
set_option maxRecDepth 100000 in
/-- from a state in part P with j symbols read, over all symbols that may still come -/
theorem rSyms (hn : n ≤ 40) (ht : ∀ j, j < n → tx j < 256 ∧ Mt j = nI (tx j)) {many : Int32} {rc : Nat → Int32} {P f : Nat} (hP : P < 2) (xs : List Nat) : ∀ (d j m : Nat) (read : Nat → Int32), j + d = run (isS tx n) f 8 → d ≤ m → rowIs read (if P = 0 then syms tx f j else xs) (if P = 0 then [] else syms tx f j) →
    ∃ read', fx6 (fM_readText_32 (nI n) Mt) m many read rc (nI P) (nI 0) (nI (f + j)) = fx6 (fM_readText_32 (nI n) Mt) (m - d) many read' rc (nI P) (nI 0) (nI (f + run (isS tx n) f 8)) ∧ rowIs read' (if P = 0 then syms tx f (run (isS tx n) f 8) else xs) (if P = 0 then [] else syms tx f (run (isS tx n) f 8)) := by
  have h8 := run_le (isS tx n) 8 f
  intro d
  induction d with
  | zero =>
    intro j m read hj hm hr
    have : j = run (isS tx n) f 8 := by omega
    subst this
    exact ⟨read, rfl, hr⟩
  | succ d ih =>
    intro j m read hj hm hr
    obtain ⟨m, rfl⟩ := succ_of (show 0 < m by omega)
    have hp := run_in (isS tx n) 8 f j (by omega)
    have hk := isS_lt hp
    have a0 : tA tx n (f + j) = tx (f + j) := if_pos hk
    obtain ⟨s, hs⟩ : ∃ s, symb (tx (f + j)) = some s := by
      unfold isS at hp
      rw [a0] at hp
      exact Option.isSome_iff_exists.mp hp
    have hsd : sd P (if P = 0 then syms tx f j else xs) (if P = 0 then [] else syms tx f j) = syms tx f j := by unfold sd; split <;> rfl
    have hrp := (hr P hP).1
    rw [hsd, syms_len] at hrp
    have hpush := rowIs_push (s := s) hr hP (by rw [hsd, syms_len]) (show j < 12 by omega)
    rw [hsd] at hpush
    have e1 : syms tx f j ++ [s] = syms tx f (j + 1) := by rw [syms_s, hs]; rfl
    rw [e1] at hpush
    obtain ⟨read', e, hr'⟩ := ih (j + 1) m _ (by omega) (by omega) (show rowIs (upd (upd read (2 + 12 * P + j) (nI s)) P (nI (j + 1))) (if P = 0 then syms tx f (j + 1) else xs) (if P = 0 then [] else syms tx f (j + 1)) by
      rcases (show P = 0 ∨ P = 1 by omega) with rfl | rfl
      · exact hpush
      · exact hpush)
    refine ⟨read', ?_, hr'⟩
    rw [rStepS hn ht hP hk hs hrp (by omega), show f + j + 1 = f + (j + 1) from rfl, e, show m + 1 - (d + 1) = m - d by omega]
set_option maxRecDepth 100000 in
/-- the state behind a side: the text ends, a ninth symbol stands there, or no symbol -/
theorem rAfter {f : Nat} (hk : f + run (isS tx n) f 8 < n) : (∃ s, symb (tx (f + run (isS tx n) f 8)) = some s ∧ run (isS tx n) f 8 = 8) ∨ symb (tx (f + run (isS tx n) f 8)) = none := by
  cases h : symb (tx (f + run (isS tx n) f 8)) with
  | none => exact Or.inr rfl
  | some s =>
    refine Or.inl ⟨s, rfl, ?_⟩
    have h8 := run_le (isS tx n) 8 f
    rcases Nat.lt_or_ge (run (isS tx n) f 8) 8 with q | q
    · have := run_out (isS tx n) 8 f q
      have e : isS tx n (f + run (isS tx n) f 8) = (symb (tx (f + run (isS tx n) f 8))).isSome := by
        show (symb (tA tx n (f + run (isS tx n) f 8))).isSome = _
        rw [show tA tx n (f + run (isS tx n) f 8) = tx (f + run (isS tx n) f 8) from if_pos hk]
      rw [e, h] at this
      cases this
    · omega
set_option maxRecDepth 100000 in
theorem run_end {f : Nat} (hf : f ≤ n) : f + run (isS tx n) f 8 ≤ n := by
  rcases Nat.eq_zero_or_pos (run (isS tx n) f 8) with q | q
  · omega
  · have := isS_lt (run_in (isS tx n) 8 f (run (isS tx n) f 8 - 1) (by omega))
    omega
set_option maxRecDepth 100000 in
theorem cerr_bad {r e : Nat} (he : e < n) (hf : fit 0 (tx e) = false) : cerr tx n r e = some e := by
  have a0 : tA tx n e = tx e := if_pos he
  cases r with
  | zero => rw [cerr, if_neg (by omega)]
  | succ r => rw [cerr, if_neg (by omega), a0, if_pos hf]
set_option maxRecDepth 100000 in
theorem mReadText (hn : n ≤ 40) (ht : ∀ j, j < n → tx j < 256 ∧ Mt j = nI (tx j)) (read rc : Nat → Int32) :
    ∃ many' read' rc', fM_readText (nI n) Mt read rc = some (eres (terr tx n), many', read', rc') ∧ (terr tx n = none → rowIs read' (syms tx 0 (mid tx n)) (syms tx (mid tx n + 1) (run (isS tx n) (mid tx n + 1) 8)) ∧ ∃ c, c ≤ 4 ∧ many' = nI c ∧ ends tx n + 4 * c = n ∧ ∀ i, i < c → CF tx n rc' i (ends tx n + 4 * i)) := by
  have zero : ∀ (d i m : Nat) (g : Nat → Int32), i + d = 26 → d < m → (∀ k, k < i → g k = nI 0) → ∃ g', fx2 (fM_readText_2 (nI n) Mt rc) m g (nI i) = fx6 (fM_readText_32 (nI n) Mt) FU (nI 0) g' rc (nI 0) (nI 0) (nI 0) ∧ ∀ k, k < 26 → g' k = nI 0 := by
    intro d
    induction d with
    | zero =>
      intro i m g hi hm hg
      obtain ⟨m, rfl⟩ := succ_of hm
      refine ⟨g, ?_, fun k hk => hg k (by omega)⟩
      simp -implicitDefEqProofs (disch := omega) only [fx2_s, fM_readText_2, litI, litL, nI_add, pk_mul, bd0_e, bd1_e, bd2_e, bd3_e, bd4_e, st_e, nI_leI, nI_ltI, nI_eq, if_pos, if_neg, if_true, if_false, ld_nI, sti_nI, stl_nI]
    | succ d ih =>
      intro i m g hi hm hg
      obtain ⟨m, rfl⟩ := succ_of hm
      obtain ⟨g', e, hg'⟩ := ih (i + 1) m (upd g i (nI 0)) (by omega) (by omega) (fun k hk => by
        by_cases q : k = i
        · rw [q, upd_e, if_pos rfl]
        · rw [upd_e, if_neg q]; exact hg k (by omega))
      refine ⟨g', ?_, hg'⟩
      rw [← e]
      simp -implicitDefEqProofs (disch := omega) only [fx2_s, fM_readText_2, litI, litL, nI_add, pk_mul, bd0_e, bd1_e, bd2_e, bd3_e, bd4_e, st_e, nI_leI, nI_ltI, nI_eq, if_pos, if_neg, if_true, if_false, ld_nI, sti_nI, stl_nI]
  obtain ⟨g0, e0, hg0⟩ := zero 26 0 FU read (by omega) (fuel (by omega)) (fun k hk => absurd hk (by omega))
  have r0 : rowIs g0 [] [] := rowIs_of (hg0 0 (by decide)) (hg0 1 (by decide)) (fun i hi => hg0 _ (by omega)) (fun i hi => hg0 _ (by omega))
  have E : fM_readText (nI n) Mt read rc = fx6 (fM_readText_32 (nI n) Mt) FU (nI 0) g0 rc (nI 0) (nI 0) (nI 0) := e0
  have hm8 : mid tx n ≤ 8 := run_le (isS tx n) 8 0
  obtain ⟨g1, e1, r1⟩ := rSyms (many := nI 0) (rc := rc) (P := 0) (f := 0) hn ht (by decide) [] (mid tx n) 0 FU g0 (by unfold mid; omega) (Nat.le_of_lt (fuel (by omega))) r0
  rw [if_pos rfl, if_pos rfl] at r1
  rw [Nat.zero_add, Nat.zero_add] at e1
  have e1 : fx6 (fM_readText_32 (nI n) Mt) FU (nI 0) g0 rc (nI 0) (nI 0) (nI 0) = fx6 (fM_readText_32 (nI n) Mt) (FU - mid tx n) (nI 0) g1 rc (nI 0) (nI 0) (nI (mid tx n)) := e1
  have r1 : rowIs g1 (syms tx 0 (mid tx n)) [] := r1
  rw [E, e1]
  have hmn : mid tx n ≤ n := by have := run_end (tx := tx) (n := n) (f := 0) (Nat.zero_le _); unfold mid; omega
  obtain ⟨m, hm⟩ : ∃ m, FU - mid tx n = m + 1 := ⟨999999 - mid tx n, by have : FU = 1000000 := rfl; omega⟩
  rw [hm]
  by_cases q : mid tx n = n
  · have z : terr tx n = some n := by
      unfold terr
      rw [if_neg (by unfold tA; rw [if_neg (by omega)]; decide), q]
    refine ⟨nI 0, g1, rc, ?_, fun z2 => by rw [z] at z2; cases z2⟩
    have := rEnd (Mt := Mt) (many := nI 0) (read := g1) (rc := rc) (P := 0) (s := 0) (m := m) hn (by decide) (by decide)
    rw [q, this, z, if_pos rfl]
    rfl
  · have hk : mid tx n < n := by omega
    have a0 : tA tx n (mid tx n) = tx (mid tx n) := if_pos hk
    have hk0 : 0 + run (isS tx n) 0 8 < n := by unfold mid at hk; omega
    rcases rAfter hk0 with ⟨s, hs, h8⟩ | hs
    · rw [Nat.zero_add] at hs
      have hs : symb (tx (mid tx n)) = some s := hs
      have h8 : mid tx n = 8 := h8
      have z : terr tx n = some (mid tx n) := by
        unfold terr
        rw [if_neg]
        rw [a0]
        intro z
        rw [z, show symb 61 = none by decide] at hs
        cases hs
      refine ⟨nI 0, g1, rc, ?_, fun z2 => by rw [z] at z2; cases z2⟩
      have hl := r1.l0
      rw [syms_len, h8] at hl
      rw [rStepF hn ht (P := 0) (by decide) hk hs hl, z]
      rfl
    · rw [Nat.zero_add] at hs
      have hs : symb (tx (mid tx n)) = none := hs
      rw [rStepE hn ht hk hs]
      by_cases q2 : tx (mid tx n) = 61
      · rw [if_pos q2]
        have z : terr tx n = cerr tx n 4 (ends tx n) := by
          unfold terr
          rw [a0, if_pos q2]
        have hb8 := run_le (isS tx n) 8 (mid tx n + 1)
        have hFU : FU = 1000000 := rfl
        obtain ⟨g2, e2, r2⟩ := rSyms (many := nI 0) (rc := rc) (P := 1) (f := mid tx n + 1) hn ht (by decide) (syms tx 0 (mid tx n)) (run (isS tx n) (mid tx n + 1) 8) 0 m g1 (by omega) (by omega) (by rw [if_neg (by decide), if_neg (by decide)]; exact r1)
        rw [if_neg (by decide), if_neg (by decide)] at r2
        rw [Nat.add_zero] at e2
        have e2 : fx6 (fM_readText_32 (nI n) Mt) m (nI 0) g1 rc (nI 1) (nI 0) (nI (mid tx n + 1)) = fx6 (fM_readText_32 (nI n) Mt) (m - run (isS tx n) (mid tx n + 1) 8) (nI 0) g2 rc (nI 1) (nI 0) (nI (ends tx n)) := e2
        have hen : ends tx n ≤ n := run_end (by omega)
        rw [e2, z]
        by_cases q3 : ends tx n < n ∧ ∃ s, symb (tx (ends tx n)) = some s
        · obtain ⟨q3, s, hs2⟩ := q3
          have hfit : fit 0 (tx (ends tx n)) = false := by
            unfold fit
            rw [if_pos rfl]
            by_cases c59 : tx (ends tx n) = 59
            · rw [c59, show symb 59 = none by decide] at hs2; cases hs2
            · simp [c59]
          have hb : run (isS tx n) (mid tx n + 1) 8 = 8 := by
            rcases rAfter (tx := tx) (n := n) (f := mid tx n + 1) q3 with ⟨_, _, h8⟩ | h0
            · exact h8
            · have : symb (tx (ends tx n)) = none := h0
              rw [hs2] at this; cases this
          obtain ⟨m2, hm2⟩ : ∃ m2, m - run (isS tx n) (mid tx n + 1) 8 = m2 + 1 := ⟨m - run (isS tx n) (mid tx n + 1) 8 - 1, by omega⟩
          have hl := r2.l1
          rw [syms_len, hb] at hl
          rw [cerr_bad q3 hfit]
          refine ⟨nI 0, g2, rc, ?_, fun z2 => by cases z2⟩
          rw [hm2, rStepF hn ht (P := 1) (by decide) q3 hs2 hl]
          rfl
        · obtain ⟨many', rc', e3, b1, b2⟩ := rCons hn ht g2 4 0 (ends tx n) (m - run (isS tx n) (mid tx n + 1) 8) 1 rc (by omega) hen (by omega) (Or.inr ⟨rfl, fun hlt => by
            cases hc : symb (tx (ends tx n)) with
            | none => rfl
            | some s => exact absurd ⟨hlt, s, hc⟩ q3⟩)
          refine ⟨many', g2, rc', e3, fun z2 => ⟨r2, ?_⟩⟩
          obtain ⟨c', d1, d2, d3, d4, d5⟩ := b2 z2
          exact ⟨c', d2, d3, by omega, fun i hi => by have := d5 i (Nat.zero_le _) hi; rw [Nat.sub_zero] at this; exact this⟩
      · rw [if_neg q2]
        have z : terr tx n = some (mid tx n) := by
          unfold terr
          rw [a0, if_neg q2]
        exact ⟨nI 0, g1, rc, by rw [z]; rfl, fun z2 => by rw [z] at z2; cases z2⟩
end RD
set_option maxRecDepth 100000 in
theorem pErrorPosition {Tn : Int32} {Tc : Nat → Int32} {Mn : Int32} {Mt : Nat → Int32} {n : Nat} {tx : Nat → Nat} (h : RT Tn Tc Mn Mt n tx) (read rc : Nat → Int32) :
    ∃ r many' read' rc', fX_errorPosition Tn Tc = some r ∧ fM_errorPosition Mn Mt read rc = some (r, many', read', rc') := by
  obtain ⟨hn, rfl, rfl, ht⟩ := h
  obtain ⟨many', read', rc', e, -⟩ := mReadText hn (fun j hj => ⟨(ht j hj).1, (ht j hj).2.2⟩) read rc
  refine ⟨eres (terr tx n), many', read', rc', ?_, ?_⟩
  · simp -implicitDefEqProofs (disch := omega) only [fX_errorPosition, litI, litL, nI_add, pk_mul, bd0_e, bd1_e, bd2_e, bd3_e, bd4_e, st_e, tFirstError hn (fun j hj => ⟨(ht j hj).1, (ht j hj).2.1⟩)]
  · simp -implicitDefEqProofs (disch := omega) only [fM_errorPosition, litI, litL, nI_add, pk_mul, bd0_e, bd1_e, bd2_e, bd3_e, bd4_e, st_e, e]
