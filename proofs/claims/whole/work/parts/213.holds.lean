/-! satisfies and randomChecks -/
def RAI (Al : Nat → Int64) (Ak : Nat → Int32) : Prop := Ak 1 = nI 1 ∧ Ak 2 = nI 1 ∧ Al 1 = lN 0 ∧ Al 2 = lN 1
set_option maxRecDepth 100000 in
theorem RAI.give {Al : Nat → Int64} {Ak : Nat → Int32} (h : RAI Al Ak) {v : Nat} (x : Int64) (y : Int32) : RAI (vp_updL Al (v + 3) x) (upd Ak (v + 3) y) := by
  obtain ⟨h1, h2, h3, h4⟩ := h
  exact ⟨by rw [upd_e, if_neg (by omega)]; exact h1, by rw [upd_e, if_neg (by omega)]; exact h2, by rw [updL_e, if_neg (by omega)]; exact h3, by rw [updL_e, if_neg (by omega)]; exact h4⟩
set_option maxRecDepth 100000 in
theorem aLengthOf {Al : Nat → Int64} {Ak : Nat → Int32} {w : Nat → List Nat} {N : Nat} (hA : RA Al Ak w N) {v : Nat} (hv : v < 4) : fA_lengthOf Ak (nI (v + 2 + 1)) = some (nI (w (v + 2)).length) := by
  obtain ⟨w1, w2, w3, w4⟩ := hA (v + 2) (by omega)
  have e : (v + 2 + 1) % 8 = v + 2 + 1 := Nat.mod_eq_of_lt (by omega)
  simp -implicitDefEqProofs (disch := omega) only [fA_lengthOf, litI, litL, nI_add, pk_mul, bd0_e, bd1_e, bd2_e, bd3_e, bd4_e, st_e, and7, e, nI_leI, nI_ltI, nI_eq, if_pos, if_neg, if_true, if_false, ld_nI, sti_nI, stl_nI, w3]
set_option maxRecDepth 100000 in
theorem xHolds52 {Al : Nat → Int64} {Ak : Nat → Int32} {w : Nat → List Nat} {N : Nat} (hA : RA Al Ak w N) (hN : N ≤ 5) {Cn : Int32} {Cv Cr Ck : Nat → Int32} {many : Int32} {con : Nat → Int32} {cs : List (Nat × Nat × Nat)} (h : RC Cn Cv Cr Ck many con cs) {xs ys : List Nat} (hx : okS 12 xs) (hy : okS 12 ys) :
    ∀ (d i m : Nat), i + d = 4 → d < m → fx1 (fX_holdsFor_52 (lN (pq xs)) (lN (pq ys)) Al Ak Cn Cv Cr Ck) m (nI i) = some (nI (b1 (aC cs w i d && decide (xs.flatMap w = ys.flatMap w))), Al, Ak) := by
  intro d
  induction d with
  | zero =>
    intro i m hi hm
    obtain ⟨m, rfl⟩ := succ_of hm
    have e := aEquates hA hN hx hy
    rw [aC, Bool.true_and]
    cases o : decide (xs.flatMap w = ys.flatMap w) with
    | true =>
      rw [o, b1_t] at e
      rw [b1_t]
      simp -implicitDefEqProofs (disch := omega) only [fx1_s, fX_holdsFor_52, litI, litL, nI_add, pk_mul, bd0_e, bd1_e, bd2_e, bd3_e, bd4_e, st_e, nI_leI, nI_ltI, nI_eq, if_pos, if_neg, if_true, if_false, ld_nI, sti_nI, stl_nI, e, ckzn1]
    | false =>
      rw [o, b1_f] at e
      rw [b1_f]
      simp -implicitDefEqProofs (disch := omega) only [fx1_s, fX_holdsFor_52, litI, litL, nI_add, pk_mul, bd0_e, bd1_e, bd2_e, bd3_e, bd4_e, st_e, nI_leI, nI_ltI, nI_eq, if_pos, if_neg, if_true, if_false, ld_nI, sti_nI, stl_nI, e, ckzn0]
  | succ d ih =>
    intro i m hi hm
    obtain ⟨m, rfl⟩ := succ_of hm
    have el := aLengthOf hA (v := i) (by omega)
    have hl := (hA (i + 2) (by omega)).1
    have ec := cAllow h (v := i) (k := (w (i + 2)).length) (by omega) (by omega)
    rw [aC]
    cases o : alw i (w (i + 2)).length cs with
    | true =>
      rw [o, b1_t] at ec
      rw [Bool.true_and, ← ih (i + 1) m (by omega) (by omega)]
      simp -implicitDefEqProofs (disch := omega) only [fx1_s, fX_holdsFor_52, zVar, litI, litL, nI_add, pk_mul, bd0_e, bd1_e, bd2_e, bd3_e, bd4_e, st_e, nI_leI, nI_ltI, nI_eq, if_pos, if_neg, if_true, if_false, ld_nI, sti_nI, stl_nI, el, ec]
    | false =>
      rw [o, b1_f] at ec
      rw [Bool.false_and, Bool.false_and, b1_f]
      simp -implicitDefEqProofs (disch := omega) only [fx1_s, fX_holdsFor_52, zVar, litI, litL, nI_add, pk_mul, bd0_e, bd1_e, bd2_e, bd3_e, bd4_e, st_e, nI_leI, nI_ltI, nI_eq, if_pos, if_neg, if_true, if_false, ld_nI, sti_nI, stl_nI, el, ec]
set_option maxRecDepth 100000 in
theorem RA_four {Al : Nat → Int64} {Ak : Nat → Int32} (h : RAI Al Ak) {nm : Nat → Nat} (hnm : ∀ v, v < 4 → nm v < 63) : RA (vp_updL (vp_updL (vp_updL (vp_updL Al 3 (lN (vl 0 (wd (nm 0))))) 4 (lN (vl 0 (wd (nm 1))))) 5 (lN (vl 0 (wd (nm 2))))) 6 (lN (vl 0 (wd (nm 3))))) (upd (upd (upd (upd Ak 3 (nI (wl (nm 0)))) 4 (nI (wl (nm 1)))) 5 (nI (wl (nm 2)))) 6 (nI (wl (nm 3)))) (wOf nm) 5 := by
  obtain ⟨h1, h2, h3, h4⟩ := h
  intro s hs
  obtain ⟨a, b⟩ := wOf_ok hnm hs
  refine ⟨a, b, ?_, ?_⟩
  · rcases (show s = 0 ∨ s = 1 ∨ s = 2 ∨ s = 3 ∨ s = 4 ∨ s = 5 by omega) with rfl | rfl | rfl | rfl | rfl | rfl
    · exact h1
    · exact h2
    · show nI (wl (nm 0)) = nI (wd (nm 0)).length
      rw [wd_len]
    · show nI (wl (nm 1)) = nI (wd (nm 1)).length
      rw [wd_len]
    · show nI (wl (nm 2)) = nI (wd (nm 2)).length
      rw [wd_len]
    · show nI (wl (nm 3)) = nI (wd (nm 3)).length
      rw [wd_len]
  · rcases (show s = 0 ∨ s = 1 ∨ s = 2 ∨ s = 3 ∨ s = 4 ∨ s = 5 by omega) with rfl | rfl | rfl | rfl | rfl | rfl
    · exact h3
    · exact h4
    · rfl
    · rfl
    · rfl
    · rfl
set_option maxRecDepth 100000 in
theorem xHoldsFor {Al : Nat → Int64} {Ak : Nat → Int32} (hA : RAI Al Ak) {Cn : Int32} {Cv Cr Ck : Nat → Int32} {many : Int32} {con : Nat → Int32} {cs : List (Nat × Nat × Nat)} (h : RC Cn Cv Cr Ck many con cs) {xs ys : List Nat} (hx : okS 12 xs) (hy : okS 12 ys) {nm : Nat → Nat} (hnm : ∀ v, v < 4 → nm v < 63) :
    ∃ Al' Ak', fX_holdsFor (lN (pq xs)) (lN (pq ys)) Al Ak Cn Cv Cr Ck (nI (nm 0)) (nI (nm 1)) (nI (nm 2)) (nI (nm 3)) = some (nI (b1 (sol cs (wOf nm) xs ys)), Al', Ak') ∧ RAI Al' Ak' := by
  refine ⟨vp_updL (vp_updL (vp_updL (vp_updL Al 3 (lN (vl 0 (wd (nm 0))))) 4 (lN (vl 0 (wd (nm 1))))) 5 (lN (vl 0 (wd (nm 2))))) 6 (lN (vl 0 (wd (nm 3)))), upd (upd (upd (upd Ak 3 (nI (wl (nm 0)))) 4 (nI (wl (nm 1)))) 5 (nI (wl (nm 2)))) 6 (nI (wl (nm 3))), ?_, (((hA.give (v := 0) _ _).give (v := 1) _ _).give (v := 2) _ _).give (v := 3) _ _⟩
  have g0 : ∀ Al Ak, fA_giveNumber Al Ak (nI 3) (nI (nm 0)) = some (vp_updL Al 3 (lN (vl 0 (wd (nm 0)))), upd Ak 3 (nI (wl (nm 0)))) := fun Al Ak => aGiveNumber (v := 0) (by decide) (hnm 0 (by decide)) Al Ak
  have g1 : ∀ Al Ak, fA_giveNumber Al Ak (nI 4) (nI (nm 1)) = some (vp_updL Al 4 (lN (vl 0 (wd (nm 1)))), upd Ak 4 (nI (wl (nm 1)))) := fun Al Ak => aGiveNumber (v := 1) (by decide) (hnm 1 (by decide)) Al Ak
  have g2 : ∀ Al Ak, fA_giveNumber Al Ak (nI 5) (nI (nm 2)) = some (vp_updL Al 5 (lN (vl 0 (wd (nm 2)))), upd Ak 5 (nI (wl (nm 2)))) := fun Al Ak => aGiveNumber (v := 2) (by decide) (hnm 2 (by decide)) Al Ak
  have g3 : ∀ Al Ak, fA_giveNumber Al Ak (nI 6) (nI (nm 3)) = some (vp_updL Al 6 (lN (vl 0 (wd (nm 3)))), upd Ak 6 (nI (wl (nm 3)))) := fun Al Ak => aGiveNumber (v := 3) (by decide) (hnm 3 (by decide)) Al Ak
  have e := xHolds52 (RA_four hA hnm) (Nat.le_refl 5) h hx hy 4 0 FU (by omega) (fuel (by omega))
  show _ = some (nI (b1 (aC cs (wOf nm) 0 4 && decide (xs.flatMap (wOf nm) = ys.flatMap (wOf nm)))), _, _)
  rw [← e]
  simp -implicitDefEqProofs (disch := omega) only [fX_holdsFor, fZ_variable, litI, litL, nI_add, pk_mul, bd0_e, bd1_e, bd2_e, bd3_e, bd4_e, st_e, g0, g1, g2, g3]
set_option maxRecDepth 100000 in
theorem xWordNo {x : Int32} (h : x < 0 ∨ nI 63 ≤ x) : fX_isWordNumber x = some (nI 0) ∧ fM_in x.toInt64 (lN 0) (lN 62) = some (nI 0) := by
  rcases h with h | h
  · refine ⟨?_, mInLo h⟩
    rw [fX_isWordNumber, if_pos h]; rfl
  · refine ⟨?_, mInHi (n := 62) (by decide) (hi_of (by decide) h)⟩
    rw [fX_isWordNumber, if_neg (not_lo (by decide) h), if_pos (show (62 : Int32) < x from hi_of (by decide) h)]; rfl
set_option maxRecDepth 100000 in
theorem xWordYes {v : Nat} (h : v < 63) : fX_isWordNumber (nI v) = some (nI 1) ∧ fM_in (nI v).toInt64 (lN 0) (lN 62) = some (nI 1) := by
  refine ⟨?_, mInIn (n := 62) (by decide) (by omega)⟩
  simp -implicitDefEqProofs (disch := omega) only [fX_isWordNumber, litI, litL, nI_add, pk_mul, bd0_e, bd1_e, bd2_e, bd3_e, bd4_e, st_e, nI_leI, nI_ltI, nI_eq, if_pos, if_neg, if_true, if_false, ld_nI, sti_nI, stl_nI]
set_option maxRecDepth 100000 in
theorem pSatisfies {El Er : Int64} {now : Nat → Int32} {xs ys : List Nat} (h : RE El Er now xs ys) {Al : Nat → Int64} {Ak : Nat → Int32} (hA : RAI Al Ak) {Cn : Int32} {Cv Cr Ck : Nat → Int32} {many : Int32} {con : Nat → Int32} {cs : List (Nat × Nat × Nat)} (hC : RC Cn Cv Cr Ck many con cs) (word size number : Nat → Int32) (x1 x2 x3 x4 : Int32) :
    ∃ r Al' Ak' word' size' number', fX_satisfies El Er Al Ak Cn Cv Cr Ck x1 x2 x3 x4 = some (r, Al', Ak') ∧ fM_satisfies many now con word size number x1 x2 x3 x4 = some (r, word', size', number') ∧ RAI Al' Ak' := by
  obtain ⟨hx, hy, rfl, rfl, hr⟩ := h
  rcases pk_ix x1 (n := 63) (by decide) with c | c | ⟨n1, h1, rfl⟩
  · obtain ⟨a, b⟩ := xWordNo (Or.inl c)
    exact ⟨-2, Al, Ak, word, size, number, by simp -implicitDefEqProofs (disch := omega) only [fX_satisfies, litI, litL, nI_add, pk_mul, bd0_e, bd1_e, bd2_e, bd3_e, bd4_e, st_e, nI_leI, nI_ltI, nI_eq, if_pos, if_neg, if_true, if_false, ld_nI, sti_nI, stl_nI, a] <;> rfl, by simp -implicitDefEqProofs (disch := omega) only [fM_satisfies, litI, litL, nI_add, pk_mul, bd0_e, bd1_e, bd2_e, bd3_e, bd4_e, st_e, nI_leI, nI_ltI, nI_eq, if_pos, if_neg, if_true, if_false, ld_nI, sti_nI, stl_nI, b] <;> rfl, hA⟩
  · obtain ⟨a, b⟩ := xWordNo (Or.inr c)
    exact ⟨-2, Al, Ak, word, size, number, by simp -implicitDefEqProofs (disch := omega) only [fX_satisfies, litI, litL, nI_add, pk_mul, bd0_e, bd1_e, bd2_e, bd3_e, bd4_e, st_e, nI_leI, nI_ltI, nI_eq, if_pos, if_neg, if_true, if_false, ld_nI, sti_nI, stl_nI, a] <;> rfl, by simp -implicitDefEqProofs (disch := omega) only [fM_satisfies, litI, litL, nI_add, pk_mul, bd0_e, bd1_e, bd2_e, bd3_e, bd4_e, st_e, nI_leI, nI_ltI, nI_eq, if_pos, if_neg, if_true, if_false, ld_nI, sti_nI, stl_nI, b] <;> rfl, hA⟩
  obtain ⟨a1, b1'⟩ := xWordYes h1
  rcases pk_ix x2 (n := 63) (by decide) with c | c | ⟨n2, h2, rfl⟩
  · obtain ⟨a, b⟩ := xWordNo (Or.inl c)
    exact ⟨-2, Al, Ak, word, size, number, by simp -implicitDefEqProofs (disch := omega) only [fX_satisfies, litI, litL, nI_add, pk_mul, bd0_e, bd1_e, bd2_e, bd3_e, bd4_e, st_e, nI_leI, nI_ltI, nI_eq, if_pos, if_neg, if_true, if_false, ld_nI, sti_nI, stl_nI, a, a1] <;> rfl, by simp -implicitDefEqProofs (disch := omega) only [fM_satisfies, litI, litL, nI_add, pk_mul, bd0_e, bd1_e, bd2_e, bd3_e, bd4_e, st_e, nI_leI, nI_ltI, nI_eq, if_pos, if_neg, if_true, if_false, ld_nI, sti_nI, stl_nI, b, b1'] <;> rfl, hA⟩
  · obtain ⟨a, b⟩ := xWordNo (Or.inr c)
    exact ⟨-2, Al, Ak, word, size, number, by simp -implicitDefEqProofs (disch := omega) only [fX_satisfies, litI, litL, nI_add, pk_mul, bd0_e, bd1_e, bd2_e, bd3_e, bd4_e, st_e, nI_leI, nI_ltI, nI_eq, if_pos, if_neg, if_true, if_false, ld_nI, sti_nI, stl_nI, a, a1] <;> rfl, by simp -implicitDefEqProofs (disch := omega) only [fM_satisfies, litI, litL, nI_add, pk_mul, bd0_e, bd1_e, bd2_e, bd3_e, bd4_e, st_e, nI_leI, nI_ltI, nI_eq, if_pos, if_neg, if_true, if_false, ld_nI, sti_nI, stl_nI, b, b1'] <;> rfl, hA⟩
  obtain ⟨a2, b2⟩ := xWordYes h2
  rcases pk_ix x3 (n := 63) (by decide) with c | c | ⟨n3, h3, rfl⟩
  · obtain ⟨a, b⟩ := xWordNo (Or.inl c)
    exact ⟨-2, Al, Ak, word, size, number, by simp -implicitDefEqProofs (disch := omega) only [fX_satisfies, litI, litL, nI_add, pk_mul, bd0_e, bd1_e, bd2_e, bd3_e, bd4_e, st_e, nI_leI, nI_ltI, nI_eq, if_pos, if_neg, if_true, if_false, ld_nI, sti_nI, stl_nI, a, a1, a2] <;> rfl, by simp -implicitDefEqProofs (disch := omega) only [fM_satisfies, litI, litL, nI_add, pk_mul, bd0_e, bd1_e, bd2_e, bd3_e, bd4_e, st_e, nI_leI, nI_ltI, nI_eq, if_pos, if_neg, if_true, if_false, ld_nI, sti_nI, stl_nI, b, b1', b2] <;> rfl, hA⟩
  · obtain ⟨a, b⟩ := xWordNo (Or.inr c)
    exact ⟨-2, Al, Ak, word, size, number, by simp -implicitDefEqProofs (disch := omega) only [fX_satisfies, litI, litL, nI_add, pk_mul, bd0_e, bd1_e, bd2_e, bd3_e, bd4_e, st_e, nI_leI, nI_ltI, nI_eq, if_pos, if_neg, if_true, if_false, ld_nI, sti_nI, stl_nI, a, a1, a2] <;> rfl, by simp -implicitDefEqProofs (disch := omega) only [fM_satisfies, litI, litL, nI_add, pk_mul, bd0_e, bd1_e, bd2_e, bd3_e, bd4_e, st_e, nI_leI, nI_ltI, nI_eq, if_pos, if_neg, if_true, if_false, ld_nI, sti_nI, stl_nI, b, b1', b2] <;> rfl, hA⟩
  obtain ⟨a3, b3⟩ := xWordYes h3
  rcases pk_ix x4 (n := 63) (by decide) with c | c | ⟨n4, h4, rfl⟩
  · obtain ⟨a, b⟩ := xWordNo (Or.inl c)
    exact ⟨-2, Al, Ak, word, size, number, by simp -implicitDefEqProofs (disch := omega) only [fX_satisfies, litI, litL, nI_add, pk_mul, bd0_e, bd1_e, bd2_e, bd3_e, bd4_e, st_e, nI_leI, nI_ltI, nI_eq, if_pos, if_neg, if_true, if_false, ld_nI, sti_nI, stl_nI, a, a1, a2, a3] <;> rfl, by simp -implicitDefEqProofs (disch := omega) only [fM_satisfies, litI, litL, nI_add, pk_mul, bd0_e, bd1_e, bd2_e, bd3_e, bd4_e, st_e, nI_leI, nI_ltI, nI_eq, if_pos, if_neg, if_true, if_false, ld_nI, sti_nI, stl_nI, b, b1', b2, b3] <;> rfl, hA⟩
  · obtain ⟨a, b⟩ := xWordNo (Or.inr c)
    exact ⟨-2, Al, Ak, word, size, number, by simp -implicitDefEqProofs (disch := omega) only [fX_satisfies, litI, litL, nI_add, pk_mul, bd0_e, bd1_e, bd2_e, bd3_e, bd4_e, st_e, nI_leI, nI_ltI, nI_eq, if_pos, if_neg, if_true, if_false, ld_nI, sti_nI, stl_nI, a, a1, a2, a3] <;> rfl, by simp -implicitDefEqProofs (disch := omega) only [fM_satisfies, litI, litL, nI_add, pk_mul, bd0_e, bd1_e, bd2_e, bd3_e, bd4_e, st_e, nI_leI, nI_ltI, nI_eq, if_pos, if_neg, if_true, if_false, ld_nI, sti_nI, stl_nI, b, b1', b2, b3] <;> rfl, hA⟩
  obtain ⟨a4, b4⟩ := xWordYes h4
  let nm : Nat → Nat := fun v => if v = 0 then n1 else if v = 1 then n2 else if v = 2 then n3 else n4
  have hnm : ∀ v, v < 4 → nm v < 63 := fun v hv => by
    rcases (show v = 0 ∨ v = 1 ∨ v = 2 ∨ v = 3 by omega) with rfl | rfl | rfl | rfl
    · exact h1
    · exact h2
    · exact h3
    · exact h4
  obtain ⟨Al', Ak', e1, hA'⟩ := xHoldsFor hA hC hx hy hnm
  obtain ⟨word', size', e2⟩ := mIsSolution hC (number := upd (upd (upd (upd number 0 (nI n1)) 1 (nI n2)) 2 (nI n3)) 3 (nI n4)) (nm := nm) (fun v hv => ⟨hnm v hv, by
    rcases (show v = 0 ∨ v = 1 ∨ v = 2 ∨ v = 3 by omega) with rfl | rfl | rfl | rfl <;> rfl⟩) hr hx hy word size
  have e1 : fX_holdsFor (lN (pq xs)) (lN (pq ys)) Al Ak Cn Cv Cr Ck (nI n1) (nI n2) (nI n3) (nI n4) = some (nI (b1 (sol cs (wOf nm) xs ys)), Al', Ak') := e1
  cases o : sol cs (wOf nm) xs ys with
  | true =>
    rw [o, b1_t] at e1 e2
    refine ⟨nI 1, Al', Ak', word', size', upd (upd (upd (upd number 0 (nI n1)) 1 (nI n2)) 2 (nI n3)) 3 (nI n4), ?_, ?_, hA'⟩
    · simp -implicitDefEqProofs (disch := omega) only [fX_satisfies, litI, litL, nI_add, pk_mul, bd0_e, bd1_e, bd2_e, bd3_e, bd4_e, st_e, nI_leI, nI_ltI, nI_eq, if_pos, if_neg, if_true, if_false, ld_nI, sti_nI, stl_nI, a1, a2, a3, a4, e1] <;> rfl
    · simp -implicitDefEqProofs (disch := omega) only [fM_satisfies, litI, litL, nI_add, pk_mul, bd0_e, bd1_e, bd2_e, bd3_e, bd4_e, st_e, nI_leI, nI_ltI, nI_eq, if_pos, if_neg, if_true, if_false, ld_nI, sti_nI, stl_nI, b1', b2, b3, b4, e2] <;> rfl
  | false =>
    rw [o, b1_f] at e1 e2
    refine ⟨nI 0, Al', Ak', word', size', upd (upd (upd (upd number 0 (nI n1)) 1 (nI n2)) 2 (nI n3)) 3 (nI n4), ?_, ?_, hA'⟩
    · simp -implicitDefEqProofs (disch := omega) only [fX_satisfies, litI, litL, nI_add, pk_mul, bd0_e, bd1_e, bd2_e, bd3_e, bd4_e, st_e, nI_leI, nI_ltI, nI_eq, if_pos, if_neg, if_true, if_false, ld_nI, sti_nI, stl_nI, a1, a2, a3, a4, e1] <;> rfl
    · simp -implicitDefEqProofs (disch := omega) only [fM_satisfies, litI, litL, nI_add, pk_mul, bd0_e, bd1_e, bd2_e, bd3_e, bd4_e, st_e, nI_leI, nI_ltI, nI_eq, if_pos, if_neg, if_true, if_false, ld_nI, sti_nI, stl_nI, b1', b2, b3, b4, e2] <;> rfl
/-! randomChecks -/
set_option maxRecDepth 100000 in
theorem mOut {x : Int32} {a n : Nat} (ha : a < 2 ^ 31) (hn : n < 2 ^ 31) (h : x < nI a ∨ nI n < x) : fM_in x.toInt64 (lN a) (lN n) = some (nI 0) := by
  rw [mIn, if_pos ?_]
  · rfl
  · rw [← nI_l ha, ← nI_l hn]
    rcases h with h | h
    · exact Or.inl ((fa_wide_lt x _).mpr h)
    · exact Or.inr ((fa_wide_lt _ x).mpr h)
set_option maxRecDepth 100000 in
theorem rem_n {a d : Nat} (ha : a < 2 ^ 31) (h0 : 0 < d) (hd : d < 2 ^ 31) : rem (nI a) (nI d) = nI (a % d) := by rw [rem, pk_rem ha h0 hd]
set_option maxRecDepth 100000 in
theorem seed_n (x : Int64) : ∃ q, q < 2 ^ 31 ∧ (ushrL x (nI 33)).toInt32 = nI q := by
  obtain ⟨n, hn, rfl⟩ := wb_of x
  refine ⟨n / 2 ^ 33, ?_, ?_⟩
  · exact Nat.div_lt_of_lt_mul (by rw [show (2 : Nat) ^ 33 * 2 ^ 31 = 2 ^ 64 from by decide]; exact hn)
  · rw [ushk hn (by decide), lN_i]
section RD
variable {k24 : (Nat → Int32) → (Nat → Int32) → (Nat → Int32) → Int64 → Int32 → Int32 → Option (Int32 × (Nat → Int32) × (Nat → Int32) × (Nat → Int32))} {many : Int32} {now con word size : Nat → Int32} {v3 : Int32} {v4 : Int64} {v6 v7 : Int32}
set_option maxRecDepth 100000 in
theorem rd_step {number : Nat → Int32} {q i m : Nat} (hq : q < 2 ^ 31) (hi : i < 4) : fx3 (fM_randomChecks_53 k24 many now con word size v3 v4 v6 v7) (m + 1) number (nI q) (nI i) = fx3 (fM_randomChecks_53 k24 many now con word size v3 v4 v6 v7) m (upd number i (nI (q % 15))) (nI (q / 15)) (nI (i + 1)) := by
  have e1 := rem_n hq (d := 15) (by decide) (by decide)
  have e2 := pk_div hq (d := 15) (by decide) (by decide)
  simp -implicitDefEqProofs (disch := omega) only [fx3_s, fM_randomChecks_53, litI, litL, nI_add, pk_mul, bd0_e, bd1_e, bd2_e, bd3_e, bd4_e, st_e, nI_leI, nI_ltI, nI_eq, if_pos, if_neg, if_true, if_false, ld_nI, sti_nI, stl_nI, e1, e2]
set_option maxRecDepth 100000 in
theorem rd_all {number : Nat → Int32} {q m : Nat} (hq : q < 2 ^ 31) (hm : 3 < m) : ∃ m', fx3 (fM_randomChecks_53 k24 many now con word size v3 v4 v6 v7) m number (nI q) (nI 0) = fx3 (fM_randomChecks_53 k24 many now con word size v3 v4 v6 v7) m' (upd (upd (upd (upd number 0 (nI (q % 15))) 1 (nI (q / 15 % 15))) 2 (nI (q / 15 / 15 % 15))) 3 (nI (q / 15 / 15 / 15 % 15))) (nI (q / 15 / 15 / 15 / 15)) (nI 4) ∧ m' + 4 = m := by
  obtain ⟨m, rfl⟩ := succ_of hm
  obtain ⟨m, rfl⟩ := succ_of (show 2 < m by omega)
  obtain ⟨m, rfl⟩ := succ_of (show 1 < m by omega)
  obtain ⟨m, rfl⟩ := succ_of (show 0 < m by omega)
  have q1 : q / 15 < 2 ^ 31 := Nat.lt_of_le_of_lt (Nat.div_le_self _ _) hq
  have q2 : q / 15 / 15 < 2 ^ 31 := Nat.lt_of_le_of_lt (Nat.div_le_self _ _) q1
  have q3 : q / 15 / 15 / 15 < 2 ^ 31 := Nat.lt_of_le_of_lt (Nat.div_le_self _ _) q2
  exact ⟨m, by rw [rd_step hq (by decide), rd_step q1 (by decide), rd_step q2 (by decide), rd_step q3 (by decide)], by omega⟩
end RD
def nmOf (q v : Nat) : Nat := if v = 0 then q % 15 else if v = 1 then q / 15 % 15 else if v = 2 then q / 15 / 15 % 15 else q / 15 / 15 / 15 % 15
set_option maxRecDepth 100000 in
theorem nmOf_lt (q v : Nat) : nmOf q v < 63 := by unfold nmOf; repeat' split
                                                  all_goals omega
set_option maxRecDepth 100000 in
theorem pRandomLoop {now : Nat → Int32} {xs ys : List Nat} (hr : rowIs now xs ys) (hx : okS 12 xs) (hy : okS 12 ys) {Cn : Int32} {Cv Cr Ck : Nat → Int32} {many : Int32} {con : Nat → Int32} {cs : List (Nat × Nat × Nat)} (hC : RC Cn Cv Cr Ck many con cs) {k : Nat} (hk : k ≤ 200) :
    ∀ (d j m c : Nat) (seed : Int64) (Al : Nat → Int64) (Ak word size number : Nat → Int32), j + d = k → d < m → c ≤ j → RAI Al Ak → ∃ r Al' Ak' word' size' number', fx5 (fX_randomChecks_24 (lN (pq xs)) (lN (pq ys)) Cn Cv Cr Ck (nI k)) m Al Ak seed (nI c) (nI j) = some (r, Al', Ak') ∧ fx6 (fM_randomChecks_24 many now con (nI k)) m word size number seed (nI c) (nI j) = some (r, word', size', number') ∧ RAI Al' Ak' := by
  intro d
  induction d with
  | zero =>
    intro j m c seed Al Ak word size number hj hm hc hA
    obtain ⟨m, rfl⟩ := succ_of hm
    refine ⟨nI c, Al, Ak, word, size, number, ?_, ?_, hA⟩
    · simp -implicitDefEqProofs (disch := omega) only [fx5_s, fX_randomChecks_24, litI, litL, nI_add, pk_mul, bd0_e, bd1_e, bd2_e, bd3_e, bd4_e, st_e, nI_leI, nI_ltI, nI_eq, if_pos, if_neg, if_true, if_false, ld_nI, sti_nI, stl_nI]
    · simp -implicitDefEqProofs (disch := omega) only [fx6_s, fM_randomChecks_24, litI, litL, nI_add, pk_mul, bd0_e, bd1_e, bd2_e, bd3_e, bd4_e, st_e, nI_leI, nI_ltI, nI_eq, if_pos, if_neg, if_true, if_false, ld_nI, sti_nI, stl_nI]
  | succ d ih =>
    intro j m c seed Al Ak word size number hj hm hc hA
    obtain ⟨m, rfl⟩ := succ_of hm
    generalize hsd : seed * lN 6364136223846793005 + lN 1442695040888963407 = seed'
    obtain ⟨q, hq, eq⟩ := seed_n seed'
    have q15 : rem (nI q) (nI 15) = nI (nmOf q 0) := rem_n hq (by decide) (by decide)
    have qd1 : nI q / nI 15 = nI (q / 15) := pk_div hq (by decide) (by decide)
    have qd2 : nI q / nI 225 = nI (q / 225) := pk_div hq (by decide) (by decide)
    have qd3 : nI q / nI 3375 = nI (q / 3375) := pk_div hq (by decide) (by decide)
    have r1 : rem (nI (q / 15)) (nI 15) = nI (nmOf q 1) := rem_n (Nat.lt_of_le_of_lt (Nat.div_le_self _ _) hq) (by decide) (by decide)
    have r2 : rem (nI (q / 225)) (nI 15) = nI (nmOf q 2) := by
      rw [rem_n (Nat.lt_of_le_of_lt (Nat.div_le_self _ _) hq) (by decide) (by decide), show q / 225 = q / 15 / 15 by rw [Nat.div_div_eq_div_mul]]
      rfl
    have r3 : rem (nI (q / 3375)) (nI 15) = nI (nmOf q 3) := by
      rw [rem_n (Nat.lt_of_le_of_lt (Nat.div_le_self _ _) hq) (by decide) (by decide), show q / 3375 = q / 15 / 15 / 15 by rw [Nat.div_div_eq_div_mul, Nat.div_div_eq_div_mul]]
      rfl
    obtain ⟨Al1, Ak1, e1, hA1⟩ := xHoldsFor hA hC hx hy (nm := nmOf q) (fun v hv => nmOf_lt q v)
    obtain ⟨word1, size1, e2⟩ := mIsSolution hC (number := upd (upd (upd (upd number 0 (nI (q % 15))) 1 (nI (q / 15 % 15))) 2 (nI (q / 15 / 15 % 15))) 3 (nI (q / 15 / 15 / 15 % 15))) (nm := nmOf q) (fun v hv => ⟨nmOf_lt q v, by
      rcases (show v = 0 ∨ v = 1 ∨ v = 2 ∨ v = 3 by omega) with rfl | rfl | rfl | rfl <;> rfl⟩) hr hx hy word size
    obtain ⟨m2, e3, hm2⟩ := rd_all (k24 := fx6 (fM_randomChecks_24 many now con (nI k)) m) (many := many) (now := now) (con := con) (word := word) (size := size) (v3 := nI k) (v4 := seed') (v6 := nI c) (v7 := nI j) (number := number) (m := FU) hq (fuel (by decide))
    have hm3 : 4 < m2 + 4 := by rw [hm2]; exact fuel (by decide)
    obtain ⟨m3, rfl⟩ := succ_of (show 0 < m2 by omega)
    cases o : sol cs (wOf (nmOf q)) xs ys with
    | true =>
      rw [o, b1_t] at e1 e2
      obtain ⟨r, Al', Ak', word', size', number', f1, f2, hA'⟩ := ih (j + 1) m (c + 1) seed' Al1 Ak1 word1 size1 (upd (upd (upd (upd number 0 (nI (q % 15))) 1 (nI (q / 15 % 15))) 2 (nI (q / 15 / 15 % 15))) 3 (nI (q / 15 / 15 / 15 % 15))) (by omega) (by omega) (by omega) hA1
      refine ⟨r, Al', Ak', word', size', number', ?_, ?_, hA'⟩
      · rw [← f1]
        simp -implicitDefEqProofs (disch := omega) only [fx5_s, fX_randomChecks_24, litI, litL, nI_add, pk_mul, bd0_e, bd1_e, bd2_e, bd3_e, bd4_e, st_e, nI_leI, nI_ltI, nI_eq, if_pos, if_neg, if_true, if_false, ld_nI, sti_nI, stl_nI, hsd, eq, q15, qd1, qd2, qd3, r1, r2, r3, e1]
      · rw [← f2]
        have e4 : fx3 (fM_randomChecks_53 (fx6 (fM_randomChecks_24 many now con (nI k)) m) many now con word size (nI k) seed' (nI c) (nI j)) FU number (nI q) (nI 0) = fx6 (fM_randomChecks_24 many now con (nI k)) m word1 size1 (upd (upd (upd (upd number 0 (nI (q % 15))) 1 (nI (q / 15 % 15))) 2 (nI (q / 15 / 15 % 15))) 3 (nI (q / 15 / 15 / 15 % 15))) seed' (nI (c + 1)) (nI (j + 1)) := by
          rw [e3]
          simp -implicitDefEqProofs (disch := omega) only [fx3_s, fM_randomChecks_53, litI, litL, nI_add, pk_mul, bd0_e, bd1_e, bd2_e, bd3_e, bd4_e, st_e, nI_leI, nI_ltI, nI_eq, if_pos, if_neg, if_true, if_false, ld_nI, sti_nI, stl_nI, e2]
        simp -implicitDefEqProofs (disch := omega) only [fx6_s, fM_randomChecks_24, litI, litL, nI_add, pk_mul, bd0_e, bd1_e, bd2_e, bd3_e, bd4_e, st_e, nI_leI, nI_ltI, nI_eq, if_pos, if_neg, if_true, if_false, ld_nI, sti_nI, stl_nI, hsd, eq, e4]
    | false =>
      rw [o, b1_f] at e1 e2
      obtain ⟨r, Al', Ak', word', size', number', f1, f2, hA'⟩ := ih (j + 1) m c seed' Al1 Ak1 word1 size1 (upd (upd (upd (upd number 0 (nI (q % 15))) 1 (nI (q / 15 % 15))) 2 (nI (q / 15 / 15 % 15))) 3 (nI (q / 15 / 15 / 15 % 15))) (by omega) (by omega) (by omega) hA1
      refine ⟨r, Al', Ak', word', size', number', ?_, ?_, hA'⟩
      · rw [← f1]
        simp -implicitDefEqProofs (disch := omega) only [fx5_s, fX_randomChecks_24, litI, litL, nI_add, pk_mul, bd0_e, bd1_e, bd2_e, bd3_e, bd4_e, st_e, nI_leI, nI_ltI, nI_eq, if_pos, if_neg, if_true, if_false, ld_nI, sti_nI, stl_nI, hsd, eq, q15, qd1, qd2, qd3, r1, r2, r3, e1]
      · rw [← f2]
        have e4 : fx3 (fM_randomChecks_53 (fx6 (fM_randomChecks_24 many now con (nI k)) m) many now con word size (nI k) seed' (nI c) (nI j)) FU number (nI q) (nI 0) = fx6 (fM_randomChecks_24 many now con (nI k)) m word1 size1 (upd (upd (upd (upd number 0 (nI (q % 15))) 1 (nI (q / 15 % 15))) 2 (nI (q / 15 / 15 % 15))) 3 (nI (q / 15 / 15 / 15 % 15))) seed' (nI c) (nI (j + 1)) := by
          rw [e3]
          simp -implicitDefEqProofs (disch := omega) only [fx3_s, fM_randomChecks_53, litI, litL, nI_add, pk_mul, bd0_e, bd1_e, bd2_e, bd3_e, bd4_e, st_e, nI_leI, nI_ltI, nI_eq, if_pos, if_neg, if_true, if_false, ld_nI, sti_nI, stl_nI, e2, Nat.add_zero]
        simp -implicitDefEqProofs (disch := omega) only [fx6_s, fM_randomChecks_24, litI, litL, nI_add, pk_mul, bd0_e, bd1_e, bd2_e, bd3_e, bd4_e, st_e, nI_leI, nI_ltI, nI_eq, if_pos, if_neg, if_true, if_false, ld_nI, sti_nI, stl_nI, hsd, eq, e4]
set_option maxRecDepth 100000 in
theorem pRandomChecks {El Er : Int64} {now : Nat → Int32} {xs ys : List Nat} (h : RE El Er now xs ys) {Al : Nat → Int64} {Ak : Nat → Int32} (hA : RAI Al Ak) {Cn : Int32} {Cv Cr Ck : Nat → Int32} {many : Int32} {con : Nat → Int32} {cs : List (Nat × Nat × Nat)} (hC : RC Cn Cv Cr Ck many con cs) (word size number : Nat → Int32) (x1 : Int64) (x3 : Int32) :
    ∃ r Al' Ak' word' size' number', fX_randomChecks El Er Al Ak Cn Cv Cr Ck x1 x3 = some (r, Al', Ak') ∧ fM_randomChecks many now con word size number x1 x3 = some (r, word', size', number') ∧ RAI Al' Ak' := by
  obtain ⟨hx, hy, rfl, rfl, hr⟩ := h
  rcases pk_ix x3 (n := 201) (by decide) with c | c | ⟨k, hk, rfl⟩
  · have l : x3 < nI 1 := by
      rw [fa_lt] at c ⊢
      rw [nI_toInt (by decide)]
      have : (0 : Int32).toInt = 0 := by decide
      omega
    have b := mOut (a := 1) (n := 200) (by decide) (by decide) (Or.inl l)
    exact ⟨-2, Al, Ak, word, size, number, by simp -implicitDefEqProofs (disch := omega) only [fX_randomChecks, litI, litL, nI_add, pk_mul, bd0_e, bd1_e, bd2_e, bd3_e, bd4_e, st_e, l, if_true] <;> rfl, by simp -implicitDefEqProofs (disch := omega) only [fM_randomChecks, litI, litL, nI_add, pk_mul, bd0_e, bd1_e, bd2_e, bd3_e, bd4_e, st_e, nI_leI, nI_ltI, nI_eq, if_pos, if_neg, if_true, if_false, ld_nI, sti_nI, stl_nI, b] <;> rfl, hA⟩
  · have l : nI 200 < x3 := hi_of (by decide) c
    have b := mOut (a := 1) (n := 200) (by decide) (by decide) (Or.inr l)
    have n1 : ¬ x3 < nI 1 := by
      rw [fa_lt] at l ⊢
      rw [nI_toInt (by decide)] at l ⊢
      omega
    have n2 : ¬ x3 ≤ nI 200 := by
      rw [fa_lt] at l
      rw [fa_le]
      omega
    exact ⟨-2, Al, Ak, word, size, number, by simp -implicitDefEqProofs (disch := omega) only [fX_randomChecks, litI, litL, nI_add, pk_mul, bd0_e, bd1_e, bd2_e, bd3_e, bd4_e, st_e, n1, n2, if_false] <;> rfl, by simp -implicitDefEqProofs (disch := omega) only [fM_randomChecks, litI, litL, nI_add, pk_mul, bd0_e, bd1_e, bd2_e, bd3_e, bd4_e, st_e, nI_leI, nI_ltI, nI_eq, if_pos, if_neg, if_true, if_false, ld_nI, sti_nI, stl_nI, b] <;> rfl, hA⟩
  · have b := mInR (c := k) (a := 1) (b := 200) (by omega) (by decide) (by decide)
    by_cases q : 1 ≤ k
    · rw [if_pos ⟨q, by omega⟩] at b
      obtain ⟨r, Al', Ak', word', size', number', f1, f2, hA'⟩ := pRandomLoop hr hx hy hC (k := k) (by omega) k 0 FU 0 x1 Al Ak word size number (by omega) (fuel (by omega)) (Nat.le_refl 0) hA
      refine ⟨r, Al', Ak', word', size', number', ?_, ?_, hA'⟩
      · simp -implicitDefEqProofs (disch := omega) only [fX_randomChecks, litI, litL, nI_add, pk_mul, bd0_e, bd1_e, bd2_e, bd3_e, bd4_e, st_e, nI_leI, nI_ltI, nI_eq, if_pos, if_neg, if_true, if_false, ld_nI, sti_nI, stl_nI, f1]
      · simp -implicitDefEqProofs (disch := omega) only [fM_randomChecks, litI, litL, nI_add, pk_mul, bd0_e, bd1_e, bd2_e, bd3_e, bd4_e, st_e, nI_leI, nI_ltI, nI_eq, if_pos, if_neg, if_true, if_false, ld_nI, sti_nI, stl_nI, b, f2]
    · rw [if_neg (by omega)] at b
      exact ⟨-2, Al, Ak, word, size, number, by simp -implicitDefEqProofs (disch := omega) only [fX_randomChecks, litI, litL, nI_add, pk_mul, bd0_e, bd1_e, bd2_e, bd3_e, bd4_e, st_e, nI_leI, nI_ltI, nI_eq, if_pos, if_neg, if_true, if_false, ld_nI, sti_nI, stl_nI] <;> rfl, by simp -implicitDefEqProofs (disch := omega) only [fM_randomChecks, litI, litL, nI_add, pk_mul, bd0_e, bd1_e, bd2_e, bd3_e, bd4_e, st_e, nI_leI, nI_ltI, nI_eq, if_pos, if_neg, if_true, if_false, ld_nI, sti_nI, stl_nI, b] <;> rfl, hA⟩
