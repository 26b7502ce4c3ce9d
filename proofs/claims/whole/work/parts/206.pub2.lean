/-! undo, save, restore, counting letters -/
set_option maxRecDepth 100000 in
theorem mUndoLoop {a nx : Nat} (hx : nx < 14) (now diary : Nat → Int32) : ∃ g, fx2 (fM_undo_38 (nI a) (nI nx) diary) FU now (nI 0) = some (nI a, nI a, nI nx, g) ∧ ∀ k, k < 26 → g k = diary (26 * nx + k) := by
  have key : ∀ (d i n : Nat) (g : Nat → Int32), i + d = 26 → d < n → (∀ k, k < i → g k = diary (26 * nx + k)) → ∃ g', fx2 (fM_undo_38 (nI a) (nI nx) diary) n g (nI i) = some (nI a, nI a, nI nx, g') ∧ ∀ k, k < 26 → g' k = diary (26 * nx + k) := by
    intro d
    induction d with
    | zero =>
      intro i n g hi hn hg
      obtain ⟨n, rfl⟩ := succ_of hn
      refine ⟨g, ?_, fun k hk => hg k (by omega)⟩
      simp -implicitDefEqProofs (disch := omega) only [fx2_s, fM_undo_38, litI, litL, nI_add, pk_mul, bd0_e, bd1_e, bd2_e, bd3_e, bd4_e, st_e, nI_leI, nI_ltI, nI_eq, if_pos, if_neg, if_true, if_false, ld_nI, sti_nI, stl_nI]
    | succ d ih =>
      intro i n g hi hn hg
      obtain ⟨n, rfl⟩ := succ_of hn
      obtain ⟨g', e, hg'⟩ := ih (i + 1) n (upd g i (diary (26 * nx + i))) (by omega) (by omega) (fun k hk => by
        by_cases q : k = i
        · rw [q, upd_e, if_pos rfl]
        · rw [upd_e, if_neg q]; exact hg k (by omega))
      refine ⟨g', ?_, hg'⟩
      rw [← e]
      simp -implicitDefEqProofs (disch := omega) only [fx2_s, fM_undo_38, litI, litL, nI_add, pk_mul, bd0_e, bd1_e, bd2_e, bd3_e, bd4_e, st_e, nI_leI, nI_ltI, nI_eq, if_pos, if_neg, if_true, if_false, ld_nI, sti_nI, stl_nI]
  exact key 26 0 FU now (by omega) (fuel (by omega)) (fun k hk => absurd hk (by omega))
set_option maxRecDepth 100000 in
theorem pUndo {El Er : Int64} {now : Nat → Int32} {xs ys : List Nat} (h : RE El Er now xs ys) {Hn : Int32} {Hl Hr : Nat → Int64} {acts next : Int32} {diary : Nat → Int32} (hH : RH Hn Hl Hr acts next diary) :
    ∃ r El' Er' Hn' acts' next' now', fX_undo El Er Hn Hl Hr = some (r, El', Er', Hn') ∧ fM_undo acts next now diary = some (r, acts', next', now') ∧ (∃ xs ys, RE El' Er' now' xs ys) ∧ RH Hn' Hl Hr acts' next' diary := by
  obtain ⟨hs, nx, hl, hnx, rfl, rfl, rfl, hh⟩ := hH
  by_cases q : hs.length = 0
  · refine ⟨-3, El, Er, nI hs.length, nI hs.length, nI nx, now, ?_, ?_, ⟨xs, ys, h⟩, ⟨hs, nx, hl, hnx, rfl, rfl, rfl, hh⟩⟩
    · simp -implicitDefEqProofs (disch := omega) only [fX_undo, fH_size, litI, litL, nI_add, pk_mul, bd0_e, bd1_e, bd2_e, bd3_e, bd4_e, st_e, nI_leI, nI_ltI, nI_eq, if_pos, if_neg, if_true, if_false, ld_nI, sti_nI, stl_nI] <;> rfl
    · simp -implicitDefEqProofs (disch := omega) only [fM_undo, litI, litL, nI_add, pk_mul, bd0_e, bd1_e, bd2_e, bd3_e, bd4_e, st_e, nI_leI, nI_ltI, nI_eq, if_pos, if_neg, if_true, if_false, ld_nI, sti_nI, stl_nI] <;> rfl
  · have hlt : hs.length - 1 < hs.length := by omega
    obtain ⟨c1, c2, c3, c4, c5⟩ := hh (hs.length - 1) hs[hs.length - 1] (List.getElem?_eq_getElem hlt)
    obtain ⟨g, e1, hg⟩ := mUndoLoop (a := hs.length - 1) (nx := (nx + 13) % 14) (by omega) now diary
    refine ⟨nI (hs.length - 1), lN (pq hs[hs.length - 1].1), lN (pq hs[hs.length - 1].2), nI (hs.length - 1), nI (hs.length - 1), nI ((nx + 13) % 14), g, ?_, ?_, ⟨_, _, c1, c2, rfl, rfl, c5.cong (fun k hk => ?_)⟩, ?_⟩
    · rw [← c3, ← c4]
      simp -implicitDefEqProofs (disch := omega) only [fX_undo, fH_size, fH_takeBack, fE_set, litI, litL, nI_add, pk_mul, bd0_e, bd1_e, bd2_e, bd3_e, bd4_e, st_e, nI_leI, nI_ltI, nI_eq, if_pos, if_neg, if_true, if_false, ld_nI, sti_nI, stl_nI, pk_sub]
    · rw [← e1]
      simp -implicitDefEqProofs (disch := omega) only [fM_undo, litI, litL, nI_add, pk_mul, bd0_e, bd1_e, bd2_e, bd3_e, bd4_e, st_e, nI_leI, nI_ltI, nI_eq, if_pos, if_neg, if_true, if_false, ld_nI, sti_nI, stl_nI, pk_sub, rem_nI]
      rw [show nx + 14 - 1 = nx + 13 by omega]
    · rw [hg k hk, show (nx + 14 - hs.length + (hs.length - 1)) % 14 = (nx + 13) % 14 by omega]
    · refine ⟨hs.take (hs.length - 1), (nx + 13) % 14, by rw [List.length_take]; omega, by omega, ?_, ?_, rfl, fun i e he => ?_⟩
      · rw [List.length_take, Nat.min_eq_left (by omega)]
      · rw [List.length_take, Nat.min_eq_left (by omega)]
      · have hi : i < (hs.take (hs.length - 1)).length := (List.getElem?_eq_some_iff.mp he).1
        rw [List.length_take, Nat.min_eq_left (by omega)] at hi ⊢
        rw [List.getElem?_take, if_pos hi] at he
        obtain ⟨d1, d2, d3, d4, d5⟩ := hh i e he
        refine ⟨d1, d2, d3, d4, d5.cong (fun k hk => ?_)⟩
        rw [show ((nx + 13) % 14 + 14 - (hs.length - 1) + i) % 14 = (nx + 14 - hs.length + i) % 14 by omega]
/-- the save slots -/
def RS (Sl Sr : Nat → Int64) (Sf kept isKept : Nat → Int32) : Prop :=
  ∀ i, i < 2 → (Sf i = nI 0 ∧ isKept i = nI 0) ∨ (Sf i = nI 1 ∧ isKept i = nI 1 ∧ ∃ xs ys, okS 12 xs ∧ okS 12 ys ∧ Sl i = lN (pq xs) ∧ Sr i = lN (pq ys) ∧ rowIs (fun k => kept (26 * i + k)) xs ys)
set_option maxRecDepth 100000 in
theorem xSlotNo {x : Int32} (h : x < 0 ∨ nI 2 ≤ x) : fS_has x = some (nI 0) := by
  rcases h with h | h
  · rw [fS_has, if_pos h]; rfl
  · rw [fS_has, if_neg (not_lo (by decide) h), if_pos (show (2 : Int32) ≤ x from h)]; rfl
set_option maxRecDepth 100000 in
theorem xSlotYes {s : Nat} (h : s < 2) : fS_has (nI s) = some (nI 1) := by
  simp -implicitDefEqProofs (disch := omega) only [fS_has, litI, litL, nI_add, pk_mul, bd0_e, bd1_e, bd2_e, bd3_e, bd4_e, st_e, nI_leI, nI_ltI, nI_eq, if_pos, if_neg, if_true, if_false, ld_nI, sti_nI, stl_nI]
set_option maxRecDepth 100000 in
theorem nar_b (s : Nat) (h : s < 2) : vp_nar .boolean (nI s) = nI s := by
  rcases (show s = 0 ∨ s = 1 by omega) with rfl | rfl <;> rfl
set_option maxRecDepth 100000 in
theorem mSaveLoop {s : Nat} (hs : s < 2) (now isKept kept : Nat → Int32) : ∃ g, fx2 (fM_save_21 now isKept (nI s)) FU kept (nI 0) = some (now 0 + now 1, g, isKept) ∧ (∀ k, k < 26 → g (26 * s + k) = now k) ∧ ∀ k, (k < 26 * s ∨ 26 * s + 26 ≤ k) → g k = kept k := by
  have key : ∀ (d i n : Nat) (g : Nat → Int32), i + d = 26 → d < n → ((∀ k, k < i → g (26 * s + k) = now k) ∧ ∀ k, (k < 26 * s ∨ 26 * s + 26 ≤ k) → g k = kept k) → ∃ g', fx2 (fM_save_21 now isKept (nI s)) n g (nI i) = some (now 0 + now 1, g', isKept) ∧ (∀ k, k < 26 → g' (26 * s + k) = now k) ∧ ∀ k, (k < 26 * s ∨ 26 * s + 26 ≤ k) → g' k = kept k := by
    intro d
    induction d with
    | zero =>
      intro i n g hi hn hg
      obtain ⟨n, rfl⟩ := succ_of hn
      refine ⟨g, ?_, fun k hk => hg.1 k (by omega), hg.2⟩
      simp -implicitDefEqProofs (disch := omega) only [fx2_s, fM_save_21, litI, litL, nI_add, pk_mul, bd0_e, bd1_e, bd2_e, bd3_e, bd4_e, st_e, nI_leI, nI_ltI, nI_eq, if_pos, if_neg, if_true, if_false, ld_nI, sti_nI, stl_nI]
    | succ d ih =>
      intro i n g hi hn hg
      obtain ⟨n, rfl⟩ := succ_of hn
      obtain ⟨g', e, hg'⟩ := ih (i + 1) n (upd g (26 * s + i) (now i)) (by omega) (by omega) ⟨fun k hk => by
        by_cases q : k = i
        · rw [q, upd_e, if_pos rfl]
        · rw [upd_e, if_neg (by omega)]; exact hg.1 k (by omega), fun k hk => by rw [upd_e, if_neg (by omega)]; exact hg.2 k hk⟩
      refine ⟨g', ?_, hg'⟩
      rw [← e]
      simp -implicitDefEqProofs (disch := omega) only [fx2_s, fM_save_21, litI, litL, nI_add, pk_mul, bd0_e, bd1_e, bd2_e, bd3_e, bd4_e, st_e, nI_leI, nI_ltI, nI_eq, if_pos, if_neg, if_true, if_false, ld_nI, sti_nI, stl_nI]
  exact key 26 0 FU kept (by omega) (fuel (by omega)) ⟨fun k hk => absurd hk (by omega), fun _ _ => rfl⟩
set_option maxRecDepth 100000 in
theorem pSave {El Er : Int64} {now : Nat → Int32} {xs ys : List Nat} (h : RE El Er now xs ys) {Sl Sr : Nat → Int64} {Sf kept isKept : Nat → Int32} (hS : RS Sl Sr Sf kept isKept) (x1 : Int32) :
    ∃ r Sl' Sr' Sf' kept' isKept', fX_save El Er Sl Sr Sf x1 = some (r, Sl', Sr', Sf') ∧ fM_save now kept isKept x1 = some (r, kept', isKept') ∧ RS Sl' Sr' Sf' kept' isKept' := by
  have no : (x1 < 0 ∨ nI 2 ≤ x1) → ∃ r Sl' Sr' Sf' kept' isKept', fX_save El Er Sl Sr Sf x1 = some (r, Sl', Sr', Sf') ∧ fM_save now kept isKept x1 = some (r, kept', isKept') ∧ RS Sl' Sr' Sf' kept' isKept' := fun c => by
    obtain ⟨-, b⟩ := xIsSideNo c
    refine ⟨-1, Sl, Sr, Sf, kept, isKept, ?_, ?_, hS⟩
    · simp -implicitDefEqProofs (disch := omega) only [fX_save, litI, litL, nI_add, pk_mul, bd0_e, bd1_e, bd2_e, bd3_e, bd4_e, st_e, nI_leI, nI_ltI, nI_eq, if_pos, if_neg, if_true, if_false, ld_nI, sti_nI, stl_nI, xSlotNo c] <;> rfl
    · simp -implicitDefEqProofs (disch := omega) only [fM_save, litI, litL, nI_add, pk_mul, bd0_e, bd1_e, bd2_e, bd3_e, bd4_e, st_e, nI_leI, nI_ltI, nI_eq, if_pos, if_neg, if_true, if_false, ld_nI, sti_nI, stl_nI, b] <;> rfl
  rcases pk_ix x1 (n := 2) (by decide) with c | c | ⟨s, hs, rfl⟩
  · exact no (Or.inl c)
  · exact no (Or.inr c)
  · obtain ⟨-, b⟩ := xIsSideYes hs
    obtain ⟨hx, hy, rfl, rfl, hr⟩ := h
    obtain ⟨g, e1, a1, b1⟩ := mSaveLoop hs now (upd isKept s (nI 1)) kept
    refine ⟨nI (xs.length + ys.length), vp_updL Sl s (lN (pq xs)), vp_updL Sr s (lN (pq ys)), upd Sf s (nI 1), g, upd isKept s (nI 1), ?_, ?_, fun i hi => ?_⟩
    · simp -implicitDefEqProofs (disch := omega) only [fX_save, fS_store, litI, litL, nI_add, pk_mul, bd0_e, bd1_e, bd2_e, bd3_e, bd4_e, st_e, nI_leI, nI_ltI, nI_eq, if_pos, if_neg, if_true, if_false, ld_nI, sti_nI, stl_nI, xSlotYes hs, nar_b, eSize hx hy]
    · rw [hr.l0, hr.l1, nI_add] at e1
      rw [← e1]
      simp -implicitDefEqProofs (disch := omega) only [fM_save, litI, litL, nI_add, pk_mul, bd0_e, bd1_e, bd2_e, bd3_e, bd4_e, st_e, nI_leI, nI_ltI, nI_eq, if_pos, if_neg, if_true, if_false, ld_nI, sti_nI, stl_nI, b, nar_b]
    · by_cases q : i = s
      · subst q
        refine Or.inr ⟨by rw [upd_e, if_pos rfl], by rw [upd_e, if_pos rfl], xs, ys, hx, hy, by rw [updL_e, if_pos rfl], by rw [updL_e, if_pos rfl], hr.cong (fun k hk => a1 k hk)⟩
      · rw [upd_e, upd_e, updL_e, updL_e, if_neg q, if_neg q, if_neg q, if_neg q]
        rcases hS i hi with c | ⟨c1, c2, us, vs, c3, c4, c5, c6, c7⟩
        · exact Or.inl c
        · exact Or.inr ⟨c1, c2, us, vs, c3, c4, c5, c6, c7.cong (fun k hk => b1 _ (by omega))⟩
set_option maxRecDepth 100000 in
theorem mRestLoop {s : Nat} (hs : s < 2) (now kept : Nat → Int32) : ∃ g, fx2 (fM_restore_26 kept (nI s)) FU now (nI 0) = some (g 0 + g 1, nI 0, g) ∧ ∀ k, k < 26 → g k = kept (26 * s + k) := by
  have key : ∀ (d i n : Nat) (g : Nat → Int32), i + d = 26 → d < n → (∀ k, k < i → g k = kept (26 * s + k)) → ∃ g', fx2 (fM_restore_26 kept (nI s)) n g (nI i) = some (g' 0 + g' 1, nI 0, g') ∧ ∀ k, k < 26 → g' k = kept (26 * s + k) := by
    intro d
    induction d with
    | zero =>
      intro i n g hi hn hg
      obtain ⟨n, rfl⟩ := succ_of hn
      refine ⟨g, ?_, fun k hk => hg k (by omega)⟩
      simp -implicitDefEqProofs (disch := omega) only [fx2_s, fM_restore_26, litI, litL, nI_add, pk_mul, bd0_e, bd1_e, bd2_e, bd3_e, bd4_e, st_e, nI_leI, nI_ltI, nI_eq, if_pos, if_neg, if_true, if_false, ld_nI, sti_nI, stl_nI]
    | succ d ih =>
      intro i n g hi hn hg
      obtain ⟨n, rfl⟩ := succ_of hn
      obtain ⟨g', e, hg'⟩ := ih (i + 1) n (upd g i (kept (26 * s + i))) (by omega) (by omega) (fun k hk => by
        by_cases q : k = i
        · rw [q, upd_e, if_pos rfl]
        · rw [upd_e, if_neg q]; exact hg k (by omega))
      refine ⟨g', ?_, hg'⟩
      rw [← e]
      simp -implicitDefEqProofs (disch := omega) only [fx2_s, fM_restore_26, litI, litL, nI_add, pk_mul, bd0_e, bd1_e, bd2_e, bd3_e, bd4_e, st_e, nI_leI, nI_ltI, nI_eq, if_pos, if_neg, if_true, if_false, ld_nI, sti_nI, stl_nI]
  exact key 26 0 FU now (by omega) (fuel (by omega)) (fun k hk => absurd hk (by omega))
set_option maxRecDepth 100000 in
theorem RH_nil {Hl Hr : Nat → Int64} {acts next : Int32} {diary : Nat → Int32} {Hn : Int32} (h : RH Hn Hl Hr acts next diary) : RH (nI 0) Hl Hr (nI 0) next diary := by
  obtain ⟨hs, nx, hl, hnx, rfl, rfl, rfl, hh⟩ := h
  exact ⟨[], nx, by decide, hnx, rfl, rfl, rfl, fun i e he => by simp at he⟩
set_option maxRecDepth 100000 in
theorem pRestore {El Er : Int64} {now : Nat → Int32} {xs ys : List Nat} (h : RE El Er now xs ys) {Hn : Int32} {Hl Hr : Nat → Int64} {acts next : Int32} {diary : Nat → Int32} (hH : RH Hn Hl Hr acts next diary) {Sl Sr : Nat → Int64} {Sf kept isKept : Nat → Int32} (hS : RS Sl Sr Sf kept isKept) (x1 : Int32) :
    ∃ r El' Er' Hn' acts' now', fX_restore El Er Hn Sl Sr Sf x1 = some (r, El', Er', Hn') ∧ fM_restore acts now kept isKept x1 = some (r, acts', now') ∧ (∃ xs ys, RE El' Er' now' xs ys) ∧ RH Hn' Hl Hr acts' next diary := by
  have no : (x1 < 0 ∨ nI 2 ≤ x1) → ∃ r El' Er' Hn' acts' now', fX_restore El Er Hn Sl Sr Sf x1 = some (r, El', Er', Hn') ∧ fM_restore acts now kept isKept x1 = some (r, acts', now') ∧ (∃ xs ys, RE El' Er' now' xs ys) ∧ RH Hn' Hl Hr acts' next diary := fun c => by
    obtain ⟨-, b⟩ := xIsSideNo c
    refine ⟨-1, El, Er, Hn, acts, now, ?_, ?_, ⟨xs, ys, h⟩, hH⟩
    · simp -implicitDefEqProofs (disch := omega) only [fX_restore, litI, litL, nI_add, pk_mul, bd0_e, bd1_e, bd2_e, bd3_e, bd4_e, st_e, nI_leI, nI_ltI, nI_eq, if_pos, if_neg, if_true, if_false, ld_nI, sti_nI, stl_nI, xSlotNo c] <;> rfl
    · simp -implicitDefEqProofs (disch := omega) only [fM_restore, litI, litL, nI_add, pk_mul, bd0_e, bd1_e, bd2_e, bd3_e, bd4_e, st_e, nI_leI, nI_ltI, nI_eq, if_pos, if_neg, if_true, if_false, ld_nI, sti_nI, stl_nI, b] <;> rfl
  rcases pk_ix x1 (n := 2) (by decide) with c | c | ⟨s, hs, rfl⟩
  · exact no (Or.inl c)
  · exact no (Or.inr c)
  · obtain ⟨-, b⟩ := xIsSideYes hs
    rcases hS s hs with ⟨c1, c2⟩ | ⟨c1, c2, us, vs, c3, c4, c5, c6, c7⟩
    · refine ⟨-3, El, Er, Hn, acts, now, ?_, ?_, ⟨xs, ys, h⟩, hH⟩
      · simp -implicitDefEqProofs (disch := omega) only [fX_restore, fS_isFilled, litI, litL, nI_add, pk_mul, bd0_e, bd1_e, bd2_e, bd3_e, bd4_e, st_e, nI_leI, nI_ltI, nI_eq, if_pos, if_neg, if_true, if_false, ld_nI, sti_nI, stl_nI, xSlotYes hs, c1] <;> rfl
      · simp -implicitDefEqProofs (disch := omega) only [fM_restore, litI, litL, nI_add, pk_mul, bd0_e, bd1_e, bd2_e, bd3_e, bd4_e, st_e, nI_leI, nI_ltI, nI_eq, if_pos, if_neg, if_true, if_false, ld_nI, sti_nI, stl_nI, b, c2] <;> rfl
    · obtain ⟨g, e1, hg⟩ := mRestLoop hs now kept
      have hr : rowIs g us vs := c7.cong hg
      rw [hr.l0, hr.l1, nI_add] at e1
      refine ⟨nI (us.length + vs.length), lN (pq us), lN (pq vs), nI 0, nI 0, g, ?_, ?_, ⟨us, vs, c3, c4, rfl, rfl, hr⟩, RH_nil hH⟩
      · rw [← c5, ← c6]
        simp -implicitDefEqProofs (disch := omega) only [fX_restore, fS_isFilled, fS_fetch, fE_set, fH_forget, litI, litL, nI_add, pk_mul, bd0_e, bd1_e, bd2_e, bd3_e, bd4_e, st_e, nI_leI, nI_ltI, nI_eq, if_pos, if_neg, if_true, if_false, ld_nI, sti_nI, stl_nI, xSlotYes hs, c1]
        rw [c5, c6, eSize c3 c4]
        simp -implicitDefEqProofs (disch := omega) only [litI, litL, nI_add, pk_mul, bd0_e, bd1_e, bd2_e, bd3_e, bd4_e, st_e]
      · rw [← e1]
        simp -implicitDefEqProofs (disch := omega) only [fM_restore, litI, litL, nI_add, pk_mul, bd0_e, bd1_e, bd2_e, bd3_e, bd4_e, st_e, nI_leI, nI_ltI, nI_eq, if_pos, if_neg, if_true, if_false, ld_nI, sti_nI, stl_nI, b, c2]
set_option maxRecDepth 100000 in
theorem sub0 {a b : Nat} (ha : a < 2 ^ 30) (hb : b < 2 ^ 30) : nI a - nI b = nI 0 ↔ a = b := by
  rw [fa_eq, pk_sub_toInt ha hb, nI_toInt (by decide)]
  omega
set_option maxRecDepth 100000 in
theorem pRefuted {El Er : Int64} {now : Nat → Int32} {xs ys : List Nat} (h : RE El Er now xs ys) : ∃ r, fX_refutedByCounting El Er = some r ∧ fM_refutedByCounting now = some r := by
  obtain ⟨hx, hy, rfl, rfl, hr⟩ := h
  have hlx := hx.1
  have hly := hy.1
  have bx : ∀ c, xs.count c < 2 ^ 30 := fun c => by have := List.count_le_length (a := c) (l := xs); omega
  have by' : ∀ c, ys.count c < 2 ^ 30 := fun c => by have := List.count_le_length (a := c) (l := ys); omega
  have bx2 : ∀ c, xs.count c < 2 ^ 31 := fun c => by have := bx c; omega
  have by2 : ∀ c, ys.count c < 2 ^ 31 := fun c => by have := by' c; omega
  have m0 : ∀ c, c < 6 → fM_countOf now (nI 0) (nI c) = some (nI (xs.count c)) := fun c hc => mCountOf hr (s := 0) (by decide) hx hc
  have m1 : ∀ c, c < 6 → fM_countOf now (nI 1) (nI c) = some (nI (ys.count c)) := fun c hc => mCountOf hr (s := 1) (by decide) hy hc
  have z0 := eSurplus hx hy (c := 0) (by decide)
  have z1 := eSurplus hx hy (c := 1) (by decide)
  rw [Nat.zero_add] at z0
  rw [show (1 + 1 : Nat) = 2 from rfl] at z1
  have dead : ∀ (d i n : Nat), i + d = 4 → d < n → fx2 (fM_refutedByCounting_4 now) n (nI 0) (nI i) = some (nI 0) := by
    intro d
    induction d with
    | zero =>
      intro i n hi hn
      obtain ⟨n, rfl⟩ := succ_of hn
      simp -implicitDefEqProofs (disch := omega) only [fx2_s, fM_refutedByCounting_4, fM_refutedByCounting_97, litI, litL, nI_add, pk_mul, bd0_e, bd1_e, bd2_e, bd3_e, bd4_e, st_e, nI_leI, nI_ltI, nI_eq, if_pos, if_neg, if_true, if_false, ld_nI, sti_nI, stl_nI, m0, m1, ite_self]
    | succ d ih =>
      intro i n hi hn
      obtain ⟨n, rfl⟩ := succ_of hn
      rw [← ih (i + 1) n (by omega) (by omega)]
      simp -implicitDefEqProofs (disch := omega) only [fx2_s, fM_refutedByCounting_4, litI, litL, nI_add, pk_mul, bd0_e, bd1_e, bd2_e, bd3_e, bd4_e, st_e, nI_leI, nI_ltI, nI_eq, if_pos, if_neg, if_true, if_false, ld_nI, sti_nI, stl_nI]
  have key : ∀ (d i n m : Nat), i + d = 4 → d < n → d < m → ∃ r, fx1 (fX_refutedByCounting_2 (lN (pq xs)) (lN (pq ys))) n (nI i) = some r ∧ fx2 (fM_refutedByCounting_4 now) m (nI 1) (nI i) = some r := by
    intro d
    induction d with
    | zero =>
      intro i n m hi hn hm
      obtain ⟨n, rfl⟩ := succ_of hn
      obtain ⟨m, rfl⟩ := succ_of hm
      refine ⟨nI (if xs.count 0 = ys.count 0 ∧ xs.count 1 = ys.count 1 then 0 else 1), ?_, ?_⟩
      · simp -implicitDefEqProofs (disch := omega) only [fx1_s, fX_refutedByCounting_2, fX_refutedByCounting_56, litI, litL, nI_add, pk_mul, bd0_e, bd1_e, bd2_e, bd3_e, bd4_e, st_e, nI_leI, nI_ltI, nI_eq, if_pos, if_neg, if_true, if_false, ld_nI, sti_nI, stl_nI, z0, z1, sub0 (bx 0) (by' 0), sub0 (bx 1) (by' 1)]
        by_cases c0 : xs.count 0 = ys.count 0
        · simp -implicitDefEqProofs (disch := omega) only [c0, if_true]
          by_cases c1 : xs.count 1 = ys.count 1 <;> simp -implicitDefEqProofs (disch := omega) only [c1, if_true, if_false, and_self, and_false]
        · simp -implicitDefEqProofs (disch := omega) only [c0, if_false, false_and]
      · simp -implicitDefEqProofs (disch := omega) only [fx2_s, fM_refutedByCounting_4, fM_refutedByCounting_97, litI, litL, nI_add, pk_mul, bd0_e, bd1_e, bd2_e, bd3_e, bd4_e, st_e, nI_leI, nI_ltI, nI_eq, if_pos, if_neg, if_true, if_false, ld_nI, sti_nI, stl_nI, m0, m1, nI_eq (bx2 0) (by2 0), nI_eq (bx2 1) (by2 1)]
        by_cases c0 : xs.count 0 = ys.count 0
        · simp -implicitDefEqProofs (disch := omega) only [c0, if_true]
          by_cases c1 : xs.count 1 = ys.count 1 <;> simp -implicitDefEqProofs (disch := omega) only [c1, if_true, if_false, and_self, and_false]
        · simp -implicitDefEqProofs (disch := omega) only [c0, if_false, false_and]
    | succ d ih =>
      intro i n m hi hn hm
      obtain ⟨n, rfl⟩ := succ_of hn
      obtain ⟨m, rfl⟩ := succ_of hm
      have zi := eSurplus hx hy (c := i + 2) (by omega)
      by_cases c : xs.count (i + 2) = ys.count (i + 2)
      · obtain ⟨r, e1, e2⟩ := ih (i + 1) n m (by omega) (by omega) (by omega)
        refine ⟨r, ?_, ?_⟩
        · rw [← e1]
          have q := (sub0 (bx (i + 2)) (by' (i + 2))).mpr c
          simp -implicitDefEqProofs (disch := omega) only [fx1_s, fX_refutedByCounting_2, litI, litL, nI_add, pk_mul, bd0_e, bd1_e, bd2_e, bd3_e, bd4_e, st_e, nI_leI, nI_ltI, nI_eq, if_pos, if_neg, if_true, if_false, ld_nI, sti_nI, stl_nI, zVar, zi, q]
        · rw [← e2]
          simp -implicitDefEqProofs (disch := omega) only [fx2_s, fM_refutedByCounting_4, litI, litL, nI_add, pk_mul, bd0_e, bd1_e, bd2_e, bd3_e, bd4_e, st_e, nI_leI, nI_ltI, nI_eq, if_pos, if_neg, if_true, if_false, ld_nI, sti_nI, stl_nI, m0 (i + 2) (by omega), m1 (i + 2) (by omega), nI_eq (bx2 _) (by2 _), c, if_true]
      · refine ⟨nI 0, ?_, ?_⟩
        · have q : ¬ nI (xs.count (i + 2)) - nI (ys.count (i + 2)) = nI 0 := fun z => c ((sub0 (bx (i + 2)) (by' (i + 2))).mp z)
          simp -implicitDefEqProofs (disch := omega) only [fx1_s, fX_refutedByCounting_2, litI, litL, nI_add, pk_mul, bd0_e, bd1_e, bd2_e, bd3_e, bd4_e, st_e, nI_leI, nI_ltI, nI_eq, if_pos, if_neg, if_true, if_false, ld_nI, sti_nI, stl_nI, zVar, zi, q]
        · rw [← dead d (i + 1) m (by omega) (by omega)]
          simp -implicitDefEqProofs (disch := omega) only [fx2_s, fM_refutedByCounting_4, litI, litL, nI_add, pk_mul, bd0_e, bd1_e, bd2_e, bd3_e, bd4_e, st_e, nI_leI, nI_ltI, nI_eq, if_pos, if_neg, if_true, if_false, ld_nI, sti_nI, stl_nI, m0 (i + 2) (by omega), m1 (i + 2) (by omega), nI_eq (bx2 _) (by2 _), c, if_false]
  exact key 4 0 FU FU (by omega) (fuel (by omega)) (fuel (by omega))
