/-! load and substitute -/
set_option maxRecDepth 100000 in
theorem syZ_s {c s : Nat} (h : symb c = some s) : syZ c = s + 1 := by unfold syZ; rw [h]
set_option maxRecDepth 100000 in
theorem isS_some {tx : Nat → Nat} {n i : Nat} (h : isS tx n i = true) : ∃ s, symb (tx i) = some s ∧ tA tx n i = tx i ∧ i < n := by
  have hi := isS_lt h
  have a0 : tA tx n i = tx i := if_pos hi
  unfold isS at h
  rw [a0] at h
  obtain ⟨s, hs⟩ := Option.isSome_iff_exists.mp h
  exact ⟨s, hs, a0, hi⟩
set_option maxRecDepth 100000 in
theorem tPacked {Tc : Nat → Int32} {n : Nat} {tx : Nat → Nat} (hn : n ≤ 40) (ht : ∀ j, j < n → tx j < 256 ∧ Tc j = nI (tx j)) {f k : Nat} (hf : f ≤ 40) (hk : k ≤ 40) (hp : ∀ j, j < k → isS tx n (f + j) = true) : fT_packed (nI n) Tc (nI f) (nI (f + k)) = some (lN (pq (syms tx f (min k 12)))) := by
  have key : ∀ (d i m : Nat), i + d = min k 12 → d < m → fx2 (fT_packed_5 (nI n) Tc (nI f) (nI (f + k))) m (lN (pq (syms tx f i))) (nI i) = some (lN (pq (syms tx f (min k 12)))) := by
    intro d
    induction d with
    | zero =>
      intro i m hi hm
      obtain ⟨m, rfl⟩ := succ_of hm
      rw [show i = min k 12 by omega]
      by_cases q : 12 ≤ min k 12
      · simp -implicitDefEqProofs (disch := omega) only [fx2_s, fT_packed_5, litI, litL, nI_add, pk_mul, bd0_e, bd1_e, bd2_e, bd3_e, bd4_e, st_e, nI_leI, nI_ltI, nI_eq, if_pos, if_neg, if_true, if_false, ld_nI, sti_nI, stl_nI]
      · simp -implicitDefEqProofs (disch := omega) only [fx2_s, fT_packed_5, litI, litL, nI_add, pk_mul, bd0_e, bd1_e, bd2_e, bd3_e, bd4_e, st_e, nI_leI, nI_ltI, nI_eq, if_pos, if_neg, if_true, if_false, ld_nI, sti_nI, stl_nI]
    | succ d ih =>
      intro i m hi hm
      obtain ⟨m, rfl⟩ := succ_of hm
      obtain ⟨s, hs, a0, hlt⟩ := isS_some (hp i (by omega))
      have hs6 := symb_lt hs
      have hc := (ht _ hlt).1
      have e1 : syms tx f (i + 1) = syms tx f i ++ [s] := by rw [syms_s, hs]; rfl
      have hb := pq_lt13 (xs := syms tx f (i + 1)) ⟨by rw [syms_len]; omega, syms_ok tx f (i + 1)⟩
      have e2 := pq_or (xs := syms tx f i) (ys := [s]) (syms_ok tx f i) (by rw [← e1]; omega)
      rw [syms_len, ← e1, show pq [s] = s + 1 by simp [pq]] at e2
      rw [← ih (i + 1) m (by omega) (by omega), ← e2]
      simp -implicitDefEqProofs (disch := omega) only [fx2_s, fT_packed_5, litI, litL, nI_add, pk_mul, bd0_e, bd1_e, bd2_e, bd3_e, bd4_e, st_e, nI_leI, nI_ltI, nI_eq, if_pos, if_neg, if_true, if_false, ld_nI, sti_nI, stl_nI, tAt hn ht, a0, zSymbolOf _ hc, syZ_s hs, zOne]
  have := key (min k 12) 0 FU (by omega) (fuel (by omega))
  rw [syms_0] at this
  exact this
/-- the two lists of length constraints are one -/
def RC (Cn : Int32) (Cv Cr Ck : Nat → Int32) (many : Int32) (con : Nat → Int32) (cs : List (Nat × Nat × Nat)) : Prop :=
  cs.length ≤ 4 ∧ Cn = nI cs.length ∧ many = nI cs.length ∧ ∀ i q, cs[i]? = some q → q.1 < 4 ∧ q.2.1 < 3 ∧ q.2.2 < 10 ∧ Cv i = nI q.1 ∧ Cr i = nI (60 + q.2.1) ∧ Ck i = nI q.2.2 ∧ con (3 * i) = nI q.1 ∧ con (3 * i + 1) = nI q.2.1 ∧ con (3 * i + 2) = nI q.2.2
def conOf (tx : Nat → Nat) (e i : Nat) : Nat × Nat × Nat := (tx (e + 4 * i + 1) - 87, tx (e + 4 * i + 2) - 60, tx (e + 4 * i + 3) - 48)
set_option maxRecDepth 100000 in
theorem cAdd {i : Nat} (hi : i < 4) (Cv Cr Ck : Nat → Int32) (v k : Int32) {ch : Nat} (hc : ch < 256) : fC_add (nI i) Cv Cr Ck v (nI ch) k = some (nI (i + 1), upd Cv i v, upd Cr i (nI ch), upd Ck i k) := by
  simp -implicitDefEqProofs (disch := omega) only [fC_add, litI, litL, nI_add, pk_mul, bd0_e, bd1_e, bd2_e, bd3_e, bd4_e, st_e, nI_leI, nI_ltI, nI_eq, if_pos, if_neg, if_true, if_false, ld_nI, sti_nI, stl_nI, nar_c hc]
set_option maxRecDepth 100000 in
theorem syZ_v : ∀ c, 87 ≤ c → c ≤ 90 → syZ c = c - 84 := by
  intro c h1 h2
  rcases (show c = 87 ∨ c = 88 ∨ c = 89 ∨ c = 90 by omega) with rfl | rfl | rfl | rfl <;> rfl
set_option maxRecDepth 100000 in
theorem tReadCons {Tc : Nat → Int32} {n : Nat} {tx : Nat → Nat} (hn : n ≤ 40) (ht : ∀ j, j < n → tx j < 256 ∧ Tc j = nI (tx j)) {e c : Nat} (hc : c ≤ 4) (hec : e + 4 * c = n) (hf : ∀ i, i < c → fit 1 (tx (e + 4 * i + 1)) = true ∧ fit 2 (tx (e + 4 * i + 2)) = true ∧ fit 3 (tx (e + 4 * i + 3)) = true) :
    ∀ (d i m : Nat) (Cv Cr Ck : Nat → Int32), i + d = c → d < m → (∀ j, j < i → Cv j = nI (conOf tx e j).1 ∧ Cr j = nI (60 + (conOf tx e j).2.1) ∧ Ck j = nI (conOf tx e j).2.2) →
      ∃ Cv' Cr' Ck', fx6 (fT_readConstraints_18 (nI n) Tc) m (nI i) Cv Cr Ck (nI (e + 4 * i)) (nI i) = some (nI c, Cv', Cr', Ck') ∧ ∀ j, j < c → Cv' j = nI (conOf tx e j).1 ∧ Cr' j = nI (60 + (conOf tx e j).2.1) ∧ Ck' j = nI (conOf tx e j).2.2 := by
  intro d
  induction d with
  | zero =>
    intro i m Cv Cr Ck hi hm hg
    obtain ⟨m, rfl⟩ := succ_of hm
    have hi2 : i = c := by omega
    subst hi2
    refine ⟨Cv, Cr, Ck, ?_, hg⟩
    by_cases q : 4 ≤ i
    · simp -implicitDefEqProofs (disch := omega) only [fx6_s, fT_readConstraints_18, litI, litL, nI_add, pk_mul, bd0_e, bd1_e, bd2_e, bd3_e, bd4_e, st_e, nI_leI, nI_ltI, nI_eq, if_pos, if_neg, if_true, if_false, ld_nI, sti_nI, stl_nI]
    · simp -implicitDefEqProofs (disch := omega) only [fx6_s, fT_readConstraints_18, litI, litL, nI_add, pk_mul, bd0_e, bd1_e, bd2_e, bd3_e, bd4_e, st_e, nI_leI, nI_ltI, nI_eq, if_pos, if_neg, if_true, if_false, ld_nI, sti_nI, stl_nI]
  | succ d ih =>
    intro i m Cv Cr Ck hi hm hg
    obtain ⟨m, rfl⟩ := succ_of hm
    obtain ⟨f1, f2, f3⟩ := hf i (by omega)
    have g1 : 87 ≤ tx (e + 4 * i + 1) ∧ tx (e + 4 * i + 1) ≤ 90 := by simpa [fit] using f1
    have g2 : 60 ≤ tx (e + 4 * i + 2) ∧ tx (e + 4 * i + 2) ≤ 62 := by simpa [fit] using f2
    have g3 : 48 ≤ tx (e + 4 * i + 3) ∧ tx (e + 4 * i + 3) ≤ 57 := by simpa [fit] using f3
    have a1 : tA tx n (e + 4 * i + 1) = tx (e + 4 * i + 1) := if_pos (by omega)
    have a2 : tA tx n (e + 4 * i + 2) = tx (e + 4 * i + 2) := if_pos (by omega)
    have a3 : tA tx n (e + 4 * i + 3) = tx (e + 4 * i + 3) := if_pos (by omega)
    obtain ⟨Cv', Cr', Ck', e1, hg'⟩ := ih (i + 1) m (upd Cv i (nI (tx (e + 4 * i + 1) - 87))) (upd Cr i (nI (tx (e + 4 * i + 2)))) (upd Ck i (nI (tx (e + 4 * i + 3) - 48))) (by omega) (by omega) (fun j hj => by
      by_cases q : j = i
      · subst q
        rw [upd_e, upd_e, upd_e, if_pos rfl, if_pos rfl, if_pos rfl]
        refine ⟨rfl, ?_, rfl⟩
        show nI _ = nI (60 + (tx (e + 4 * j + 2) - 60))
        rw [show 60 + (tx (e + 4 * j + 2) - 60) = tx (e + 4 * j + 2) by omega]
      · rw [upd_e, upd_e, upd_e, if_neg q, if_neg q, if_neg q]
        exact hg j (by omega))
    refine ⟨Cv', Cr', Ck', ?_, hg'⟩
    rw [← e1]
    simp -implicitDefEqProofs (disch := omega) only [fx6_s, fT_readConstraints_18, litI, litL, nI_add, pk_mul, bd0_e, bd1_e, bd2_e, bd3_e, bd4_e, st_e, nI_leI, nI_ltI, nI_eq, if_pos, if_neg, if_true, if_false, ld_nI, sti_nI, stl_nI, tAt hn ht, a1, a2, a3, zSymbolOf _ (show tx (e + 4 * i + 1) < 256 by omega), syZ_v _ g1.1 g1.2, pk_sub, cAdd]
    rw [show tx (e + 4 * i + 1) - 84 - 3 = tx (e + 4 * i + 1) - 87 by omega, show e + 4 * i + 4 = e + 4 * (i + 1) by omega]
set_option maxRecDepth 100000 in
theorem sEmpty (Sf : Nat → Int32) : ∃ Sf', fS_empty Sf = some Sf' ∧ ∀ i, i < 2 → Sf' i = nI 0 := by
  have key : ∀ (d i m : Nat) (g : Nat → Int32), i + d = 2 → d < m → (∀ k, k < i → g k = nI 0) → ∃ g', fx2 fS_empty_2 m g (nI i) = some g' ∧ ∀ k, k < 2 → g' k = nI 0 := by
    intro d
    induction d with
    | zero =>
      intro i m g hi hm hg
      obtain ⟨m, rfl⟩ := succ_of hm
      refine ⟨g, ?_, fun k hk => hg k (by omega)⟩
      simp -implicitDefEqProofs (disch := omega) only [fx2_s, fS_empty_2, litI, litL, nI_add, pk_mul, bd0_e, bd1_e, bd2_e, bd3_e, bd4_e, st_e, nI_leI, nI_ltI, nI_eq, if_pos, if_neg, if_true, if_false, ld_nI, sti_nI, stl_nI]
    | succ d ih =>
      intro i m g hi hm hg
      obtain ⟨m, rfl⟩ := succ_of hm
      obtain ⟨g', e, hg'⟩ := ih (i + 1) m (upd g i (nI 0)) (by omega) (by omega) (fun k hk => by
        by_cases q : k = i
        · rw [q, upd_e, if_pos rfl]
        · rw [upd_e, if_neg q]; exact hg k (by omega))
      refine ⟨g', ?_, hg'⟩
      rw [← e]
      simp -implicitDefEqProofs (disch := omega) only [fx2_s, fS_empty_2, litI, litL, nI_add, pk_mul, bd0_e, bd1_e, bd2_e, bd3_e, bd4_e, st_e, nI_leI, nI_ltI, nI_eq, if_pos, if_neg, if_true, if_false, ld_nI, sti_nI, stl_nI, nar_b 0 (by decide)]
  exact key 2 0 FU Sf (by omega) (fuel (by omega)) (fun k hk => absurd hk (by omega))
set_option maxRecDepth 100000 in
theorem mLoadLoop {c : Nat} (hc : c ≤ 4) (readMany : Int32) (now read isKept rc con : Nat → Int32) : ∃ con', fx2 (fM_load_33 (nI c) readMany now read isKept rc) FU con (nI 0) = some (nI c, nI 0, nI c, readMany, now, read, upd (upd isKept 0 (nI 0)) 1 (nI 0), con', rc) ∧ ∀ k, k < 3 * c → con' k = rc k := by
  have key : ∀ (d i m : Nat) (g : Nat → Int32), i + d = 3 * c → d < m → (∀ k, k < i → g k = rc k) → ∃ con', fx2 (fM_load_33 (nI c) readMany now read isKept rc) m g (nI i) = some (nI c, nI 0, nI c, readMany, now, read, upd (upd isKept 0 (nI 0)) 1 (nI 0), con', rc) ∧ ∀ k, k < 3 * c → con' k = rc k := by
    intro d
    induction d with
    | zero =>
      intro i m g hi hm hg
      obtain ⟨m, rfl⟩ := succ_of hm
      refine ⟨g, ?_, fun k hk => hg k (by omega)⟩
      simp -implicitDefEqProofs (disch := omega) only [fx2_s, fM_load_33, litI, litL, nI_add, pk_mul, bd0_e, bd1_e, bd2_e, bd3_e, bd4_e, st_e, nI_leI, nI_ltI, nI_eq, if_pos, if_neg, if_true, if_false, ld_nI, sti_nI, stl_nI, nar_b 0 (by decide)]
    | succ d ih =>
      intro i m g hi hm hg
      obtain ⟨m, rfl⟩ := succ_of hm
      obtain ⟨g', e, hg'⟩ := ih (i + 1) m (upd g i (rc i)) (by omega) (by omega) (fun k hk => by
        by_cases q : k = i
        · rw [q, upd_e, if_pos rfl]
        · rw [upd_e, if_neg q]; exact hg k (by omega))
      refine ⟨g', ?_, hg'⟩
      rw [← e]
      simp -implicitDefEqProofs (disch := omega) only [fx2_s, fM_load_33, litI, litL, nI_add, pk_mul, bd0_e, bd1_e, bd2_e, bd3_e, bd4_e, st_e, nI_leI, nI_ltI, nI_eq, if_pos, if_neg, if_true, if_false, ld_nI, sti_nI, stl_nI]
  exact key (3 * c) 0 FU con (by omega) (fuel (by omega)) (fun k hk => absurd hk (by omega))
set_option maxRecDepth 100000 in
theorem cerr_bd {tx : Nat → Nat} {n : Nat} : ∀ (r e k : Nat), cerr tx n r e = some k → k ≤ e + 4 * r
  | 0, e, k, h => by
    rw [cerr] at h
    split at h
    · cases h
    · cases h; omega
  | r + 1, e, k, h => by
    rw [cerr] at h
    split at h
    · split at h
      · cases h
      · cases h; omega
    · split at h
      · cases h; omega
      · split at h
        · cases h; omega
        · split at h
          · cases h; omega
          · split at h
            · cases h; omega
            · have := cerr_bd r (e + 4) k h; omega
set_option maxRecDepth 100000 in
theorem terr_bd {tx : Nat → Nat} {n k : Nat} (h : terr tx n = some k) : k ≤ 40 := by
  have hm8 : mid tx n ≤ 8 := run_le (isS tx n) 8 0
  have hb8 := run_le (isS tx n) 8 (mid tx n + 1)
  unfold terr at h
  split at h
  · have := cerr_bd 4 _ k h
    unfold ends at this
    omega
  · cases h; omega
set_option maxRecDepth 100000 in
theorem pLoad {Tn : Int32} {Tc : Nat → Int32} {Mn : Int32} {Mt : Nat → Int32} {n : Nat} {tx : Nat → Nat} (hT : RT Tn Tc Mn Mt n tx) {El Er : Int64} {now : Nat → Int32} {xs ys : List Nat} (h : RE El Er now xs ys) {Hn : Int32} {Hl Hr : Nat → Int64} {acts next : Int32} {diary : Nat → Int32} (hH : RH Hn Hl Hr acts next diary) {Sl Sr : Nat → Int64} {Sf kept isKept : Nat → Int32} (hS : RS Sl Sr Sf kept isKept) {Cn : Int32} {Cv Cr Ck : Nat → Int32} {many : Int32} {con : Nat → Int32} {cs : List (Nat × Nat × Nat)} (hC : RC Cn Cv Cr Ck many con cs) (read rc : Nat → Int32) :
    ∃ r El' Er' Hn' Sf' Cn' Cv' Cr' Ck' acts' many' readMany' now' read' isKept' con' rc', fX_load Tn Tc El Er Hn Sf Cn Cv Cr Ck = some (r, El', Er', Hn', Sf', Cn', Cv', Cr', Ck') ∧ fM_load Mn acts many Mt now read isKept con rc = some (r, acts', many', readMany', now', read', isKept', con', rc') ∧ (∃ xs ys, RE El' Er' now' xs ys) ∧ RH Hn' Hl Hr acts' next diary ∧ RS Sl Sr Sf' kept isKept' ∧ ∃ cs, RC Cn' Cv' Cr' Ck' many' con' cs := by
  obtain ⟨hn, rfl, rfl, ht⟩ := hT
  have htT : ∀ j, j < n → tx j < 256 ∧ Tc j = nI (tx j) := fun j hj => ⟨(ht j hj).1, (ht j hj).2.1⟩
  have htM : ∀ j, j < n → tx j < 256 ∧ Mt j = nI (tx j) := fun j hj => ⟨(ht j hj).1, (ht j hj).2.2⟩
  obtain ⟨rmany, read', rc', e1, b1⟩ := mReadText hn htM read rc
  have e2 := tFirstError hn htT
  by_cases q : terr tx n = none
  · obtain ⟨r1, c, hc, rfl, hec, hcf⟩ := b1 q
    rw [q] at e1 e2
    have e1 : fM_readText (nI n) Mt read rc = some (-nI 9, nI c, read', rc') := e1
    have e2 : fT_firstError (nI n) Tc = some (-nI 9) := e2
    have hm8 : mid tx n ≤ 8 := run_le (isS tx n) 8 0
    have hb8 := run_le (isS tx n) 8 (mid tx n + 1)
    have h1 := tEndOfSide hn htT (f := 0) (by decide)
    rw [Nat.zero_add] at h1
    have h1 : fT_endOfSide (nI n) Tc (nI 0) = some (nI (mid tx n)) := h1
    have h2 : fT_endOfSide (nI n) Tc (nI (mid tx n + 1)) = some (nI (ends tx n)) := tEndOfSide hn htT (by omega)
    have p1 := tPacked hn htT (f := 0) (k := mid tx n) (by decide) (by omega) (fun j hj => run_in (isS tx n) 8 0 j hj)
    rw [Nat.min_eq_left (by omega), Nat.zero_add] at p1
    have p2 := tPacked hn htT (f := mid tx n + 1) (k := run (isS tx n) (mid tx n + 1) 8) (by omega) (by omega) (fun j hj => run_in (isS tx n) 8 (mid tx n + 1) j hj)
    rw [Nat.min_eq_left (by omega)] at p2
    have p2 : fT_packed (nI n) Tc (nI (mid tx n + 1)) (nI (ends tx n)) = some (lN (pq (syms tx (mid tx n + 1) (run (isS tx n) (mid tx n + 1) 8)))) := p2
    obtain ⟨Cv', Cr', Ck', e3, hg⟩ := tReadCons hn htT hc hec (fun i hi => ⟨(hcf i hi).2.1, (hcf i hi).2.2.1, (hcf i hi).2.2.2.1⟩) c 0 FU Cv Cr Ck (by omega) (fuel (by omega)) (fun j hj => absurd hj (by omega))
    rw [Nat.mul_zero, Nat.add_zero] at e3
    obtain ⟨Sf', e4, hSf⟩ := sEmpty Sf
    obtain ⟨now', e5, hnow⟩ := mCopy read' now
    obtain ⟨con', e6, hcon⟩ := mLoadLoop hc (nI c) now' read' isKept rc' con
    refine ⟨nI c, lN (pq (syms tx 0 (mid tx n))), lN (pq (syms tx (mid tx n + 1) (run (isS tx n) (mid tx n + 1) 8))), nI 0, Sf', nI c, Cv', Cr', Ck', nI 0, nI c, nI c, now', read', upd (upd isKept 0 (nI 0)) 1 (nI 0), con', rc', ?_, ?_, ⟨_, _, ⟨by rw [syms_len]; omega, syms_ok _ _ _⟩, ⟨by rw [syms_len]; omega, syms_ok _ _ _⟩, rfl, rfl, r1.cong hnow⟩, RH_nil hH, ?_, (List.range c).map (conOf tx (ends tx n)), ?_⟩
    · simp -implicitDefEqProofs (disch := omega) only [fX_load, fT_readEquation, fT_readConstraints, fC_empty, fE_set, fH_forget, fC_size, litI, litL, nI_add, pk_mul, bd0_e, bd1_e, bd2_e, bd3_e, bd4_e, st_e, nI_leI, nI_ltI, nI_eq, if_pos, if_neg, if_true, if_false, ld_nI, sti_nI, stl_nI, e2, h1, h2, p1, p2, e3, e4]
    · rw [← e6]
      simp -implicitDefEqProofs (disch := omega) only [fM_load, litI, litL, nI_add, pk_mul, bd0_e, bd1_e, bd2_e, bd3_e, bd4_e, st_e, nI_leI, nI_ltI, nI_eq, if_pos, if_neg, if_true, if_false, ld_nI, sti_nI, stl_nI, e1, e5]
    · intro i hi
      refine Or.inl ⟨hSf i hi, ?_⟩
      rcases (show i = 0 ∨ i = 1 by omega) with rfl | rfl <;> rfl
    · refine ⟨by simp; exact hc, by simp, by simp, fun i qq hq => ?_⟩
      have hi : i < c := by have := (List.getElem?_eq_some_iff.mp hq).1; simpa using this
      rw [List.getElem?_map, List.getElem?_range hi] at hq
      cases hq
      obtain ⟨g1, g2, g3⟩ := hg i hi
      obtain ⟨k0, k1, k2, k3, k4, k5, k6⟩ := hcf i hi
      have f1 : 87 ≤ tx (ends tx n + 4 * i + 1) ∧ tx (ends tx n + 4 * i + 1) ≤ 90 := by simpa [fit] using k1
      have f2 : 60 ≤ tx (ends tx n + 4 * i + 2) ∧ tx (ends tx n + 4 * i + 2) ≤ 62 := by simpa [fit] using k2
      have f3 : 48 ≤ tx (ends tx n + 4 * i + 3) ∧ tx (ends tx n + 4 * i + 3) ≤ 57 := by simpa [fit] using k3
      refine ⟨?_, ?_, ?_, g1, g2, g3, by rw [hcon _ (by omega)]; exact k4, by rw [hcon _ (by omega)]; exact k5, by rw [hcon _ (by omega)]; exact k6⟩
      · show tx (ends tx n + 4 * i + 1) - 87 < 4; omega
      · show tx (ends tx n + 4 * i + 2) - 60 < 3; omega
      · show tx (ends tx n + 4 * i + 3) - 48 < 10; omega
  · obtain ⟨k, hk⟩ : ∃ k, terr tx n = some k := by
      cases hq : terr tx n with
      | none => exact absurd hq q
      | some k => exact ⟨k, rfl⟩
    have hk2 : k < 2 ^ 31 := by
      have := terr_bd hk
      omega
    rw [hk] at e1 e2
    have ne9 : ¬ nI k = -nI 9 := fun z => by
      rw [fa_eq, nI_toInt hk2] at z
      have e : (-nI 9 : Int32).toInt = -9 := by decide
      omega
    have e1 : fM_readText (nI n) Mt read rc = some (nI k, rmany, read', rc') := e1
    have e2 : fT_firstError (nI n) Tc = some (nI k) := e2
    refine ⟨-3, El, Er, Hn, Sf, Cn, Cv, Cr, Ck, acts, many, rmany, now, read', isKept, con, rc', ?_, ?_, ⟨xs, ys, h⟩, hH, hS, cs, hC⟩
    · simp -implicitDefEqProofs (disch := omega) only [fX_load, litI, litL, nI_add, pk_mul, bd0_e, bd1_e, bd2_e, bd3_e, bd4_e, st_e, nI_leI, nI_ltI, nI_eq, if_pos, if_neg, if_true, if_false, ld_nI, sti_nI, stl_nI, e2, ne9] <;> rfl
    · simp -implicitDefEqProofs (disch := omega) only [fM_load, litI, litL, nI_add, pk_mul, bd0_e, bd1_e, bd2_e, bd3_e, bd4_e, st_e, nI_leI, nI_ltI, nI_eq, if_pos, if_neg, if_true, if_false, ld_nI, sti_nI, stl_nI, e1, ne9] <;> rfl
