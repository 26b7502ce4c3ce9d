/-! a rule taken back, on words -/
def setW (w : Nat → List Nat) (c : Nat) (u : List Nat) : Nat → List Nat := fun s => if s = c then u else w s
set_option maxRecDepth 100000 in
theorem setW_at (w : Nat → List Nat) (c : Nat) (u : List Nat) : setW w c u c = u := if_pos rfl
set_option maxRecDepth 100000 in
theorem setW_ne {w : Nat → List Nat} {c s : Nat} {u : List Nat} (h : s ≠ c) : setW w c u s = w s := if_neg h
def tkS (r a b : Nat) (w : Nat → List Nat) : Option (Nat → List Nat) :=
  if r = 1 then some (setW w a []) else if r = 2 then some (setW w b []) else if r = 3 then (if (w b).length + (w a).length ≤ 60 then some (setW w a (w b ++ w a)) else none) else if r = 4 then (if (w a).length + (w b).length ≤ 60 then some (setW w b (w a ++ w b)) else none) else some w
def W0 (w : Nat → List Nat) : Prop := w 0 = [0] ∧ w 1 = [1]
set_option maxRecDepth 100000 in
theorem W0.set {w : Nat → List Nat} (h : W0 w) {c : Nat} (hc : 2 ≤ c) (u : List Nat) : W0 (setW w c u) := ⟨by rw [setW_ne (by omega)]; exact h.1, by rw [setW_ne (by omega)]; exact h.2⟩
set_option maxRecDepth 100000 in
theorem RA.rai {Al : Nat → Int64} {Ak : Nat → Int32} {w : Nat → List Nat} {N : Nat} (h : RA Al Ak w N) (h0 : W0 w) : RAI Al Ak := by
  obtain ⟨-, -, a, b⟩ := h 0 (by decide)
  obtain ⟨-, -, c, d⟩ := h 1 (by decide)
  rw [h0.1] at a b
  rw [h0.2] at c d
  exact ⟨a, c, b, d⟩
set_option maxRecDepth 100000 in
theorem RA.set {Al : Nat → Int64} {Ak : Nat → Int32} {w : Nat → List Nat} {N : Nat} (h : RA Al Ak w N) {c : Nat} {u : List Nat} (hu : bits u) (hl : u.length ≤ N) : RA (vp_updL Al (c + 1) (lN (vl 0 u))) (upd Ak (c + 1) (nI u.length)) (setW w c u) N := by
  intro s hs
  rw [updL_e, upd_e]
  by_cases q : s = c
  · rw [q, setW_at, if_pos rfl, if_pos rfl]
    exact ⟨hl, hu, rfl, rfl⟩
  · rw [setW_ne q, if_neg (by omega), if_neg (by omega)]
    exact h s hs
set_option maxRecDepth 100000 in
theorem shl_vl0 {u v : List Nat} (hu : bits u) (hv : bits v) (hl : u.length + v.length ≤ 60) : shlL (lN (vl 0 u)) (nI v.length) ||| lN (vl 0 v) = lN (vl 0 (u ++ v)) := by
  have h1 := vl_lt (bits_app hu hv)
  have h2 : 2 ^ (u ++ v).length ≤ 2 ^ 61 := Nat.pow_le_pow_right (by decide) (by rw [List.length_append]; omega)
  have h3 : vl 0 (u ++ v) = vl 0 u * 2 ^ v.length + vl 0 v := by rw [vl_append, vl_split v (vl 0 u)]
  have h4 : (2 : Nat) ^ 61 < 2 ^ 64 := by decide
  rw [shlk _ (by omega), wb_or (by omega) (by omega), Nat.or_comm, or_add (vl_lt hv), h3, Nat.add_comm]
set_option maxRecDepth 100000 in
theorem aLen {Al : Nat → Int64} {Ak : Nat → Int32} {w : Nat → List Nat} {N : Nat} (hA : RA Al Ak w N) {c : Nat} (hc : c < 6) : fA_lengthOf Ak (nI (c + 1)) = some (nI (w c).length) := by
  obtain ⟨w1, w2, w3, w4⟩ := hA c hc
  have e : (c + 1) % 8 = c + 1 := Nat.mod_eq_of_lt (by omega)
  simp -implicitDefEqProofs (disch := omega) only [fA_lengthOf, litI, litL, nI_add, pk_mul, bd0_e, bd1_e, bd2_e, bd3_e, bd4_e, st_e, and7, e, nI_leI, nI_ltI, nI_eq, if_pos, if_neg, if_true, if_false, ld_nI, sti_nI, stl_nI, w3]
set_option maxRecDepth 100000 in
theorem aGive2 {c k : Nat} (hc : 2 ≤ c) (hc6 : c < 6) (Al : Nat → Int64) (Ak : Nat → Int32) (x : Int64) : fA_give Al Ak (nI (c + 1)) x (nI k) = some (vp_updL Al (c + 1) x, upd Ak (c + 1) (nI k)) := by
  simp -implicitDefEqProofs (disch := omega) only [fA_give, fZ_isVariableSymbol, litI, litL, nI_add, pk_mul, bd0_e, bd1_e, bd2_e, bd3_e, bd4_e, st_e, nI_leI, nI_ltI, nI_eq, if_pos, if_neg, if_true, if_false, ld_nI, sti_nI, stl_nI]
set_option maxRecDepth 100000 in
theorem aPrepend {Al : Nat → Int64} {Ak : Nat → Int32} {w : Nat → List Nat} (hA : RA Al Ak w 60) {c f : Nat} (hc : 2 ≤ c) (hc6 : c < 6) (hf : f < 6) :
    ((w f).length + (w c).length ≤ 60 → ∃ Al' Ak', fA_prepend Al Ak (nI (c + 1)) (nI (f + 1)) = some (nI 1, Al', Ak') ∧ RA Al' Ak' (setW w c (w f ++ w c)) 60) ∧ (¬ (w f).length + (w c).length ≤ 60 → fA_prepend Al Ak (nI (c + 1)) (nI (f + 1)) = some (nI 0, Al, Ak)) := by
  obtain ⟨c1, c2, c3, c4⟩ := hA c hc6
  obtain ⟨f1, f2, f3, f4⟩ := hA f hf
  have e1 := aLen hA hc6
  have e2 := aLen hA hf
  have m1 : (c + 1) % 8 = c + 1 := Nat.mod_eq_of_lt (by omega)
  have m2 : (f + 1) % 8 = f + 1 := Nat.mod_eq_of_lt (by omega)
  refine ⟨fun q => ?_, fun q => ?_⟩
  · have e3 := shl_vl0 f2 c2 q
    have e4 := aGive2 (k := (w f).length + (w c).length) hc hc6 Al Ak (lN (vl 0 (w f ++ w c)))
    have hl : (w f ++ w c).length = (w f).length + (w c).length := List.length_append
    refine ⟨vp_updL Al (c + 1) (lN (vl 0 (w f ++ w c))), upd Ak (c + 1) (nI ((w f).length + (w c).length)), ?_, ?_⟩
    · simp -implicitDefEqProofs (disch := omega) only [fA_prepend, litI, litL, nI_add, pk_mul, bd0_e, bd1_e, bd2_e, bd3_e, bd4_e, st_e, nI_leI, nI_ltI, nI_eq, if_pos, if_neg, if_true, if_false, ld_nI, sti_nI, stl_nI, e1, e2, and7, m1, m2, c4, f4, e3, e4]
    · rw [← hl]
      exact hA.set (bits_app f2 c2) (by rw [hl]; exact q)
  · simp -implicitDefEqProofs (disch := omega) only [fA_prepend, litI, litL, nI_add, pk_mul, bd0_e, bd1_e, bd2_e, bd3_e, bd4_e, st_e, nI_leI, nI_ltI, nI_eq, if_pos, if_neg, if_true, if_false, ld_nI, sti_nI, stl_nI, e1, e2]
set_option maxRecDepth 100000 in
theorem apB_1 {xs ys : List Nat} (h : apB 1 xs ys = true) : ∃ a xt, xs = a :: xt ∧ 2 ≤ a := by
  cases xs with
  | nil => rw [apB, apC, if_neg (by decide), if_pos rfl, hv, Bool.and_false] at h; cases h
  | cons a xt =>
    rw [apB, apC, if_neg (by decide), if_pos rfl, Bool.and_eq_true, hv, decide_eq_true_eq] at h
    exact ⟨a, xt, rfl, h.2⟩
set_option maxRecDepth 100000 in
theorem apB_2 {xs ys : List Nat} (h : apB 2 xs ys = true) : ∃ b yt, ys = b :: yt ∧ 2 ≤ b := by
  cases ys with
  | nil => rw [apB, apC, if_neg (by decide), if_neg (by decide), if_pos rfl, show hv [] = false from rfl, Bool.and_false] at h; cases h
  | cons b yt =>
    rw [apB, apC, if_neg (by decide), if_neg (by decide), if_pos rfl, Bool.and_eq_true, show hv (b :: yt) = decide (2 ≤ b) from rfl, decide_eq_true_eq] at h
    exact ⟨b, yt, rfl, h.2⟩
set_option maxRecDepth 100000 in
theorem bo_t {xs ys : List Nat} (h : bo xs ys = true) : ∃ a xt b yt, xs = a :: xt ∧ ys = b :: yt := by
  cases xs with
  | nil => cases h
  | cons a xt =>
    cases ys with
    | nil => cases h
    | cons b yt => exact ⟨a, xt, b, yt, rfl, rfl⟩
set_option maxRecDepth 100000 in
theorem apB_3 {xs ys : List Nat} (h : apB 3 xs ys = true) : ∃ a xt b yt, xs = a :: xt ∧ ys = b :: yt ∧ 2 ≤ a := by
  rw [apB, apC, if_neg (by decide), if_neg (by decide), if_neg (by decide), if_pos rfl, Bool.and_eq_true, Bool.and_eq_true] at h
  obtain ⟨a, xt, b, yt, rfl, rfl⟩ := bo_t h.2.2
  exact ⟨a, xt, b, yt, rfl, rfl, of_decide_eq_true h.2.1⟩
set_option maxRecDepth 100000 in
theorem apB_4 {xs ys : List Nat} (h : apB 4 xs ys = true) : ∃ a xt b yt, xs = a :: xt ∧ ys = b :: yt ∧ 2 ≤ b := by
  rw [apB, apC, if_neg (by decide), if_neg (by decide), if_neg (by decide), if_neg (by decide), Bool.and_eq_true, Bool.and_eq_true] at h
  obtain ⟨a, xt, b, yt, rfl, rfl⟩ := bo_t h.2.2
  exact ⟨a, xt, b, yt, rfl, rfl, of_decide_eq_true h.2.1⟩
section TK
variable {s : SS} {Nz Ns Nd : Int32} {Nl Nr : Nat → Int64} {Np Nu Ne : Nat → Int32} {Al : Nat → Int64} {Ak : Nat → Int32} {w : Nat → List Nat}
set_option maxRecDepth 100000 in
theorem nTake (hI : INV s) (hP : PI s) (h : RN s Nz Ns Nd Nl Nr Np Nu Ne) (hA : RA Al Ak w 60) (h0 : W0 w) {i : Nat} {m : ND} (hi : i < s.1.length) (hi0 : 0 < i) (hm : s.1[prt s i]? = some m) (hap : apB (rul s i) m.1 m.2.1 = true) (hr5 : rul s i < 5) :
    (∃ w', tkS (rul s i) (m.1.headD 0) (m.2.1.headD 0) w = some w' ∧ W0 w' ∧ ∃ Al' Ak', fN_takeRuleBack Nz Nl Nr Np Nu Al Ak (nI i) = some (nI 1, Al', Ak') ∧ RA Al' Ak' w' 60) ∨ (tkS (rul s i) (m.1.headD 0) (m.2.1.headD 0) w = none ∧ fN_takeRuleBack Nz Nl Nr Np Nu Al Ak (nI i) = some (nI 0, Al, Ak)) := by
  have hL := hI.2.1
  have hpl := (List.getElem?_eq_some_iff.mp hm).1
  obtain ⟨hx, hy⟩ := hI.2.2.2 _ m hm
  have e0 := h.1
  subst e0
  have e1 := nIsNode hI hi
  have e2 := nIsNode hI hpl
  obtain ⟨e3, e4, -⟩ := RNf h hi
  have e3 := e3 hi0
  obtain ⟨e5, e6, -⟩ := h.2.2.2 _ m hm
  have e7 := zHead (ok13 hx)
  have e8 := zHead (ok13 hy)
  generalize rul s i = r at *
  obtain ⟨xs, ys, rest⟩ := m
  have e5 : Nl (prt s i) = lN (pq xs) := e5
  have e6 : Nr (prt s i) = lN (pq ys) := e6
  have e7 : fZ_head (lN (pq xs)) = some (nI (sy xs 0)) := e7
  have e8 : fZ_head (lN (pq ys)) = some (nI (sy ys 0)) := e8
  have hx : okS 12 xs := hx
  have hy : okS 12 ys := hy
  have hap : apB r xs ys = true := hap
  show (∃ w', tkS r (xs.headD 0) (ys.headD 0) w = some w' ∧ _) ∨ (tkS r (xs.headD 0) (ys.headD 0) w = none ∧ _)
  rcases (show r = 0 ∨ r = 1 ∨ r = 2 ∨ r = 3 ∨ r = 4 by omega) with rfl | rfl | rfl | rfl | rfl
  · refine Or.inl ⟨w, rfl, h0, Al, Ak, ?_, hA⟩
    simp -implicitDefEqProofs (disch := omega) only [fN_takeRuleBack, fN_takeRuleBack_18, litI, litL, nI_add, pk_mul, bd0_e, bd1_e, bd2_e, bd3_e, bd4_e, st_e, nI_leI, nI_ltI, nI_eq, if_pos, if_neg, if_true, if_false, ld_nI, sti_nI, stl_nI, e1, e2, e3, e4, e5, e6, e7, e8]
  · obtain ⟨a, xt, rfl, ha⟩ := apB_1 hap
    have ha6 := hx.2 a List.mem_cons_self
    have eg := aGive2 (k := 0) ha ha6 Al Ak (lN 0)
    rw [show sy (a :: xt) 0 = a + 1 from rfl] at e7
    refine Or.inl ⟨setW w a [], rfl, h0.set ha _, vp_updL Al (a + 1) (lN 0), upd Ak (a + 1) (nI 0), ?_, hA.set bits_nil (by decide)⟩
    simp -implicitDefEqProofs (disch := omega) only [fN_takeRuleBack, fN_takeRuleBack_18, litI, litL, nI_add, pk_mul, bd0_e, bd1_e, bd2_e, bd3_e, bd4_e, st_e, nI_leI, nI_ltI, nI_eq, if_pos, if_neg, if_true, if_false, ld_nI, sti_nI, stl_nI, e1, e2, e3, e4, e5, e6, e7, e8, eg]
  · obtain ⟨b, yt, rfl, hb⟩ := apB_2 hap
    have hb6 := hy.2 b List.mem_cons_self
    have eg := aGive2 (k := 0) hb hb6 Al Ak (lN 0)
    rw [show sy (b :: yt) 0 = b + 1 from rfl] at e8
    refine Or.inl ⟨setW w b [], rfl, h0.set hb _, vp_updL Al (b + 1) (lN 0), upd Ak (b + 1) (nI 0), ?_, hA.set bits_nil (by decide)⟩
    simp -implicitDefEqProofs (disch := omega) only [fN_takeRuleBack, fN_takeRuleBack_18, litI, litL, nI_add, pk_mul, bd0_e, bd1_e, bd2_e, bd3_e, bd4_e, st_e, nI_leI, nI_ltI, nI_eq, if_pos, if_neg, if_true, if_false, ld_nI, sti_nI, stl_nI, e1, e2, e3, e4, e5, e6, e7, e8, eg]
  · obtain ⟨a, xt, b, yt, rfl, rfl, ha⟩ := apB_3 hap
    have ha6 := hx.2 a List.mem_cons_self
    have hb6 := hy.2 b List.mem_cons_self
    obtain ⟨p1, p2⟩ := aPrepend hA ha ha6 hb6
    rw [show sy (a :: xt) 0 = a + 1 from rfl] at e7
    rw [show sy (b :: yt) 0 = b + 1 from rfl] at e8
    by_cases q : (w b).length + (w a).length ≤ 60
    · obtain ⟨Al', Ak', g1, g2⟩ := p1 q
      refine Or.inl ⟨setW w a (w b ++ w a), if_pos q, h0.set ha _, Al', Ak', ?_, g2⟩
      simp -implicitDefEqProofs (disch := omega) only [fN_takeRuleBack, fN_takeRuleBack_18, litI, litL, nI_add, pk_mul, bd0_e, bd1_e, bd2_e, bd3_e, bd4_e, st_e, nI_leI, nI_ltI, nI_eq, if_pos, if_neg, if_true, if_false, ld_nI, sti_nI, stl_nI, e1, e2, e3, e4, e5, e6, e7, e8, g1, ckzn1]
    · have g1 := p2 q
      refine Or.inr ⟨if_neg q, ?_⟩
      simp -implicitDefEqProofs (disch := omega) only [fN_takeRuleBack, fN_takeRuleBack_18, litI, litL, nI_add, pk_mul, bd0_e, bd1_e, bd2_e, bd3_e, bd4_e, st_e, nI_leI, nI_ltI, nI_eq, if_pos, if_neg, if_true, if_false, ld_nI, sti_nI, stl_nI, e1, e2, e3, e4, e5, e6, e7, e8, g1, ckzn0]
  · obtain ⟨a, xt, b, yt, rfl, rfl, hb⟩ := apB_4 hap
    have ha6 := hx.2 a List.mem_cons_self
    have hb6 := hy.2 b List.mem_cons_self
    obtain ⟨p1, p2⟩ := aPrepend hA hb hb6 ha6
    rw [show sy (a :: xt) 0 = a + 1 from rfl] at e7
    rw [show sy (b :: yt) 0 = b + 1 from rfl] at e8
    by_cases q : (w a).length + (w b).length ≤ 60
    · obtain ⟨Al', Ak', g1, g2⟩ := p1 q
      refine Or.inl ⟨setW w b (w a ++ w b), if_pos q, h0.set hb _, Al', Ak', ?_, g2⟩
      simp -implicitDefEqProofs (disch := omega) only [fN_takeRuleBack, fN_takeRuleBack_18, litI, litL, nI_add, pk_mul, bd0_e, bd1_e, bd2_e, bd3_e, bd4_e, st_e, nI_leI, nI_ltI, nI_eq, if_pos, if_neg, if_true, if_false, ld_nI, sti_nI, stl_nI, e1, e2, e3, e4, e5, e6, e7, e8, g1, ckzn1]
    · have g1 := p2 q
      refine Or.inr ⟨if_neg q, ?_⟩
      simp -implicitDefEqProofs (disch := omega) only [fN_takeRuleBack, fN_takeRuleBack_18, litI, litL, nI_add, pk_mul, bd0_e, bd1_e, bd2_e, bd3_e, bd4_e, st_e, nI_leI, nI_ltI, nI_eq, if_pos, if_neg, if_true, if_false, ld_nI, sti_nI, stl_nI, e1, e2, e3, e4, e5, e6, e7, e8, g1, ckzn0]
end TK
/-! the same in the reference -/
def WM (wt ws : Nat → Int32) (w : Nat → List Nat) : Prop := ∀ v, v < 4 → ws v = nI (w (v + 2)).length ∧ ∀ k, k < (w (v + 2)).length → wt (60 * v + k) = nI ((w (v + 2)).getD k 0)
def WL (w : Nat → List Nat) : Prop := ∀ s, s < 6 → (w s).length ≤ 60
set_option maxRecDepth 100000 in
theorem getD_app_r {xs ys : List Nat} {i : Nat} : (xs ++ ys).getD (xs.length + i) 0 = ys.getD i 0 := by
  rw [List.getD_eq_getElem?_getD, List.getD_eq_getElem?_getD, List.getElem?_append_right (by omega), Nat.add_sub_cancel_left]
section PA2
variable {wt ws : Nat → Int32} {w : Nat → List Nat}
set_option maxRecDepth 100000 in
theorem mPut3 {v L : Nat} (hv : v < 4) (hL : L ≤ 60) {tl : Int32} {bu : Nat → Int32} (hws : ws v = nI L) {T : List Nat} (hb : ∀ k, k < L → bu k = nI (T.getD k 0)) : ∀ (d i m : Nat) (wt : Nat → Int32), i + d = L → d < m → (∀ k, k < i → wt (60 * v + k) = nI (T.getD k 0)) →
    ∃ wt', fx2 (fM_putAhead_136 tl ws bu (nI v)) m wt (nI i) = some (tl, wt', ws, bu) ∧ (∀ k, k < L → wt' (60 * v + k) = nI (T.getD k 0)) ∧ ∀ k, (k < 60 * v ∨ 60 * v + 60 ≤ k) → wt' k = wt k := by
  intro d
  induction d with
  | zero =>
    intro i m wt hi hm hk
    obtain ⟨m, rfl⟩ := succ_of hm
    refine ⟨wt, ?_, fun k h => hk k (by omega), fun _ _ => rfl⟩
    simp -implicitDefEqProofs (disch := omega) only [fx2_s, fM_putAhead_136, litI, litL, nI_add, pk_mul, bd0_e, bd1_e, bd2_e, bd3_e, bd4_e, st_e, nI_leI, nI_ltI, nI_eq, if_pos, if_neg, if_true, if_false, ld_nI, sti_nI, stl_nI, hws]
  | succ d ih =>
    intro i m wt hi hm hk
    obtain ⟨m, rfl⟩ := succ_of hm
    have e1 := hb i (by omega)
    obtain ⟨wt', e, a, b⟩ := ih (i + 1) m (upd wt (60 * v + i) (nI (T.getD i 0))) (by omega) (by omega) (fun k h => by
      rw [upd_e]
      by_cases q : k = i
      · rw [q, if_pos rfl]
      · rw [if_neg (by omega)]; exact hk k (by omega))
    refine ⟨wt', ?_, a, fun k h => by rw [b k h, upd_e, if_neg (by omega)]⟩
    rw [← e]
    simp -implicitDefEqProofs (disch := omega) only [fx2_s, fM_putAhead_136, litI, litL, nI_add, pk_mul, bd0_e, bd1_e, bd2_e, bd3_e, bd4_e, st_e, nI_leI, nI_ltI, nI_eq, if_pos, if_neg, if_true, if_false, ld_nI, sti_nI, stl_nI, hws, e1]
set_option maxRecDepth 100000 in
theorem mPut2 {v : Nat} (hv : v < 4) {F S : List Nat} (hl : F.length + S.length ≤ 60) {tl : Int32} (hws : ws v = nI S.length) (hwt : ∀ k, k < S.length → wt (60 * v + k) = nI (S.getD k 0)) : ∀ (d i m : Nat) (bu : Nat → Int32), i + d = S.length → d < m → (∀ k, k < F.length + i → bu k = nI ((F ++ S).getD k 0)) →
    ∃ bu', fx2 (fM_putAhead_85 tl wt ws (nI v) (nI F.length)) m bu (nI i) = fx2 (fM_putAhead_136 tl (upd ws v (nI (S.length + F.length))) bu' (nI v)) FU wt (nI 0) ∧ ∀ k, k < F.length + S.length → bu' k = nI ((F ++ S).getD k 0) := by
  intro d
  induction d with
  | zero =>
    intro i m bu hi hm hk
    obtain ⟨m, rfl⟩ := succ_of hm
    refine ⟨bu, ?_, fun k h => hk k (by omega)⟩
    simp -implicitDefEqProofs (disch := omega) only [fx2_s, fM_putAhead_85, litI, litL, nI_add, pk_mul, bd0_e, bd1_e, bd2_e, bd3_e, bd4_e, st_e, nI_leI, nI_ltI, nI_eq, if_pos, if_neg, if_true, if_false, ld_nI, sti_nI, stl_nI, hws]
  | succ d ih =>
    intro i m bu hi hm hk
    obtain ⟨m, rfl⟩ := succ_of hm
    have e1 := hwt i (by omega)
    obtain ⟨bu', e, a⟩ := ih (i + 1) m (upd bu (F.length + i) (nI (S.getD i 0))) (by omega) (by omega) (fun k h => by
      rw [upd_e]
      by_cases q : k = F.length + i
      · rw [q, if_pos rfl, getD_app_r]
      · rw [if_neg q]; exact hk k (by omega))
    refine ⟨bu', ?_, a⟩
    rw [← e]
    simp -implicitDefEqProofs (disch := omega) only [fx2_s, fM_putAhead_85, litI, litL, nI_add, pk_mul, bd0_e, bd1_e, bd2_e, bd3_e, bd4_e, st_e, nI_leI, nI_ltI, nI_eq, if_pos, if_neg, if_true, if_false, ld_nI, sti_nI, stl_nI, hws, e1]
set_option maxRecDepth 100000 in
theorem mPut1 {v f : Nat} (hv : v < 4) (hf : f < 6) (h0 : W0 w) (hW : WM wt ws w) (hL : WL w) {tl : Int32} : ∀ (d i m : Nat) (bu : Nat → Int32), i + d = (w f).length → d < m → (∀ k, k < i → bu k = nI ((w f).getD k 0)) →
    ∃ bu', fx2 (fM_putAhead_40 tl wt ws (nI v) (nI f) (nI (w f).length)) m bu (nI i) = fx2 (fM_putAhead_85 tl wt ws (nI v) (nI (w f).length)) FU bu' (nI 0) ∧ ∀ k, k < (w f).length → bu' k = nI ((w f).getD k 0) := by
  have hl := hL f hf
  intro d
  induction d with
  | zero =>
    intro i m bu hi hm hk
    obtain ⟨m, rfl⟩ := succ_of hm
    refine ⟨bu, ?_, fun k h => hk k (by omega)⟩
    simp -implicitDefEqProofs (disch := omega) only [fx2_s, fM_putAhead_40, litI, litL, nI_add, pk_mul, bd0_e, bd1_e, bd2_e, bd3_e, bd4_e, st_e, nI_leI, nI_ltI, nI_eq, if_pos, if_neg, if_true, if_false, ld_nI, sti_nI, stl_nI]
  | succ d ih =>
    intro i m bu hi hm hk
    obtain ⟨m, rfl⟩ := succ_of hm
    obtain ⟨bu', e, a⟩ := ih (i + 1) m (upd bu i (nI ((w f).getD i 0))) (by omega) (by omega) (fun k h => by
      rw [upd_e]
      by_cases q : k = i
      · rw [q, if_pos rfl]
      · rw [if_neg q]; exact hk k (by omega))
    refine ⟨bu', ?_, a⟩
    rw [← e]
    by_cases q : 2 ≤ f
    · have e1 := (hW (f - 2) (by omega)).2 i (by rw [show f - 2 + 2 = f by omega]; omega)
      rw [show f - 2 + 2 = f by omega] at e1
      have e2 : nI f - nI 2 = nI (f - 2) := pk_sub q
      simp -implicitDefEqProofs (disch := omega) only [fx2_s, fM_putAhead_40, fM_putAhead_75, litI, litL, nI_add, pk_mul, bd0_e, bd1_e, bd2_e, bd3_e, bd4_e, st_e, nI_leI, nI_ltI, nI_eq, if_pos, if_neg, if_true, if_false, ld_nI, sti_nI, stl_nI, e2, e1]
    · have hw1 : w f = [f] := by
        rcases (show f = 0 ∨ f = 1 by omega) with rfl | rfl
        · exact h0.1
        · exact h0.2
      have hi0 : i = 0 := by rw [hw1] at hi; have hi : i + (d + 1) = 1 := hi; omega
      have e1 : (w f).getD i 0 = f := by rw [hw1, hi0]; rfl
      rw [e1]
      simp -implicitDefEqProofs (disch := omega) only [fx2_s, fM_putAhead_40, fM_putAhead_75, litI, litL, nI_add, pk_mul, bd0_e, bd1_e, bd2_e, bd3_e, bd4_e, st_e, nI_leI, nI_ltI, nI_eq, if_pos, if_neg, if_true, if_false, ld_nI, sti_nI, stl_nI]
set_option maxRecDepth 100000 in
theorem mPutAhead {v f : Nat} (hv : v < 4) (hf : f < 6) (h0 : W0 w) (hW : WM wt ws w) (hL : WL w) (bu : Nat → Int32) :
    ((w f).length + (w (v + 2)).length ≤ 60 → ∃ wt' ws' bu', fM_putAhead (nI 0) wt ws bu (nI v) (nI f) = some (nI 0, wt', ws', bu') ∧ WM wt' ws' (setW w (v + 2) (w f ++ w (v + 2)))) ∧ (¬ (w f).length + (w (v + 2)).length ≤ 60 → fM_putAhead (nI 0) wt ws bu (nI v) (nI f) = some (nI 1, wt, ws, bu)) := by
  have l1 := hL f hf
  have l2 := hL (v + 2) (by omega)
  obtain ⟨v1, v2⟩ := hW v hv
  have e17 : ∀ tl, fM_putAhead tl wt ws bu (nI v) (nI f) = fM_putAhead_17 tl wt ws bu (nI v) (nI f) (nI (w f).length) := by
    intro tl
    by_cases q : 2 ≤ f
    · have e1 := (hW (f - 2) (by omega)).1
      rw [show f - 2 + 2 = f by omega] at e1
      have e2 : nI f - nI 2 = nI (f - 2) := pk_sub q
      simp -implicitDefEqProofs (disch := omega) only [fM_putAhead, litI, litL, nI_add, pk_mul, bd0_e, bd1_e, bd2_e, bd3_e, bd4_e, st_e, nI_leI, nI_ltI, nI_eq, if_pos, if_neg, if_true, if_false, ld_nI, sti_nI, stl_nI, e2, e1]
    · have hw1 : w f = [f] := by
        rcases (show f = 0 ∨ f = 1 by omega) with rfl | rfl
        · exact h0.1
        · exact h0.2
      rw [hw1, List.length_singleton]
      simp -implicitDefEqProofs (disch := omega) only [fM_putAhead, litI, litL, nI_add, pk_mul, bd0_e, bd1_e, bd2_e, bd3_e, bd4_e, st_e, nI_leI, nI_ltI, nI_eq, if_pos, if_neg, if_true, if_false, ld_nI, sti_nI, stl_nI]
  rw [e17]
  refine ⟨fun q => ?_, fun q => ?_⟩
  · obtain ⟨bu1, g1, b1⟩ := mPut1 (tl := nI 0) hv hf h0 hW hL (w f).length 0 FU bu (by omega) (fuel (by omega)) (fun k h => absurd h (Nat.not_lt_zero _))
    obtain ⟨bu2, g2, b2⟩ := mPut2 (wt := wt) (ws := ws) hv (F := w f) (S := w (v + 2)) (by omega) (tl := nI 0) v1 v2 (w (v + 2)).length 0 FU bu1 (by omega) (fuel (by omega)) (fun k h => by rw [b1 k (by omega), getD_append_l (by omega)])
    have hl : (w f ++ w (v + 2)).length = (w (v + 2)).length + (w f).length := by rw [List.length_append, Nat.add_comm]
    obtain ⟨wt', g3, b3, b4⟩ := mPut3 (ws := upd ws v (nI ((w (v + 2)).length + (w f).length))) hv (L := (w (v + 2)).length + (w f).length) (by omega) (tl := nI 0) (bu := bu2) (by rw [upd_e, if_pos rfl]) (T := w f ++ w (v + 2)) (fun k h => b2 k (by omega)) ((w (v + 2)).length + (w f).length) 0 FU wt (by omega) (fuel (by omega)) (fun k h => absurd h (Nat.not_lt_zero _))
    refine ⟨wt', upd ws v (nI ((w (v + 2)).length + (w f).length)), bu2, ?_, fun u hu => ?_⟩
    · rw [← g3, ← g2, ← g1]
      simp -implicitDefEqProofs (disch := omega) only [fM_putAhead_17, litI, litL, nI_add, pk_mul, bd0_e, bd1_e, bd2_e, bd3_e, bd4_e, st_e, nI_leI, nI_ltI, nI_eq, if_pos, if_neg, if_true, if_false, ld_nI, sti_nI, stl_nI, v1]
    · by_cases qu : u = v
      · rw [qu, setW_at, upd_e, if_pos rfl, hl]
        exact ⟨rfl, b3⟩
      · obtain ⟨u1, u2⟩ := hW u hu
        have l3 := hL (u + 2) (by omega)
        rw [setW_ne (by omega), upd_e, if_neg qu]
        exact ⟨u1, fun k h => by rw [b4 _ (by omega)]; exact u2 k h⟩
  · simp -implicitDefEqProofs (disch := omega) only [fM_putAhead_17, litI, litL, nI_add, pk_mul, bd0_e, bd1_e, bd2_e, bd3_e, bd4_e, st_e, nI_leI, nI_ltI, nI_eq, if_pos, if_neg, if_true, if_false, ld_nI, sti_nI, stl_nI, v1]
end PA2
