/-! the text: characters, the error position -/
def symb (c : Nat) : Option Nat := if c = 97 then some 0 else if c = 98 then some 1 else if 87 ≤ c ∧ c ≤ 90 then some (c - 85) else none
def syZ (c : Nat) : Nat := match symb c with
  | none => 0
  | some s => s + 1
def syM (c : Nat) : Int32 := match symb c with
  | none => -9
  | some s => nI s
set_option maxRecDepth 100000 in
theorem zSymbolOf : ∀ c, c < 256 → fZ_symbolOf (nI c) = some (nI (syZ c)) := by decide +kernel
set_option maxRecDepth 100000 in
theorem mSymbolOf : ∀ c, c < 256 → fM_symbolOf (nI c) = some (syM c) := by decide +kernel
set_option maxRecDepth 100000 in
theorem symb_lt {c s : Nat} (h : symb c = some s) : s < 6 := by
  unfold symb at h
  split at h
  · cases h; decide
  · split at h
    · cases h; decide
    · split at h
      · cases h; omega
      · cases h
def fit (s c : Nat) : Bool := if s = 0 then decide (c = 59) else if s = 1 then decide (87 ≤ c ∧ c ≤ 90) else if s = 2 then decide (60 ≤ c ∧ c ≤ 62) else decide (48 ≤ c ∧ c ≤ 57)
set_option maxRecDepth 100000 in
theorem tFits : ∀ s, s < 4 → ∀ c, c < 256 → fT_fits (nI s) (nI c) = some (nI (if fit s c = true then 1 else 0)) := by decide +kernel
/-- the two texts are one: n characters tx -/
def RT (Tn : Int32) (Tc : Nat → Int32) (Mn : Int32) (Mt : Nat → Int32) (n : Nat) (tx : Nat → Nat) : Prop := n ≤ 40 ∧ Tn = nI n ∧ Mn = nI n ∧ ∀ j, j < n → tx j < 256 ∧ Tc j = nI (tx j) ∧ Mt j = nI (tx j)
def tA (tx : Nat → Nat) (n i : Nat) : Nat := if i < n then tx i else 0
set_option maxRecDepth 100000 in
theorem i2c_n {c : Nat} (h : c < 256) : i2c (nI c) = nI c := by
  unfold i2c
  rw [pk_char, pk_tn (by omega), Nat.mod_eq_of_lt (by omega)]
set_option maxRecDepth 100000 in
theorem nar_c {c : Nat} (h : c < 256) : vp_nar .char (nI c) = nI c := by
  have h2 := i2c_n h
  unfold i2c at h2
  rw [← h2, pk_vc]
set_option maxRecDepth 100000 in
theorem pAppend {Tn : Int32} {Tc : Nat → Int32} {Mn : Int32} {Mt : Nat → Int32} {n : Nat} {tx : Nat → Nat} (h : RT Tn Tc Mn Mt n tx) (x1 : Int32) :
    ∃ r Tn' Tc' Mn' Mt', fX_append Tn Tc x1 = some (r, Tn', Tc') ∧ fM_append Mn Mt x1 = some (r, Mn', Mt') ∧ ∃ n' tx', RT Tn' Tc' Mn' Mt' n' tx' := by
  obtain ⟨hn, rfl, rfl, ht⟩ := h
  rcases pk_ix x1 (n := 256) (by decide) with c | c | ⟨c, hc, rfl⟩
  · refine ⟨-2, nI n, Tc, nI n, Mt, ?_, ?_, n, tx, hn, rfl, rfl, ht⟩
    · rw [fX_append, if_pos c]
    · simp -implicitDefEqProofs (disch := omega) only [fM_append, litI, litL, nI_add, pk_mul, bd0_e, bd1_e, bd2_e, bd3_e, bd4_e, st_e, nI_leI, nI_ltI, nI_eq, if_pos, if_neg, if_true, if_false, ld_nI, sti_nI, stl_nI, mInLo c] <;> rfl
  · refine ⟨-2, nI n, Tc, nI n, Mt, ?_, ?_, n, tx, hn, rfl, rfl, ht⟩
    · rw [fX_append, if_neg (not_lo (by decide) c), if_neg (show ¬ x1 ≤ (255 : Int32) from fun z => absurd (Int32.lt_of_lt_of_le (hi_of (n := 255) (by decide) c) z) Int32.lt_irrefl)]
    · simp -implicitDefEqProofs (disch := omega) only [fM_append, litI, litL, nI_add, pk_mul, bd0_e, bd1_e, bd2_e, bd3_e, bd4_e, st_e, nI_leI, nI_ltI, nI_eq, if_pos, if_neg, if_true, if_false, ld_nI, sti_nI, stl_nI, mInHi (n := 255) (by decide) (hi_of (by decide) c)] <;> rfl
  · have b := mInIn (j := c) (n := 255) (by decide) (by omega)
    by_cases q : n = 40
    · subst q
      refine ⟨-4, nI 40, Tc, nI 40, Mt, ?_, ?_, 40, tx, hn, rfl, rfl, ht⟩
      · simp -implicitDefEqProofs (disch := omega) only [fX_append, fT_add, litI, litL, nI_add, pk_mul, bd0_e, bd1_e, bd2_e, bd3_e, bd4_e, st_e, nI_leI, nI_ltI, nI_eq, if_pos, if_neg, if_true, if_false, ld_nI, sti_nI, stl_nI] <;> rfl
      · simp -implicitDefEqProofs (disch := omega) only [fM_append, litI, litL, nI_add, pk_mul, bd0_e, bd1_e, bd2_e, bd3_e, bd4_e, st_e, nI_leI, nI_ltI, nI_eq, if_pos, if_neg, if_true, if_false, ld_nI, sti_nI, stl_nI, b] <;> rfl
    · refine ⟨nI (n + 1), nI (n + 1), upd Tc n (nI c), nI (n + 1), upd Mt n (nI c), ?_, ?_, n + 1, (fun j => if j = n then c else tx j), by omega, rfl, rfl, fun j hj => ?_⟩
      · simp -implicitDefEqProofs (disch := omega) only [fX_append, fT_add, fT_size, litI, litL, nI_add, pk_mul, bd0_e, bd1_e, bd2_e, bd3_e, bd4_e, st_e, nI_leI, nI_ltI, nI_eq, if_pos, if_neg, if_true, if_false, ld_nI, sti_nI, stl_nI, i2c_n hc, nar_c hc]
      · simp -implicitDefEqProofs (disch := omega) only [fM_append, litI, litL, nI_add, pk_mul, bd0_e, bd1_e, bd2_e, bd3_e, bd4_e, st_e, nI_leI, nI_ltI, nI_eq, if_pos, if_neg, if_true, if_false, ld_nI, sti_nI, stl_nI, b]
      · by_cases q2 : j = n
        · subst q2
          rw [upd_e, upd_e, if_pos rfl, if_pos rfl]
          dsimp only
          rw [if_pos rfl]
          exact ⟨hc, rfl, rfl⟩
        · rw [upd_e, upd_e, if_neg q2, if_neg q2]
          dsimp only
          rw [if_neg q2]
          exact ht j (by omega)
set_option maxRecDepth 100000 in
theorem pClearText {Tn : Int32} {Tc : Nat → Int32} {Mn : Int32} {Mt : Nat → Int32} {n : Nat} {tx : Nat → Nat} (h : RT Tn Tc Mn Mt n tx) :
    ∃ r Tn' Mn', fX_clearText Tn = some (r, Tn') ∧ fM_clearText Mn = some (r, Mn') ∧ ∃ n' tx', RT Tn' Tc Mn' Mt n' tx' := by
  obtain ⟨hn, rfl, rfl, ht⟩ := h
  exact ⟨nI n, nI 0, nI 0, rfl, rfl, 0, tx, by decide, rfl, rfl, fun j hj => absurd hj (by omega)⟩
set_option maxRecDepth 100000 in
theorem tA_lt {n : Nat} {tx : Nat → Nat} (ht : ∀ j, j < n → tx j < 256) (i : Nat) : tA tx n i < 256 := by
  unfold tA
  split
  · exact ht i (by assumption)
  · decide
set_option maxRecDepth 100000 in
theorem tAt {Tc : Nat → Int32} {n : Nat} {tx : Nat → Nat} (hn : n ≤ 40) (ht : ∀ j, j < n → tx j < 256 ∧ Tc j = nI (tx j)) {i : Nat} (hi : i < 2 ^ 31) : fT_at (nI n) Tc (nI i) = some (nI (tA tx n i)) := by
  unfold tA
  by_cases q : i < n
  · have hc := (ht i q).1
    simp -implicitDefEqProofs (disch := omega) only [fT_at, litI, litL, nI_add, pk_mul, bd0_e, bd1_e, bd2_e, bd3_e, bd4_e, st_e, nI_leI, nI_ltI, nI_eq, if_pos, if_neg, if_true, if_false, ld_nI, sti_nI, stl_nI, (ht i q).2, ckc_nI]
  · simp -implicitDefEqProofs (disch := omega) only [fT_at, litI, litL, nI_add, pk_mul, bd0_e, bd1_e, bd2_e, bd3_e, bd4_e, st_e, nI_leI, nI_ltI, nI_eq, if_pos, if_neg, if_true, if_false, ld_nI, sti_nI, stl_nI, ckc_nI]
def run (p : Nat → Bool) : Nat → Nat → Nat
  | _, 0 => 0
  | i, k + 1 => if p i = true then run p (i + 1) k + 1 else 0
set_option maxRecDepth 100000 in
theorem run_le (p : Nat → Bool) : ∀ (k i : Nat), run p i k ≤ k
  | 0, _ => Nat.le_refl _
  | k + 1, i => by
    rw [run]
    split
    · have := run_le p k (i + 1); omega
    · omega
set_option maxRecDepth 100000 in
theorem run_in (p : Nat → Bool) : ∀ (k i j : Nat), j < run p i k → p (i + j) = true
  | 0, i, j, h => absurd h (by rw [run]; omega)
  | k + 1, i, j, h => by
    rw [run] at h
    split at h
    · rename_i hp
      cases j with
      | zero => exact hp
      | succ j => rw [show i + (j + 1) = (i + 1) + j by omega]; exact run_in p k (i + 1) j (by omega)
    · omega
set_option maxRecDepth 100000 in
theorem run_out (p : Nat → Bool) : ∀ (k i : Nat), run p i k < k → p (i + run p i k) = false
  | 0, i, h => absurd h (by omega)
  | k + 1, i, h => by
    rw [run] at h ⊢
    split at h
    · rename_i hp
      rw [if_pos hp, show i + (run p (i + 1) k + 1) = (i + 1) + run p (i + 1) k by omega]
      exact run_out p k (i + 1) (by omega)
    · rename_i hp
      rw [if_neg hp, Nat.add_zero]
      simpa using hp
/-- a symbol stands there -/
def isS (tx : Nat → Nat) (n i : Nat) : Bool := (symb (tA tx n i)).isSome
set_option maxRecDepth 100000 in
theorem syZ_0 (c : Nat) : syZ c = 0 ↔ (symb c).isSome = false := by
  unfold syZ
  cases symb c with
  | none => simp
  | some s => simp
set_option maxRecDepth 100000 in
theorem syM_9 (c : Nat) : syM c = -9 ↔ (symb c).isSome = false := by
  unfold syM
  cases h : symb c with
  | none => simp
  | some s =>
    simp
    have := symb_lt h
    rw [fa_eq, nI_toInt (by omega)]
    have e : (-9 : Int32).toInt = -9 := by decide
    omega
set_option maxRecDepth 100000 in
theorem syZ_lt (c : Nat) : syZ c < 7 := by
  unfold syZ
  cases h : symb c with
  | none => decide
  | some s => have := symb_lt h; show s + 1 < 7; omega
set_option maxRecDepth 100000 in
theorem isS_lt {tx : Nat → Nat} {n i : Nat} (h : isS tx n i = true) : i < n := by
  unfold isS tA at h
  by_cases q : i < n
  · exact q
  · rw [if_neg q] at h; exact absurd h (by decide)
set_option maxRecDepth 100000 in
theorem tEndOfSide {Tc : Nat → Int32} {n : Nat} {tx : Nat → Nat} (hn : n ≤ 40) (ht : ∀ j, j < n → tx j < 256 ∧ Tc j = nI (tx j)) {f : Nat} (hf : f < 1000) : fT_endOfSide (nI n) Tc (nI f) = some (nI (f + run (isS tx n) f 8)) := by
  have key : ∀ (k j m : Nat), j + k = 8 → k < m → fx1 (fT_endOfSide_2 (nI n) Tc (nI f)) m (nI (f + j)) = some (nI (f + j + run (isS tx n) (f + j) k)) := by
    intro k
    induction k with
    | zero =>
      intro j m hj hm
      obtain ⟨m, rfl⟩ := succ_of hm
      simp -implicitDefEqProofs (disch := omega) only [fx1_s, fT_endOfSide_2, litI, litL, nI_add, pk_mul, bd0_e, bd1_e, bd2_e, bd3_e, bd4_e, st_e, nI_leI, nI_ltI, nI_eq, if_pos, if_neg, if_true, if_false, ld_nI, sti_nI, stl_nI, run, Nat.add_zero]
    | succ k ih =>
      intro j m hj hm
      obtain ⟨m, rfl⟩ := succ_of hm
      have hc := tA_lt (tx := tx) (n := n) (fun j hj => (ht j hj).1) (f + j)
      have h7 := syZ_lt (tA tx n (f + j))
      simp -implicitDefEqProofs (disch := omega) only [fx1_s, fT_endOfSide_2, litI, litL, nI_add, pk_mul, bd0_e, bd1_e, bd2_e, bd3_e, bd4_e, st_e, nI_leI, nI_ltI, nI_eq, if_pos, if_neg, if_true, if_false, ld_nI, sti_nI, stl_nI, tAt hn ht, zSymbolOf _ hc, syZ_0]
      rw [run]
      by_cases q : isS tx n (f + j) = true
      · have q' : (symb (tA tx n (f + j))).isSome = true := q
        rw [if_pos q, if_neg (by rw [q']; decide), Nat.add_assoc f j 1, ih (j + 1) m (by omega) (by omega), show f + (j + 1) + run (isS tx n) (f + (j + 1)) k = f + j + (run (isS tx n) (f + j + 1) k + 1) by rw [show f + (j + 1) = f + j + 1 by omega]; omega]
        rfl
      · have q' : (symb (tA tx n (f + j))).isSome = false := by simpa [isS] using q
        rw [if_neg q, if_pos q', Nat.add_zero]
  have := key 8 0 FU (by omega) (fuel (by omega))
  exact this
/-- what is wrong behind the sides: r constraints may still come at e -/
def cerr (tx : Nat → Nat) (n : Nat) : Nat → Nat → Option Nat
  | 0, e => if e = n then none else some e
  | r + 1, e => if n ≤ e then (if e = n then none else some e)
    else if fit 0 (tA tx n e) = false then some e
    else if fit 1 (tA tx n (e + 1)) = false then some (e + 1)
    else if fit 2 (tA tx n (e + 2)) = false then some (e + 2)
    else if fit 3 (tA tx n (e + 3)) = false then some (e + 3)
    else cerr tx n r (e + 4)
def eres (o : Option Nat) : Int32 := match o with
  | none => -9
  | some k => nI k
set_option maxRecDepth 100000 in
theorem fit_nI (s c : Nat) : nI (if fit s c = true then 1 else 0) = nI 0 ↔ fit s c = false := by
  cases fit s c <;> decide
set_option maxRecDepth 100000 in
theorem tErr44 {Tc : Nat → Int32} {n : Nat} {tx : Nat → Nat} (hn : n ≤ 40) (ht : ∀ j, j < n → tx j < 256 ∧ Tc j = nI (tx j)) (k28 : Int32 → Int32 → Option Int32) {c e : Nat} (he : e < 1000) :
    fx2 (fT_firstError_44 k28 (nI n) Tc (nI c)) FU (nI e) (nI 0) = (if fit 0 (tA tx n e) = false then some (nI e) else if fit 1 (tA tx n (e + 1)) = false then some (nI (e + 1)) else if fit 2 (tA tx n (e + 2)) = false then some (nI (e + 2)) else if fit 3 (tA tx n (e + 3)) = false then some (nI (e + 3)) else k28 (nI (e + 4)) (nI (c + 1))) := by
  have step : ∀ (m i : Nat), i < 4 → fx2 (fT_firstError_44 k28 (nI n) Tc (nI c)) (m + 1) (nI (e + i)) (nI i) = if fit i (tA tx n (e + i)) = false then some (nI (e + i)) else fx2 (fT_firstError_44 k28 (nI n) Tc (nI c)) m (nI (e + i + 1)) (nI (i + 1)) := by
    intro m i hi
    have hc := tA_lt (tx := tx) (n := n) (fun j hj => (ht j hj).1) (e + i)
    simp -implicitDefEqProofs (disch := omega) only [fx2_s, fT_firstError_44, litI, litL, nI_add, pk_mul, bd0_e, bd1_e, bd2_e, bd3_e, bd4_e, st_e, nI_leI, nI_ltI, nI_eq, if_pos, if_neg, if_true, if_false, ld_nI, sti_nI, stl_nI, tAt hn ht, tFits i hi _ hc, fit_nI]
  have last : ∀ (m e' : Nat), fx2 (fT_firstError_44 k28 (nI n) Tc (nI c)) (m + 1) (nI e') (nI 4) = k28 (nI e') (nI (c + 1)) := by
    intro m e'
    simp -implicitDefEqProofs (disch := omega) only [fx2_s, fT_firstError_44, litI, litL, nI_add, pk_mul, bd0_e, bd1_e, bd2_e, bd3_e, bd4_e, st_e, nI_leI, nI_ltI, nI_eq, if_pos, if_neg, if_true, if_false, ld_nI, sti_nI, stl_nI]
  have s0 : fx2 (fT_firstError_44 k28 (nI n) Tc (nI c)) (999999 + 1) (nI e) (nI 0) = if fit 0 (tA tx n e) = false then some (nI e) else fx2 (fT_firstError_44 k28 (nI n) Tc (nI c)) 999999 (nI (e + 1)) (nI 1) := step 999999 0 (by decide)
  rw [show FU = 999999 + 1 from rfl, s0, show (999999 : Nat) = 999998 + 1 from rfl, step 999998 1 (by decide), show (999998 : Nat) = 999997 + 1 from rfl, show (1 + 1 : Nat) = 2 from rfl, show e + 1 + 1 = e + 2 from rfl, step 999997 2 (by decide), show (999997 : Nat) = 999996 + 1 from rfl, show (2 + 1 : Nat) = 3 from rfl, show e + 2 + 1 = e + 3 from rfl, step 999996 3 (by decide), show (999996 : Nat) = 999995 + 1 from rfl, show (3 + 1 : Nat) = 4 from rfl, show e + 3 + 1 = e + 4 from rfl, last]
set_option maxRecDepth 100000 in
theorem tErr28 {Tc : Nat → Int32} {n : Nat} {tx : Nat → Nat} (hn : n ≤ 40) (ht : ∀ j, j < n → tx j < 256 ∧ Tc j = nI (tx j)) : ∀ (r c e m : Nat), c + r = 4 → e < 500 + 4 * c → r < m → fx2 (fT_firstError_28 (nI n) Tc) m (nI e) (nI c) = some (eres (cerr tx n r e)) := by
  have F80 : ∀ e, e < 1000 → fT_firstError_80 (nI n) (nI e) = some (eres (if e = n then none else some e)) := by
    intro e he
    by_cases q : e = n
    · simp -implicitDefEqProofs (disch := omega) only [fT_firstError_80, litI, litL, nI_add, pk_mul, bd0_e, bd1_e, bd2_e, bd3_e, bd4_e, st_e, nI_leI, nI_ltI, nI_eq, if_pos, if_neg, if_true, if_false, ld_nI, sti_nI, stl_nI] <;> rfl
    · simp -implicitDefEqProofs (disch := omega) only [fT_firstError_80, litI, litL, nI_add, pk_mul, bd0_e, bd1_e, bd2_e, bd3_e, bd4_e, st_e, nI_leI, nI_ltI, nI_eq, if_pos, if_neg, if_true, if_false, ld_nI, sti_nI, stl_nI] <;> rfl
  intro r
  induction r with
  | zero =>
    intro c e m hc he hm
    obtain ⟨m, rfl⟩ := succ_of hm
    rw [cerr, ← F80 e (by omega)]
    simp -implicitDefEqProofs (disch := omega) only [fx2_s, fT_firstError_28, litI, litL, nI_add, pk_mul, bd0_e, bd1_e, bd2_e, bd3_e, bd4_e, st_e, nI_leI, nI_ltI, nI_eq, if_pos, if_neg, if_true, if_false, ld_nI, sti_nI, stl_nI]
  | succ r ih =>
    intro c e m hc he hm
    obtain ⟨m, rfl⟩ := succ_of hm
    rw [cerr]
    by_cases q : n ≤ e
    · rw [if_pos q, ← F80 e (by omega)]
      simp -implicitDefEqProofs (disch := omega) only [fx2_s, fT_firstError_28, litI, litL, nI_add, pk_mul, bd0_e, bd1_e, bd2_e, bd3_e, bd4_e, st_e, nI_leI, nI_ltI, nI_eq, if_pos, if_neg, if_true, if_false, ld_nI, sti_nI, stl_nI]
    · rw [if_neg q]
      have h44 := tErr44 hn ht (fx2 (fT_firstError_28 (nI n) Tc) m) (c := c) (e := e) (by omega)
      simp -implicitDefEqProofs (disch := omega) only [fx2_s, fT_firstError_28, litI, litL, nI_add, pk_mul, bd0_e, bd1_e, bd2_e, bd3_e, bd4_e, st_e, nI_leI, nI_ltI, nI_eq, if_pos, if_neg, if_true, if_false, ld_nI, sti_nI, stl_nI, h44]
      rw [ih (c + 1) (e + 4) m (by omega) (by omega) (by omega)]
      by_cases f0 : fit 0 (tA tx n e) = false
      · rw [if_pos f0, if_pos f0]; rfl
      · rw [if_neg f0, if_neg f0]
        by_cases f1 : fit 1 (tA tx n (e + 1)) = false
        · rw [if_pos f1, if_pos f1]; rfl
        · rw [if_neg f1, if_neg f1]
          by_cases f2 : fit 2 (tA tx n (e + 2)) = false
          · rw [if_pos f2, if_pos f2]; rfl
          · rw [if_neg f2, if_neg f2]
            by_cases f3 : fit 3 (tA tx n (e + 3)) = false
            · rw [if_pos f3, if_pos f3]; rfl
            · rw [if_neg f3, if_neg f3]
def mid (tx : Nat → Nat) (n : Nat) : Nat := run (isS tx n) 0 8
def ends (tx : Nat → Nat) (n : Nat) : Nat := mid tx n + 1 + run (isS tx n) (mid tx n + 1) 8
/-- the error position -/
def terr (tx : Nat → Nat) (n : Nat) : Option Nat := if tA tx n (mid tx n) = 61 then cerr tx n 4 (ends tx n) else some (mid tx n)
set_option maxRecDepth 100000 in
theorem tFirstError {Tc : Nat → Int32} {n : Nat} {tx : Nat → Nat} (hn : n ≤ 40) (ht : ∀ j, j < n → tx j < 256 ∧ Tc j = nI (tx j)) : fT_firstError (nI n) Tc = some (eres (terr tx n)) := by
  have h1 := tEndOfSide hn ht (f := 0) (by decide)
  rw [Nat.zero_add] at h1
  have hm := run_le (isS tx n) 8 0
  have h2 := tEndOfSide hn ht (f := mid tx n + 1) (by unfold mid; omega)
  have hm2 := run_le (isS tx n) 8 (mid tx n + 1)
  have hc := tA_lt (tx := tx) (n := n) (fun j hj => (ht j hj).1) (mid tx n)
  have h1' : fT_endOfSide (nI n) Tc (nI 0) = some (nI (mid tx n)) := h1
  have h2' : fT_endOfSide (nI n) Tc (nI (mid tx n + 1)) = some (nI (ends tx n)) := h2
  have hml : mid tx n ≤ 8 := hm
  have hel : ends tx n ≤ 17 := by unfold ends; omega
  have h3 := tErr28 hn ht 4 0 (ends tx n) FU (by omega) (by omega) (fuel (by omega))
  unfold terr
  by_cases q : tA tx n (mid tx n) = 61
  · rw [if_pos q]
    simp -implicitDefEqProofs (disch := omega) only [fT_firstError, litI, litL, nI_add, pk_mul, bd0_e, bd1_e, bd2_e, bd3_e, bd4_e, st_e, nI_leI, nI_ltI, nI_eq, if_pos, if_neg, if_true, if_false, ld_nI, sti_nI, stl_nI, h1', tAt hn ht, h2', h3]
  · rw [if_neg q]
    simp -implicitDefEqProofs (disch := omega) only [fT_firstError, litI, litL, nI_add, pk_mul, bd0_e, bd1_e, bd2_e, bd3_e, bd4_e, st_e, nI_leI, nI_ltI, nI_eq, if_pos, if_neg, if_true, if_false, ld_nI, sti_nI, stl_nI, h1', tAt hn ht] <;> rfl
