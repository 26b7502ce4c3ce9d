/-! length constraints: what they allow -/
def b1 (b : Bool) : Nat := if b = true then 1 else 0
set_option maxRecDepth 100000 in
theorem b1_t : b1 true = 1 := rfl
set_option maxRecDepth 100000 in
theorem b1_f : b1 false = 0 := rfl
set_option maxRecDepth 100000 in
theorem b1_lt (b : Bool) : b1 b < 2 := by cases b <;> decide
set_option maxRecDepth 100000 in
theorem ckzn0 {β : Type} {k : Option β} : ckz (nI 0) k = k := rfl
set_option maxRecDepth 100000 in
theorem ckzn1 {β : Type} {k : Option β} : ckz (nI 1) k = k := rfl
def okC (k : Nat) (q : Nat × Nat × Nat) : Bool := if q.2.1 = 0 then decide (k < q.2.2) else if q.2.1 = 1 then decide (k = q.2.2) else decide (q.2.2 < k)
set_option maxRecDepth 100000 in
theorem okC_0 (k v c : Nat) : okC k (v, 0, c) = decide (k < c) := rfl
set_option maxRecDepth 100000 in
theorem okC_1 (k v c : Nat) : okC k (v, 1, c) = decide (k = c) := rfl
set_option maxRecDepth 100000 in
theorem okC_2 (k v c : Nat) : okC k (v, 2, c) = decide (c < k) := rfl
def alw (v k : Nat) : List (Nat × Nat × Nat) → Bool
  | [] => true
  | q :: cs => (if q.1 = v then okC k q else true) && alw v k cs
set_option maxRecDepth 100000 in
theorem cHolds {k v r c : Nat} (hk : k < 2 ^ 31) (hr : r < 3) (hc : c < 10) : fC_holds (nI k) (nI (60 + r)) (nI c) = some (nI (b1 (okC k (v, r, c)))) := by
  rcases (show r = 0 ∨ r = 1 ∨ r = 2 by omega) with rfl | rfl | rfl
  · rw [okC_0]
    by_cases q : k < c
    · rw [decide_eq_true q, b1_t]
      simp -implicitDefEqProofs (disch := omega) only [fC_holds, litI, litL, nI_add, pk_mul, bd0_e, bd1_e, bd2_e, bd3_e, bd4_e, st_e, nI_leI, nI_ltI, nI_eq, if_pos, if_neg, if_true, if_false, ld_nI, sti_nI, stl_nI]
    · rw [decide_eq_false q, b1_f]
      simp -implicitDefEqProofs (disch := omega) only [fC_holds, litI, litL, nI_add, pk_mul, bd0_e, bd1_e, bd2_e, bd3_e, bd4_e, st_e, nI_leI, nI_ltI, nI_eq, if_pos, if_neg, if_true, if_false, ld_nI, sti_nI, stl_nI]
  · rw [okC_1]
    by_cases q : k = c
    · rw [decide_eq_true q, b1_t]
      simp -implicitDefEqProofs (disch := omega) only [fC_holds, litI, litL, nI_add, pk_mul, bd0_e, bd1_e, bd2_e, bd3_e, bd4_e, st_e, nI_leI, nI_ltI, nI_eq, if_pos, if_neg, if_true, if_false, ld_nI, sti_nI, stl_nI]
    · rw [decide_eq_false q, b1_f]
      simp -implicitDefEqProofs (disch := omega) only [fC_holds, litI, litL, nI_add, pk_mul, bd0_e, bd1_e, bd2_e, bd3_e, bd4_e, st_e, nI_leI, nI_ltI, nI_eq, if_pos, if_neg, if_true, if_false, ld_nI, sti_nI, stl_nI]
  · rw [okC_2]
    by_cases q : c < k
    · rw [decide_eq_true q, b1_t]
      simp -implicitDefEqProofs (disch := omega) only [fC_holds, litI, litL, nI_add, pk_mul, bd0_e, bd1_e, bd2_e, bd3_e, bd4_e, st_e, nI_leI, nI_ltI, nI_eq, if_pos, if_neg, if_true, if_false, ld_nI, sti_nI, stl_nI]
    · rw [decide_eq_false q, b1_f]
      simp -implicitDefEqProofs (disch := omega) only [fC_holds, litI, litL, nI_add, pk_mul, bd0_e, bd1_e, bd2_e, bd3_e, bd4_e, st_e, nI_leI, nI_ltI, nI_eq, if_pos, if_neg, if_true, if_false, ld_nI, sti_nI, stl_nI]
section CC
variable {Cn : Int32} {Cv Cr Ck : Nat → Int32} {many : Int32} {con : Nat → Int32} {cs : List (Nat × Nat × Nat)}
set_option maxRecDepth 100000 in
theorem cAllow (h : RC Cn Cv Cr Ck many con cs) {v k : Nat} (hv : v < 4) (hk : k < 2 ^ 31) : fC_allow Cn Cv Cr Ck (nI v) (nI k) = some (nI (b1 (alw v k cs))) := by
  obtain ⟨hl, rfl, rfl, hc⟩ := h
  have key : ∀ (d i m : Nat), i + d = cs.length → d < m → fx1 (fC_allow_2 (nI cs.length) Cv Cr Ck (nI v) (nI k)) m (nI i) = some (nI (b1 (alw v k (cs.drop i)))) := by
    intro d
    induction d with
    | zero =>
      intro i m hi hm
      obtain ⟨m, rfl⟩ := succ_of hm
      rw [List.drop_eq_nil_of_le (by omega), alw, b1_t]
      simp -implicitDefEqProofs (disch := omega) only [fx1_s, fC_allow_2, litI, litL, nI_add, pk_mul, bd0_e, bd1_e, bd2_e, bd3_e, bd4_e, st_e, nI_leI, nI_ltI, nI_eq, if_pos, if_neg, if_true, if_false, ld_nI, sti_nI, stl_nI]
    | succ d ih =>
      intro i m hi hm
      obtain ⟨m, rfl⟩ := succ_of hm
      have hi2 : i < cs.length := by omega
      obtain ⟨q1, q2, q3, e1, e2, e3, -, -, -⟩ := hc i cs[i] (List.getElem?_eq_getElem hi2)
      have hh : fC_holds (nI k) (nI (60 + cs[i].2.1)) (nI cs[i].2.2) = some (nI (b1 (okC k cs[i]))) := cHolds hk q2 q3
      rw [List.drop_eq_getElem_cons hi2, alw]
      by_cases q : cs[i].1 = v
      · rw [if_pos q]
        cases o : okC k cs[i] with
        | true =>
          rw [o, b1_t] at hh
          rw [Bool.true_and, ← ih (i + 1) m (by omega) (by omega)]
          simp -implicitDefEqProofs (disch := omega) only [fx1_s, fC_allow_2, litI, litL, nI_add, pk_mul, bd0_e, bd1_e, bd2_e, bd3_e, bd4_e, st_e, nI_leI, nI_ltI, nI_eq, if_pos, if_neg, if_true, if_false, ld_nI, sti_nI, stl_nI, e1, e2, e3, hh]
        | false =>
          rw [o, b1_f] at hh
          rw [Bool.false_and, b1_f]
          simp -implicitDefEqProofs (disch := omega) only [fx1_s, fC_allow_2, litI, litL, nI_add, pk_mul, bd0_e, bd1_e, bd2_e, bd3_e, bd4_e, st_e, nI_leI, nI_ltI, nI_eq, if_pos, if_neg, if_true, if_false, ld_nI, sti_nI, stl_nI, e1, e2, e3, hh]
      · rw [if_neg q, Bool.true_and, ← ih (i + 1) m (by omega) (by omega)]
        simp -implicitDefEqProofs (disch := omega) only [fx1_s, fC_allow_2, litI, litL, nI_add, pk_mul, bd0_e, bd1_e, bd2_e, bd3_e, bd4_e, st_e, nI_leI, nI_ltI, nI_eq, if_pos, if_neg, if_true, if_false, ld_nI, sti_nI, stl_nI, e1]
  have := key cs.length 0 FU (by omega) (fuel (by omega))
  rw [List.drop_zero] at this
  exact this
set_option maxRecDepth 100000 in
theorem mHolds (h : RC Cn Cv Cr Ck many con cs) {v k : Nat} (hv : v < 4) (hk : k < 2 ^ 31) : fM_holds many con (nI v) (nI k) = some (nI (b1 (alw v k cs))) := by
  obtain ⟨hl, rfl, rfl, hc⟩ := h
  have dead : ∀ (d i m : Nat), i + d = cs.length → d < m → fx2 (fM_holds_5 (nI cs.length) con (nI v) (nI k)) m (nI 0) (nI i) = some (nI 0) := by
    intro d
    induction d with
    | zero =>
      intro i m hi hm
      obtain ⟨m, rfl⟩ := succ_of hm
      simp -implicitDefEqProofs (disch := omega) only [fx2_s, fM_holds_5, litI, litL, nI_add, pk_mul, bd0_e, bd1_e, bd2_e, bd3_e, bd4_e, st_e, nI_leI, nI_ltI, nI_eq, if_pos, if_neg, if_true, if_false, ld_nI, sti_nI, stl_nI, ckzn0]
    | succ d ih =>
      intro i m hi hm
      obtain ⟨m, rfl⟩ := succ_of hm
      rw [← ih (i + 1) m (by omega) (by omega)]
      simp -implicitDefEqProofs (disch := omega) only [fx2_s, fM_holds_5, fM_holds_90, litI, litL, nI_add, pk_mul, bd0_e, bd1_e, bd2_e, bd3_e, bd4_e, st_e, nI_leI, nI_ltI, nI_eq, if_pos, if_neg, if_true, if_false, ld_nI, sti_nI, stl_nI, ite_self]
  have key : ∀ (d i m : Nat), i + d = cs.length → d < m → fx2 (fM_holds_5 (nI cs.length) con (nI v) (nI k)) m (nI 1) (nI i) = some (nI (b1 (alw v k (cs.drop i)))) := by
    intro d
    induction d with
    | zero =>
      intro i m hi hm
      obtain ⟨m, rfl⟩ := succ_of hm
      rw [List.drop_eq_nil_of_le (by omega), alw, b1_t]
      simp -implicitDefEqProofs (disch := omega) only [fx2_s, fM_holds_5, litI, litL, nI_add, pk_mul, bd0_e, bd1_e, bd2_e, bd3_e, bd4_e, st_e, nI_leI, nI_ltI, nI_eq, if_pos, if_neg, if_true, if_false, ld_nI, sti_nI, stl_nI, ckzn1]
    | succ d ih =>
      intro i m hi hm
      obtain ⟨m, rfl⟩ := succ_of hm
      have hi2 : i < cs.length := by omega
      obtain ⟨q1, q2, q3, -, -, -, e1, e2, e3⟩ := hc i cs[i] (List.getElem?_eq_getElem hi2)
      have hst : fx2 (fM_holds_5 (nI cs.length) con (nI v) (nI k)) (m + 1) (nI 1) (nI i) = fM_holds_90 (fx2 (fM_holds_5 (nI cs.length) con (nI v) (nI k)) m) (nI cs.length) con (nI v) (nI k) (nI 1) (nI i) (nI (b1 (okC k cs[i]))) := by
        generalize cs[i] = q at *
        obtain ⟨a, r, c⟩ := q
        have q2 : r < 3 := q2
        have q3 : c < 10 := q3
        have e2 : con (3 * i + 1) = nI r := e2
        have e3 : con (3 * i + 2) = nI c := e3
        rcases (show r = 0 ∨ r = 1 ∨ r = 2 by omega) with rfl | rfl | rfl
        · rw [okC_0]
          by_cases q : k < c
          · rw [decide_eq_true q, b1_t]
            simp -implicitDefEqProofs (disch := omega) only [fx2_s, fM_holds_5, litI, litL, nI_add, pk_mul, bd0_e, bd1_e, bd2_e, bd3_e, bd4_e, st_e, nI_leI, nI_ltI, nI_eq, if_pos, if_neg, if_true, if_false, ld_nI, sti_nI, stl_nI, e2, e3]
          · rw [decide_eq_false q, b1_f]
            simp -implicitDefEqProofs (disch := omega) only [fx2_s, fM_holds_5, litI, litL, nI_add, pk_mul, bd0_e, bd1_e, bd2_e, bd3_e, bd4_e, st_e, nI_leI, nI_ltI, nI_eq, if_pos, if_neg, if_true, if_false, ld_nI, sti_nI, stl_nI, e2, e3]
        · rw [okC_1]
          by_cases q : k = c
          · rw [decide_eq_true q, b1_t]
            simp -implicitDefEqProofs (disch := omega) only [fx2_s, fM_holds_5, litI, litL, nI_add, pk_mul, bd0_e, bd1_e, bd2_e, bd3_e, bd4_e, st_e, nI_leI, nI_ltI, nI_eq, if_pos, if_neg, if_true, if_false, ld_nI, sti_nI, stl_nI, e2, e3]
          · rw [decide_eq_false q, b1_f]
            simp -implicitDefEqProofs (disch := omega) only [fx2_s, fM_holds_5, litI, litL, nI_add, pk_mul, bd0_e, bd1_e, bd2_e, bd3_e, bd4_e, st_e, nI_leI, nI_ltI, nI_eq, if_pos, if_neg, if_true, if_false, ld_nI, sti_nI, stl_nI, e2, e3]
        · rw [okC_2]
          by_cases q : c < k
          · rw [decide_eq_true q, b1_t]
            simp -implicitDefEqProofs (disch := omega) only [fx2_s, fM_holds_5, litI, litL, nI_add, pk_mul, bd0_e, bd1_e, bd2_e, bd3_e, bd4_e, st_e, nI_leI, nI_ltI, nI_eq, if_pos, if_neg, if_true, if_false, ld_nI, sti_nI, stl_nI, e2, e3]
          · rw [decide_eq_false q, b1_f]
            simp -implicitDefEqProofs (disch := omega) only [fx2_s, fM_holds_5, litI, litL, nI_add, pk_mul, bd0_e, bd1_e, bd2_e, bd3_e, bd4_e, st_e, nI_leI, nI_ltI, nI_eq, if_pos, if_neg, if_true, if_false, ld_nI, sti_nI, stl_nI, e2, e3]
      rw [hst, List.drop_eq_getElem_cons hi2, alw]
      by_cases q : cs[i].1 = v
      · rw [if_pos q]
        cases o : okC k cs[i] with
        | true =>
          rw [b1_t, Bool.true_and, ← ih (i + 1) m (by omega) (by omega)]
          simp -implicitDefEqProofs (disch := omega) only [fM_holds_90, litI, litL, nI_add, pk_mul, bd0_e, bd1_e, bd2_e, bd3_e, bd4_e, st_e, nI_leI, nI_ltI, nI_eq, if_pos, if_neg, if_true, if_false, ld_nI, sti_nI, stl_nI, e1]
        | false =>
          rw [b1_f, Bool.false_and, b1_f, ← dead d (i + 1) m (by omega) (by omega)]
          simp -implicitDefEqProofs (disch := omega) only [fM_holds_90, litI, litL, nI_add, pk_mul, bd0_e, bd1_e, bd2_e, bd3_e, bd4_e, st_e, nI_leI, nI_ltI, nI_eq, if_pos, if_neg, if_true, if_false, ld_nI, sti_nI, stl_nI, e1]
      · rw [if_neg q, Bool.true_and, ← ih (i + 1) m (by omega) (by omega)]
        simp -implicitDefEqProofs (disch := omega) only [fM_holds_90, litI, litL, nI_add, pk_mul, bd0_e, bd1_e, bd2_e, bd3_e, bd4_e, st_e, nI_leI, nI_ltI, nI_eq, if_pos, if_neg, if_true, if_false, ld_nI, sti_nI, stl_nI, e1]
  have := key cs.length 0 FU (by omega) (fuel (by omega))
  rw [List.drop_zero] at this
  exact this
end CC
/-! words as lists of bits, and their numbers -/
def vl (a : Nat) : List Nat → Nat
  | [] => a
  | b :: bs => vl (2 * a + b) bs
set_option maxRecDepth 100000 in
theorem vl_append (u v : List Nat) : ∀ a, vl a (u ++ v) = vl (vl a u) v := by
  induction u with
  | nil => intro a; rfl
  | cons b u ih => intro a; rw [List.cons_append, vl, ih, vl]
set_option maxRecDepth 100000 in
theorem vl_split (u : List Nat) : ∀ a, vl a u = a * 2 ^ u.length + vl 0 u := by
  induction u with
  | nil => intro a; simp [vl]
  | cons b u ih =>
    intro a
    rw [vl, vl, ih (2 * a + b), ih (2 * 0 + b), List.length_cons, Nat.pow_succ]
    rw [show (2 * a + b) * 2 ^ u.length = a * (2 ^ u.length * 2) + b * 2 ^ u.length by rw [Nat.add_mul, Nat.mul_comm 2 a, Nat.mul_assoc, Nat.mul_comm 2 (2 ^ u.length)], Nat.mul_zero, Nat.zero_add]
    omega
def bits (u : List Nat) : Prop := ∀ b ∈ u, b < 2
set_option maxRecDepth 100000 in
theorem vl_lt {u : List Nat} (h : bits u) : vl 0 u < 2 ^ u.length := by
  induction u with
  | nil => exact Nat.one_pos
  | cons b u ih =>
    have h1 := ih (fun x hx => h x (List.mem_cons_of_mem _ hx))
    have h2 := h b List.mem_cons_self
    rw [vl, vl_split, List.length_cons, Nat.pow_succ]
    have : (2 * 0 + b) * 2 ^ u.length ≤ 1 * 2 ^ u.length := Nat.mul_le_mul_right _ (by omega)
    omega
set_option maxRecDepth 100000 in
theorem vl_inj0 : ∀ {u v : List Nat}, bits u → bits v → u.length = v.length → vl 0 u = vl 0 v → u = v
  | [], [], _, _, _, _ => rfl
  | [], _ :: _, _, _, h, _ => by simp at h
  | _ :: _, [], _, _, h, _ => by simp at h
  | a :: u, b :: v, hu, hv, h, e => by
    have hl : u.length = v.length := by simpa using h
    have hu' : bits u := fun x hx => hu x (List.mem_cons_of_mem _ hx)
    have hv' : bits v := fun x hx => hv x (List.mem_cons_of_mem _ hx)
    have a2 := hu a List.mem_cons_self
    have b2 := hv b List.mem_cons_self
    rw [vl, vl, vl_split u, vl_split v, hl, Nat.mul_zero, Nat.zero_add, Nat.zero_add] at e
    have l1 := vl_lt hu'
    have l2 := vl_lt hv'
    rw [hl] at l1
    have ab : a = b := by
      rcases (show (a = 0 ∨ a = 1) by omega) with rfl | rfl <;> rcases (show (b = 0 ∨ b = 1) by omega) with rfl | rfl
      · rfl
      · omega
      · omega
      · rfl
    subst ab
    rw [vl_inj0 hu' hv' hl (by omega)]
set_option maxRecDepth 100000 in
theorem vl1_bd {u : List Nat} (h : bits u) : 2 ^ u.length ≤ vl 1 u ∧ vl 1 u < 2 ^ (u.length + 1) := by
  have := vl_lt h
  rw [vl_split, Nat.pow_succ]
  omega
set_option maxRecDepth 100000 in
theorem vl_inj1 {u v : List Nat} (hu : bits u) (hv : bits v) (e : vl 1 u = vl 1 v) : u = v := by
  obtain ⟨a1, a2⟩ := vl1_bd hu
  obtain ⟨b1, b2⟩ := vl1_bd hv
  have hl : u.length = v.length := by
    rcases Nat.lt_trichotomy u.length v.length with q | q | q
    · have : 2 ^ (u.length + 1) ≤ 2 ^ v.length := Nat.pow_le_pow_right (by decide) q
      omega
    · exact q
    · have : 2 ^ (v.length + 1) ≤ 2 ^ u.length := Nat.pow_le_pow_right (by decide) q
      omega
  rw [vl_split u, vl_split v, hl] at e
  exact vl_inj0 hu hv hl (by omega)
/-- the lowest L bits of c, the highest first -/
def bt : Nat → Nat → List Nat
  | 0, _ => []
  | L + 1, c => c / 2 ^ L % 2 :: bt L c
set_option maxRecDepth 100000 in
theorem bt_len : ∀ L c, (bt L c).length = L
  | 0, _ => rfl
  | L + 1, c => by rw [bt, List.length_cons, bt_len L c]
set_option maxRecDepth 100000 in
theorem bt_bits : ∀ L c, bits (bt L c)
  | 0, _ => fun b hb => by cases hb
  | L + 1, c => fun b hb => by
    rw [bt] at hb
    rcases List.mem_cons.mp hb with rfl | hb
    · exact Nat.mod_lt _ (by decide)
    · exact bt_bits L c b hb
/-- the word with a number -/
def wl (n : Nat) : Nat := Nat.log2 (n + 1)
def wd (n : Nat) : List Nat := bt (wl n) (n + 1 - 2 ^ wl n)
set_option maxRecDepth 100000 in
theorem wd_len (n : Nat) : (wd n).length = wl n := bt_len _ _
set_option maxRecDepth 100000 in
theorem wd_bits (n : Nat) : bits (wd n) := bt_bits _ _
set_option maxRecDepth 100000 in
theorem wl_le : ∀ n, n < 63 → wl n ≤ 5 := by decide +kernel
set_option maxRecDepth 100000 in
theorem gv_c : ∀ n, n < 63 → ∀ i, i < 6 → (i < wl n → ¬ shr (nI (n + 1)) (nI (i + 1)) = nI 0) ∧ (i = wl n → i < 5 → shr (nI (n + 1)) (nI (i + 1)) = nI 0) := by decide +kernel
set_option maxRecDepth 100000 in
theorem gv_v : ∀ n, n < 63 → Int32.toInt64 (nI (n + 1) - shl (nI 1) (nI (wl n))) = lN (vl 0 (wd n)) := by decide +kernel
set_option maxRecDepth 100000 in
theorem ml_c : ∀ n, n < 63 → ∀ i, i < 6 → (i < wl n → ¬ nI n < shl (nI 2) (nI i) - nI 1) ∧ (i = wl n → nI n < shl (nI 2) (nI i) - nI 1) := by decide +kernel
set_option maxRecDepth 100000 in
theorem aGive {v k : Nat} (hv : v < 4) (Al : Nat → Int64) (Ak : Nat → Int32) (x : Int64) : fA_give Al Ak (nI (v + 3)) x (nI k) = some (vp_updL Al (v + 3) x, upd Ak (v + 3) (nI k)) := by
  simp -implicitDefEqProofs (disch := omega) only [fA_give, fZ_isVariableSymbol, litI, litL, nI_add, pk_mul, bd0_e, bd1_e, bd2_e, bd3_e, bd4_e, st_e, nI_leI, nI_ltI, nI_eq, if_pos, if_neg, if_true, if_false, ld_nI, sti_nI, stl_nI]
set_option maxRecDepth 100000 in
theorem aGiveNumber {v n : Nat} (hv : v < 4) (hn : n < 63) (Al : Nat → Int64) (Ak : Nat → Int32) : fA_giveNumber Al Ak (nI (v + 3)) (nI n) = some (vp_updL Al (v + 3) (lN (vl 0 (wd n))), upd Ak (v + 3) (nI (wl n))) := by
  have h5 := wl_le n hn
  have key : ∀ (d i m : Nat), i + d = wl n → d < m → fx1 (fA_giveNumber_7 Al Ak (nI (v + 3)) (nI (n + 1))) m (nI i) = some (vp_updL Al (v + 3) (lN (vl 0 (wd n))), upd Ak (v + 3) (nI (wl n))) := by
    intro d
    induction d with
    | zero =>
      intro i m hi hm
      obtain ⟨m, rfl⟩ := succ_of hm
      have hi : i = wl n := hi
      subst hi
      have e : fA_giveNumber_28 Al Ak (nI (v + 3)) (nI (n + 1)) (nI (wl n)) = some (vp_updL Al (v + 3) (lN (vl 0 (wd n))), upd Ak (v + 3) (nI (wl n))) := by
        simp -implicitDefEqProofs (disch := omega) only [fA_giveNumber_28, litI, litL, nI_add, pk_mul, bd0_e, bd1_e, bd2_e, bd3_e, bd4_e, st_e, gv_v n hn, aGive hv]
      by_cases q : 5 ≤ wl n
      · simp -implicitDefEqProofs (disch := omega) only [fx1_s, fA_giveNumber_7, litI, litL, nI_add, pk_mul, bd0_e, bd1_e, bd2_e, bd3_e, bd4_e, st_e, nI_leI, nI_ltI, nI_eq, if_pos, if_neg, if_true, if_false, ld_nI, sti_nI, stl_nI, e]
      · have z := (gv_c n hn (wl n) (by omega)).2 rfl (by omega)
        simp -implicitDefEqProofs (disch := omega) only [fx1_s, fA_giveNumber_7, litI, litL, nI_add, pk_mul, bd0_e, bd1_e, bd2_e, bd3_e, bd4_e, st_e, nI_leI, nI_ltI, nI_eq, if_pos, if_neg, if_true, if_false, ld_nI, sti_nI, stl_nI, z, e]
    | succ d ih =>
      intro i m hi hm
      obtain ⟨m, rfl⟩ := succ_of hm
      have z := (gv_c n hn i (by omega)).1 (by omega)
      rw [← ih (i + 1) m (by omega) (by omega)]
      simp -implicitDefEqProofs (disch := omega) only [fx1_s, fA_giveNumber_7, litI, litL, nI_add, pk_mul, bd0_e, bd1_e, bd2_e, bd3_e, bd4_e, st_e, nI_leI, nI_ltI, nI_eq, if_pos, if_neg, if_true, if_false, ld_nI, sti_nI, stl_nI, z]
  rw [← key (wl n) 0 FU (by omega) (fuel (by omega))]
  simp -implicitDefEqProofs (disch := omega) only [fA_giveNumber, litI, litL, nI_add, pk_mul, bd0_e, bd1_e, bd2_e, bd3_e, bd4_e, st_e, nI_leI, nI_ltI, nI_eq, if_pos, if_neg, if_true, if_false, ld_nI, sti_nI, stl_nI]
set_option maxRecDepth 100000 in
theorem mLengthOf {n : Nat} (hn : n < 63) : fM_lengthOf (nI n) = some (nI (wl n)) := by
  have h5 := wl_le n hn
  have key : ∀ (d i m : Nat), i + d = wl n → d < m → fx1 (fM_lengthOf_2 (nI n)) m (nI i) = some (nI (wl n)) := by
    intro d
    induction d with
    | zero =>
      intro i m hi hm
      obtain ⟨m, rfl⟩ := succ_of hm
      have hi : i = wl n := hi
      subst hi
      have z := (ml_c n hn (wl n) (by omega)).2 rfl
      simp -implicitDefEqProofs (disch := omega) only [fx1_s, fM_lengthOf_2, litI, litL, nI_add, pk_mul, bd0_e, bd1_e, bd2_e, bd3_e, bd4_e, st_e, nI_leI, nI_ltI, nI_eq, if_pos, if_neg, if_true, if_false, ld_nI, sti_nI, stl_nI, z]
    | succ d ih =>
      intro i m hi hm
      obtain ⟨m, rfl⟩ := succ_of hm
      have z := (ml_c n hn i (by omega)).1 (by omega)
      rw [← ih (i + 1) m (by omega) (by omega)]
      simp -implicitDefEqProofs (disch := omega) only [fx1_s, fM_lengthOf_2, litI, litL, nI_add, pk_mul, bd0_e, bd1_e, bd2_e, bd3_e, bd4_e, st_e, nI_leI, nI_ltI, nI_eq, if_pos, if_neg, if_true, if_false, ld_nI, sti_nI, stl_nI, z]
  exact key (wl n) 0 FU (by omega) (fuel (by omega))
