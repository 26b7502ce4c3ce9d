/-! the odometer of the reference: digits of a number in mixed radix, and sums over them -/
def rad (B : Nat → Nat) : Nat → Nat
  | 0 => 1
  | d + 1 => rad B d * B d
def dgt (B : Nat → Nat) : Nat → Nat → Nat → Nat
  | 0, _, _ => 0
  | d + 1, a, v => if v = d then a % B d else dgt B d (a / B d) v
set_option maxRecDepth 100000 in
theorem dgt_top (B : Nat → Nat) (d a : Nat) : dgt B (d + 1) a d = a % B d := if_pos rfl
set_option maxRecDepth 100000 in
theorem dgt_low {B : Nat → Nat} {d a v : Nat} (h : v < d) : dgt B (d + 1) a v = dgt B d (a / B d) v := if_neg (by omega)
set_option maxRecDepth 100000 in
theorem dgt_lt {B : Nat → Nat} (hB : ∀ v, 0 < B v) : ∀ (d a v : Nat), v < d → dgt B d a v < B v := by
  intro d
  induction d with
  | zero => intro a v h; omega
  | succ d ih =>
    intro a v h
    by_cases q : v = d
    · rw [q, dgt_top]; exact Nat.mod_lt _ (hB d)
    · rw [dgt_low (by omega)]; exact ih _ _ (by omega)
set_option maxRecDepth 100000 in
theorem rad_pos {B : Nat → Nat} (hB : ∀ v, 0 < B v) : ∀ d, 0 < rad B d
  | 0 => Nat.one_pos
  | d + 1 => Nat.mul_pos (rad_pos hB d) (hB d)
def usd (xs ys : List Nat) (v : Nat) : Bool := !(decide (xs.count (v + 2) = 0) && decide (ys.count (v + 2) = 0))
set_option maxRecDepth 100000 in
theorem mIsUsed {now : Nat → Int32} {xs ys : List Nat} (hr : rowIs now xs ys) (hx : okS 12 xs) (hy : okS 12 ys) {v : Nat} (hv : v < 4) : fM_isUsed now (nI v) = some (nI (b1 (usd xs ys v))) := by
  have k1 := mCountOf hr (s := 0) (by decide) hx (c := v + 2) (by omega)
  have k2 := mCountOf hr (s := 1) (by decide) hy (c := v + 2) (by omega)
  rw [sd_0] at k1
  rw [sd_1] at k2
  have c1 := List.count_le_length (a := v + 2) (l := xs)
  have c2 := List.count_le_length (a := v + 2) (l := ys)
  have l1 := hx.1
  have l2 := hy.1
  unfold usd
  by_cases q1 : xs.count (v + 2) = 0
  · by_cases q2 : ys.count (v + 2) = 0
    · rw [decide_eq_true q1, decide_eq_true q2]
      simp -implicitDefEqProofs (disch := omega) only [fM_isUsed, litI, litL, nI_add, pk_mul, bd0_e, bd1_e, bd2_e, bd3_e, bd4_e, st_e, nI_leI, nI_ltI, nI_eq, if_pos, if_neg, if_true, if_false, ld_nI, sti_nI, stl_nI, k1, k2] <;> rfl
    · rw [decide_eq_false q2, Bool.and_false]
      simp -implicitDefEqProofs (disch := omega) only [fM_isUsed, litI, litL, nI_add, pk_mul, bd0_e, bd1_e, bd2_e, bd3_e, bd4_e, st_e, nI_leI, nI_ltI, nI_eq, if_pos, if_neg, if_true, if_false, ld_nI, sti_nI, stl_nI, k1, k2] <;> rfl
  · rw [decide_eq_false q1, Bool.false_and]
    simp -implicitDefEqProofs (disch := omega) only [fM_isUsed, litI, litL, nI_add, pk_mul, bd0_e, bd1_e, bd2_e, bd3_e, bd4_e, st_e, nI_leI, nI_ltI, nI_eq, if_pos, if_neg, if_true, if_false, ld_nI, sti_nI, stl_nI, k1, k2] <;> rfl
def bOf (xs ys : List Nat) (b v : Nat) : Nat := if usd xs ys v = true then b else 1
set_option maxRecDepth 100000 in
theorem bOf_pos {xs ys : List Nat} {b : Nat} (hb : 0 < b) (v : Nat) : 0 < bOf xs ys b v := by unfold bOf; split <;> omega
set_option maxRecDepth 100000 in
theorem mGoOn {now : Nat → Int32} {xs ys : List Nat} (hr : rowIs now xs ys) (hx : okS 12 xs) (hy : okS 12 ys) {b : Nat} (hb : 0 < b) (hb2 : b < 1000) :
    ∀ (d m a : Nat) (number : Nat → Int32), d ≤ 4 → d < m → a < rad (bOf xs ys b) d → (∀ v, v < d → number v = nI (dgt (bOf xs ys b) d a v)) →
      ∃ number', fx2 (fM_goOn_2 now (nI b)) m number (nI d - nI 1) = some (nI (b1 (decide (a + 1 < rad (bOf xs ys b) d))), number') ∧ (∀ v, v < d → number' v = nI (dgt (bOf xs ys b) d (a + 1) v)) ∧ ∀ v, d ≤ v → number' v = number v := by
  intro d
  induction d with
  | zero =>
    intro m a number hd hm ha hn
    obtain ⟨m, rfl⟩ := succ_of hm
    have e0 := dn_0
    refine ⟨number, ?_, fun v hv => absurd hv (Nat.not_lt_zero _), fun _ _ => rfl⟩
    rw [decide_eq_false (by rw [rad] at ha ⊢; omega), b1_f]
    simp -implicitDefEqProofs (disch := omega) only [fx2_s, fM_goOn_2, fM_goOn_39, fM_goOn_53, litI, litL, nI_add, pk_mul, bd0_e, bd1_e, bd2_e, bd3_e, bd4_e, st_e, e0, if_true]
  | succ d ih =>
    intro m a number hd hm ha hn
    obtain ⟨m, rfl⟩ := succ_of hm
    have hB := bOf_pos (xs := xs) (ys := ys) hb
    have e1 : nI (d + 1) - nI 1 = nI d := by rw [pk_sub (by omega), Nat.add_sub_cancel]
    have e3 := dn_c d (by omega)
    have hu := mIsUsed hr hx hy (v := d) (by omega)
    have hnd := hn d (by omega)
    rw [dgt_top] at hnd
    rw [rad] at ha
    have hml := Nat.mod_lt a (hB d)
    have hdm := Nat.div_add_mod a (bOf xs ys b d)
    have ha2 : a / bOf xs ys b d < rad (bOf xs ys b) d := Nat.div_lt_of_lt_mul (by rw [Nat.mul_comm]; exact ha)
    have carry : a % bOf xs ys b d + 1 = bOf xs ys b d → fx2 (fM_goOn_2 now (nI b)) (m + 1) number (nI d) = fx2 (fM_goOn_2 now (nI b)) m (upd number d (nI 0)) (nI d - nI 1) → ∃ number', fx2 (fM_goOn_2 now (nI b)) (m + 1) number (nI (d + 1) - nI 1) = some (nI (b1 (decide (a + 1 < rad (bOf xs ys b) (d + 1)))), number') ∧ (∀ v, v < d + 1 → number' v = nI (dgt (bOf xs ys b) (d + 1) (a + 1) v)) ∧ ∀ v, d + 1 ≤ v → number' v = number v := fun hc hst => by
      obtain ⟨number', f1, f2, f3⟩ := ih m (a / bOf xs ys b d) (upd number d (nI 0)) (by omega) (by omega) ha2 (fun v hv => by rw [upd_e, if_neg (by omega), hn v (by omega), dgt_low hv])
      have ea : a + 1 = bOf xs ys b d * (a / bOf xs ys b d + 1) := by rw [Nat.mul_add, Nat.mul_one]; omega
      have em : (a + 1) % bOf xs ys b d = 0 := by rw [ea, Nat.mul_mod_right]
      have ed : (a + 1) / bOf xs ys b d = a / bOf xs ys b d + 1 := by rw [ea, Nat.mul_div_cancel_left _ (hB d)]
      refine ⟨number', ?_, fun v hv => ?_, fun v hv => ?_⟩
      · rw [e1, hst, f1]
        have : decide (a / bOf xs ys b d + 1 < rad (bOf xs ys b) d) = decide (a + 1 < rad (bOf xs ys b) (d + 1)) := decide_eq_decide.mpr (by
          rw [rad, ea, Nat.mul_comm (rad (bOf xs ys b) d)]
          exact (Nat.mul_lt_mul_left (hB d)).symm)
        rw [this]
      · by_cases qv : v = d
        · rw [qv, dgt_top, em, f3 d (Nat.le_refl _), upd_e, if_pos rfl]
        · rw [dgt_low (by omega), ed, f2 v (by omega)]
      · rw [f3 v (by omega), upd_e, if_neg (by omega)]
    cases u : usd xs ys d with
    | false =>
      have hB1 : bOf xs ys b d = 1 := by unfold bOf; rw [u]; rfl
      rw [u, b1_f] at hu
      exact carry (by omega) (by simp -implicitDefEqProofs (disch := omega) only [fx2_s, fM_goOn_2, fM_goOn_26, litI, litL, nI_add, pk_mul, bd0_e, bd1_e, bd2_e, bd3_e, bd4_e, st_e, nI_leI, nI_ltI, nI_eq, if_pos, if_neg, if_true, if_false, ld_nI, sti_nI, stl_nI, hu, e3])
    | true =>
      have hB1 : bOf xs ys b d = b := by unfold bOf; rw [u]; rfl
      rw [u, b1_t] at hu
      have eb : nI b - nI 1 = nI (b - 1) := pk_sub (by omega)
      by_cases qc : a % bOf xs ys b d + 1 = bOf xs ys b d
      · exact carry qc (by simp -implicitDefEqProofs (disch := omega) only [fx2_s, fM_goOn_2, fM_goOn_26, litI, litL, nI_add, pk_mul, bd0_e, bd1_e, bd2_e, bd3_e, bd4_e, st_e, nI_leI, nI_ltI, nI_eq, if_pos, if_neg, if_true, if_false, ld_nI, sti_nI, stl_nI, hu, e3, hnd, eb])
      · have ea : a + 1 = a % bOf xs ys b d + 1 + bOf xs ys b d * (a / bOf xs ys b d) := by omega
        have em : (a + 1) % bOf xs ys b d = a % bOf xs ys b d + 1 := by rw [ea, Nat.add_mul_mod_self_left, Nat.mod_eq_of_lt (by omega)]
        have ed : (a + 1) / bOf xs ys b d = a / bOf xs ys b d := by rw [ea, Nat.add_mul_div_left _ _ (hB d), Nat.div_eq_of_lt (by omega), Nat.zero_add]
        have hlt : a + 1 < rad (bOf xs ys b) (d + 1) := by
          have : bOf xs ys b d * (a / bOf xs ys b d + 1) ≤ bOf xs ys b d * rad (bOf xs ys b) d := Nat.mul_le_mul_left _ ha2
          rw [rad, Nat.mul_comm (rad (bOf xs ys b) d)]
          rw [Nat.mul_add, Nat.mul_one] at this
          omega
        refine ⟨upd number d (nI (a % bOf xs ys b d + 1)), ?_, fun v hv => ?_, fun v hv => by rw [upd_e, if_neg (by omega)]⟩
        · rw [e1, decide_eq_true hlt, b1_t]
          simp -implicitDefEqProofs (disch := omega) only [fx2_s, fM_goOn_2, fM_goOn_39, fM_goOn_53, litI, litL, nI_add, pk_mul, bd0_e, bd1_e, bd2_e, bd3_e, bd4_e, st_e, nI_leI, nI_ltI, nI_eq, if_pos, if_neg, if_true, if_false, ld_nI, sti_nI, stl_nI, hu, hnd, eb]
        · rw [upd_e]
          by_cases qv : v = d
          · rw [if_pos qv, qv, dgt_top, em]
          · rw [if_neg qv, dgt_low (by omega), ed, hn v hv, dgt_low (by omega)]
set_option maxRecDepth 100000 in
theorem mGo {now : Nat → Int32} {xs ys : List Nat} (hr : rowIs now xs ys) (hx : okS 12 xs) (hy : okS 12 ys) {b : Nat} (hb : 0 < b) (hb2 : b < 1000) {a : Nat} {number : Nat → Int32} (ha : a < rad (bOf xs ys b) 4) (hn : ∀ v, v < 4 → number v = nI (dgt (bOf xs ys b) 4 a v)) :
    ∃ number', fM_goOn number now (nI b) = some (nI (b1 (decide (a + 1 < rad (bOf xs ys b) 4))), number') ∧ ∀ v, v < 4 → number' v = nI (dgt (bOf xs ys b) 4 (a + 1) v) := by
  obtain ⟨number', f1, f2, -⟩ := mGoOn hr hx hy hb hb2 4 FU a number (by omega) (fuel (by omega)) ha hn
  exact ⟨number', f1, f2⟩
/-! sums -/
def sm : Nat → (Nat → Nat) → Nat
  | 0, _ => 0
  | n + 1, f => sm n f + f n
set_option maxRecDepth 100000 in
theorem sm_add (f : Nat → Nat) (a : Nat) : ∀ b, sm (a + b) f = sm a f + sm b (fun t => f (a + t))
  | 0 => rfl
  | b + 1 => by
    show sm (a + b) f + f (a + b) = sm a f + (sm b (fun t => f (a + t)) + f (a + b))
    rw [sm_add f a b, Nat.add_assoc]
set_option maxRecDepth 100000 in
theorem sm_mul (f : Nat → Nat) (b : Nat) : ∀ a, sm (a * b) f = sm a (fun i => sm b (fun j => f (i * b + j)))
  | 0 => by rw [Nat.zero_mul]; rfl
  | a + 1 => by
    rw [Nat.succ_mul, sm_add, sm_mul f b a]
    rfl
set_option maxRecDepth 100000 in
theorem sm_cong {f g : Nat → Nat} : ∀ {n : Nat}, (∀ t, t < n → f t = g t) → sm n f = sm n g
  | 0, _ => rfl
  | n + 1, h => by rw [sm, sm, sm_cong (fun t ht => h t (by omega)), h n (by omega)]
set_option maxRecDepth 100000 in
theorem sm_le {f : Nat → Nat} {c : Nat} : ∀ {n : Nat}, (∀ t, t < n → f t ≤ c) → sm n f ≤ n * c
  | 0, _ => by rw [sm]; omega
  | n + 1, h => by
    have h1 := sm_le (n := n) (fun t ht => h t (by omega))
    have h2 := h n (by omega)
    rw [sm, Nat.succ_mul]
    omega
set_option maxRecDepth 100000 in
theorem dg_div {b i j : Nat} (hj : j < b) : (i * b + j) / b = i := by
  rw [Nat.add_comm, Nat.add_mul_div_right _ _ (by omega), Nat.div_eq_of_lt hj, Nat.zero_add]
set_option maxRecDepth 100000 in
theorem dg_mod {b i j : Nat} (hj : j < b) : (i * b + j) % b = j := by
  rw [Nat.add_comm, Nat.add_mul_mod_self_right, Nat.mod_eq_of_lt hj]
set_option maxRecDepth 100000 in
theorem dgl {B : Nat → Nat} {i j : Nat} (d v : Nat) (hj : j < B d) (hv : v < d) : dgt B (d + 1) (i * B d + j) v = dgt B d i v := by rw [dgt_low hv, dg_div hj]
set_option maxRecDepth 100000 in
theorem dgtp {B : Nat → Nat} {i j : Nat} (d : Nat) (hj : j < B d) : dgt B (d + 1) (i * B d + j) d = j := by rw [dgt_top, dg_mod hj]
set_option maxRecDepth 100000 in
/-- a sum over all states of the odometer is a nest of sums -/
theorem sm_dgt (B : Nat → Nat) (f : Nat → Nat → Nat → Nat → Nat) : sm (rad B 4) (fun t => f (dgt B 4 t 0) (dgt B 4 t 1) (dgt B 4 t 2) (dgt B 4 t 3)) = sm (B 0) (fun i => sm (B 1) (fun j => sm (B 2) (fun k => sm (B 3) (fun l => f i j k l)))) := by
  have s3 : sm (rad B 4) (fun t => f (dgt B 4 t 0) (dgt B 4 t 1) (dgt B 4 t 2) (dgt B 4 t 3)) = sm (rad B 3) (fun t => sm (B 3) (fun l => f (dgt B 3 t 0) (dgt B 3 t 1) (dgt B 3 t 2) l)) := by
    show sm (rad B 3 * B 3) _ = _
    rw [sm_mul]
    refine sm_cong fun t _ => sm_cong fun l hl => ?_
    rw [dgl 3 0 hl (by decide), dgl 3 1 hl (by decide), dgl 3 2 hl (by decide), dgtp 3 hl]
  have s2 : sm (rad B 3) (fun t => sm (B 3) (fun l => f (dgt B 3 t 0) (dgt B 3 t 1) (dgt B 3 t 2) l)) = sm (rad B 2) (fun t => sm (B 2) (fun k => sm (B 3) (fun l => f (dgt B 2 t 0) (dgt B 2 t 1) k l))) := by
    show sm (rad B 2 * B 2) _ = _
    rw [sm_mul]
    refine sm_cong fun t _ => sm_cong fun k hk => ?_
    rw [dgl 2 0 hk (by decide), dgl 2 1 hk (by decide), dgtp 2 hk]
  have s1 : sm (rad B 2) (fun t => sm (B 2) (fun k => sm (B 3) (fun l => f (dgt B 2 t 0) (dgt B 2 t 1) k l))) = sm (rad B 1) (fun t => sm (B 1) (fun j => sm (B 2) (fun k => sm (B 3) (fun l => f (dgt B 1 t 0) j k l)))) := by
    show sm (rad B 1 * B 1) _ = _
    rw [sm_mul]
    refine sm_cong fun t _ => sm_cong fun j hj => ?_
    rw [dgl 1 0 hj (by decide), dgtp 1 hj]
  rw [s3, s2, s1, show rad B 1 = B 0 from Nat.one_mul _]
  refine sm_cong fun i hi => ?_
  rw [dgt_top, Nat.mod_eq_of_lt hi]
