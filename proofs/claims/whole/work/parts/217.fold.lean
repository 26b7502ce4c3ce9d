/-! folds over the states of the odometer; a solution balances -/
def fd {σ : Type} (f : Nat → σ → σ) : Nat → σ → σ
  | 0, s => s
  | n + 1, s => f n (fd f n s)
set_option maxRecDepth 100000 in
theorem fd_add {σ : Type} (f : Nat → σ → σ) (a : Nat) : ∀ (b : Nat) (s : σ), fd f (a + b) s = fd (fun t => f (a + t)) b (fd f a s)
  | 0, _ => rfl
  | b + 1, s => by
    show f (a + b) (fd f (a + b) s) = f (a + b) (fd (fun t => f (a + t)) b (fd f a s))
    rw [fd_add f a b]
set_option maxRecDepth 100000 in
theorem fd_mul {σ : Type} (f : Nat → σ → σ) (b : Nat) : ∀ (a : Nat) (s : σ), fd f (a * b) s = fd (fun i => fd (fun j => f (i * b + j)) b) a s
  | 0, _ => by rw [Nat.zero_mul]; rfl
  | a + 1, s => by rw [Nat.succ_mul, fd_add, fd_mul f b a]; rfl
set_option maxRecDepth 100000 in
theorem fd_cong {σ : Type} {f g : Nat → σ → σ} : ∀ {n : Nat} {s : σ}, (∀ t, t < n → ∀ s, f t s = g t s) → fd f n s = fd g n s
  | 0, _, _ => rfl
  | n + 1, s, h => by rw [fd, fd, fd_cong (fun t ht => h t (by omega)), h n (by omega)]
set_option maxRecDepth 100000 in
theorem fd_id {σ : Type} {f : Nat → σ → σ} : ∀ {n : Nat} {s : σ}, (∀ t, t < n → ∀ s, f t s = s) → fd f n s = s
  | 0, _, _ => rfl
  | n + 1, s, h => by rw [fd, fd_id (fun t ht => h t (by omega)), h n (by omega)]
set_option maxRecDepth 100000 in
theorem fd_dgt {σ : Type} (B : Nat → Nat) (f : Nat → Nat → Nat → Nat → σ → σ) (s : σ) : fd (fun t => f (dgt B 4 t 0) (dgt B 4 t 1) (dgt B 4 t 2) (dgt B 4 t 3)) (rad B 4) s = fd (fun i => fd (fun j => fd (fun k => fd (fun l => f i j k l) (B 3)) (B 2)) (B 1)) (B 0) s := by
  have s3 : fd (fun t => f (dgt B 4 t 0) (dgt B 4 t 1) (dgt B 4 t 2) (dgt B 4 t 3)) (rad B 4) s = fd (fun t => fd (fun l => f (dgt B 3 t 0) (dgt B 3 t 1) (dgt B 3 t 2) l) (B 3)) (rad B 3) s := by
    show fd _ (rad B 3 * B 3) s = _
    rw [fd_mul]
    refine fd_cong fun t _ s => fd_cong fun l hl s => ?_
    rw [dgl 3 0 hl (by decide), dgl 3 1 hl (by decide), dgl 3 2 hl (by decide), dgtp 3 hl]
  have s2 : fd (fun t => fd (fun l => f (dgt B 3 t 0) (dgt B 3 t 1) (dgt B 3 t 2) l) (B 3)) (rad B 3) s = fd (fun t => fd (fun k => fd (fun l => f (dgt B 2 t 0) (dgt B 2 t 1) k l) (B 3)) (B 2)) (rad B 2) s := by
    show fd _ (rad B 2 * B 2) s = _
    rw [fd_mul]
    refine fd_cong fun t _ s => fd_cong fun k hk s => ?_
    rw [dgl 2 0 hk (by decide), dgl 2 1 hk (by decide), dgtp 2 hk]
  have s1 : fd (fun t => fd (fun k => fd (fun l => f (dgt B 2 t 0) (dgt B 2 t 1) k l) (B 3)) (B 2)) (rad B 2) s = fd (fun t => fd (fun j => fd (fun k => fd (fun l => f (dgt B 1 t 0) j k l) (B 3)) (B 2)) (B 1)) (rad B 1) s := by
    show fd _ (rad B 1 * B 1) s = _
    rw [fd_mul]
    refine fd_cong fun t _ s => fd_cong fun j hj s => ?_
    rw [dgl 1 0 hj (by decide), dgtp 1 hj]
  rw [s3, s2, s1, show rad B 1 = B 0 from Nat.one_mul _]
  refine fd_cong fun i hi s => ?_
  rw [dgt_top, Nat.mod_eq_of_lt hi]
set_option maxRecDepth 100000 in
theorem flat_count {w : Nat → List Nat} : ∀ {xs : List Nat}, (∀ x ∈ xs, x < 6) → (xs.flatMap w).length = xs.count 0 * (w 0).length + xs.count 1 * (w 1).length + xs.count 2 * (w 2).length + xs.count 3 * (w 3).length + xs.count 4 * (w 4).length + xs.count 5 * (w 5).length
  | [], _ => by simp
  | x :: xs, h => by
    have ih := flat_count (w := w) (xs := xs) (fun y hy => h y (List.mem_cons_of_mem _ hy))
    have hx := h x List.mem_cons_self
    rw [List.flatMap_cons, List.length_append, ih]
    rcases (show x = 0 ∨ x = 1 ∨ x = 2 ∨ x = 3 ∨ x = 4 ∨ x = 5 by omega) with rfl | rfl | rfl | rfl | rfl | rfl <;>
    · simp [List.count_cons, Nat.add_mul]
      omega
set_option maxRecDepth 100000 in
theorem add2 (a b c d : Int32) : (a - b) + (c - d) = (a + c) - (b + d) := by
  apply Int32.toBitVec_inj.mp
  apply BitVec.eq_of_toInt_eq
  simp only [Int32.toBitVec_add, Int32.toBitVec_sub, BitVec.toInt_add, BitVec.toInt_sub]
  simp only [Int.bmod_add_bmod, Int.add_bmod_bmod, Int.bmod_sub_bmod, Int.sub_bmod_bmod]
  congr 1
  omega
set_option maxRecDepth 100000 in
theorem mul2 (a b c : Nat) : (nI a - nI b) * nI c = nI (a * c) - nI (b * c) := by
  rw [← pk_mul, ← pk_mul]
  apply Int32.toBitVec_inj.mp
  apply BitVec.eq_of_toInt_eq
  simp only [Int32.toBitVec_mul, Int32.toBitVec_sub, BitVec.toInt_mul, BitVec.toInt_sub]
  simp only [Int.bmod_mul_bmod, Int.mul_bmod_bmod, Int.bmod_sub_bmod, Int.sub_bmod_bmod]
  rw [Int.sub_mul]
set_option maxRecDepth 100000 in
theorem wOf_2 (nm : Nat → Nat) (v : Nat) : (wOf nm (v + 2)).length = wl (nm v) := by
  unfold wOf
  rw [if_neg (by omega), Nat.add_sub_cancel, wd_len]
set_option maxRecDepth 100000 in
theorem sol_bal {cs : List (Nat × Nat × Nat)} {nm : Nat → Nat} {xs ys : List Nat} (hx : okS 12 xs) (hy : okS 12 ys) (h : sol cs (wOf nm) xs ys = true) : bal (fun v => nI (xs.count (v + 2)) - nI (ys.count (v + 2))) (fun v => wl (nm v)) 0 4 ((nI (xs.count 0) - nI (ys.count 0)) + (nI (xs.count 1) - nI (ys.count 1))) = nI 0 := by
  unfold sol at h
  rw [Bool.and_eq_true, decide_eq_true_eq] at h
  have e := congrArg List.length h.2
  rw [flat_count hx.2, flat_count hy.2, show (wOf nm 0).length = 1 from rfl, show (wOf nm 1).length = 1 from rfl, wOf_2 nm 0, wOf_2 nm 1, wOf_2 nm 2, wOf_2 nm 3] at e
  show (nI (xs.count 0) - nI (ys.count 0)) + (nI (xs.count 1) - nI (ys.count 1)) + (nI (xs.count 2) - nI (ys.count 2)) * nI (wl (nm 0)) + (nI (xs.count 3) - nI (ys.count 3)) * nI (wl (nm 1)) + (nI (xs.count 4) - nI (ys.count 4)) * nI (wl (nm 2)) + (nI (xs.count 5) - nI (ys.count 5)) * nI (wl (nm 3)) = nI 0
  rw [mul2, mul2, mul2, mul2, add2, add2, add2, add2, add2]
  simp only [nI_add]
  rw [show xs.count 0 + xs.count 1 + xs.count 2 * wl (nm 0) + xs.count 3 * wl (nm 1) + xs.count 4 * wl (nm 2) + xs.count 5 * wl (nm 3) = ys.count 0 + ys.count 1 + ys.count 2 * wl (nm 0) + ys.count 3 * wl (nm 1) + ys.count 4 * wl (nm 2) + ys.count 5 * wl (nm 3) by omega]
  exact Int32.sub_self _
set_option maxRecDepth 100000 in
theorem aC_alw {cs : List (Nat × Nat × Nat)} {w : Nat → List Nat} : ∀ (d i : Nat), aC cs w i d = true → ∀ v, i ≤ v → v < i + d → alw v (w (v + 2)).length cs = true := by
  intro d
  induction d with
  | zero => intro i _ v h1 h2; omega
  | succ d ih =>
    intro i h v h1 h2
    rw [aC, Bool.and_eq_true] at h
    by_cases q : v = i
    · rw [q]; exact h.1
    · exact ih (i + 1) h.2 v (by omega) (by omega)
set_option maxRecDepth 100000 in
theorem sol_alw {cs : List (Nat × Nat × Nat)} {nm : Nat → Nat} {xs ys : List Nat} (h : sol cs (wOf nm) xs ys = true) {v : Nat} (hv : v < 4) : alw v (wl (nm v)) cs = true := by
  unfold sol at h
  rw [Bool.and_eq_true] at h
  rw [← wOf_2 nm v]
  exact aC_alw 4 0 h.1 v (Nat.zero_le _) (by omega)
set_option maxRecDepth 100000 in
theorem sm_pos {f : Nat → Nat} : ∀ {n t : Nat}, t < n → 0 < f t → 0 < sm n f
  | 0, _, h, _ => by omega
  | n + 1, t, h, hf => by
    rw [sm]
    by_cases q : t = n
    · rw [← q]; omega
    · have := sm_pos (n := n) (t := t) (by omega) hf
      omega
set_option maxRecDepth 100000 in
theorem ways_pos {w : Nat → Int32} {ok : Nat → Nat → Bool} {n : Nat → Nat} : ∀ (k v : Nat) (s : Int32), (∀ u, v ≤ u → u < v + k → n u < 10 ∧ ok u (n u) = true) → bal w n v k s = nI 0 → 0 < ways w ok k v s := by
  intro k
  induction k with
  | zero =>
    intro v s _ h
    have h : s = nI 0 := h
    rw [ways, decide_eq_true h]; decide
  | succ k ih =>
    intro v s hu h
    rw [bal] at h
    obtain ⟨h1, h2⟩ := hu v (Nat.le_refl _) (by omega)
    rw [ways]
    refine sm_pos h1 ?_
    rw [if_pos h2]
    exact ih (v + 1) _ (fun u a b => hu u (by omega) (by omega)) h
set_option maxRecDepth 100000 in
theorem ways_le {w : Nat → Int32} {ok : Nat → Nat → Bool} : ∀ (k v : Nat) (s : Int32), ways w ok k v s ≤ 10 ^ k := by
  intro k
  induction k with
  | zero => intro v s; have := b1_lt (decide (s = nI 0)); rw [ways]; omega
  | succ k ih =>
    intro v s
    rw [ways, Nat.pow_succ, Nat.mul_comm]
    exact sm_le fun l _ => by
      split
      · exact ih _ _
      · exact Nat.zero_le _
