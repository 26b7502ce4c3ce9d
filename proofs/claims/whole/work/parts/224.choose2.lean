set_option maxRecDepth 100000 in
theorem bal_cong {w : Nat → Int32} {n n' : Nat → Nat} : ∀ (k v : Nat) (s : Int32), (∀ u, v ≤ u → u < v + k → n u = n' u) → bal w n v k s = bal w n' v k s := by
  intro k
  induction k with
  | zero => intro v s _; rfl
  | succ k ih =>
    intro v s h
    rw [bal, bal, h v (Nat.le_refl _) (by omega)]
    exact ih (v + 1) _ (fun u a b => h u (by omega) (by omega))
set_option maxRecDepth 100000 in
theorem bal_app {w : Nat → Int32} {n : Nat → Nat} (k : Nat) : ∀ (d v : Nat) (s : Int32), bal w n v (d + k) s = bal w n (v + d) k (bal w n v d s) := by
  intro d
  induction d with
  | zero => intro v s; rw [Nat.zero_add]; rfl
  | succ d ih =>
    intro v s
    rw [show d + 1 + k = d + k + 1 by omega, bal, ih (v + 1), bal, show v + 1 + d = v + (d + 1) by omega]
set_option maxRecDepth 100000 in
theorem bal_snoc {w : Nat → Int32} {n : Nat → Nat} (v : Nat) (s : Int32) : bal w n 0 (v + 1) s = bal w n 0 v s + w v * nI (n v) := by
  rw [bal_app 1 v 0 s, Nat.zero_add]; rfl
set_option maxRecDepth 100000 in
theorem FC_le {cs : List (Nat × Nat × Nat)} {xs ys : List Nat} {N : Nat → Nat} (hN : ∀ v, N v ≤ 15) : ∀ (k v : Nat) (nm : Nat → Nat) (s : ST), (FC cs xs ys N k v nm s).1 ≤ s.1 + 15 ^ k := by
  intro k
  induction k with
  | zero =>
    intro v nm s
    rw [FC, stepS]
    split
    · exact Nat.le_refl _
    · exact Nat.le_add_right _ _
  | succ k ih =>
    intro v nm s
    have key : ∀ n, (fd (fun i => FC cs xs ys N k (v + 1) (setN nm v i)) n s).1 ≤ s.1 + n * 15 ^ k := by
      intro n
      induction n with
      | zero => exact Nat.le_add_right _ _
      | succ n ihn =>
        have := ih (v + 1) (setN nm v n) (fd (fun i => FC cs xs ys N k (v + 1) (setN nm v i)) n s)
        rw [fd, Nat.succ_mul]
        omega
    rw [FC]
    refine Nat.le_trans (key _) (Nat.add_le_add_left ?_ _)
    rw [Nat.pow_succ, Nat.mul_comm]
    exact Nat.mul_le_mul_left _ (hN v)
set_option maxRecDepth 100000 in
theorem fd_le {cs : List (Nat × Nat × Nat)} {xs ys : List Nat} {N : Nat → Nat} (hN : ∀ v, N v ≤ 15) (k v : Nat) (nm : Nat → Nat) (s : ST) : ∀ n, (fd (fun i => FC cs xs ys N k (v + 1) (setN nm v i)) n s).1 ≤ s.1 + n * 15 ^ k := by
  intro n
  induction n with
  | zero => exact Nat.le_add_right _ _
  | succ n ihn =>
    have := FC_le (cs := cs) (xs := xs) (ys := ys) hN k (v + 1) (setN nm v n) (fd (fun i => FC cs xs ys N k (v + 1) (setN nm v i)) n s)
    rw [fd, Nat.succ_mul]
    omega
