/-! countSolutions and its kin: the fold that both programs make -/
abbrev ST := Nat × Nat × (Nat → Nat)
def tot (nm : Nat → Nat) : Nat := wl (nm 0) + wl (nm 1) + wl (nm 2) + wl (nm 3)
def recS (nm : Nat → Nat) (s : ST) : ST := (s.1 + 1, if s.1 = 0 then tot nm else min (tot nm) s.2.1, if s.1 = 0 then nm else s.2.2)
def stepS (cs : List (Nat × Nat × Nat)) (xs ys : List Nat) (nm : Nat → Nat) (s : ST) : ST := if sol cs (wOf nm) xs ys = true then recS nm s else s
def setN (nm : Nat → Nat) (v i : Nat) : Nat → Nat := fun u => if u = v then i else nm u
set_option maxRecDepth 100000 in
theorem setN_at (nm : Nat → Nat) (v i : Nat) : setN nm v i v = i := if_pos rfl
set_option maxRecDepth 100000 in
theorem setN_ne {nm : Nat → Nat} {v i u : Nat} (h : u ≠ v) : setN nm v i u = nm u := if_neg h
/-- the fold over all ways to go on from the first v words -/
def FC (cs : List (Nat × Nat × Nat)) (xs ys : List Nat) (N : Nat → Nat) : Nat → Nat → (Nat → Nat) → ST → ST
  | 0, _, nm, s => stepS cs xs ys nm s
  | k + 1, v, nm, s => fd (fun i => FC cs xs ys N k (v + 1) (setN nm v i)) (N v) s
set_option maxRecDepth 100000 in
theorem FC_id {cs : List (Nat × Nat × Nat)} {xs ys : List Nat} {N : Nat → Nat} : ∀ (k v : Nat) (nm : Nat → Nat), (∀ nm' : Nat → Nat, (∀ u, u < v → nm' u = nm u) → (∀ u, v ≤ u → u < v + k → nm' u < N u) → (∀ u, v + k ≤ u → nm' u = nm u) → sol cs (wOf nm') xs ys = false) → ∀ s, FC cs xs ys N k v nm s = s := by
  intro k
  induction k with
  | zero =>
    intro v nm h s
    rw [FC, stepS, h nm (fun _ _ => rfl) (fun u a b => by omega) (fun _ _ => rfl), if_neg Bool.false_ne_true]
  | succ k ih =>
    intro v nm h s
    rw [FC]
    refine fd_id fun i hi s => ih (v + 1) (setN nm v i) (fun nm' h1 h2 h3 => h nm' (fun u hu => ?_) (fun u a b => ?_) (fun u a => ?_)) s
    · rw [h1 u (by omega), setN_ne (by omega)]
    · by_cases q : u = v
      · rw [q, h1 v (by omega), setN_at]; exact hi
      · exact h2 u (by omega) (by omega)
    · rw [h3 u (by omega), setN_ne (by omega)]
set_option maxRecDepth 100000 in
theorem wl_pow : ∀ l, l < 4 → ∀ c, c < 2 ^ l → wl (2 ^ l - 1 + c) = l := by decide +kernel
set_option maxRecDepth 100000 in
theorem wd_pow : ∀ l, l < 4 → ∀ c, c < 2 ^ l → vl 0 (wd (2 ^ l - 1 + c)) = c := by decide +kernel
set_option maxRecDepth 100000 in
theorem num_c : ∀ n, n < 15 → ((shlL (lN 1) (nI (wl n)) + lN (vl 0 (wd n))) - lN 1).toInt32 = nI n := by decide +kernel
