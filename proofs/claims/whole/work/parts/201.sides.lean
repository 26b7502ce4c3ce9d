/-! the class's functions over a packed side -/
set_option maxRecDepth 100000 in
theorem zSymbol {xs : List Nat} (h : okS 13 xs) {i : Nat} (hi : i < 2 ^ 31) : fZ_symbol (lN (pq xs)) (nI i) = some (nI (sy xs i)) := by
  have hp := pq_lt13 h
  unfold fZ_symbol
  simp only [litI]
  rw [if_neg (by rw [nI_ltI hi (by decide)]; omega)]
  by_cases h1 : i < 13
  · rw [if_pos ((nI_ltI hi (by decide)).mpr h1), pk_mul, ush (by omega) (by omega), lN_i, and7, pq_sy h.2]
  · rw [if_neg (by rw [nI_ltI hi (by decide)]; exact h1), sy_out (by have := h.1; omega)]
set_option maxRecDepth 100000 in
theorem zSize {xs : List Nat} (h : okS 13 xs) : fZ_size (lN (pq xs)) = some (nI xs.length) := by
  have hp := pq_lt13 h
  have hl := h.1
  have key : ∀ (d i n : Nat), i + d = xs.length → d < n → fx1 (fZ_size_2 (lN (pq xs))) n (nI i) = some (nI xs.length) := by
    intro d
    induction d with
    | zero =>
      intro i n hi hn
      obtain ⟨n, rfl⟩ := succ_of hn
      rw [fx1_s]
      rw [fZ_size_2]
      simp only [litI, litL]
      by_cases h1 : 13 ≤ i
      · rw [if_pos ((nI_leI (by decide) (by omega)).mpr h1), show i = xs.length by omega]
      · rw [if_neg (by rw [nI_leI (by decide) (by omega)]; exact h1), pk_mul, ush (by omega) (by omega), pq_drop i h.2, List.drop_eq_nil_of_le (by omega)]
        rw [if_pos (show lg_cmp (lN (pq [])) (lN 0) = nI 0 from rfl), show i = xs.length by omega]
    | succ d ih =>
      intro i n hi hn
      obtain ⟨n, rfl⟩ := succ_of hn
      rw [fx1_s]
      rw [fZ_size_2]
      simp only [litI, litL]
      rw [if_neg (by rw [nI_leI (by decide) (by omega)]; omega), pk_mul, ush (by omega) (by omega), pq_drop i h.2]
      have h2 : pq (xs.drop i) < 549755813888 := pq_lt13 ⟨by rw [List.length_drop]; omega, fun x hx => h.2 x (List.mem_of_mem_drop hx)⟩
      rw [if_neg (by
        rw [show nI 0 = 0 from rfl, lgc (by omega) (by decide), pq_zero (fun x hx => h.2 x (List.mem_of_mem_drop hx)), List.drop_eq_nil_iff]
        omega)]
      unfold st
      rw [nI_add]
      exact ih (i + 1) n (by omega) (by omega)
  exact key xs.length 0 FU (by omega) (fuel (by omega))
set_option maxRecDepth 100000 in
/-- how often a symbol stands in a side -/
theorem zCountOf {xs : List Nat} (h : okS 13 xs) {c : Nat} (hc : c < 6) : fZ_countOf (lN (pq xs)) (nI (c + 1)) = some (nI (xs.count c)) := by
  have hp := pq_lt13 h
  have hl := h.1
  have hcl : xs.count c ≤ xs.length := List.count_le_length
  have key : ∀ (d i k n : Nat), i + d = 13 → d < n → k + (xs.drop i).count c < 2 ^ 31 → fx2 (fZ_countOf_5 (lN (pq xs)) (nI (c + 1))) n (nI k) (nI i) = some (nI (k + (xs.drop i).count c)) := by
    intro d
    induction d with
    | zero =>
      intro i k n hi hn hk
      obtain ⟨n, rfl⟩ := succ_of hn
      rw [fx2_s]
      rw [fZ_countOf_5]
      simp only [litI, litL]
      rw [if_pos ((nI_leI (by decide) (by omega)).mpr (by omega)), List.drop_eq_nil_of_le (by omega)]
      simp
    | succ d ih =>
      intro i k n hi hn hk
      obtain ⟨n, rfl⟩ := succ_of hn
      rw [fx2_s]
      rw [fZ_countOf_5]
      simp only [litI, litL]
      rw [if_neg (by rw [nI_leI (by decide) (by omega)]; omega), pk_mul, ush (by omega) (by omega), and7L (by have := Nat.div_le_self (pq xs) (8 ^ i); omega), pq_sy h.2, nI_l (by omega)]
      have hs := sy_lt h.2 i
      simp only [st]
      rw [nI_add, nI_add]
      rcases Nat.lt_or_ge i xs.length with h2 | h2
      · rw [List.drop_eq_getElem_cons h2, List.count_cons] at hk ⊢
        rw [sy_in h2] at hs ⊢
        by_cases h3 : xs[i] = c
        · rw [if_pos (by rw [show nI 0 = 0 from rfl, lgc (by omega) (by omega)]; omega), ih (i + 1) (k + 1) n (by omega) (by omega) (by simp [h3] at hk; omega)]
          simp only [h3, beq_self_eq_true, if_true]
          rw [show k + 1 + List.count c (List.drop (i + 1) xs) = k + (List.count c (List.drop (i + 1) xs) + 1) by omega]
        · rw [if_neg (by rw [show nI 0 = 0 from rfl, lgc (by omega) (by omega)]; omega), ih (i + 1) k n (by omega) (by omega) (by simp [h3] at hk; omega)]
          simp [h3]
      · rw [sy_out h2]
        rw [if_neg (by rw [show nI 0 = 0 from rfl, lgc (by decide) (by omega)]; omega)]
        rw [List.drop_eq_nil_of_le h2] at hk
        rw [ih (i + 1) k n (by omega) (by omega) (by rw [List.drop_eq_nil_of_le (by omega)]; exact hk), List.drop_eq_nil_of_le (by omega), List.drop_eq_nil_of_le h2]
  have := key 13 0 0 FU (by omega) (fuel (by omega)) (by rw [List.drop_zero]; omega)
  rw [List.drop_zero, Nat.zero_add] at this
  exact this
set_option maxRecDepth 100000 in
theorem zHead {xs : List Nat} (h : okS 13 xs) : fZ_head (lN (pq xs)) = some (nI (sy xs 0)) := by
  have hp := pq_lt13 h
  unfold fZ_head
  simp only [litI]
  rw [lN_i, and7, ← pq_sy h.2 0, Nat.pow_zero, Nat.div_one]
set_option maxRecDepth 100000 in
theorem zTail {xs : List Nat} (h : okS 13 xs) : fZ_tail (lN (pq xs)) = some (lN (pq xs.tail)) := by
  have hp := pq_lt13 h
  unfold fZ_tail
  simp only [litI]
  have e := ush (n := pq xs) (i := 1) (by omega) (by decide)
  rw [show (3 * 1 : Nat) = 3 from rfl] at e
  rw [e, pq_drop 1 h.2, List.drop_one]
set_option maxRecDepth 100000 in
theorem okS.rev {n : Nat} {xs : List Nat} (h : okS n xs) : okS n xs.reverse := ⟨by rw [List.length_reverse]; exact h.1, fun x hx => h.2 x (List.mem_reverse.mp hx)⟩
set_option maxRecDepth 100000 in
theorem okS.drop {n : Nat} {xs : List Nat} (h : okS n xs) (i : Nat) : okS n (xs.drop i) := ⟨by rw [List.length_drop]; have := h.1; omega, fun x hx => h.2 x (List.mem_of_mem_drop hx)⟩
set_option maxRecDepth 100000 in
theorem okS.take {n : Nat} {xs : List Nat} (h : okS n xs) (i : Nat) : okS n (xs.take i) := ⟨by rw [List.length_take]; have := h.1; omega, fun x hx => h.2 x (List.mem_of_mem_take hx)⟩
set_option maxRecDepth 100000 in
theorem okS.tl {n : Nat} {xs : List Nat} (h : okS n xs) : okS n xs.tail := ⟨by rw [List.length_tail]; have := h.1; omega, fun x hx => h.2 x (List.mem_of_mem_tail hx)⟩
set_option maxRecDepth 100000 in
theorem pq_cons_or {x : Nat} {xs : List Nat} (h : x < 6) (h2 : pq xs < 2 ^ 60) : (lN (pq xs * 8) ||| lN (x + 1)) = lN (pq (x :: xs)) := by
  rw [wb_or (by omega) (by omega)]
  congr 1
  rw [Nat.or_comm, or_add (k := 3) (by omega : x + 1 < 2 ^ 3), pq]
  omega
set_option maxRecDepth 100000 in
theorem zReversed {xs : List Nat} (h : okS 13 xs) : fZ_reversed (lN (pq xs)) = some (lN (pq xs.reverse)) := by
  have hp := pq_lt13 h
  have hl := h.1
  have key : ∀ (d i n : Nat), i + d = xs.length → d < n → fx2 (fZ_reversed_10 (lN (pq xs)) (nI xs.length)) n (lN (pq (xs.take i).reverse)) (nI i) = some (lN (pq xs.reverse)) := by
    intro d
    induction d with
    | zero =>
      intro i n hi hn
      obtain ⟨n, rfl⟩ := succ_of hn
      rw [fx2_s]
      rw [fZ_reversed_10]
      rw [if_pos ((nI_leI (by omega) (by omega)).mpr (by omega)), List.take_of_length_le (by omega)]
    | succ d ih =>
      intro i n hi hn
      obtain ⟨n, rfl⟩ := succ_of hn
      rw [fx2_s]
      rw [fZ_reversed_10]
      rw [if_neg (by rw [nI_leI (by omega) (by omega)]; omega), zSymbol h (by omega)]
      simp only [bd1, st, litI]
      have h2 : i < xs.length := by omega
      have h3 := h.2 _ (List.getElem_mem h2)
      rw [sy_in h2, nI_l (by omega), nI_add, shlk _ (by decide)]
      have e : (xs.take (i + 1)).reverse = xs[i] :: (xs.take i).reverse := by rw [List.take_succ_eq_append_getElem h2, List.reverse_append]; rfl
      have hb := pq_lt13 (okS.rev (h.take i))
      rw [show (2 : Nat) ^ 3 = 8 from rfl, pq_cons_or h3 (by omega), ← e]
      exact ih (i + 1) n (by omega) (by omega)
  unfold fZ_reversed
  rw [zSize h]
  simp only [bd1]
  exact key xs.length 0 FU (by omega) (fuel (by omega))
set_option maxRecDepth 100000 in
theorem zOne {s i : Nat} (hs : s < 8) (hi : i < 13) : fZ_one (nI s) (nI i) = some (lN (s * 8 ^ i)) := by
  unfold fZ_one
  simp only [litI]
  rw [if_neg (by rw [nI_ltI (by omega) (by decide)]; omega), if_pos ((nI_ltI (by omega) (by decide)).mpr hi), nI_l (by omega), pk_mul, shl3 _ (by omega)]
set_option maxRecDepth 100000 in
theorem pq_append {xs ys : List Nat} : pq (xs ++ ys) = pq xs + 8 ^ xs.length * pq ys := by
  induction xs with
  | nil => simp [pq]
  | cons x xs ih => rw [List.cons_append, pq, pq, ih, List.length_cons, Nat.pow_succ', Nat.mul_add, Nat.mul_assoc]; omega
set_option maxRecDepth 100000 in
theorem pq_lt_len {xs : List Nat} (h : ∀ x ∈ xs, x < 6) : pq xs < 8 ^ xs.length := pq_lt ⟨Nat.le_refl _, h⟩
set_option maxRecDepth 100000 in
/-- a packed piece put behind a side -/
theorem pq_or {xs ys : List Nat} (hx : ∀ x ∈ xs, x < 6) (h : pq (xs ++ ys) < 2 ^ 60) : (lN (pq xs) ||| lN (pq ys * 8 ^ xs.length)) = lN (pq (xs ++ ys)) := by
  have e := pq_lt_len hx
  rw [pq_append] at h
  rw [wb_or (by omega) (by rw [Nat.mul_comm]; omega)]
  congr 1
  rw [show (8 : Nat) ^ xs.length = 2 ^ (3 * xs.length) by rw [Nat.pow_mul]] at e ⊢
  rw [or_add e, pq_append, show (8 : Nat) ^ xs.length = 2 ^ (3 * xs.length) by rw [Nat.pow_mul], Nat.mul_comm]
/-- letters a and b change places -/
def swp (x : Nat) : Nat := if x = 0 then 1 else if x = 1 then 0 else x
set_option maxRecDepth 100000 in
theorem swp_lt {x : Nat} (h : x < 6) : swp x < 6 := by unfold swp; split <;> (try split) <;> omega
set_option maxRecDepth 100000 in
theorem okS.mapswp {n : Nat} {xs : List Nat} (h : okS n xs) : okS n (xs.map swp) := ⟨by rw [List.length_map]; exact h.1, fun x hx => by obtain ⟨y, hy, rfl⟩ := List.mem_map.mp hx; exact swp_lt (h.2 y hy)⟩
set_option maxRecDepth 100000 in
theorem zExchanged {xs : List Nat} (h : okS 13 xs) : fZ_exchanged (lN (pq xs)) = some (lN (pq (xs.map swp))) := by
  have hp := pq_lt13 h
  have hl := h.1
  have step : ∀ (n i : Nat) (z : Int64), i < 13 → fZ_exchanged_5 (lN (pq xs)) (fx2 (fZ_exchanged_5 (lN (pq xs))) n) z (nI i) = fx2 (fZ_exchanged_5 (lN (pq xs))) n (z ||| lN ((if h : i < xs.length then swp xs[i] + 1 else 0) * 8 ^ i)) (nI (i + 1)) := by
    intro n i z hi
    rw [fZ_exchanged_5]
    simp only [litI]
    rw [if_neg (by rw [nI_leI (by decide) (by omega)]; omega), zSymbol h (by omega)]
    simp only [bd1, fZ_exchanged_37, fZ_exchanged_54, st, litI]
    have hs := sy_lt h.2 i
    have q1 : nI (sy xs i) = nI 1 ↔ sy xs i = 1 := nI_eq (by omega) (by decide)
    have q2 : nI (sy xs i) = nI 2 ↔ sy xs i = 2 := nI_eq (by omega) (by decide)
    simp only [q1, q2]
    by_cases h1 : i < xs.length
    · rw [sy_in h1] at hs ⊢
      rw [dif_pos h1]
      have h2 := h.2 _ (List.getElem_mem h1)
      by_cases h3 : xs[i] = 0
      · rw [if_pos (by omega), if_neg (by decide), h3, pk_sub (by decide), zOne (by decide) hi]
        simp only [bd1, nI_add]
        rfl
      · rw [if_neg (by omega)]
        by_cases h4 : xs[i] = 1
        · rw [if_pos (by omega), if_neg (by decide), h4, pk_sub (by decide), zOne (by decide) hi]
          simp only [bd1, nI_add]
          rfl
        · rw [if_neg (by omega), if_pos trivial, zOne (by omega) hi]
          simp only [bd1, nI_add]
          rw [show swp xs[i] = xs[i] by unfold swp; rw [if_neg h3, if_neg h4]]
    · rw [sy_out (by omega), dif_neg h1, if_neg (by decide), if_neg (by decide), if_pos trivial, zOne (by decide) hi]
      simp only [bd1, nI_add]
  have key : ∀ (d i n : Nat), i + d = 13 → d < n → fx2 (fZ_exchanged_5 (lN (pq xs))) n (lN (pq ((xs.take i).map swp))) (nI i) = some (lN (pq (xs.map swp))) := by
    intro d
    induction d with
    | zero =>
      intro i n hi hn
      obtain ⟨n, rfl⟩ := succ_of hn
      rw [fx2_s]
      rw [fZ_exchanged_5]
      simp only [litI]
      rw [if_pos ((nI_leI (by decide) (by omega)).mpr (by omega)), List.take_of_length_le (by omega)]
    | succ d ih =>
      intro i n hi hn
      obtain ⟨n, rfl⟩ := succ_of hn
      rw [fx2_s, step n i _ (by omega)]
      by_cases h1 : i < xs.length
      · rw [dif_pos h1]
        have e : (xs.take (i + 1)).map swp = (xs.take i).map swp ++ [swp xs[i]] := by rw [List.take_succ_eq_append_getElem h1, List.map_append]; rfl
        have hb := pq_lt13 (okS.mapswp (h.take (i + 1)))
        have e2 := pq_or (xs := (xs.take i).map swp) (ys := [swp xs[i]]) (okS.mapswp (h.take i)).2 (by rw [← e]; omega)
        rw [List.length_map, List.length_take, Nat.min_eq_left (by omega), ← e] at e2
        rw [show swp xs[i] + 1 = pq [swp xs[i]] by simp [pq], e2]
        exact ih (i + 1) n (by omega) (by omega)
      · rw [dif_neg h1, Nat.zero_mul]
        have hb := pq_lt13 (okS.mapswp (h.take i))
        rw [wb_or (by omega) (by decide), Nat.or_zero, show (xs.take i) = xs.take (i + 1) by rw [List.take_of_length_le (by omega), List.take_of_length_le (by omega)]]
        exact ih (i + 1) n (by omega) (by omega)
  unfold fZ_exchanged
  exact key 13 0 FU (by omega) (fuel (by omega))
/-- every occurrence of v replaced by rs -/
def rpl (v : Nat) (rs : List Nat) (xs : List Nat) : List Nat := xs.flatMap (fun x => if x = v then rs else [x])
set_option maxRecDepth 100000 in
theorem rpl_length (v : Nat) (rs xs : List Nat) : (rpl v rs xs).length + xs.count v = xs.length + xs.count v * rs.length := by
  unfold rpl
  induction xs with
  | nil => simp
  | cons x xs ih =>
    rw [List.flatMap_cons, List.length_append, List.length_cons, List.count_cons]
    by_cases h : x = v
    · simp only [h, if_pos, beq_self_eq_true]
      rw [Nat.add_mul]
      omega
    · simp only [h, if_false, beq_iff_eq, List.length_singleton, Nat.add_zero]
      omega
set_option maxRecDepth 100000 in
theorem rpl_mem {v : Nat} {rs xs : List Nat} (hr : ∀ x ∈ rs, x < 6) (hx : ∀ x ∈ xs, x < 6) : ∀ x ∈ rpl v rs xs, x < 6 := by
  intro x h
  obtain ⟨y, hy, h⟩ := List.mem_flatMap.mp h
  by_cases e : y = v
  · rw [if_pos e] at h; exact hr x h
  · rw [if_neg e] at h; rw [List.mem_singleton.mp h]; exact hx y hy
set_option maxRecDepth 100000 in
theorem rpl_take_le {v : Nat} {rs xs : List Nat} (i : Nat) : (rpl v rs (xs.take i)).length ≤ (rpl v rs xs).length := by
  have e : rpl v rs xs = rpl v rs (xs.take i) ++ rpl v rs (xs.drop i) := by
    unfold rpl
    rw [← List.flatMap_append, List.take_append_drop]
  rw [e, List.length_append]
  omega
set_option maxRecDepth 100000 in
theorem zReplaced {xs rs : List Nat} (h : okS 13 xs) (hr : okS 13 rs) {v : Nat} (hv : v < 6) (hn : (rpl v rs xs).length ≤ 13) : fZ_replaced (lN (pq xs)) (nI (v + 1)) (lN (pq rs)) = some (lN (pq (rpl v rs xs))) := by
  have hp := pq_lt13 h
  have hpr := pq_lt13 hr
  have hl := h.1
  have hlr := hr.1
  have key : ∀ (d i n : Nat), i + d = xs.length → d < n → fx3 (fZ_replaced_21 (lN (pq xs)) (nI (v + 1)) (lN (pq rs)) (nI xs.length) (nI rs.length)) n (lN (pq (rpl v rs (xs.take i)))) (nI (rpl v rs (xs.take i)).length) (nI i) = some (lN (pq (rpl v rs xs))) := by
    intro d
    induction d with
    | zero =>
      intro i n hi hn2
      obtain ⟨n, rfl⟩ := succ_of hn2
      rw [fx3_s]
      rw [fZ_replaced_21]
      rw [if_pos ((nI_leI (by omega) (by omega)).mpr (by omega)), List.take_of_length_le (by omega)]
    | succ d ih =>
      intro i n hi hn2
      obtain ⟨n, rfl⟩ := succ_of hn2
      rw [fx3_s]
      rw [fZ_replaced_21]
      have h2 : i < xs.length := by omega
      have h3 := h.2 _ (List.getElem_mem h2)
      have ht := rpl_take_le (v := v) (rs := rs) (xs := xs) i
      have ht1 := rpl_take_le (v := v) (rs := rs) (xs := xs) (i + 1)
      rw [if_neg (by rw [nI_leI (by omega) (by omega)]; omega), zSymbol h (by omega), sy_in h2]
      simp only [bd1, fZ_replaced_51, st, litI]
      have e : rpl v rs (xs.take (i + 1)) = rpl v rs (xs.take i) ++ (if xs[i] = v then rs else [xs[i]]) := by
        rw [List.take_succ_eq_append_getElem h2]
        unfold rpl
        rw [List.flatMap_append, List.flatMap_singleton]
      have hm := rpl_mem (v := v) hr.2 (h.take i).2
      have hm1 := rpl_mem (v := v) hr.2 (h.take (i + 1)).2
      have hb := pq_lt13 ⟨Nat.le_trans ht1 hn, hm1⟩
      have ih := ih (i + 1) n (by omega) (by omega)
      have q1 : nI (xs[i] + 1) = nI (v + 1) ↔ xs[i] + 1 = v + 1 := nI_eq (by omega) (by omega)
      simp only [q1]
      rw [pk_mul, nI_l (by omega)]
      simp only [nI_add]
      by_cases h4 : xs[i] = v
      · rw [if_pos (by omega), if_pos (by omega), shl3 _ (by omega)]
        rw [if_pos h4] at e
        rw [pq_or hm (by rw [← e]; omega), ← e, show (rpl v rs (xs.take i)).length + rs.length = (rpl v rs (xs.take (i + 1))).length by rw [e, List.length_append]]
        exact ih
      · rw [if_neg (by omega), if_neg (by omega), shl3 _ (by omega)]
        rw [if_neg h4] at e
        rw [show xs[i] + 1 = pq [xs[i]] by simp [pq], pq_or hm (by rw [← e]; omega), ← e, show (rpl v rs (xs.take i)).length + 1 = (rpl v rs (xs.take (i + 1))).length by rw [e, List.length_append]; rfl]
        exact ih
  unfold fZ_replaced
  rw [zSize h, zSize hr]
  simp only [bd1]
  exact key xs.length 0 FU (by omega) (fuel (by omega))
