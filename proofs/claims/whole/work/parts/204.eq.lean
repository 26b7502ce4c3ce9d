/-! the class's Equation; the relation of the two equations; history; slots -/
set_option maxRecDepth 100000 in
theorem eSide {xs ys : List Nat} (s : Nat) (hs : s < 2) : fE_side (lN (pq xs)) (lN (pq ys)) (nI s) = some (lN (pq (sd s xs ys))) := by
  rcases (show s = 0 ∨ s = 1 by omega) with rfl | rfl <;> rfl
set_option maxRecDepth 100000 in
theorem ok13 {xs : List Nat} (h : okS 12 xs) : okS 13 xs := h.mono (by decide)
set_option maxRecDepth 100000 in
theorem eTurn {xs ys : List Nat} (hx : okS 13 xs) (hy : okS 13 ys) : fE_turn (lN (pq xs)) (lN (pq ys)) = some (lN (pq xs.reverse), lN (pq ys.reverse)) := by
  simp -implicitDefEqProofs (disch := omega) only [fE_turn, fE_set, litI, litL, nI_add, pk_mul, bd0_e, bd1_e, bd2_e, bd3_e, bd4_e, st_e, zReversed hx, zReversed hy]
set_option maxRecDepth 100000 in
theorem eSwap (a b : Int64) : fE_swap a b = some (b, a) := rfl
set_option maxRecDepth 100000 in
theorem eSize {xs ys : List Nat} (hx : okS 12 xs) (hy : okS 12 ys) : fE_size (lN (pq xs)) (lN (pq ys)) = some (nI (xs.length + ys.length)) := by
  simp -implicitDefEqProofs (disch := omega) only [fE_size, litI, litL, nI_add, pk_mul, bd0_e, bd1_e, bd2_e, bd3_e, bd4_e, st_e, zSize (ok13 hx), zSize (ok13 hy)]
set_option maxRecDepth 100000 in
theorem eTotal {xs ys : List Nat} (hx : okS 12 xs) (hy : okS 12 ys) {c : Nat} (hc : c < 6) : fE_total (lN (pq xs)) (lN (pq ys)) (nI (c + 1)) = some (nI (xs.count c + ys.count c)) := by
  simp -implicitDefEqProofs (disch := omega) only [fE_total, litI, litL, nI_add, pk_mul, bd0_e, bd1_e, bd2_e, bd3_e, bd4_e, st_e, zCountOf (ok13 hx) hc, zCountOf (ok13 hy) hc]
set_option maxRecDepth 100000 in
theorem eSurplus {xs ys : List Nat} (hx : okS 12 xs) (hy : okS 12 ys) {c : Nat} (hc : c < 6) : fE_surplus (lN (pq xs)) (lN (pq ys)) (nI (c + 1)) = some (nI (xs.count c) - nI (ys.count c)) := by
  simp -implicitDefEqProofs (disch := omega) only [fE_surplus, litI, litL, nI_add, pk_mul, bd0_e, bd1_e, bd2_e, bd3_e, bd4_e, st_e, zCountOf (ok13 hx) hc, zCountOf (ok13 hy) hc]
set_option maxRecDepth 100000 in
theorem eExchange {xs ys : List Nat} (hx : okS 12 xs) (hy : okS 12 ys) : fE_exchange (lN (pq xs)) (lN (pq ys)) = some (lN (pq (xs.map swp)), lN (pq (ys.map swp))) := by
  simp -implicitDefEqProofs (disch := omega) only [fE_exchange, fE_set, litI, litL, nI_add, pk_mul, bd0_e, bd1_e, bd2_e, bd3_e, bd4_e, st_e, zExchanged (ok13 hx), zExchanged (ok13 hy)]
set_option maxRecDepth 100000 in
theorem eReplace {xs ys rs : List Nat} (hx : okS 12 xs) (hy : okS 12 ys) (hr : okS 12 rs) {v : Nat} (hv : v < 6) (h1 : (rpl v rs xs).length ≤ 13) (h2 : (rpl v rs ys).length ≤ 13) : fE_replace (lN (pq xs)) (lN (pq ys)) (nI (v + 1)) (lN (pq rs)) = some (nI (xs.count v + ys.count v), lN (pq (rpl v rs xs)), lN (pq (rpl v rs ys))) := by
  simp -implicitDefEqProofs (disch := omega) only [fE_replace, fE_set, litI, litL, nI_add, pk_mul, bd0_e, bd1_e, bd2_e, bd3_e, bd4_e, st_e, eTotal hx hy hv, zReplaced (ok13 hx) (ok13 hr) hv h1, zReplaced (ok13 hy) (ok13 hr) hv h2]
set_option maxRecDepth 100000 in
theorem eCancelHeads (u : List Nat) : ∀ (v : List Nat) (k n : Nat), okS 12 u → okS 12 v → k + u.length ≤ 12 → u.length < n → fx3 fE_cancelHeads_2 n (lN (pq u)) (lN (pq v)) (nI k) = some (nI (k + (canc u v).1), lN (pq (canc u v).2.1), lN (pq (canc u v).2.2)) := by
  induction u with
  | nil =>
    intro v k n hu hv hk hn
    obtain ⟨n, rfl⟩ := succ_of hn
    have hp := pq_lt13 (ok13 hu)
    rw [fx3_s, fE_cancelHeads_2]
    by_cases q : 12 ≤ k
    · simp -implicitDefEqProofs (disch := omega) only [litI, litL, nI_add, pk_mul, bd0_e, bd1_e, bd2_e, bd3_e, bd4_e, st_e, nI_leI, nI_ltI, nI_eq, if_pos, if_neg, if_true, if_false, ld_nI, sti_nI, stl_nI]
      rfl
    · have c0 : lg_cmp (lN (pq [])) (lN 0) = nI 0 := rfl
      simp -implicitDefEqProofs (disch := omega) only [litI, litL, nI_add, pk_mul, bd0_e, bd1_e, bd2_e, bd3_e, bd4_e, st_e, nI_leI, nI_ltI, nI_eq, if_pos, if_neg, if_true, if_false, ld_nI, sti_nI, stl_nI, c0]
      rfl
  | cons x u ih =>
    intro v k n hu hv hk hn
    obtain ⟨n, rfl⟩ := succ_of hn
    rw [List.length_cons] at hk hn
    have hp := pq_lt13 (ok13 hu)
    have hx := hu.2 x List.mem_cons_self
    have c0 : ¬ lg_cmp (lN (pq (x :: u))) (lN 0) = nI 0 := by
      rw [show nI 0 = 0 from rfl, lgc (by omega) (by decide), pq]
      omega
    have hv0 := sy_lt hv.2 0
    rw [fx3_s, fE_cancelHeads_2]
    simp -implicitDefEqProofs (disch := omega) only [fE_set, litI, litL, nI_add, pk_mul, bd0_e, bd1_e, bd2_e, bd3_e, bd4_e, st_e, nI_leI, nI_ltI, nI_eq, if_pos, if_neg, if_true, if_false, ld_nI, sti_nI, stl_nI, c0, zHead (ok13 hu), zHead (ok13 hv), zTail (ok13 hu), zTail (ok13 hv), List.tail_cons, show sy (x :: u) 0 = x + 1 from rfl]
    cases v with
    | nil =>
      rw [show sy [] 0 = 0 from rfl]
      simp -implicitDefEqProofs (disch := omega) only [nI_leI, nI_ltI, nI_eq, if_pos, if_neg, if_true, if_false, ld_nI, sti_nI, stl_nI]
      rfl
    | cons y v =>
      rw [show sy (y :: v) 0 = y + 1 from rfl, canc]
      by_cases q : x = y
      · rw [if_pos (by omega), if_pos q, List.tail_cons, ih v (k + 1) n ⟨by have := hu.1; rw [List.length_cons] at this; omega, fun z hz => hu.2 z (List.mem_cons_of_mem _ hz)⟩ ⟨by have := hv.1; rw [List.length_cons] at this; omega, fun z hz => hv.2 z (List.mem_cons_of_mem _ hz)⟩ (by omega) (by omega)]
        dsimp only
        rw [show k + ((canc u v).1 + 1) = k + 1 + (canc u v).1 by omega]
      · rw [if_neg (by omega), if_neg q]
        rfl
set_option maxRecDepth 100000 in
theorem eCancelEnds {xs ys : List Nat} (hx : okS 12 xs) (hy : okS 12 ys) : fE_cancelEnds (lN (pq xs)) (lN (pq ys)) = some (nI (cancel2 xs ys).1, lN (pq (cancel2 xs ys).2.1), lN (pq (cancel2 xs ys).2.2)) := by
  obtain ⟨a, b, c⟩ := canc_ok hx hy
  obtain ⟨a2, b2, c2⟩ := canc_ok a.rev b.rev
  have h1 := hx.1
  have h2 := a.rev.1
  have e1 : fE_cancelHeads (lN (pq xs)) (lN (pq ys)) = some (nI (canc xs ys).1, lN (pq (canc xs ys).2.1), lN (pq (canc xs ys).2.2)) := by
    have := eCancelHeads xs ys 0 FU hx hy (by omega) (fuel (by omega))
    rw [Nat.zero_add] at this
    exact this
  have e2 := eCancelHeads _ _ 0 FU a.rev b.rev (by omega) (fuel (by omega))
  have e3 : fE_cancelHeads (lN (pq (canc xs ys).2.1.reverse)) (lN (pq (canc xs ys).2.2.reverse)) = some (nI (canc (canc xs ys).2.1.reverse (canc xs ys).2.2.reverse).1, lN (pq (canc (canc xs ys).2.1.reverse (canc xs ys).2.2.reverse).2.1), lN (pq (canc (canc xs ys).2.1.reverse (canc xs ys).2.2.reverse).2.2)) := by
    rw [Nat.zero_add] at e2
    exact e2
  simp -implicitDefEqProofs (disch := omega) only [fE_cancelEnds, litI, litL, nI_add, pk_mul, bd0_e, bd1_e, bd2_e, bd3_e, bd4_e, st_e, e1, eTurn (ok13 a) (ok13 b), e3, eTurn (ok13 a2) (ok13 b2)]
  rfl
/-- the two equations are one -/
def RE (El Er : Int64) (now : Nat → Int32) (xs ys : List Nat) : Prop := okS 12 xs ∧ okS 12 ys ∧ El = lN (pq xs) ∧ Er = lN (pq ys) ∧ rowIs now xs ys
set_option maxRecDepth 100000 in
theorem rem_nI {a d : Nat} (ha : a < 2 ^ 31) (h0 : 0 < d) (hd : d < 2 ^ 31) : rem (nI a) (nI d) = nI (a % d) := pk_rem ha h0 hd
/-- remembered equations, the oldest first -/
def RH (Hn : Int32) (Hl Hr : Nat → Int64) (acts next : Int32) (diary : Nat → Int32) : Prop :=
  ∃ (hs : List (List Nat × List Nat)) (nx : Nat), hs.length ≤ 14 ∧ nx < 14 ∧ Hn = nI hs.length ∧ acts = nI hs.length ∧ next = nI nx ∧
    ∀ i e, hs[i]? = some e → okS 12 e.1 ∧ okS 12 e.2 ∧ Hl i = lN (pq e.1) ∧ Hr i = lN (pq e.2) ∧ rowIs (fun k => diary (26 * ((nx + 14 - hs.length + i) % 14) + k)) e.1 e.2
set_option maxRecDepth 100000 in
theorem mNote {acts nx : Nat} (ha : acts ≤ 14) (hx : nx < 14) (now diary : Nat → Int32) : ∃ d', fM_note (nI acts) (nI nx) now diary = some (nI (if 14 ≤ acts then 14 else acts + 1), nI ((nx + 1) % 14), d') ∧ (∀ k, k < 26 → d' (26 * nx + k) = now k) ∧ ∀ k, (k < 26 * nx ∨ 26 * nx + 26 ≤ k) → d' k = diary k := by
  have key : ∀ (d i n : Nat) (g : Nat → Int32), i + d = 26 → d < n → ((∀ k, k < i → g (26 * nx + k) = now k) ∧ ∀ k, (k < 26 * nx ∨ 26 * nx + 26 ≤ k) → g k = diary k) →
      ∃ d', fx2 (fM_note_2 (nI acts) (nI nx) now) n g (nI i) = some (nI (if 14 ≤ acts then 14 else acts + 1), nI ((nx + 1) % 14), d') ∧ (∀ k, k < 26 → d' (26 * nx + k) = now k) ∧ ∀ k, (k < 26 * nx ∨ 26 * nx + 26 ≤ k) → d' k = diary k := by
    intro d
    induction d with
    | zero =>
      intro i n g hi hn hg
      obtain ⟨n, rfl⟩ := succ_of hn
      refine ⟨g, ?_, fun k hk => hg.1 k (by omega), hg.2⟩
      by_cases q : 14 ≤ acts
      · simp -implicitDefEqProofs (disch := omega) only [fx2_s, fM_note_2, fM_note_68, litI, litL, nI_add, pk_mul, bd0_e, bd1_e, bd2_e, bd3_e, bd4_e, st_e, nI_leI, nI_ltI, nI_eq, if_pos, if_neg, if_true, if_false, ld_nI, sti_nI, stl_nI, rem_nI]
      · simp -implicitDefEqProofs (disch := omega) only [fx2_s, fM_note_2, fM_note_68, litI, litL, nI_add, pk_mul, bd0_e, bd1_e, bd2_e, bd3_e, bd4_e, st_e, nI_leI, nI_ltI, nI_eq, if_pos, if_neg, if_true, if_false, ld_nI, sti_nI, stl_nI, rem_nI]
    | succ d ih =>
      intro i n g hi hn hg
      obtain ⟨n, rfl⟩ := succ_of hn
      obtain ⟨g', e, hg'⟩ := ih (i + 1) n (upd g (26 * nx + i) (now i)) (by omega) (by omega) ⟨fun k hk => by
        by_cases q : k = i
        · rw [q, upd_e, if_pos rfl]
        · rw [upd_e, if_neg (by omega)]; exact hg.1 k (by omega), fun k hk => by rw [upd_e, if_neg (by omega)]; exact hg.2 k hk⟩
      refine ⟨g', ?_, hg'⟩
      rw [← e]
      simp -implicitDefEqProofs (disch := omega) only [fx2_s, fM_note_2, litI, litL, nI_add, pk_mul, bd0_e, bd1_e, bd2_e, bd3_e, bd4_e, st_e, nI_leI, nI_ltI, nI_eq, if_pos, if_neg, if_true, if_false, ld_nI, sti_nI, stl_nI]
  obtain ⟨d', e, h⟩ := key 26 0 FU diary (by omega) (fuel (by omega)) ⟨fun k hk => absurd hk (by omega), fun _ _ => rfl⟩
  exact ⟨d', e, h⟩
set_option maxRecDepth 100000 in
theorem hForget (Hl Hr : Nat → Int64) : ∃ Hl' Hr', fH_forgetOldest Hl Hr = some (nI 13, Hl', Hr') ∧ ∀ k, k < 13 → Hl' k = Hl (k + 1) ∧ Hr' k = Hr (k + 1) := by
  have key : ∀ (d i n : Nat) (f g : Nat → Int64), i + 1 + d = 14 → d < n → ((∀ k, k < i → f k = Hl (k + 1) ∧ g k = Hr (k + 1)) ∧ ∀ k, i ≤ k → f k = Hl k ∧ g k = Hr k) →
      ∃ Hl' Hr', fx3 fH_forgetOldest_2 n f g (nI (i + 1)) = some (nI 13, Hl', Hr') ∧ ∀ k, k < 13 → Hl' k = Hl (k + 1) ∧ Hr' k = Hr (k + 1) := by
    intro d
    induction d with
    | zero =>
      intro i n f g hi hn hg
      obtain ⟨n, rfl⟩ := succ_of hn
      refine ⟨f, g, ?_, fun k hk => hg.1 k (by omega)⟩
      simp -implicitDefEqProofs (disch := omega) only [fx3_s, fH_forgetOldest_2, litI, litL, nI_add, pk_mul, bd0_e, bd1_e, bd2_e, bd3_e, bd4_e, st_e, nI_leI, nI_ltI, nI_eq, if_pos, if_neg, if_true, if_false, ld_nI, sti_nI, stl_nI]
    | succ d ih =>
      intro i n f g hi hn hg
      obtain ⟨n, rfl⟩ := succ_of hn
      obtain ⟨Hl', Hr', e, h⟩ := ih (i + 1) n (vp_updL f i (f (i + 1))) (vp_updL g i (g (i + 1))) (by omega) (by omega) ⟨fun k hk => by
        by_cases q : k = i
        · rw [q, updL_e, updL_e, if_pos rfl, if_pos rfl]; exact hg.2 (i + 1) (by omega)
        · rw [updL_e, updL_e, if_neg q, if_neg q]; exact hg.1 k (by omega), fun k hk => by rw [updL_e, updL_e, if_neg (by omega), if_neg (by omega)]; exact hg.2 k (by omega)⟩
      refine ⟨Hl', Hr', ?_, h⟩
      rw [← e]
      simp -implicitDefEqProofs (disch := omega) only [fx3_s, fH_forgetOldest_2, litI, litL, nI_add, pk_mul, bd0_e, bd1_e, bd2_e, bd3_e, bd4_e, st_e, nI_leI, nI_ltI, nI_eq, if_pos, if_neg, if_true, if_false, ld_nI, sti_nI, stl_nI, pk_sub, Nat.add_sub_cancel]
  obtain ⟨Hl', Hr', e, h⟩ := key 13 0 FU Hl Hr (by omega) (fuel (by omega)) ⟨fun k hk => absurd hk (by omega), fun _ _ => ⟨rfl, rfl⟩⟩
  exact ⟨Hl', Hr', e, h⟩
set_option maxRecDepth 100000 in
theorem hRemember {n : Nat} (hn : n ≤ 14) (Hl Hr : Nat → Int64) (El Er : Int64) : ∃ Hl' Hr', fH_remember (nI n) Hl Hr El Er = some (nI (if 14 ≤ n then 14 else n + 1), Hl', Hr') ∧
    (if 14 ≤ n then (Hl' 13 = El ∧ Hr' 13 = Er ∧ ∀ k, k < 13 → Hl' k = Hl (k + 1) ∧ Hr' k = Hr (k + 1)) else (Hl' n = El ∧ Hr' n = Er ∧ ∀ k, k < n → Hl' k = Hl k ∧ Hr' k = Hr k)) := by
  by_cases q : 14 ≤ n
  · obtain ⟨Hl', Hr', e, h⟩ := hForget Hl Hr
    refine ⟨vp_updL Hl' 13 El, vp_updL Hr' 13 Er, ?_, ?_⟩
    · rw [if_pos q]
      simp -implicitDefEqProofs (disch := omega) only [fH_remember, fH_remember_16, fH_remember_20, litI, litL, nI_add, pk_mul, bd0_e, bd1_e, bd2_e, bd3_e, bd4_e, st_e, nI_leI, nI_ltI, nI_eq, if_pos, if_neg, if_true, if_false, ld_nI, sti_nI, stl_nI, e]
    · rw [if_pos q]
      exact ⟨by rw [updL_e, if_pos rfl], by rw [updL_e, if_pos rfl], fun k hk => by rw [updL_e, updL_e, if_neg (by omega), if_neg (by omega)]; exact h k hk⟩
  · refine ⟨vp_updL Hl n El, vp_updL Hr n Er, ?_, ?_⟩
    · rw [if_neg q]
      simp -implicitDefEqProofs (disch := omega) only [fH_remember, fH_remember_16, fH_remember_20, litI, litL, nI_add, pk_mul, bd0_e, bd1_e, bd2_e, bd3_e, bd4_e, st_e, nI_leI, nI_ltI, nI_eq, if_pos, if_neg, if_true, if_false, ld_nI, sti_nI, stl_nI]
    · rw [if_neg q]
      exact ⟨by rw [updL_e, if_pos rfl], by rw [updL_e, if_pos rfl], fun k hk => by rw [updL_e, updL_e, if_neg (by omega), if_neg (by omega)]; exact ⟨rfl, rfl⟩⟩
set_option maxRecDepth 100000 in
/-- an action is noted by both -/
theorem note2 {Hn : Int32} {Hl Hr : Nat → Int64} {acts next : Int32} {diary : Nat → Int32} (h : RH Hn Hl Hr acts next diary) {El Er : Int64} {now : Nat → Int32} {xs ys : List Nat} (hE : RE El Er now xs ys) :
    ∃ Hn' Hl' Hr' acts' next' diary', fH_remember Hn Hl Hr El Er = some (Hn', Hl', Hr') ∧ fM_note acts next now diary = some (acts', next', diary') ∧ RH Hn' Hl' Hr' acts' next' diary' := by
  obtain ⟨hs, nx, hl, hnx, rfl, rfl, rfl, hh⟩ := h
  obtain ⟨d', e1, a1, b1⟩ := mNote hl hnx now diary
  obtain ⟨Hl', Hr', e2, a2⟩ := hRemember hl Hl Hr El Er
  obtain ⟨hx, hy, rfl, rfl, hrow⟩ := hE
  refine ⟨_, Hl', Hr', _, _, d', e2, e1, ?_⟩
  by_cases q : 14 ≤ hs.length
  · rw [if_pos q] at a2
    refine ⟨hs.drop 1 ++ [(xs, ys)], (nx + 1) % 14, by simp; omega, by omega, ?_, ?_, rfl, ?_⟩
    · rw [if_pos q]; congr 1; simp; omega
    · rw [if_pos q]; congr 1; simp; omega
    · intro i e he
      have hlen : (hs.drop 1 ++ [(xs, ys)]).length = 14 := by simp; omega
      rw [hlen]
      rcases Nat.lt_or_ge i 13 with q2 | q2
      · rw [List.getElem?_append_left (by rw [List.length_drop]; omega), List.getElem?_drop] at he
        obtain ⟨c1, c2, c3, c4, c5⟩ := hh (1 + i) e he
        rw [(a2.2.2 i q2).1, (a2.2.2 i q2).2, Nat.add_comm i 1]
        refine ⟨c1, c2, c3, c4, c5.cong (fun k hk => ?_)⟩
        rw [show ((nx + 1) % 14 + 14 - 14 + i) % 14 = (nx + 14 - hs.length + (1 + i)) % 14 by omega]
        exact b1 _ (by omega)
      · have hi : i < (hs.drop 1 ++ [(xs, ys)]).length := (List.getElem?_eq_some_iff.mp he).1
        have hi13 : i = 13 := by omega
        subst hi13
        rw [List.getElem?_append_right (by rw [List.length_drop]; omega), List.length_drop, show 13 - (hs.length - 1) = 0 by omega] at he
        cases he
        refine ⟨hx, hy, a2.1, a2.2.1, hrow.cong (fun k hk => ?_)⟩
        rw [show ((nx + 1) % 14 + 14 - 14 + 13) % 14 = nx by omega]
        exact a1 k hk
  · rw [if_neg q] at a2
    refine ⟨hs ++ [(xs, ys)], (nx + 1) % 14, by simp; omega, by omega, ?_, ?_, rfl, ?_⟩
    · rw [if_neg q]; congr 1; simp
    · rw [if_neg q]; congr 1; simp
    · intro i e he
      have hlen : (hs ++ [(xs, ys)]).length = hs.length + 1 := by simp
      rw [hlen]
      rcases Nat.lt_or_ge i hs.length with q2 | q2
      · rw [List.getElem?_append_left q2] at he
        obtain ⟨c1, c2, c3, c4, c5⟩ := hh i e he
        rw [(a2.2.2 i q2).1, (a2.2.2 i q2).2]
        refine ⟨c1, c2, c3, c4, c5.cong (fun k hk => ?_)⟩
        rw [show ((nx + 1) % 14 + 14 - (hs.length + 1) + i) % 14 = (nx + 14 - hs.length + i) % 14 by omega]
        exact b1 _ (by omega)
      · have hi : i < (hs ++ [(xs, ys)]).length := (List.getElem?_eq_some_iff.mp he).1
        have hi2 : i = hs.length := by omega
        subst hi2
        rw [List.getElem?_append_right (Nat.le_refl _), Nat.sub_self] at he
        cases he
        refine ⟨hx, hy, a2.1, a2.2.1, hrow.cong (fun k hk => ?_)⟩
        rw [show ((nx + 1) % 14 + 14 - (hs.length + 1) + hs.length) % 14 = nx by omega]
        exact a1 k hk
