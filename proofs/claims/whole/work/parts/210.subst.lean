/-! substitute -/
def aS (tx : Nat → Nat) : Nat → Nat → Bool
  | _, 0 => true
  | i, d + 1 => (symb (tx i)).isSome && aS tx (i + 1) d
set_option maxRecDepth 100000 in
theorem aS_0 (tx : Nat → Nat) (i : Nat) : aS tx i 0 = true := by rw [aS]
set_option maxRecDepth 100000 in
theorem aS_y {tx : Nat → Nat} {i : Nat} (h : (symb (tx i)).isSome = true) (d : Nat) : aS tx i (d + 1) = aS tx (i + 1) d := by rw [aS, h, Bool.true_and]
set_option maxRecDepth 100000 in
theorem aS_n {tx : Nat → Nat} {i : Nat} (h : (symb (tx i)).isSome = false) (d : Nat) : aS tx i (d + 1) = false := by rw [aS, h, Bool.false_and]
set_option maxRecDepth 100000 in
theorem aS_all {tx : Nat → Nat} : ∀ {d i : Nat}, aS tx i d = true → ∀ j, i ≤ j → j < i + d → (symb (tx j)).isSome = true := by
  intro d
  induction d with
  | zero => intro i h j h1 h2; omega
  | succ d ih =>
    intro i h j h1 h2
    rw [aS, Bool.and_eq_true] at h
    by_cases q : j = i
    · rw [q]; exact h.1
    · exact ih h.2 j (by omega) (by omega)
set_option maxRecDepth 100000 in
theorem tOnly {Tc : Nat → Int32} {n : Nat} {tx : Nat → Nat} (hn : n ≤ 40) (ht : ∀ j, j < n → tx j < 256 ∧ Tc j = nI (tx j)) : ∀ (d i m : Nat), i + d = n → d < m → fx1 (fT_hasOnlySymbols_2 (nI n) Tc) m (nI i) = some (nI (if aS tx i d = true then 1 else 0)) := by
  intro d
  induction d with
  | zero =>
    intro i m hi hm
    obtain ⟨m, rfl⟩ := succ_of hm
    rw [if_pos (aS_0 tx i)]
    simp -implicitDefEqProofs (disch := omega) only [fx1_s, fT_hasOnlySymbols_2, litI, litL, nI_add, pk_mul, bd0_e, bd1_e, bd2_e, bd3_e, bd4_e, st_e, nI_leI, nI_ltI, nI_eq, if_pos, if_neg, if_true, if_false, ld_nI, sti_nI, stl_nI]
  | succ d ih =>
    intro i m hi hm
    obtain ⟨m, rfl⟩ := succ_of hm
    have a0 : tA tx n i = tx i := if_pos (by omega)
    have hc := (ht i (by omega)).1
    have h7 := syZ_lt (tx i)
    by_cases q : (symb (tx i)).isSome = true
    · have z : ¬ syZ (tx i) = 0 := fun z => by rw [(syZ_0 _).mp z] at q; cases q
      rw [aS_y q, ← ih (i + 1) m (by omega) (by omega)]
      simp -implicitDefEqProofs (disch := omega) only [fx1_s, fT_hasOnlySymbols_2, litI, litL, nI_add, pk_mul, bd0_e, bd1_e, bd2_e, bd3_e, bd4_e, st_e, nI_leI, nI_ltI, nI_eq, if_pos, if_neg, if_true, if_false, ld_nI, sti_nI, stl_nI, tAt hn ht, a0, zSymbolOf _ hc]
    · have z : syZ (tx i) = 0 := (syZ_0 _).mpr (by simpa using q)
      rw [aS_n (by simpa using q), if_neg Bool.false_ne_true]
      simp -implicitDefEqProofs (disch := omega) only [fx1_s, fT_hasOnlySymbols_2, litI, litL, nI_add, pk_mul, bd0_e, bd1_e, bd2_e, bd3_e, bd4_e, st_e, nI_leI, nI_ltI, nI_eq, if_pos, if_neg, if_true, if_false, ld_nI, sti_nI, stl_nI, tAt hn ht, a0, zSymbolOf _ hc, z]
set_option maxRecDepth 100000 in
theorem small_sub : ∀ l, l < 13 → ∀ c, c < 13 → c ≤ l → nI l + nI c * (nI 0 - nI 1) = nI (l - c) := by decide +kernel
set_option maxRecDepth 100000 in
theorem sizeAfter_eq {l c n q : Nat} (hl : l ≤ 12) (hc : c ≤ l) (h : q + c = l + c * n) : nI l + nI c * (nI n - nI 1) = nI q := by
  cases n with
  | zero => rw [small_sub l (by omega) c (by omega) hc, show l - c = q by omega]
  | succ n =>
    rw [pk_sub (by omega), Nat.add_sub_cancel, pk_mul, nI_add, show l + c * n = q by rw [Nat.mul_add, Nat.mul_one] at h; omega]
set_option maxRecDepth 100000 in
theorem zSizeAfter {xs rs : List Nat} (hx : okS 12 xs) {v n : Nat} (hv : v < 6) (hr : rs.length = n) : fZ_sizeAfter (lN (pq xs)) (nI (v + 1)) (nI n) = some (nI (rpl v rs xs).length) := by
  have h := rpl_length v rs xs
  rw [hr] at h
  have e := sizeAfter_eq hx.1 (List.count_le_length (a := v) (l := xs)) h
  simp -implicitDefEqProofs (disch := omega) only [fZ_sizeAfter, litI, litL, nI_add, pk_mul, bd0_e, bd1_e, bd2_e, bd3_e, bd4_e, st_e, zSize (ok13 hx), zCountOf (ok13 hx) hv, e]
set_option maxRecDepth 100000 in
theorem rpl_none {v : Nat} {xs : List Nat} (h : xs.count v = 0) (rs : List Nat) : rpl v rs xs = xs := by
  unfold rpl
  induction xs with
  | nil => rfl
  | cons x xs ih =>
    rw [List.count_cons] at h
    by_cases q : x = v
    · simp [q] at h
    · rw [List.flatMap_cons, if_neg q, ih (by simp [q] at h; exact h)]
      rfl
set_option maxRecDepth 100000 in
theorem eLongest {xs ys rs : List Nat} (hx : okS 12 xs) (hy : okS 12 ys) {v n : Nat} (hv : v < 6) (hr : rs.length = n) (hn : n ≤ 40) : fE_longestAfter (lN (pq xs)) (lN (pq ys)) (nI (v + 1)) (nI n) = some (nI (max (rpl v rs xs).length (rpl v rs ys).length)) := by
  have h1 := rpl_length v rs xs
  have h2 := rpl_length v rs ys
  have c1 := List.count_le_length (a := v) (l := xs)
  have c2 := List.count_le_length (a := v) (l := ys)
  have l1 := hx.1
  have l2 := hy.1
  have m1 : xs.count v * rs.length ≤ 12 * 40 := Nat.mul_le_mul (by omega) (by omega)
  have m2 : ys.count v * rs.length ≤ 12 * 40 := Nat.mul_le_mul (by omega) (by omega)
  simp -implicitDefEqProofs (disch := omega) only [fE_longestAfter, litI, litL, nI_add, pk_mul, bd0_e, bd1_e, bd2_e, bd3_e, bd4_e, st_e, zSizeAfter hx hv hr, zSizeAfter hy hv hr]
  by_cases q : (rpl v rs xs).length < (rpl v rs ys).length
  · rw [if_pos ((nI_ltI (by omega) (by omega)).mpr q), Nat.max_eq_right (by omega)]
  · rw [if_neg (fun z => q ((nI_ltI (by omega) (by omega)).mp z)), Nat.max_eq_left (by omega)]
section SB
variable {Mt : Nat → Int32} {n : Nat} {tx : Nat → Nat}
set_option maxRecDepth 100000 in
theorem sPush (hn : n ≤ 40) (ht : ∀ j, j < n → tx j < 256 ∧ Mt j = nI (tx j)) (hs : ∀ j, j < n → (symb (tx j)).isSome = true) {k67 : (Nat → Int32) → Int32 → Int32 → Option (Int32 × Int32 × Int32 × (Nat → Int32) × (Nat → Int32) × (Nat → Int32))} {k117 : (Nat → Int32) → Int32 → Option (Int32 × Int32 × Int32 × (Nat → Int32) × (Nat → Int32) × (Nat → Int32))} {acts next v1 v2 v6 : Int32} {now diary : Nat → Int32} {s i : Nat} (hs2 : s < 2) {A B acc : List Nat} (hacc : acc.length + n ≤ 12) :
    ∀ (d j m : Nat) (trial : Nat → Int32), j + d = n → d < m → rowIs trial (if s = 0 then acc ++ syms tx 0 j else A) (if s = 0 then B else acc ++ syms tx 0 j) →
      ∃ trial', fx2 (fM_substitute_159 k67 k117 (nI n) acts next Mt now diary v1 v2 (nI s) (nI i) v6 (nI 1)) m trial (nI j) = k117 trial' (nI (i + 1)) ∧ rowIs trial' (if s = 0 then acc ++ syms tx 0 n else A) (if s = 0 then B else acc ++ syms tx 0 n) := by
  intro d
  induction d with
  | zero =>
    intro j m trial hj hm hr
    obtain ⟨m, rfl⟩ := succ_of hm
    have : j = n := by omega
    subst this
    refine ⟨trial, ?_, hr⟩
    simp -implicitDefEqProofs (disch := omega) only [fx2_s, fM_substitute_159, fM_substitute_174, litI, litL, nI_add, pk_mul, bd0_e, bd1_e, bd2_e, bd3_e, bd4_e, st_e, nI_leI, nI_ltI, nI_eq, if_pos, if_neg, if_true, if_false, ld_nI, sti_nI, stl_nI]
  | succ d ih =>
    intro j m trial hj hm hr
    obtain ⟨m, rfl⟩ := succ_of hm
    obtain ⟨hc, hm2⟩ := ht j (by omega)
    obtain ⟨y, hy⟩ := Option.isSome_iff_exists.mp (hs j (by omega))
    have es : fM_symbolOf (nI (tx j)) = some (nI y) := by rw [mSymbolOf _ hc]; unfold syM; rw [hy]
    have hsd : sd s (if s = 0 then acc ++ syms tx 0 j else A) (if s = 0 then B else acc ++ syms tx 0 j) = acc ++ syms tx 0 j := by unfold sd; split <;> rfl
    have hlen : (acc ++ syms tx 0 j).length = acc.length + j := by rw [List.length_append, syms_len]
    have hrp := (hr s hs2).1
    rw [hsd, hlen] at hrp
    have hpush := rowIs_push (s := y) hr hs2 (by rw [hsd, hlen]) (show acc.length + j < 12 by omega)
    rw [hsd] at hpush
    have e1 : acc ++ syms tx 0 j ++ [y] = acc ++ syms tx 0 (j + 1) := by rw [syms_s, Nat.zero_add, hy, List.append_assoc]; rfl
    rw [e1] at hpush
    obtain ⟨trial', e, hr'⟩ := ih (j + 1) m (upd (upd trial (2 + 12 * s + (acc.length + j)) (nI y)) s (nI (acc.length + j + 1))) (by omega) (by omega) (by
      rcases (show s = 0 ∨ s = 1 by omega) with rfl | rfl
      · exact hpush
      · exact hpush)
    refine ⟨trial', ?_, hr'⟩
    rw [← e]
    have eu : upd trial (2 + 12 * s + (acc.length + j)) (nI y) s = nI (acc.length + j) := by rw [upd_e, if_neg (by omega)]; exact hrp
    simp -implicitDefEqProofs (disch := omega) only [fx2_s, fM_substitute_159, fM_substitute_174, fM_substitute_211, litI, litL, nI_add, pk_mul, bd0_e, bd1_e, bd2_e, bd3_e, bd4_e, st_e, nI_leI, nI_ltI, nI_eq, if_pos, if_neg, if_true, if_false, ld_nI, sti_nI, stl_nI, hrp, mAt, hm2, es, eu]
set_option maxRecDepth 100000 in
theorem sPush1 {k67 : (Nat → Int32) → Int32 → Int32 → Option (Int32 × Int32 × Int32 × (Nat → Int32) × (Nat → Int32) × (Nat → Int32))} {k117 : (Nat → Int32) → Int32 → Option (Int32 × Int32 × Int32 × (Nat → Int32) × (Nat → Int32) × (Nat → Int32))} {acts next v1 v2 len : Int32} {now diary : Nat → Int32} {s i x : Nat} (hs2 : s < 2) {A B acc : List Nat} (hacc : acc.length < 12) {trial : Nat → Int32} (hr : rowIs trial (if s = 0 then acc else A) (if s = 0 then B else acc)) {m0 : Nat} (hm0 : 1 < m0) :
      ∃ trial', fx2 (fM_substitute_159 k67 k117 len acts next Mt now diary v1 v2 (nI s) (nI i) (nI x) (nI 0)) m0 trial (nI 0) = k117 trial' (nI (i + 1)) ∧ rowIs trial' (if s = 0 then acc ++ [x] else A) (if s = 0 then B else acc ++ [x]) := by
  obtain ⟨m, rfl⟩ := succ_of hm0
  obtain ⟨m, rfl⟩ := succ_of (show 0 < m by omega)
  have hsd : sd s (if s = 0 then acc else A) (if s = 0 then B else acc) = acc := by unfold sd; split <;> rfl
  have hrp := (hr s hs2).1
  rw [hsd] at hrp
  have hpush := rowIs_push (s := x) hr hs2 (by rw [hsd]) hacc
  rw [hsd] at hpush
  have eu : upd trial (2 + 12 * s + acc.length) (nI x) s = nI acc.length := by rw [upd_e, if_neg (by omega)]; exact hrp
  refine ⟨upd (upd trial (2 + 12 * s + acc.length) (nI x)) s (nI (acc.length + 1)), ?_, ?_⟩
  · have second : ∀ t, fx2 (fM_substitute_159 k67 k117 len acts next Mt now diary v1 v2 (nI s) (nI i) (nI x) (nI 0)) (m + 1) t (nI (0 + 1)) = k117 t (nI (i + 1)) := fun t => by
      simp -implicitDefEqProofs (disch := omega) only [fx2_s, fM_substitute_159, fM_substitute_174, litI, litL, nI_add, pk_mul, bd0_e, bd1_e, bd2_e, bd3_e, bd4_e, st_e, nI_leI, nI_ltI, nI_eq, if_pos, if_neg, if_true, if_false, ld_nI, sti_nI, stl_nI]
    rw [← second]
    generalize m + 1 = m
    simp -implicitDefEqProofs (disch := omega) only [fx2_s, fM_substitute_159, fM_substitute_174, fM_substitute_211, litI, litL, nI_add, pk_mul, bd0_e, bd1_e, bd2_e, bd3_e, bd4_e, st_e, nI_leI, nI_ltI, nI_eq, if_pos, if_neg, if_true, if_false, ld_nI, sti_nI, stl_nI, hrp, mAt, eu]
  · rcases (show s = 0 ∨ s = 1 by omega) with rfl | rfl
    · exact hpush
    · exact hpush
set_option maxRecDepth 100000 in
theorem rpl_take {v : Nat} {rs xs : List Nat} {i : Nat} (hi : i < xs.length) : rpl v rs (xs.take (i + 1)) = rpl v rs (xs.take i) ++ (if xs[i] = v then rs else [xs[i]]) := by
  rw [List.take_succ_eq_append_getElem hi]
  unfold rpl
  rw [List.flatMap_append, List.flatMap_singleton]
set_option maxRecDepth 100000 in
theorem sSide (hn : n ≤ 40) (ht : ∀ j, j < n → tx j < 256 ∧ Mt j = nI (tx j)) (hs : ∀ j, j < n → (symb (tx j)).isSome = true) {k67 : (Nat → Int32) → Int32 → Int32 → Option (Int32 × Int32 × Int32 × (Nat → Int32) × (Nat → Int32) × (Nat → Int32))} {acts next v2 : Int32} {now diary : Nat → Int32} {s v : Nat} (hs2 : s < 2) (hv : v < 4) {zs A B : List Nat} (hz : okS 12 zs) (h1 : now s = nI zs.length) (h2 : ∀ i, i < 12 → now (2 + 12 * s + i) = nI (zs.getD i 0)) (hlen : (rpl (v + 2) (syms tx 0 n) zs).length ≤ 12) :
    ∀ (d i m : Nat) (trial : Nat → Int32), i + d = zs.length → d < m → rowIs trial (if s = 0 then rpl (v + 2) (syms tx 0 n) (zs.take i) else A) (if s = 0 then B else rpl (v + 2) (syms tx 0 n) (zs.take i)) →
      ∃ trial', fx2 (fM_substitute_117 k67 (nI n) acts next Mt now diary (nI v) v2 (nI s)) m trial (nI i) = k67 trial' v2 (nI (s + 1)) ∧ rowIs trial' (if s = 0 then rpl (v + 2) (syms tx 0 n) zs else A) (if s = 0 then B else rpl (v + 2) (syms tx 0 n) zs) := by
  have hl := hz.1
  intro d
  induction d with
  | zero =>
    intro i m trial hi hm hr
    obtain ⟨m, rfl⟩ := succ_of hm
    rw [List.take_of_length_le (by omega)] at hr
    refine ⟨trial, ?_, hr⟩
    simp -implicitDefEqProofs (disch := omega) only [fx2_s, fM_substitute_117, litI, litL, nI_add, pk_mul, bd0_e, bd1_e, bd2_e, bd3_e, bd4_e, st_e, nI_leI, nI_ltI, nI_eq, if_pos, if_neg, if_true, if_false, ld_nI, sti_nI, stl_nI, h1]
  | succ d ih =>
    intro i m trial hi hm hr
    obtain ⟨m, rfl⟩ := succ_of hm
    have hi2 : i < zs.length := by omega
    have hx := hz.2 _ (List.getElem_mem hi2)
    have e0 := h2 i (by omega)
    rw [getD_in hi2] at e0
    have hle := rpl_take_le (v := v + 2) (rs := syms tx 0 n) (xs := zs) (i + 1)
    have ht1 := rpl_take (v := v + 2) (rs := syms tx 0 n) hi2
    by_cases q : zs[i] = v + 2
    · rw [if_pos q] at ht1
      have hle2 : (rpl (v + 2) (syms tx 0 n) (zs.take i)).length + n ≤ 12 := by
        rw [ht1, List.length_append, syms_len] at hle
        omega
      obtain ⟨t1, e1, r1⟩ := sPush (v6 := nI zs[i]) (k67 := k67) (k117 := fx2 (fM_substitute_117 k67 (nI n) acts next Mt now diary (nI v) v2 (nI s)) m) (acts := acts) (next := next) (v1 := nI v) (v2 := v2) (now := now) (diary := diary) (i := i) hn ht hs hs2 (A := A) (B := B) hle2 n 0 FU trial (by omega) (fuel (by omega)) (by rw [syms_0, List.append_nil]; exact hr)
      rw [← ht1] at r1
      obtain ⟨t2, e2, r2⟩ := ih (i + 1) m t1 (by omega) (by omega) r1
      refine ⟨t2, ?_, r2⟩
      rw [← e2, ← e1]
      simp -implicitDefEqProofs (disch := omega) only [fx2_s, fM_substitute_117, litI, litL, nI_add, pk_mul, bd0_e, bd1_e, bd2_e, bd3_e, bd4_e, st_e, nI_leI, nI_ltI, nI_eq, if_pos, if_neg, if_true, if_false, ld_nI, sti_nI, stl_nI, h1, mAt, e0]
    · rw [if_neg q] at ht1
      have hle2 : (rpl (v + 2) (syms tx 0 n) (zs.take i)).length < 12 := by
        rw [ht1, List.length_append, List.length_singleton] at hle
        omega
      obtain ⟨t1, e1, r1⟩ := sPush1 (Mt := Mt) (len := nI n) (k67 := k67) (k117 := fx2 (fM_substitute_117 k67 (nI n) acts next Mt now diary (nI v) v2 (nI s)) m) (acts := acts) (next := next) (v1 := nI v) (v2 := v2) (now := now) (diary := diary) (i := i) (x := zs[i]) hs2 (A := A) (B := B) hle2 hr (m0 := FU) (fuel (by omega))
      rw [← ht1] at r1
      obtain ⟨t2, e2, r2⟩ := ih (i + 1) m t1 (by omega) (by omega) r1
      refine ⟨t2, ?_, r2⟩
      rw [← e2, ← e1]
      simp -implicitDefEqProofs (disch := omega) only [fx2_s, fM_substitute_117, litI, litL, nI_add, pk_mul, bd0_e, bd1_e, bd2_e, bd3_e, bd4_e, st_e, nI_leI, nI_ltI, nI_eq, if_pos, if_neg, if_true, if_false, ld_nI, sti_nI, stl_nI, h1, mAt, e0]
end SB
set_option maxRecDepth 100000 in
theorem mOnly {Mt : Nat → Int32} {n : Nat} {tx : Nat → Nat} (hn : n ≤ 40) (ht : ∀ j, j < n → tx j < 256 ∧ Mt j = nI (tx j)) {acts next v1 : Int32} {now trial diary : Nat → Int32} : ∀ (d i m : Nat), i + d = n → d < m → fx1 (fM_substitute_11 (nI n) acts next Mt now trial diary v1) m (nI i) = if aS tx i d = true then fx2 (fM_substitute_46 (nI n) acts next Mt now diary v1 (nI 0)) FU trial (nI 0) else some (-nI 3, acts, next, now, trial, diary) := by
  intro d
  induction d with
  | zero =>
    intro i m hi hm
    obtain ⟨m, rfl⟩ := succ_of hm
    rw [if_pos (aS_0 tx i)]
    simp -implicitDefEqProofs (disch := omega) only [fx1_s, fM_substitute_11, litI, litL, nI_add, pk_mul, bd0_e, bd1_e, bd2_e, bd3_e, bd4_e, st_e, nI_leI, nI_ltI, nI_eq, if_pos, if_neg, if_true, if_false, ld_nI, sti_nI, stl_nI]
  | succ d ih =>
    intro i m hi hm
    obtain ⟨m, rfl⟩ := succ_of hm
    obtain ⟨hc, hm2⟩ := ht i (by omega)
    have es := mSymbolOf _ hc
    by_cases q : (symb (tx i)).isSome = true
    · have z : ¬ syM (tx i) = -nI 9 := fun z => by rw [(syM_9 _).mp z] at q; cases q
      rw [aS_y q, ← ih (i + 1) m (by omega) (by omega)]
      simp -implicitDefEqProofs (disch := omega) only [fx1_s, fM_substitute_11, litI, litL, nI_add, pk_mul, bd0_e, bd1_e, bd2_e, bd3_e, bd4_e, st_e, nI_leI, nI_ltI, nI_eq, if_pos, if_neg, if_true, if_false, ld_nI, sti_nI, stl_nI, hm2, es, z]
    · have z : syM (tx i) = -nI 9 := (syM_9 _).mpr (by simpa using q)
      rw [aS_n (by simpa using q), if_neg Bool.false_ne_true]
      simp -implicitDefEqProofs (disch := omega) only [fx1_s, fM_substitute_11, litI, litL, nI_add, pk_mul, bd0_e, bd1_e, bd2_e, bd3_e, bd4_e, st_e, nI_leI, nI_ltI, nI_eq, if_pos, if_neg, if_true, if_false, ld_nI, sti_nI, stl_nI, hm2, es, z]
set_option maxRecDepth 100000 in
theorem mZero46 {Mt : Nat → Int32} {n : Nat} {acts next v1 : Int32} {now diary : Nat → Int32} (trial : Nat → Int32) : ∃ g, fx2 (fM_substitute_46 (nI n) acts next Mt now diary v1 (nI 0)) FU trial (nI 0) = fx3 (fM_substitute_67 (nI n) acts next Mt now diary v1) FU g (nI 0) (nI 0) ∧ rowIs g [] [] := by
  have key : ∀ (d i m : Nat) (g : Nat → Int32), i + d = 26 → d < m → (∀ k, k < i → g k = nI 0) → ∃ g', fx2 (fM_substitute_46 (nI n) acts next Mt now diary v1 (nI 0)) m g (nI i) = fx3 (fM_substitute_67 (nI n) acts next Mt now diary v1) FU g' (nI 0) (nI 0) ∧ ∀ k, k < 26 → g' k = nI 0 := by
    intro d
    induction d with
    | zero =>
      intro i m g hi hm hg
      obtain ⟨m, rfl⟩ := succ_of hm
      refine ⟨g, ?_, fun k hk => hg k (by omega)⟩
      simp -implicitDefEqProofs (disch := omega) only [fx2_s, fM_substitute_46, litI, litL, nI_add, pk_mul, bd0_e, bd1_e, bd2_e, bd3_e, bd4_e, st_e, nI_leI, nI_ltI, nI_eq, if_pos, if_neg, if_true, if_false, ld_nI, sti_nI, stl_nI]
    | succ d ih =>
      intro i m g hi hm hg
      obtain ⟨m, rfl⟩ := succ_of hm
      obtain ⟨g', e, hg'⟩ := ih (i + 1) m (upd g i (nI 0)) (by omega) (by omega) (fun k hk => by
        by_cases q : k = i
        · rw [q, upd_e, if_pos rfl]
        · rw [upd_e, if_neg q]; exact hg k (by omega))
      refine ⟨g', ?_, hg'⟩
      rw [← e]
      simp -implicitDefEqProofs (disch := omega) only [fx2_s, fM_substitute_46, litI, litL, nI_add, pk_mul, bd0_e, bd1_e, bd2_e, bd3_e, bd4_e, st_e, nI_leI, nI_ltI, nI_eq, if_pos, if_neg, if_true, if_false, ld_nI, sti_nI, stl_nI]
  obtain ⟨g, e, hg⟩ := key 26 0 FU trial (by omega) (fuel (by omega)) (fun k hk => absurd hk (by omega))
  exact ⟨g, e, rowIs_of (hg 0 (by decide)) (hg 1 (by decide)) (fun i hi => hg _ (by omega)) (fun i hi => hg _ (by omega))⟩
set_option maxRecDepth 100000 in
theorem pSubstitute {Tn : Int32} {Tc : Nat → Int32} {Mn : Int32} {Mt : Nat → Int32} {n : Nat} {tx : Nat → Nat} (hT : RT Tn Tc Mn Mt n tx) {El Er : Int64} {now : Nat → Int32} {xs ys : List Nat} (h : RE El Er now xs ys) {Hn : Int32} {Hl Hr : Nat → Int64} {acts next : Int32} {diary : Nat → Int32} (hH : RH Hn Hl Hr acts next diary) (trial : Nat → Int32) (x1 : Int32) :
    ∃ r El' Er' Hn' Hl' Hr' acts' next' now' trial' diary', fX_substitute Tn Tc El Er Hn Hl Hr x1 = some (r, El', Er', Hn', Hl', Hr') ∧ fM_substitute Mn acts next Mt now trial diary x1 = some (r, acts', next', now', trial', diary') ∧ (∃ xs ys, RE El' Er' now' xs ys) ∧ RH Hn' Hl' Hr' acts' next' diary' := by
  obtain ⟨hn, rfl, rfl, ht⟩ := hT
  have htT : ∀ j, j < n → tx j < 256 ∧ Tc j = nI (tx j) := fun j hj => ⟨(ht j hj).1, (ht j hj).2.1⟩
  have htM : ∀ j, j < n → tx j < 256 ∧ Mt j = nI (tx j) := fun j hj => ⟨(ht j hj).1, (ht j hj).2.2⟩
  have no : (x1 < 0 ∨ nI 4 ≤ x1) → ∃ r El' Er' Hn' Hl' Hr' acts' next' now' trial' diary', fX_substitute (nI n) Tc El Er Hn Hl Hr x1 = some (r, El', Er', Hn', Hl', Hr') ∧ fM_substitute (nI n) acts next Mt now trial diary x1 = some (r, acts', next', now', trial', diary') ∧ (∃ xs ys, RE El' Er' now' xs ys) ∧ RH Hn' Hl' Hr' acts' next' diary' := fun c => by
    obtain ⟨a, b⟩ := xIsVarNo c
    refine ⟨-1, El, Er, Hn, Hl, Hr, acts, next, now, trial, diary, ?_, ?_, ⟨xs, ys, h⟩, hH⟩
    · simp -implicitDefEqProofs (disch := omega) only [fX_substitute, litI, litL, nI_add, pk_mul, bd0_e, bd1_e, bd2_e, bd3_e, bd4_e, st_e, nI_leI, nI_ltI, nI_eq, if_pos, if_neg, if_true, if_false, ld_nI, sti_nI, stl_nI, a] <;> rfl
    · simp -implicitDefEqProofs (disch := omega) only [fM_substitute, litI, litL, nI_add, pk_mul, bd0_e, bd1_e, bd2_e, bd3_e, bd4_e, st_e, nI_leI, nI_ltI, nI_eq, if_pos, if_neg, if_true, if_false, ld_nI, sti_nI, stl_nI, b] <;> rfl
  rcases pk_ix x1 (n := 4) (by decide) with c | c | ⟨v, hv, rfl⟩
  · exact no (Or.inl c)
  · exact no (Or.inr c)
  obtain ⟨a, b⟩ := xIsVarYes hv
  have o1 : fT_hasOnlySymbols (nI n) Tc = some (nI (if aS tx 0 n = true then 1 else 0)) := tOnly hn htT n 0 FU (by omega) (fuel (by omega))
  have o2 := mOnly (acts := acts) (next := next) (v1 := nI v) (now := now) (trial := trial) (diary := diary) hn htM n 0 FU (by omega) (fuel (by omega))
  by_cases q : aS tx 0 n = true
  · rw [if_pos q] at o1 o2
    have hs : ∀ j, j < n → (symb (tx j)).isSome = true := fun j hj => aS_all q j (Nat.zero_le _) (by omega)
    obtain ⟨g0, z0, rz⟩ := mZero46 (Mt := Mt) (n := n) (acts := acts) (next := next) (v1 := nI v) (now := now) (diary := diary) trial
    rw [z0] at o2
    obtain ⟨Hn', Hl', Hr', acts', next', diary', e1, e2, hH'⟩ := note2 hH h
    obtain ⟨hx, hy, rfl, rfl, hr⟩ := h
    have hlx := hx.1
    have hly := hy.1
    have hlong := eLongest (rs := syms tx 0 n) hx hy (v := v + 2) (by omega) (syms_len tx 0 n) hn
    have r1 := rpl_length (v + 2) (syms tx 0 n) xs
    have r2 := rpl_length (v + 2) (syms tx 0 n) ys
    rw [syms_len] at r1 r2
    have c1 := List.count_le_length (a := v + 2) (l := xs)
    have c2 := List.count_le_length (a := v + 2) (l := ys)
    have m1 : xs.count (v + 2) * n ≤ 12 * 40 := Nat.mul_le_mul (by omega) (by omega)
    have m2 : ys.count (v + 2) * n ≤ 12 * 40 := Nat.mul_le_mul (by omega) (by omega)
    have s1 := sizeAfter_eq hx.1 c1 r1
    have s2 := sizeAfter_eq hy.1 c2 r2
    have k1 := mCountOf hr (s := 0) (by decide) hx (c := v + 2) (by omega)
    have k2 := mCountOf hr (s := 1) (by decide) hy (c := v + 2) (by omega)
    rw [sd_0] at k1
    rw [sd_1] at k2
    by_cases L1 : (rpl (v + 2) (syms tx 0 n) xs).length ≤ 12
    · obtain ⟨t1, f1, w1⟩ := sSide (k67 := fx3 (fM_substitute_67 (nI n) acts next Mt now diary (nI v)) 999999) (acts := acts) (next := next) (v2 := nI (0 + xs.count (v + 2))) (diary := diary) (s := 0) (A := []) (B := []) hn htM hs (by decide) hv hx hr.l0 (hr 0 (by decide)).2 L1 xs.length 0 FU g0 (by omega) (fuel (by omega)) (by rw [if_pos rfl, if_pos rfl, List.take_zero]; exact rz)
      rw [if_pos rfl, if_pos rfl] at w1
      have E1 : fx3 (fM_substitute_67 (nI n) acts next Mt now diary (nI v)) FU g0 (nI 0) (nI 0) = fx3 (fM_substitute_67 (nI n) acts next Mt now diary (nI v)) 999999 t1 (nI (0 + xs.count (v + 2))) (nI (0 + 1)) := by
        rw [show FU = 999999 + 1 from rfl, ← f1]
        simp -implicitDefEqProofs (disch := omega) only [fx3_s, fM_substitute_67, litI, litL, nI_add, pk_mul, bd0_e, bd1_e, bd2_e, bd3_e, bd4_e, st_e, nI_leI, nI_ltI, nI_eq, if_pos, if_neg, if_true, if_false, ld_nI, sti_nI, stl_nI, k1, hr.l0, s1]
      by_cases L2 : (rpl (v + 2) (syms tx 0 n) ys).length ≤ 12
      · obtain ⟨t2, f2, w2⟩ := sSide (k67 := fx3 (fM_substitute_67 (nI n) acts next Mt now diary (nI v)) 999998) (acts := acts) (next := next) (v2 := nI (0 + xs.count (v + 2) + ys.count (v + 2))) (diary := diary) (s := 1) (A := rpl (v + 2) (syms tx 0 n) xs) (B := []) hn htM hs (by decide) hv hy hr.l1 (hr 1 (by decide)).2 L2 ys.length 0 FU t1 (by omega) (fuel (by omega)) (by rw [if_neg (by decide), if_neg (by decide), List.take_zero]; exact w1)
        rw [if_neg (by decide), if_neg (by decide)] at w2
        obtain ⟨now', e5, hnow⟩ := mCopy t2 now
        have E2 : fx3 (fM_substitute_67 (nI n) acts next Mt now diary (nI v)) 999999 t1 (nI (0 + xs.count (v + 2))) (nI (0 + 1)) = some (nI (0 + xs.count (v + 2) + ys.count (v + 2)), acts', next', now', t2, diary') := by
          have E3 : fx3 (fM_substitute_67 (nI n) acts next Mt now diary (nI v)) 999998 t2 (nI (0 + xs.count (v + 2) + ys.count (v + 2))) (nI (1 + 1)) = some (nI (0 + xs.count (v + 2) + ys.count (v + 2)), acts', next', now', t2, diary') := by
            rw [show (999998 : Nat) = 999997 + 1 from rfl]
            simp -implicitDefEqProofs (disch := omega) only [fx3_s, fM_substitute_67, litI, litL, nI_add, pk_mul, bd0_e, bd1_e, bd2_e, bd3_e, bd4_e, st_e, nI_leI, nI_ltI, nI_eq, if_pos, if_neg, if_true, if_false, ld_nI, sti_nI, stl_nI, e2, e5]
          rw [← E3, ← f2, show (999999 : Nat) = 999998 + 1 from rfl, Nat.zero_add]
          simp -implicitDefEqProofs (disch := omega) only [fx3_s, fM_substitute_67, litI, litL, nI_add, pk_mul, bd0_e, bd1_e, bd2_e, bd3_e, bd4_e, st_e, nI_leI, nI_ltI, nI_eq, if_pos, if_neg, if_true, if_false, ld_nI, sti_nI, stl_nI, k2, hr.l1, s2]
        have hrepl : fE_replace (lN (pq xs)) (lN (pq ys)) (nI (v + 2 + 1)) (lN (pq (syms tx 0 (min n 12)))) = some (nI (xs.count (v + 2) + ys.count (v + 2)), lN (pq (rpl (v + 2) (syms tx 0 n) xs)), lN (pq (rpl (v + 2) (syms tx 0 n) ys))) := by
          by_cases N : n ≤ 12
          · rw [Nat.min_eq_left N]
            exact eReplace hx hy ⟨by rw [syms_len]; exact N, syms_ok _ _ _⟩ (by omega) (by omega) (by omega)
          · have cx : xs.count (v + 2) = 0 := by
              rcases Nat.eq_zero_or_pos (xs.count (v + 2)) with z | z
              · exact z
              · have : n ≤ xs.count (v + 2) * n := Nat.le_mul_of_pos_left n z
                omega
            have cy : ys.count (v + 2) = 0 := by
              rcases Nat.eq_zero_or_pos (ys.count (v + 2)) with z | z
              · exact z
              · have : n ≤ ys.count (v + 2) * n := Nat.le_mul_of_pos_left n z
                omega
            have := eReplace hx hy (rs := syms tx 0 (min n 12)) ⟨by rw [syms_len]; omega, syms_ok _ _ _⟩ (v := v + 2) (by omega) (by rw [rpl_none cx]; omega) (by rw [rpl_none cy]; omega)
            rw [this, rpl_none cx, rpl_none cy, rpl_none cx, rpl_none cy]
        have hpk := tPacked hn htT (f := 0) (k := n) (by decide) hn (fun j hj => by
          show (symb (tA tx n (0 + j))).isSome = true
          rw [Nat.zero_add, show tA tx n j = tx j from if_pos hj]
          exact hs j hj)
        rw [Nat.zero_add] at hpk
        refine ⟨nI (xs.count (v + 2) + ys.count (v + 2)), lN (pq (rpl (v + 2) (syms tx 0 n) xs)), lN (pq (rpl (v + 2) (syms tx 0 n) ys)), Hn', Hl', Hr', acts', next', now', t2, diary', ?_, ?_, ⟨_, _, ⟨L1, rpl_mem (syms_ok _ _ _) hx.2⟩, ⟨L2, rpl_mem (syms_ok _ _ _) hy.2⟩, rfl, rfl, w2.cong hnow⟩, hH'⟩
        · simp -implicitDefEqProofs (disch := omega) only [fX_substitute, fT_size, litI, litL, nI_add, pk_mul, bd0_e, bd1_e, bd2_e, bd3_e, bd4_e, st_e, nI_leI, nI_ltI, nI_eq, if_pos, if_neg, if_true, if_false, ld_nI, sti_nI, stl_nI, a, o1, zVar, hlong, e1, hpk, hrepl]
        · rw [E1, E2, Nat.zero_add] at o2
          simp -implicitDefEqProofs (disch := omega) only [fM_substitute, litI, litL, nI_add, pk_mul, bd0_e, bd1_e, bd2_e, bd3_e, bd4_e, st_e, nI_leI, nI_ltI, nI_eq, if_pos, if_neg, if_true, if_false, ld_nI, sti_nI, stl_nI, b, o2]
      · have E2 : fx3 (fM_substitute_67 (nI n) acts next Mt now diary (nI v)) 999999 t1 (nI (0 + xs.count (v + 2))) (nI (0 + 1)) = some (-nI 4, acts, next, now, t1, diary) := by
          rw [show (999999 : Nat) = 999998 + 1 from rfl, Nat.zero_add]
          simp -implicitDefEqProofs (disch := omega) only [fx3_s, fM_substitute_67, litI, litL, nI_add, pk_mul, bd0_e, bd1_e, bd2_e, bd3_e, bd4_e, st_e, nI_leI, nI_ltI, nI_eq, if_pos, if_neg, if_true, if_false, ld_nI, sti_nI, stl_nI, k2, hr.l1, s2]
        refine ⟨-4, lN (pq xs), lN (pq ys), Hn, Hl, Hr, acts, next, now, t1, diary, ?_, ?_, ⟨xs, ys, hx, hy, rfl, rfl, hr⟩, hH⟩
        · simp -implicitDefEqProofs (disch := omega) only [fX_substitute, fT_size, litI, litL, nI_add, pk_mul, bd0_e, bd1_e, bd2_e, bd3_e, bd4_e, st_e, nI_leI, nI_ltI, nI_eq, if_pos, if_neg, if_true, if_false, ld_nI, sti_nI, stl_nI, a, o1, zVar, hlong] <;> rfl
        · rw [E1, E2] at o2
          simp -implicitDefEqProofs (disch := omega) only [fM_substitute, litI, litL, nI_add, pk_mul, bd0_e, bd1_e, bd2_e, bd3_e, bd4_e, st_e, nI_leI, nI_ltI, nI_eq, if_pos, if_neg, if_true, if_false, ld_nI, sti_nI, stl_nI, b, o2] <;> rfl
    · have E1 : fx3 (fM_substitute_67 (nI n) acts next Mt now diary (nI v)) FU g0 (nI 0) (nI 0) = some (-nI 4, acts, next, now, g0, diary) := by
        rw [show FU = 999999 + 1 from rfl]
        simp -implicitDefEqProofs (disch := omega) only [fx3_s, fM_substitute_67, litI, litL, nI_add, pk_mul, bd0_e, bd1_e, bd2_e, bd3_e, bd4_e, st_e, nI_leI, nI_ltI, nI_eq, if_pos, if_neg, if_true, if_false, ld_nI, sti_nI, stl_nI, k1, hr.l0, s1]
      refine ⟨-4, lN (pq xs), lN (pq ys), Hn, Hl, Hr, acts, next, now, g0, diary, ?_, ?_, ⟨xs, ys, hx, hy, rfl, rfl, hr⟩, hH⟩
      · simp -implicitDefEqProofs (disch := omega) only [fX_substitute, fT_size, litI, litL, nI_add, pk_mul, bd0_e, bd1_e, bd2_e, bd3_e, bd4_e, st_e, nI_leI, nI_ltI, nI_eq, if_pos, if_neg, if_true, if_false, ld_nI, sti_nI, stl_nI, a, o1, zVar, hlong] <;> rfl
      · rw [E1] at o2
        simp -implicitDefEqProofs (disch := omega) only [fM_substitute, litI, litL, nI_add, pk_mul, bd0_e, bd1_e, bd2_e, bd3_e, bd4_e, st_e, nI_leI, nI_ltI, nI_eq, if_pos, if_neg, if_true, if_false, ld_nI, sti_nI, stl_nI, b, o2] <;> rfl
  · rw [if_neg q] at o1 o2
    refine ⟨-3, El, Er, Hn, Hl, Hr, acts, next, now, trial, diary, ?_, ?_, ⟨xs, ys, h⟩, hH⟩
    · simp -implicitDefEqProofs (disch := omega) only [fX_substitute, litI, litL, nI_add, pk_mul, bd0_e, bd1_e, bd2_e, bd3_e, bd4_e, st_e, nI_leI, nI_ltI, nI_eq, if_pos, if_neg, if_true, if_false, ld_nI, sti_nI, stl_nI, a, o1] <;> rfl
    · simp -implicitDefEqProofs (disch := omega) only [fM_substitute, litI, litL, nI_add, pk_mul, bd0_e, bd1_e, bd2_e, bd3_e, bd4_e, st_e, nI_leI, nI_ltI, nI_eq, if_pos, if_neg, if_true, if_false, ld_nI, sti_nI, stl_nI, b, o2] <;> rfl
