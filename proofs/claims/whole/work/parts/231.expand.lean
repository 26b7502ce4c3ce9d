/-! a node's children are added -/
def chS (p : Nat) (xs ys : List Nat) (r : Nat) (s : SS) : SS :=
  if apB r xs ys = true then (if (decide ((chl r (xs.headD 0) (ys.headD 0) xs).length ≤ 12) && decide ((chl r (xs.headD 0) (ys.headD 0) ys).length ≤ 12)) = true then addS p r (chl r (xs.headD 0) (ys.headD 0) xs) (chl r (xs.headD 0) (ys.headD 0) ys) s else dropS s) else s
set_option maxRecDepth 100000 in
theorem chS_no {p r : Nat} {xs ys : List Nat} {s : SS} (h : apB r xs ys = false) : chS p xs ys r s = s := by
  unfold chS
  rw [h, if_neg Bool.false_ne_true]
set_option maxRecDepth 100000 in
theorem chS_done {p r : Nat} {xs ys : List Nat} {s : SS} (h : s.2.1.isSome = true) : chS p xs ys r s = s := by
  unfold chS
  split
  · split
    · exact addS_done h
    · exact dropS_done h
  · rfl
set_option maxRecDepth 100000 in
theorem rpl_mem6 {v : Nat} {rs zs : List Nat} (hr : ∀ x ∈ rs, x < 6) (hz : okS 12 zs) : ∀ x ∈ (rpl v rs zs).tail, x < 6 := fun x hx => rpl_mem hr hz.2 x (List.mem_of_mem_tail hx)
set_option maxRecDepth 100000 in
theorem chl_mem {r a b : Nat} {zs : List Nat} (hz : okS 12 zs) (ha : a < 6) (hb : b < 6) : ∀ x ∈ chl r a b zs, x < 6 := by
  unfold chl
  have e0 : ∀ x ∈ ([] : List Nat), x < 6 := fun x hx => by cases hx
  have e1 : ∀ u v : Nat, u < 6 → v < 6 → ∀ x ∈ [u, v], x < 6 := fun u v hu hv x hx => by
    rcases List.mem_cons.mp hx with rfl | hx
    · exact hu
    · rw [List.mem_singleton.mp hx]; exact hv
  split
  · exact hz.tl.2
  · split
    · exact rpl_mem e0 hz.2
    · split
      · exact rpl_mem e0 hz.2
      · split
        · exact rpl_mem6 (e1 b a hb ha) hz
        · exact rpl_mem6 (e1 a b ha hb) hz
set_option maxRecDepth 100000 in
theorem headD_lt {zs : List Nat} (hz : okS 12 zs) : zs.headD 0 < 6 := by
  cases zs with
  | nil => decide
  | cons z zs => exact hz.2 z List.mem_cons_self
/-- a state in which a node stands -/
def G (s : SS) (p : Nat) (xs ys : List Nat) : Prop := INV s ∧ ∃ n : ND, s.1[p]? = some n ∧ n.1 = xs ∧ n.2.1 = ys
set_option maxRecDepth 100000 in
theorem G.lt {s : SS} {p : Nat} {xs ys : List Nat} (h : G s p xs ys) : p < s.1.length := by
  obtain ⟨-, n, hn, -⟩ := h
  exact (List.getElem?_eq_some_iff.mp hn).1
set_option maxRecDepth 100000 in
theorem G.ok {s : SS} {p : Nat} {xs ys : List Nat} (h : G s p xs ys) : okS 12 xs ∧ okS 12 ys := by
  obtain ⟨hI, n, hn, rfl, rfl⟩ := h
  exact hI.2.2.2 p n hn
set_option maxRecDepth 100000 in
theorem G.ch {s : SS} {p : Nat} {xs ys : List Nat} (h : G s p xs ys) (r : Nat) : G (chS p xs ys r s) p xs ys := by
  have hlt := h.lt
  obtain ⟨hx, hy⟩ := h.ok
  obtain ⟨hI, n, hn, e1, e2⟩ := h
  unfold chS
  split
  · split
    · rename_i _ hf
      rw [Bool.and_eq_true, decide_eq_true_eq, decide_eq_true_eq] at hf
      exact ⟨hI.add ⟨hf.1, chl_mem hx (headD_lt hx) (headD_lt hy)⟩ ⟨hf.2, chl_mem hy (headD_lt hx) (headD_lt hy)⟩, n, by rw [(addS_get hlt).1]; exact hn, e1, e2⟩
    · exact ⟨hI.drop, n, by rw [dropS_get]; exact hn, e1, e2⟩
  · exact ⟨hI, n, hn, e1, e2⟩
set_option maxRecDepth 100000 in
theorem sy_hd {xs : List Nat} : sy xs 0 = match xs with | [] => 0 | x :: _ => x + 1 := by
  cases xs <;> rfl
set_option maxRecDepth 100000 in
theorem one_or : ∀ a, a < 6 → ∀ b, b < 6 → (lN ((a + 1) * 8 ^ 0) ||| lN ((b + 1) * 8 ^ 1)) = lN (pq [a, b]) := by decide +kernel
section NX
variable {s : SS} {Nz Ns Nd : Int32} {Nl Nr : Nat → Int64} {Np Nu Ne : Nat → Int32} {p : Nat} {xs ys : List Nat}
set_option maxRecDepth 100000 in
theorem nRows (hG : G s p xs ys) (h : RN s Nz Ns Nd Nl Nr Np Nu Ne) : Nl p = lN (pq xs) ∧ Nr p = lN (pq ys) := by
  obtain ⟨-, n, hn, rfl, rfl⟩ := hG
  obtain ⟨a, b, -⟩ := h.2.2.2 p n hn
  exact ⟨a, b⟩
set_option maxRecDepth 100000 in
theorem nWithout (hG : G s p xs ys) (h : RN s Nz Ns Nd Nl Nr Np Nu Ne) {r v : Nat} (hv : v < 6) :
    ∃ Nz' Ns' Nd' Nl' Nr' Np' Nu' Ne', fN_addWithout Nz Ns Nd Nl Nr Np Nu Ne (nI p) (nI r) (nI (v + 1)) = some (Nz', Ns', Nd', Nl', Nr', Np', Nu', Ne') ∧ RN (addS p r (rpl v [] xs) (rpl v [] ys) s) Nz' Ns' Nd' Nl' Nr' Np' Nu' Ne' := by
  have hp := hG.lt
  have hL := hG.1.2.1
  obtain ⟨hx, hy⟩ := hG.ok
  obtain ⟨e1, e2⟩ := nRows hG h
  have n0 : ∀ x ∈ ([] : List Nat), x < 6 := fun x hx => by cases hx
  have lx := rpl_nil_len (v := v) (xs := xs)
  have ly := rpl_nil_len (v := v) (xs := ys)
  have hx1 := hx.1
  have hy1 := hy.1
  have okx : okS 12 (rpl v [] xs) := ⟨by omega, rpl_mem n0 hx.2⟩
  have oky : okS 12 (rpl v [] ys) := ⟨by omega, rpl_mem n0 hy.2⟩
  have z1 := zReplaced (ok13 hx) (rs := []) ⟨by decide, n0⟩ hv (by omega)
  have z2 := zReplaced (ok13 hy) (rs := []) ⟨by decide, n0⟩ hv (by omega)
  rw [show pq [] = 0 from rfl] at z1 z2
  obtain ⟨Nz', Ns', Nd', Nl', Nr', Np', Nu', Ne', e, hR⟩ := nAddNode hG.1 h hp (r := r) okx oky
  refine ⟨Nz', Ns', Nd', Nl', Nr', Np', Nu', Ne', ?_, hR⟩
  simp -implicitDefEqProofs (disch := omega) only [fN_addWithout, litI, litL, nI_add, pk_mul, bd0_e, bd1_e, bd2_e, bd3_e, bd4_e, st_e, nI_leI, nI_ltI, nI_eq, if_pos, if_neg, if_true, if_false, ld_nI, sti_nI, stl_nI, bd5_e, bd6_e, bd7_e, bd8_e, bd9_e, bd10_e, bd11_e, e1, e2, z1, z2, e]
set_option maxRecDepth 100000 in
theorem nLonger (hG : G s p xs ys) (h : RN s Nz Ns Nd Nl Nr Np Nu Ne) {r v w : Nat} (hv : v < 6) (hw : w < 6) (hxn : xs ≠ []) (hyn : ys ≠ []) :
    ∃ Nz' Ns' Nd' Nl' Nr' Np' Nu' Ne', fN_addLonger Nz Ns Nd Nl Nr Np Nu Ne (nI p) (nI r) (nI (v + 1)) (nI (w + 1)) = some (Nz', Ns', Nd', Nl', Nr', Np', Nu', Ne') ∧ RN (if (decide ((rpl v [w, v] xs).tail.length ≤ 12) && decide ((rpl v [w, v] ys).tail.length ≤ 12)) = true then addS p r (rpl v [w, v] xs).tail (rpl v [w, v] ys).tail s else dropS s) Nz' Ns' Nd' Nl' Nr' Np' Nu' Ne' := by
  have hp := hG.lt
  have hL := hG.1.2.1
  obtain ⟨hx, hy⟩ := hG.ok
  obtain ⟨e1, e2⟩ := nRows hG h
  have n2 : ∀ x ∈ [w, v], x < 6 := fun x hx => by
    rcases List.mem_cons.mp hx with rfl | hx
    · exact hw
    · rw [List.mem_singleton.mp hx]; exact hv
  have tx : (rpl v [w, v] xs).tail.length = (rpl v [w, v] xs).length - 1 := List.length_tail ..
  have ty : (rpl v [w, v] ys).tail.length = (rpl v [w, v] ys).length - 1 := List.length_tail ..
  have bx := rpl_ne (v := v) (rs := [w, v]) (xs := xs) (by simp) hxn
  have byy := rpl_ne (v := v) (rs := [w, v]) (xs := ys) (by simp) hyn
  have rx := rpl_length v [w, v] xs
  have ry := rpl_length v [w, v] ys
  have cx := List.count_le_length (a := v) (l := xs)
  have cy := List.count_le_length (a := v) (l := ys)
  have hx1 := hx.1
  have hy1 := hy.1
  have l2 : [w, v].length = 2 := rfl
  rw [l2] at rx ry
  have s1 := zSizeAfter (rs := [w, v]) hx (n := 2) hv l2
  have s2 := zSizeAfter (rs := [w, v]) hy (n := 2) hv l2
  have dr : ∀ Nz', Nz' = Nz → RN (dropS s) Nz' Ns (nI 1) Nl Nr Np Nu Ne := by
    intro Nz' hz
    rw [hz]
    cases hs : s.2.1 with
    | some j =>
      rw [dropS_done (by rw [hs]; rfl)]
      exact ⟨h.1, h.2.1, fun z => absurd (hs.symm.trans z) (by simp), h.2.2.2⟩
    | none =>
      rw [dropS_new hs]
      exact ⟨h.1, by rw [h.2.1, hs], fun _ => rfl, h.2.2.2⟩
  by_cases q1 : (rpl v [w, v] xs).length ≤ 13
  · by_cases q2 : (rpl v [w, v] ys).length ≤ 13
    · rw [decide_eq_true (by omega), decide_eq_true (by omega), Bool.and_self, if_pos rfl]
      have okx : okS 13 (rpl v [w, v] xs) := ⟨q1, rpl_mem n2 hx.2⟩
      have oky : okS 13 (rpl v [w, v] ys) := ⟨q2, rpl_mem n2 hy.2⟩
      have okr : okS 13 [w, v] := ⟨by rw [l2]; decide, n2⟩
      have z1 := zReplaced (ok13 hx) okr hv q1
      have z2 := zReplaced (ok13 hy) okr hv q2
      have t1 := zTail okx
      have t2 := zTail oky
      have o1 := zOne (s := w + 1) (i := 0) (by omega) (by decide)
      have o2 := zOne (s := v + 1) (i := 1) (by omega) (by decide)
      have o3 := one_or w hw v hv
      obtain ⟨Nz', Ns', Nd', Nl', Nr', Np', Nu', Ne', e, hR⟩ := nAddNode hG.1 h hp (r := r) (xs := (rpl v [w, v] xs).tail) (ys := (rpl v [w, v] ys).tail) ⟨by omega, okx.tl.2⟩ ⟨by omega, oky.tl.2⟩
      refine ⟨Nz', Ns', Nd', Nl', Nr', Np', Nu', Ne', ?_, hR⟩
      simp -implicitDefEqProofs (disch := omega) only [fN_addLonger, litI, litL, nI_add, pk_mul, bd0_e, bd1_e, bd2_e, bd3_e, bd4_e, st_e, nI_leI, nI_ltI, nI_eq, if_pos, if_neg, if_true, if_false, ld_nI, sti_nI, stl_nI, bd5_e, bd6_e, bd7_e, bd8_e, bd9_e, bd10_e, bd11_e, e1, e2, s1, s2, o1, o2, o3, z1, z2, t1, t2, e]
    · rw [decide_eq_false (p := (rpl v [w, v] ys).tail.length ≤ 12) (by omega), Bool.and_false, if_neg Bool.false_ne_true]
      refine ⟨Nz, Ns, nI 1, Nl, Nr, Np, Nu, Ne, ?_, dr _ rfl⟩
      simp -implicitDefEqProofs (disch := omega) only [fN_addLonger, fN_addLonger_36, litI, litL, nI_add, pk_mul, bd0_e, bd1_e, bd2_e, bd3_e, bd4_e, st_e, nI_leI, nI_ltI, nI_eq, if_pos, if_neg, if_true, if_false, ld_nI, sti_nI, stl_nI, e1, e2, s1, s2]
  · rw [decide_eq_false (p := (rpl v [w, v] xs).tail.length ≤ 12) (by omega), Bool.false_and, if_neg Bool.false_ne_true]
    refine ⟨Nz, Ns, nI 1, Nl, Nr, Np, Nu, Ne, ?_, dr _ rfl⟩
    simp -implicitDefEqProofs (disch := omega) only [fN_addLonger, fN_addLonger_36, litI, litL, nI_add, pk_mul, bd0_e, bd1_e, bd2_e, bd3_e, bd4_e, st_e, nI_leI, nI_ltI, nI_eq, if_pos, if_neg, if_true, if_false, ld_nI, sti_nI, stl_nI, e1, s1]
end NX
set_option maxRecDepth 100000 in
theorem okAdd {r a b : Nat} {zs : List Nat} (hz : okS 12 zs) (hr : r = 1 ∨ r = 2) : (chl r a b zs).length ≤ 12 := by
  have lx := rpl_nil_len (v := a) (xs := zs)
  have ly := rpl_nil_len (v := b) (xs := zs)
  have := hz.1
  rcases hr with rfl | rfl
  · show (rpl a [] zs).length ≤ 12
    omega
  · show (rpl b [] zs).length ≤ 12
    omega
section NY
variable {p : Nat} {xs ys : List Nat}
set_option maxRecDepth 100000 in
theorem chS_1 {s : SS} {a : Nat} {xt : List Nat} (hx : okS 12 (a :: xt)) (hy : okS 12 ys) (h : apB 1 (a :: xt) ys = true) : chS p (a :: xt) ys 1 s = addS p 1 (rpl a [] (a :: xt)) (rpl a [] ys) s := by
  unfold chS
  rw [if_pos h, decide_eq_true (okAdd hx (Or.inl rfl)), decide_eq_true (okAdd hy (Or.inl rfl)), Bool.and_self, if_pos rfl]
  rfl
set_option maxRecDepth 100000 in
theorem chS_2 {s : SS} {b : Nat} {yt : List Nat} (hx : okS 12 xs) (hy : okS 12 (b :: yt)) (h : apB 2 xs (b :: yt) = true) : chS p xs (b :: yt) 2 s = addS p 2 (rpl b [] xs) (rpl b [] (b :: yt)) s := by
  unfold chS
  rw [if_pos h, decide_eq_true (okAdd hx (Or.inr rfl)), decide_eq_true (okAdd hy (Or.inr rfl)), Bool.and_self, if_pos rfl]
  rfl
set_option maxRecDepth 100000 in
theorem hv_var {x : Nat} (hx : x < 6) : fZ_isVariableSymbol (nI (x + 1)) = some (nI (b1 (decide (2 ≤ x)))) := by
  by_cases q : 2 ≤ x
  · rw [decide_eq_true q, b1_t]
    simp -implicitDefEqProofs (disch := omega) only [fZ_isVariableSymbol, litI, litL, nI_add, pk_mul, bd0_e, bd1_e, bd2_e, bd3_e, bd4_e, st_e, nI_leI, nI_ltI, nI_eq, if_pos, if_neg, if_true, if_false, ld_nI, sti_nI, stl_nI]
  · rw [decide_eq_false q, b1_f]
    simp -implicitDefEqProofs (disch := omega) only [fZ_isVariableSymbol, litI, litL, nI_add, pk_mul, bd0_e, bd1_e, bd2_e, bd3_e, bd4_e, st_e, nI_leI, nI_ltI, nI_eq, if_pos, if_neg, if_true, if_false, ld_nI, sti_nI, stl_nI]
set_option maxRecDepth 100000 in
theorem hv_0 : fZ_isVariableSymbol (nI 0) = some (nI 0) := by
  simp -implicitDefEqProofs (disch := omega) only [fZ_isVariableSymbol, litI, litL, nI_add, pk_mul, bd0_e, bd1_e, bd2_e, bd3_e, bd4_e, st_e, nI_leI, nI_ltI, nI_eq, if_pos, if_neg, if_true, if_false, ld_nI, sti_nI, stl_nI]
set_option maxRecDepth 100000 in
/-- the fourth rule -/
theorem n112 (hsm : sm2 xs ys = false) {s : SS} {Nz Ns Nd : Int32} {Nl Nr : Nat → Int64} {Np Nu Ne : Nat → Int32} (hG : G s p xs ys) (h : RN s Nz Ns Nd Nl Nr Np Nu Ne) :
    ∃ Nz' Ns' Nd' Nl' Nr' Np' Nu' Ne', fN_addChildren_112 Nz Ns Nd Nl Nr Np Nu Ne (nI p) (nI (sy xs 0)) (nI (sy ys 0)) (nI (b1 (hv ys))) = some (Nz', Ns', Nd', Nl', Nr', Np', Nu', Ne') ∧ RN (chS p xs ys 4 s) Nz' Ns' Nd' Nl' Nr' Np' Nu' Ne' := by
  obtain ⟨hx, hy⟩ := hG.ok
  cases hvv : hv ys with
  | false =>
    have ea : apB 4 xs ys = false := by rw [apB, apC, if_neg (by decide), if_neg (by decide), if_neg (by decide), if_neg (by decide), hvv, Bool.false_and, Bool.and_false]
    rw [chS_no ea, b1_f]
    refine ⟨Nz, Ns, Nd, Nl, Nr, Np, Nu, Ne, ?_, h⟩
    simp -implicitDefEqProofs (disch := omega) only [fN_addChildren_112, litI, litL, nI_add, pk_mul, bd0_e, bd1_e, bd2_e, bd3_e, bd4_e, st_e, nI_leI, nI_ltI, nI_eq, if_pos, if_neg, if_true, if_false, ld_nI, sti_nI, stl_nI]
  | true =>
    rw [b1_t]
    cases xs with
    | nil =>
      have ea : apB 4 [] ys = false := by rw [apB, apC, if_neg (by decide), if_neg (by decide), if_neg (by decide), if_neg (by decide), show bo [] ys = false from rfl, Bool.and_false, Bool.and_false]
      rw [chS_no ea, show sy [] 0 = 0 from rfl]
      refine ⟨Nz, Ns, Nd, Nl, Nr, Np, Nu, Ne, ?_, h⟩
      simp -implicitDefEqProofs (disch := omega) only [fN_addChildren_112, litI, litL, nI_add, pk_mul, bd0_e, bd1_e, bd2_e, bd3_e, bd4_e, st_e, nI_leI, nI_ltI, nI_eq, if_pos, if_neg, if_true, if_false, ld_nI, sti_nI, stl_nI]
    | cons a xs =>
      cases ys with
      | nil => cases hvv
      | cons b ys =>
        have ea : apB 4 (a :: xs) (b :: ys) = true := by rw [apB, apC, if_neg (by decide), if_neg (by decide), if_neg (by decide), if_neg (by decide), hsm, hvv]; rfl
        have ha6 := hx.2 a List.mem_cons_self
        have hb6 := hy.2 b List.mem_cons_self
        obtain ⟨Nz', Ns', Nd', Nl', Nr', Np', Nu', Ne', e, hR⟩ := nLonger hG h (r := 4) (v := b) (w := a) hb6 ha6 (by simp) (by simp)
        refine ⟨Nz', Ns', Nd', Nl', Nr', Np', Nu', Ne', ?_, ?_⟩
        · rw [show sy (a :: xs) 0 = a + 1 from rfl, show sy (b :: ys) 0 = b + 1 from rfl]
          simp -implicitDefEqProofs (disch := omega) only [fN_addChildren_112, litI, litL, nI_add, pk_mul, bd0_e, bd1_e, bd2_e, bd3_e, bd4_e, st_e, nI_leI, nI_ltI, nI_eq, if_pos, if_neg, if_true, if_false, ld_nI, sti_nI, stl_nI, bd5_e, bd6_e, bd7_e, bd8_e, bd9_e, bd10_e, bd11_e, e]
        · unfold chS
          rw [if_pos ea]
          exact hR
set_option maxRecDepth 100000 in
theorem n95 (hsm : sm2 xs ys = false) {s : SS} {Nz Ns Nd : Int32} {Nl Nr : Nat → Int64} {Np Nu Ne : Nat → Int32} (hG : G s p xs ys) (h : RN s Nz Ns Nd Nl Nr Np Nu Ne) :
    ∃ Nz' Ns' Nd' Nl' Nr' Np' Nu' Ne', fN_addChildren_95 Nz Ns Nd Nl Nr Np Nu Ne (nI p) (nI (sy xs 0)) (nI (sy ys 0)) (nI (b1 (hv xs))) (nI (b1 (hv ys))) = some (Nz', Ns', Nd', Nl', Nr', Np', Nu', Ne') ∧ RN (chS p xs ys 4 (chS p xs ys 3 s)) Nz' Ns' Nd' Nl' Nr' Np' Nu' Ne' := by
  obtain ⟨hx, hy⟩ := hG.ok
  cases hvv : hv xs with
  | false =>
    have ea : apB 3 xs ys = false := by rw [apB, apC, if_neg (by decide), if_neg (by decide), if_neg (by decide), if_pos rfl, hvv, Bool.false_and, Bool.and_false]
    obtain ⟨Nz', Ns', Nd', Nl', Nr', Np', Nu', Ne', e, hR⟩ := n112 hsm hG h
    rw [chS_no ea, b1_f]
    refine ⟨Nz', Ns', Nd', Nl', Nr', Np', Nu', Ne', ?_, hR⟩
    rw [← e]
    simp -implicitDefEqProofs (disch := omega) only [fN_addChildren_95, litI, litL, nI_add, pk_mul, bd0_e, bd1_e, bd2_e, bd3_e, bd4_e, st_e, nI_leI, nI_ltI, nI_eq, if_pos, if_neg, if_true, if_false, ld_nI, sti_nI, stl_nI]
  | true =>
    rw [b1_t]
    cases ys with
    | nil =>
      have ea : apB 3 xs [] = false := by rw [apB, apC, if_neg (by decide), if_neg (by decide), if_neg (by decide), if_pos rfl, show bo xs [] = false by cases xs <;> rfl, Bool.and_false, Bool.and_false]
      obtain ⟨Nz', Ns', Nd', Nl', Nr', Np', Nu', Ne', e, hR⟩ := n112 hsm hG h
      rw [chS_no ea]
      refine ⟨Nz', Ns', Nd', Nl', Nr', Np', Nu', Ne', ?_, hR⟩
      rw [← e, show sy [] 0 = 0 from rfl]
      simp -implicitDefEqProofs (disch := omega) only [fN_addChildren_95, litI, litL, nI_add, pk_mul, bd0_e, bd1_e, bd2_e, bd3_e, bd4_e, st_e, nI_leI, nI_ltI, nI_eq, if_pos, if_neg, if_true, if_false, ld_nI, sti_nI, stl_nI]
    | cons b ys =>
      cases xs with
      | nil => cases hvv
      | cons a xs =>
        have ea : apB 3 (a :: xs) (b :: ys) = true := by rw [apB, apC, if_neg (by decide), if_neg (by decide), if_neg (by decide), if_pos rfl, hsm, hvv]; rfl
        have ha6 := hx.2 a List.mem_cons_self
        have hb6 := hy.2 b List.mem_cons_self
        obtain ⟨Nz1, Ns1, Nd1, Nl1, Nr1, Np1, Nu1, Ne1, e1, hR1⟩ := nLonger hG h (r := 3) (v := a) (w := b) ha6 hb6 (by simp) (by simp)
        have hR1 : RN (chS p (a :: xs) (b :: ys) 3 s) Nz1 Ns1 Nd1 Nl1 Nr1 Np1 Nu1 Ne1 := by
          unfold chS
          rw [if_pos ea]
          exact hR1
        obtain ⟨Nz', Ns', Nd', Nl', Nr', Np', Nu', Ne', e, hR⟩ := n112 hsm (hG.ch 3) hR1
        refine ⟨Nz', Ns', Nd', Nl', Nr', Np', Nu', Ne', ?_, hR⟩
        rw [← e, show sy (a :: xs) 0 = a + 1 from rfl, show sy (b :: ys) 0 = b + 1 from rfl]
        simp -implicitDefEqProofs (disch := omega) only [fN_addChildren_95, litI, litL, nI_add, pk_mul, bd0_e, bd1_e, bd2_e, bd3_e, bd4_e, st_e, nI_leI, nI_ltI, nI_eq, if_pos, if_neg, if_true, if_false, ld_nI, sti_nI, stl_nI, bd5_e, bd6_e, bd7_e, bd8_e, bd9_e, bd10_e, bd11_e, e1]
set_option maxRecDepth 100000 in
theorem n83 (hsm : sm2 xs ys = false) {s : SS} {Nz Ns Nd : Int32} {Nl Nr : Nat → Int64} {Np Nu Ne : Nat → Int32} (hG : G s p xs ys) (h : RN s Nz Ns Nd Nl Nr Np Nu Ne) :
    ∃ Nz' Ns' Nd' Nl' Nr' Np' Nu' Ne', fN_addChildren_83 Nz Ns Nd Nl Nr Np Nu Ne (nI p) (nI (sy xs 0)) (nI (sy ys 0)) (nI (b1 (hv xs))) (nI (b1 (hv ys))) = some (Nz', Ns', Nd', Nl', Nr', Np', Nu', Ne') ∧ RN (chS p xs ys 4 (chS p xs ys 3 (chS p xs ys 2 s))) Nz' Ns' Nd' Nl' Nr' Np' Nu' Ne' := by
  obtain ⟨hx, hy⟩ := hG.ok
  cases hvv : hv ys with
  | false =>
    have ea : apB 2 xs ys = false := by rw [apB, apC, if_neg (by decide), if_neg (by decide), if_pos rfl, hvv, Bool.and_false]
    obtain ⟨Nz', Ns', Nd', Nl', Nr', Np', Nu', Ne', e, hR⟩ := n95 hsm hG h
    rw [chS_no ea]
    refine ⟨Nz', Ns', Nd', Nl', Nr', Np', Nu', Ne', ?_, hR⟩
    rw [← e, hvv, b1_f]
    simp -implicitDefEqProofs (disch := omega) only [fN_addChildren_83, litI, litL, nI_add, pk_mul, bd0_e, bd1_e, bd2_e, bd3_e, bd4_e, st_e, nI_leI, nI_ltI, nI_eq, if_pos, if_neg, if_true, if_false, ld_nI, sti_nI, stl_nI]
  | true =>
    cases ys with
    | nil => cases hvv
    | cons b ys =>
      have ea : apB 2 xs (b :: ys) = true := by rw [apB, apC, if_neg (by decide), if_neg (by decide), if_pos rfl, hsm, hvv]; rfl
      have hb6 := hy.2 b List.mem_cons_self
      obtain ⟨Nz1, Ns1, Nd1, Nl1, Nr1, Np1, Nu1, Ne1, e1, hR1⟩ := nWithout hG h (r := 2) (v := b) hb6
      rw [← chS_2 hx hy ea] at hR1
      obtain ⟨Nz', Ns', Nd', Nl', Nr', Np', Nu', Ne', e, hR⟩ := n95 hsm (hG.ch 2) hR1
      refine ⟨Nz', Ns', Nd', Nl', Nr', Np', Nu', Ne', ?_, hR⟩
      rw [hvv, b1_t] at e
      rw [← e, b1_t, show sy (b :: ys) 0 = b + 1 from rfl]
      simp -implicitDefEqProofs (disch := omega) only [fN_addChildren_83, litI, litL, nI_add, pk_mul, bd0_e, bd1_e, bd2_e, bd3_e, bd4_e, st_e, nI_leI, nI_ltI, nI_eq, if_pos, if_neg, if_true, if_false, ld_nI, sti_nI, stl_nI, bd5_e, bd6_e, bd7_e, bd8_e, bd9_e, bd10_e, bd11_e, e1]
def exS (p : Nat) (xs ys : List Nat) (s : SS) : SS := chS p xs ys 4 (chS p xs ys 3 (chS p xs ys 2 (chS p xs ys 1 (chS p xs ys 0 s))))
set_option maxRecDepth 100000 in
theorem fZhv {zs : List Nat} (hz : okS 12 zs) : fZ_isVariableSymbol (nI (sy zs 0)) = some (nI (b1 (hv zs))) := by
  cases zs with
  | nil => exact hv_0
  | cons z zs => exact hv_var (hz.2 z List.mem_cons_self)
set_option maxRecDepth 100000 in
theorem nChildren {s : SS} {Nz Ns Nd : Int32} {Nl Nr : Nat → Int64} {Np Nu Ne : Nat → Int32} (hG : G s p xs ys) (hne : xs.length + ys.length ≠ 0) (h : RN s Nz Ns Nd Nl Nr Np Nu Ne) :
    ∃ Nz' Ns' Nd' Nl' Nr' Np' Nu' Ne', fN_addChildren Nz Ns Nd Nl Nr Np Nu Ne (nI p) = some (Nz', Ns', Nd', Nl', Nr', Np', Nu', Ne') ∧ RN (exS p xs ys s) Nz' Ns' Nd' Nl' Nr' Np' Nu' Ne' := by
  have hp := hG.lt
  have hL := hG.1.2.1
  obtain ⟨hx, hy⟩ := hG.ok
  obtain ⟨e1, e2⟩ := nRows hG h
  have hnd : fN_isNode Nz (nI p) = some (nI 1) := by rw [h.1]; exact nIsNode hG.1 hp
  have z1 := zHead (ok13 hx)
  have z2 := zHead (ok13 hy)
  have v1 := fZhv hx
  have v2 := fZhv hy
  have l1 := sy_lt hx.2 0
  have l2 := sy_lt hy.2 0
  cases hsm : sm2 xs ys with
  | true =>
    have e0 : sy xs 0 = sy ys 0 := by
      cases xs with
      | nil => cases ys <;> cases hsm
      | cons a xs =>
        cases ys with
        | nil => cases hsm
        | cons b ys =>
          have : a = b := of_decide_eq_true hsm
          rw [this]
          rfl
    have t1 := zTail (ok13 hx)
    have t2 := zTail (ok13 hy)
    have tl1 : xs.tail.length ≤ 12 := hx.tl.1
    have tl2 : ys.tail.length ≤ 12 := hy.tl.1
    have f0 : apB 0 xs ys = true := by rw [apB, apC, if_pos rfl]; exact hsm
    have f1 : apB 1 xs ys = false := by rw [apB, apC, if_neg (by decide), if_pos rfl, hsm]; rfl
    have f2 : apB 2 xs ys = false := by rw [apB, apC, if_neg (by decide), if_neg (by decide), if_pos rfl, hsm]; rfl
    have f3 : apB 3 xs ys = false := by rw [apB, apC, if_neg (by decide), if_neg (by decide), if_neg (by decide), if_pos rfl, hsm]; rfl
    have f4 : apB 4 xs ys = false := by rw [apB, apC, if_neg (by decide), if_neg (by decide), if_neg (by decide), if_neg (by decide), hsm]; rfl
    have ex : exS p xs ys s = addS p 0 xs.tail ys.tail s := by
      unfold exS
      rw [chS_no f4, chS_no f3, chS_no f2, chS_no f1]
      unfold chS
      rw [if_pos f0, show chl 0 (xs.headD 0) (ys.headD 0) xs = xs.tail from rfl, show chl 0 (xs.headD 0) (ys.headD 0) ys = ys.tail from rfl, decide_eq_true tl1, decide_eq_true tl2, Bool.and_self, if_pos rfl]
    obtain ⟨Nz', Ns', Nd', Nl', Nr', Np', Nu', Ne', e, hR⟩ := nAddNode hG.1 h hp (r := 0) hx.tl hy.tl
    rw [ex]
    refine ⟨Nz', Ns', Nd', Nl', Nr', Np', Nu', Ne', ?_, hR⟩
    simp -implicitDefEqProofs (disch := omega) only [fN_addChildren, litI, litL, nI_add, pk_mul, bd0_e, bd1_e, bd2_e, bd3_e, bd4_e, st_e, nI_leI, nI_ltI, nI_eq, if_pos, if_neg, if_true, if_false, ld_nI, sti_nI, stl_nI, bd5_e, bd6_e, bd7_e, bd8_e, bd9_e, bd10_e, bd11_e, hnd, e1, e2, z1, z2, e0, t1, t2, e]
  | false =>
    have e0 : ¬ sy xs 0 = sy ys 0 := by
      cases xs with
      | nil =>
        cases ys with
        | nil => exact absurd rfl hne
        | cons b ys => exact fun z => (by have z : 0 = b + 1 := z; omega)
      | cons a xs =>
        cases ys with
        | nil => exact fun z => (by have z : a + 1 = 0 := z; omega)
        | cons b ys =>
          have q : ¬ a = b := of_decide_eq_false hsm
          exact fun z => q (by have z : a + 1 = b + 1 := z; omega)
    have f0 : apB 0 xs ys = false := by rw [apB, apC, if_pos rfl]; exact hsm
    unfold exS
    rw [chS_no f0]
    cases hvv : hv xs with
    | false =>
      have ea : apB 1 xs ys = false := by rw [apB, apC, if_neg (by decide), if_pos rfl, hvv, Bool.and_false]
      obtain ⟨Nz', Ns', Nd', Nl', Nr', Np', Nu', Ne', e, hR⟩ := n83 hsm hG h
      rw [hvv, b1_f] at v1 e
      rw [chS_no ea]
      refine ⟨Nz', Ns', Nd', Nl', Nr', Np', Nu', Ne', ?_, hR⟩
      rw [← e]
      simp -implicitDefEqProofs (disch := omega) only [fN_addChildren, litI, litL, nI_add, pk_mul, bd0_e, bd1_e, bd2_e, bd3_e, bd4_e, st_e, nI_leI, nI_ltI, nI_eq, if_pos, if_neg, if_true, if_false, ld_nI, sti_nI, stl_nI, bd5_e, bd6_e, bd7_e, bd8_e, bd9_e, bd10_e, bd11_e, hnd, e1, e2, z1, z2, e0, v1, v2]
    | true =>
      cases xs with
      | nil => cases hvv
      | cons a xs =>
        have ea : apB 1 (a :: xs) ys = true := by rw [apB, apC, if_neg (by decide), if_pos rfl, hsm, hvv]; rfl
        have ha6 := hx.2 a List.mem_cons_self
        obtain ⟨Nz1, Ns1, Nd1, Nl1, Nr1, Np1, Nu1, Ne1, g1, hR1⟩ := nWithout hG h (r := 1) (v := a) ha6
        rw [← chS_1 hx hy ea] at hR1
        obtain ⟨Nz', Ns', Nd', Nl', Nr', Np', Nu', Ne', e, hR⟩ := n83 hsm (hG.ch 1) hR1
        rw [hvv, b1_t] at v1 e
        rw [show sy (a :: xs) 0 = a + 1 from rfl] at z1 v1 l1 e e0
        refine ⟨Nz', Ns', Nd', Nl', Nr', Np', Nu', Ne', ?_, hR⟩
        rw [← e]
        simp -implicitDefEqProofs (disch := omega) only [fN_addChildren, litI, litL, nI_add, pk_mul, bd0_e, bd1_e, bd2_e, bd3_e, bd4_e, st_e, nI_leI, nI_ltI, nI_eq, if_pos, if_neg, if_true, if_false, ld_nI, sti_nI, stl_nI, bd5_e, bd6_e, bd7_e, bd8_e, bd9_e, bd10_e, bd11_e, hnd, e1, e2, z1, z2, e0, v1, v2, g1]
end NY
