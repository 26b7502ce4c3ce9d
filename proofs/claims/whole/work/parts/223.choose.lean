/-! chooseWord of the class -/
def PA (v : Nat) (nm : Nat → Nat) (Al : Nat → Int64) (Ak : Nat → Int32) : Prop := RAI Al Ak ∧ ∀ u, u < v → nm u < 15 ∧ Ak (u + 3) = nI (wl (nm u)) ∧ Al (u + 3) = lN (vl 0 (wd (nm u)))
set_option maxRecDepth 100000 in
theorem PA.ra {nm : Nat → Nat} {Al : Nat → Int64} {Ak : Nat → Int32} (h : PA 4 nm Al Ak) : RA Al Ak (wOf nm) 3 := by
  obtain ⟨⟨h1, h2, h3, h4⟩, h5⟩ := h
  intro s hs
  by_cases q : s < 2
  · rcases (show s = 0 ∨ s = 1 by omega) with rfl | rfl
    · exact ⟨(by decide : (1 : Nat) ≤ 3), fun b hb => by rw [List.mem_singleton.mp hb]; decide, h1, h3⟩
    · exact ⟨(by decide : (1 : Nat) ≤ 3), fun b hb => by rw [List.mem_singleton.mp hb]; decide, h2, h4⟩
  · obtain ⟨v, rfl⟩ : ∃ v, s = v + 2 := ⟨s - 2, by omega⟩
    obtain ⟨a, b, c⟩ := h5 v (by omega)
    rw [wOf_3, wd_len]
    exact ⟨wl_le3 _ a, wd_bits _, b, c⟩
set_option maxRecDepth 100000 in
theorem PA.give {v : Nat} {nm : Nat → Nat} {Al : Nat → Int64} {Ak : Nat → Int32} (h : PA v nm Al Ak) {i : Nat} (hi : i < 15) : PA (v + 1) (setN nm v i) (vp_updL Al (v + 3) (lN (vl 0 (wd i)))) (upd Ak (v + 3) (nI (wl i))) := by
  refine ⟨h.1.give _ _, fun u hu => ?_⟩
  rw [upd_e, updL_e]
  by_cases q : u = v
  · rw [q, setN_at, if_pos rfl, if_pos rfl]
    exact ⟨hi, rfl, rfl⟩
  · rw [setN_ne q, if_neg (by omega), if_neg (by omega)]
    exact h.2 u (by omega)
set_option maxRecDepth 100000 in
theorem PA.back {v : Nat} {nm : Nat → Nat} {i : Nat} {Al : Nat → Int64} {Ak : Nat → Int32} (h : PA (v + 1) (setN nm v i) Al Ak) : PA v nm Al Ak := by
  refine ⟨h.1, fun u hu => ?_⟩
  have := h.2 u (by omega)
  rw [setN_ne (by omega)] at this
  exact this
