/-! the law's entry (written by mkstart.py) -/
set_option maxRecDepth 100000 in
theorem lt_t {w : Cond} (h : w ∈ tables_1) : w ∈ lw_tbl := List.mem_append_right _ h
set_option maxRecDepth 100000 in
theorem lt1 {w : Cond} (h : w ∈ tables_1_1) : w ∈ lw_tbl := lt_t (List.mem_append_left _ h)
set_option maxRecDepth 100000 in
theorem lt2 {w : Cond} (h : w ∈ tables_1_2) : w ∈ lw_tbl := lt_t (List.mem_append_right _ (List.mem_append_left _ h))
set_option maxRecDepth 100000 in
theorem lt3 {w : Cond} (h : w ∈ tables_1_3) : w ∈ lw_tbl := lt_t (List.mem_append_right _ (List.mem_append_right _ (List.mem_append_left _ h)))
set_option maxRecDepth 100000 in
theorem lt4 {w : Cond} (h : w ∈ tables_1_4) : w ∈ lw_tbl := lt_t (List.mem_append_right _ (List.mem_append_right _ (List.mem_append_right _ (List.mem_append_left _ h))))
set_option maxRecDepth 100000 in
theorem lt5 {w : Cond} (h : w ∈ tables_1_5) : w ∈ lw_tbl := lt_t (List.mem_append_right _ (List.mem_append_right _ (List.mem_append_right _ (List.mem_append_right _ (List.mem_append_left _ h)))))
set_option maxRecDepth 100000 in
theorem lt6 {w : Cond} (h : w ∈ tables_1_6) : w ∈ lw_tbl := lt_t (List.mem_append_right _ (List.mem_append_right _ (List.mem_append_right _ (List.mem_append_right _ (List.mem_append_right _ h)))))
set_option maxHeartbeats 4000000 in
set_option maxRecDepth 100000 in
theorem ge_start {s : State} {b : Nat} (hts : ∀ w ∈ lw_tbl, w.before #[Value.ref b] s = true) (hgv : (Jvm.Cond.and given_1 narrow_1).before #[Value.ref b] s = true) : ∃ g : GP, GE g (fun q : Nat => s.heap.size ≤ q) s s.heap := by
  have htb : ∀ w ∈ TB, w.before #[Value.ref b] s = true := fun w h => hts w (List.mem_filter.mp h).1
  have hs := flat_of_before _ hgv
  have hA : ∀ a : Nat, a < s.heap.size → ¬ (fun q : Nat => s.heap.size ≤ q) a := fun a h => Nat.not_le.mpr h
  obtain ⟨c0, i0, k0⟩ := u_known (C := RX0) (T := TX0) (N := 2) (n := 2) htb inBX0 (htb _ wd1_122)
  obtain ⟨c1, i1, k1⟩ := u_known (C := RX1) (T := TX1) (N := 7) (n := 7) htb inBX1 (htb _ wd1_154)
  obtain ⟨c2, i2, k2⟩ := u_known (C := RX2) (T := TX2) (N := 2) (n := 2) htb inBX2 (htb _ wd1_43)
  obtain ⟨c3, i3, k3⟩ := u_known (C := RX3) (T := TX3) (N := 2) (n := 2) htb inBX3 (htb _ wd1_29)
  obtain ⟨c4, i4, k4⟩ := u_known (C := RX4) (T := TX4) (N := 3) (n := 3) htb inBX4 (htb _ wd1_88)
  obtain ⟨c5, i5, k5⟩ := u_known (C := RX5) (T := TX5) (N := 4) (n := 4) htb inBX5 (htb _ wd1_68)
  obtain ⟨c6, i6, k6⟩ := u_known (C := RX6) (T := TX6) (N := 4) (n := 4) htb inBX6 (htb _ wd1_135)
  obtain ⟨c7, i7, k7⟩ := u_known (C := RX7) (T := TX7) (N := 8) (n := 8) htb inBX7 (htb _ wd1_184)
  obtain ⟨c8, i8, k8⟩ := u_known (C := RX8) (T := TX8) (N := 3) (n := 3) htb inBX8 (htb _ wd1_215)
  obtain ⟨c9, i9, k9⟩ := u_known (C := RX10) (T := TX10) (N := 3) (n := 3) htb inBX10 (htb _ wd1_105)
  obtain ⟨c10, i10, k10⟩ := u_known (C := RX11) (T := TX11) (N := 10) (n := 10) htb inBX11 (htb _ wd1_21)
  obtain ⟨c11, i11, k11⟩ := u_known (C := RX12) (T := TX12) (N := 35) (n := 35) htb inBX12 (htb _ wd4_191)
  obtain ⟨a0, ka0, co0, f0, g0, h0⟩ := Cond.arrayClass_spec (htb _ wd1_86)
  obtain ⟨a1, ka1, co1, f1, g1, h1⟩ := Cond.arrayClass_spec (htb _ wd1_103)
  obtain ⟨a2, ka2, co2, f2, g2, h2⟩ := Cond.arrayClass_spec (htb _ wd1_41)
  obtain ⟨a3, ka3, co3, f3, g3, h3⟩ := Cond.arrayClass_spec (htb _ wd1_120)
  obtain ⟨adK, adV, hstr, hev⟩ := vk_Sof (args := #[Value.ref b]) (s := s) (N := 1) (tm := fun _ => Term.string RX9 11) (len := [6]) (byt := [sc_bytes]) (A := fun q : Nat => s.heap.size ≤ q) (fun i hi => by match i, hi with | 0, _ => decide) (fun i hi => hs _ (by decide +kernel)) (fun i hi => hs _ (by decide +kernel)) (fun i hi => hs _ (by decide +kernel)) (fun i hi => by match i, hi with | 0, _ => exact hs _ (by decide +kernel))
    (fun i hi j hj => by match i, hi, j, hj with | 0, _, 0, _ => exact hs _ (by decide +kernel) | 0, _, 1, _ => exact hs _ (by decide +kernel) | 0, _, 2, _ => exact hs _ (by decide +kernel) | 0, _, 3, _ => exact hs _ (by decide +kernel) | 0, _, 4, _ => exact hs _ (by decide +kernel) | 0, _, 5, _ => exact hs _ (by decide +kernel)) (fun i j hi hj hne => absurd (by omega : i = j) hne) hA
  refine ⟨((fun k => match k with | 0 => c0 | 1 => c1 | 2 => c2 | 3 => c3 | 4 => c4 | 5 => c5 | 6 => c6 | 7 => c7 | 8 => c8 | 9 => c9 | 10 => c10 | _ => c11, fun k => match k with | 0 => i0 | 1 => i1 | 2 => i2 | 3 => i3 | 4 => i4 | 5 => i5 | 6 => i6 | 7 => i7 | 8 => i8 | 9 => i9 | 10 => i10 | _ => i11), (fun k => match k with | 0 => a0 | 1 => a1 | 2 => a2 | _ => a3), adK, adV), ⟨fun k q hq => ?_, fun k q hq => ?_⟩, fun q hq => ?_, hstr, ?_, ?_, ?_⟩
  · match k, hq with
    | 0, hq => cases hq; exact k0
    | 1, hq => cases hq; exact k1
    | 2, hq => cases hq; exact k2
    | 3, hq => cases hq; exact k3
    | 4, hq => cases hq; exact k4
    | 5, hq => cases hq; exact k5
    | 6, hq => cases hq; exact k6
    | 7, hq => cases hq; exact k7
    | 8, hq => cases hq; exact k8
    | 9, hq => cases hq; exact k9
    | 10, hq => cases hq; exact k10
    | 11, hq => cases hq; exact k11
    | k + 12, hq => exact absurd hq (by simp [vwCl])
  · match k, hq with
    | 0, hq => cases hq; exact ⟨fun n z => ⟨fun k h => (by cases h), ka0, g0, co0, h0⟩, f0⟩
    | 1, hq => cases hq; exact ⟨fun n z => ⟨fun k h => (by cases h), ka1, g1, co1, h1⟩, f1⟩
    | 2, hq => cases hq; exact ⟨fun n z => ⟨fun k h => (by cases h), ka2, g2, co2, h2⟩, f2⟩
    | 3, hq => cases hq; exact ⟨fun n z => ⟨fun k h => (by cases h), ka3, g3, co3, h3⟩, f3⟩
    | k + 4, hq => exact absurd hq (by simp [TYS])
  · have hall : ∀ q ∈ NWL, (Cond.methodLinkNest q.1 q.2.1 q.2.2.1 q.2.2.2) ∈ lw_tbl := by
      exact List.forall_mem_cons.mpr ⟨lt1 (List.mem_of_getElem? (i := 30) rfl), List.forall_mem_cons.mpr ⟨lt1 (List.mem_of_getElem? (i := 44) rfl), List.forall_mem_cons.mpr ⟨lt1 (List.mem_of_getElem? (i := 69) rfl), List.forall_mem_cons.mpr ⟨lt1 (List.mem_of_getElem? (i := 89) rfl), List.forall_mem_cons.mpr ⟨lt1 (List.mem_of_getElem? (i := 106) rfl), List.forall_mem_cons.mpr ⟨lt1 (List.mem_of_getElem? (i := 185) rfl), List.forall_mem_cons.mpr ⟨lt1 (List.mem_of_getElem? (i := 221) rfl), List.forall_mem_cons.mpr ⟨lt3 (List.mem_of_getElem? (i := 202) rfl), List.forall_mem_cons.mpr ⟨lt3 (List.mem_of_getElem? (i := 219) rfl), List.forall_mem_cons.mpr ⟨lt4 (List.mem_of_getElem? (i := 143) rfl), List.forall_mem_cons.mpr ⟨lt4 (List.mem_of_getElem? (i := 146) rfl), fun _ h => absurd h List.not_mem_nil⟩⟩⟩⟩⟩⟩⟩⟩⟩⟩⟩
    exact va_Nw.of rfl (hts _ (hall q hq))
  · exact vk_R.of (A := #[Value.ref b]) (hts _ (lt2 (List.mem_of_getElem? (i := 62) rfl))) (hev 0 (by decide))
  · exact va_Zof (args := #[Value.ref b]) (hts _ (lt2 (List.mem_of_getElem? (i := 76) rfl))) (htb _ wd1_14) (va_eqt (hs (Cond.eq (Term.static "java/lang/String" "COMPACT_STRINGS" "Z") (Term.int 1)) (by decide +kernel))) hA
  · exact va_Zqof (args := #[Value.ref b]) (hts _ (lt2 (List.mem_of_getElem? (i := 119) rfl))) (htb _ wd1_18) (hs _ (by decide +kernel)) hA
/-! a world of two parts: a call on one leaves the other -/
section TWO
variable {p : Program} {l : Launch} {e : Env} {R : Room} {s : State} {m : MethodId} {args : Array Value} {below : List Frame} {meth : Method} {c : Code} {H : Heap} {locs : List Loc} {cells slots : Nat} {Q : State → Prop}
variable {pc : Nat} {ls : Array Slot} {rest st0 : List Value} {A : Nat → Prop} {g : GP} {u v u' v' : va_W} {r : Option Value}
set_option maxRecDepth 100000 in
theorem P_l (h : va_P g.1 vwCl (u ++ v) H) : va_P g.1 vwCl u H := fun k q hq => h k q (by rw [List.getElem?_append_left (List.getElem?_eq_some_iff.mp hq).1]; exact hq)
set_option maxRecDepth 100000 in
theorem P_r (h : va_P g.1 vwCl (u ++ v) H) : va_P g.1 vwCl v H := fun k q hq => h (u.length + k) q (by rw [List.getElem?_append_right (by omega), Nat.add_sub_cancel_left]; exact hq)
set_option maxRecDepth 100000 in
theorem D_l (h : va_D A (u ++ v)) : va_D A u := ⟨fun i j x y hx hy e => h.1 i j x y (by rw [List.getElem?_append_left (List.getElem?_eq_some_iff.mp hx).1]; exact hx) (by rw [List.getElem?_append_left (List.getElem?_eq_some_iff.mp hy).1]; exact hy) e, fun k q hq => h.2 k q (by rw [List.getElem?_append_left (List.getElem?_eq_some_iff.mp hq).1]; exact hq)⟩
set_option maxRecDepth 100000 in
theorem D_r (h : va_D A (u ++ v)) : va_D A v := ⟨fun i j x y hx hy e => by
  have := h.1 (u.length + i) (u.length + j) x y (by rw [List.getElem?_append_right (by omega), Nat.add_sub_cancel_left]; exact hx) (by rw [List.getElem?_append_right (by omega), Nat.add_sub_cancel_left]; exact hy) e
  omega, fun k q hq => h.2 (u.length + k) q (by rw [List.getElem?_append_right (by omega), Nat.add_sub_cancel_left]; exact hq)⟩
set_option maxRecDepth 100000 in
theorem D_x (h : va_D A (u ++ v)) {i j : Nat} {x y : Nat × va_E} (hx : u[i]? = some x) (hy : v[j]? = some y) : x.1 ≠ y.1 := fun e => by
  have hi := (List.getElem?_eq_some_iff.mp hx).1
  have := h.1 i (u.length + j) x y (by rw [List.getElem?_append_left hi]; exact hx) (by rw [List.getElem?_append_right (by omega), Nat.add_sub_cancel_left]; exact hy) e
  omega
set_option maxRecDepth 100000 in
theorem go_L {H0 : Heap} (hr : CtRun p l e R s m args below meth c H locs cells slots (F0 m pc ls st0) rest g u r u') (hS : va_S A H0 H locs) (hA : ∀ q : Nat, H0.size ≤ q → A q) (hP : va_P g.1 vwCl (u ++ v) H) (hD : va_D A (u ++ v)) {st1 : List Value} (hst : r.toList ++ rest = st1)
    (kk : ∀ (H1 : Heap) (locs1 : List Loc), va_P g.1 vwCl (u' ++ v) H1 → va_D A (u' ++ v) → va_S A H0 H1 locs1 → W p l e R s m args below meth c H1 locs1 cells slots Q (F0 m (pc + 3) ls st1)) : W p l e R s m args below meth c H locs cells slots Q (F0 m pc ls st0) := by
  subst hst
  have hf : ∀ q, va_A u H.size q → A q := fun q h => by
    rcases h with ⟨k, e, h⟩ | h
    · exact (D_l hD).2 k _ h
    · exact hA q (Nat.le_trans hS.1 h)
  have apart : ∀ (k : Nat) (q : Nat × va_E), v[k]? = some q → q.1 < H.size ∧ ¬ va_A u H.size q.1 := fun k q hq => by
    have hl := (P_r hP k q hq).lt
    refine ⟨hl, fun h => ?_⟩
    rcases h with ⟨k2, e, h⟩ | h
    · exact D_x hD h hq rfl
    · omega
  refine ct_go hr hS hf (fun H1 locs1 h1 h2 h3 h4 => kk H1 locs1 (va_P.app h1 fun k q hq => ?_) (va_D.app (h2.weaken (fun k q _ h => hf q.1 h)) (D_r hD) (fun i j x y hx hy hxy => ?_)) h4)
  · obtain ⟨g1, g2⟩ := apart k q hq
    exact (P_r hP k q hq).kept (h3 q.1 g1 g2)
  · exact (apart j y hy).2 (by rw [← hxy]; exact h2.2 i x hx)
set_option maxRecDepth 100000 in
theorem go_R {H0 : Heap} (hr : CtRun p l e R s m args below meth c H locs cells slots (F0 m pc ls st0) rest g v r v') (hS : va_S A H0 H locs) (hA : ∀ q : Nat, H0.size ≤ q → A q) (hP : va_P g.1 vwCl (u ++ v) H) (hD : va_D A (u ++ v)) {st1 : List Value} (hst : r.toList ++ rest = st1)
    (kk : ∀ (H1 : Heap) (locs1 : List Loc), va_P g.1 vwCl (u ++ v') H1 → va_D A (u ++ v') → va_S A H0 H1 locs1 → W p l e R s m args below meth c H1 locs1 cells slots Q (F0 m (pc + 3) ls st1)) : W p l e R s m args below meth c H locs cells slots Q (F0 m pc ls st0) := by
  subst hst
  have hf : ∀ q, va_A v H.size q → A q := fun q h => by
    rcases h with ⟨k, e, h⟩ | h
    · exact (D_r hD).2 k _ h
    · exact hA q (Nat.le_trans hS.1 h)
  have apart : ∀ (k : Nat) (q : Nat × va_E), u[k]? = some q → q.1 < H.size ∧ ¬ va_A v H.size q.1 := fun k q hq => by
    have hl := (P_l hP k q hq).lt
    refine ⟨hl, fun h => ?_⟩
    rcases h with ⟨k2, e, h⟩ | h
    · exact D_x hD hq h rfl
    · omega
  refine ct_go hr hS hf (fun H1 locs1 h1 h2 h3 h4 => kk H1 locs1 (va_P.app (fun k q hq => ?_) h1) (va_D.app (D_l hD) (h2.weaken (fun k q _ h => hf q.1 h)) (fun i j x y hx hy hxy => ?_)) h4)
  · obtain ⟨g1, g2⟩ := apart k q hq
    exact (P_l hP k q hq).kept (h3 q.1 g1 g2)
  · exact (apart i x hx).2 (by rw [hxy]; exact h2.2 j y hy)
end TWO
