set_option maxHeartbeats 4000000 in
set_option maxRecDepth 100000 in
theorem mX7_addChildren (g : GP) (l : Launch) (aN aN_lefts aN_rights aN_parents aN_rules aN_depths : Nat) (N_size : Int32) (N_solved : Int32) (N_dropped : Int32) (N_lefts : Nat → Int64) (N_rights : Nat → Int64) (N_parents : Nat → Int32) (N_rules : Nat → Int32) (N_depths : Nat → Int32) (x1 : Int32) (N_size_o : Int32) (N_solved_o : Int32) (N_dropped_o : Int32) (N_lefts_o : Nat → Int64) (N_rights_o : Nat → Int64) (N_parents_o : Nat → Int32) (N_rules_o : Nat → Int32) (N_depths_o : Nat → Int32) (h : fN_addChildren N_size N_solved N_dropped N_lefts N_rights N_parents N_rules N_depths x1 = some (N_size_o, N_solved_o, N_dropped_o, N_lefts_o, N_rights_o, N_parents_o, N_rules_o, N_depths_o)) : Ct g l yX7_addChildren cX7_addChildren 6 none rmX7_addChildren [.ref aN, .int x1] (wX7 g aN aN_lefts aN_rights aN_parents aN_rules aN_depths N_size N_solved N_dropped N_lefts N_rights N_parents N_rules N_depths) none (wX7 g aN aN_lefts aN_rights aN_parents aN_rules aN_depths N_size_o N_solved_o N_dropped_o N_lefts_o N_rights_o N_parents_o N_rules_o N_depths_o) := by
  refine Ct.introV (by decide) (Nat.le_of_ble_eq_true rfl) ?_
  intro p e s m below meth c A QQ ls hyp hret
  obtain ⟨hx, hb, hml, hts, hown, hA, hE, hP, hD, hl⟩ := hyp
  have hK := hE.1
  have hS : va_S A s.heap s.heap [] := va_S.rf
  have X : Here g p s m c cX7_addChildren 6 ([.ref aN, .int x1] : List Value).toArray RX7 A := ⟨⟨hx, hb, hml, hown, hts⟩, hE, hA⟩
  have B112 : ∀ (N_size : Int32) (N_solved : Int32) (N_dropped : Int32) (N_lefts : Nat → Int64) (N_rights : Nat → Int64) (N_parents : Nat → Int32) (N_rules : Nat → Int32) (N_depths : Nat → Int32) (v2 : Int32) (v3 : Int32) (v5 : Int32) (ls : Array Slot) (H : Heap) (locs : List Loc), lv_has ls 6 [(0, .ref aN), (1, .int x1), (2, .int v2), (3, .int v3), (5, .int v5)] → va_P g.1 vwCl (wX7 g aN aN_lefts aN_rights aN_parents aN_rules aN_depths N_size N_solved N_dropped N_lefts N_rights N_parents N_rules N_depths) H → va_D A (wX7 g aN aN_lefts aN_rights aN_parents aN_rules aN_depths N_size N_solved N_dropped N_lefts N_rights N_parents N_rules N_depths) → va_S A s.heap H locs → fN_addChildren_112 N_size N_solved N_dropped N_lefts N_rights N_parents N_rules N_depths x1 v2 v3 v5 = some (N_size_o, N_solved_o, N_dropped_o, N_lefts_o, N_rights_o, N_parents_o, N_rules_o, N_depths_o) → W p l e rmX7_addChildren s m ([.ref aN, .int x1] : List Value).toArray below meth c H locs 0 0 QQ (F0 m 112 ls []) := by
    intro N_size N_solved N_dropped N_lefts N_rights N_parents N_rules N_depths v2 v3 v5 ls H locs hl hP hD hS h
    refine lv_iload hx hb dX7_addChildren_112 (lv_at hl 4 rfl) ?_
    refine lv_if_eq (tgt := 129) hx hb dX7_addChildren_114 (by decide) (fun q114 => ?_) (fun q114 => ?_)
    · have h := ifT h q114
      have h : some (N_size, N_solved, N_dropped, N_lefts, N_rights, N_parents, N_rules, N_depths) = some (N_size_o, N_solved_o, N_dropped_o, N_lefts_o, N_rights_o, N_parents_o, N_rules_o, N_depths_o) := h
      cases h
      exact hret _ _ _ _ hP hD hS dX7_addChildren_129
    have h := ifF h q114
    refine lv_iload_n hx hb dX7_addChildren_117 rfl (lv_at hl 2 rfl) ?_
    refine lv_if_eq (tgt := 129) hx hb dX7_addChildren_118 (by decide) (fun q118 => ?_) (fun q118 => ?_)
    · have h := ifT h q118
      have h : some (N_size, N_solved, N_dropped, N_lefts, N_rights, N_parents, N_rules, N_depths) = some (N_size_o, N_solved_o, N_dropped_o, N_lefts_o, N_rights_o, N_parents_o, N_rules_o, N_depths_o) := h
      cases h
      exact hret _ _ _ _ hP hD hS dX7_addChildren_129
    have h := ifF h q118
    refine lv_aload_n hx hb dX7_addChildren_121 rfl (lv_at hl 0 rfl) ?_
    refine lv_iload_n hx hb dX7_addChildren_122 rfl (lv_at hl 1 rfl) ?_
    refine lv_iconst (v := (4 : Int32)) hx hb dX7_addChildren_123 (by decide) ?_
    refine lv_iload_n hx hb dX7_addChildren_124 rfl (lv_at hl 3 rfl) ?_
    refine lv_iload_n hx hb dX7_addChildren_125 rfl (lv_at hl 2 rfl) ?_
    obtain ⟨N_size_126, N_solved_126, N_dropped_126, N_lefts_126, N_rights_126, N_parents_126, N_rules_126, N_depths_126, hc126, h⟩ := bd8_to h
    refine go_A (st1 := []) (run_V (As := [.int x1, .int (4 : Int32), .int v3, .int v2]) (rest := []) X hS (mX7_addLonger g l  aN aN_lefts aN_rights aN_parents aN_rules aN_depths N_size N_solved N_dropped N_lefts N_rights N_parents N_rules N_depths x1 (4 : Int32) v3 v2 N_size_126 N_solved_126 N_dropped_126 N_lefts_126 N_rights_126 N_parents_126 N_rules_126 N_depths_126 hc126) okX7_addLonger wd4_59 ⟨Nat.le_of_ble_eq_true rfl, Nat.le_of_ble_eq_true rfl⟩ ⟨rfl, rfl⟩ (va_recv hK hP (ci := 7) (q0 := 0) rfl rfl) hP hD (all_F hS hA hD) rfl hl.1 rfl (Nat.le_of_ble_eq_true rfl) dX7_addChildren_126 ⟨Nat.zero_le _, Nat.zero_le _⟩) hS (all_F hS hA hD) rfl (fun H locs hP hD hS => ?_)
    have h : some (N_size_126, N_solved_126, N_dropped_126, N_lefts_126, N_rights_126, N_parents_126, N_rules_126, N_depths_126) = some (N_size_o, N_solved_o, N_dropped_o, N_lefts_o, N_rights_o, N_parents_o, N_rules_o, N_depths_o) := h
    cases h
    exact hret _ _ _ _ hP hD hS dX7_addChildren_129
  have B95 : ∀ (N_size : Int32) (N_solved : Int32) (N_dropped : Int32) (N_lefts : Nat → Int64) (N_rights : Nat → Int64) (N_parents : Nat → Int32) (N_rules : Nat → Int32) (N_depths : Nat → Int32) (v2 : Int32) (v3 : Int32) (v4 : Int32) (v5 : Int32) (ls : Array Slot) (H : Heap) (locs : List Loc), lv_has ls 6 [(0, .ref aN), (1, .int x1), (2, .int v2), (3, .int v3), (4, .int v4), (5, .int v5)] → va_P g.1 vwCl (wX7 g aN aN_lefts aN_rights aN_parents aN_rules aN_depths N_size N_solved N_dropped N_lefts N_rights N_parents N_rules N_depths) H → va_D A (wX7 g aN aN_lefts aN_rights aN_parents aN_rules aN_depths N_size N_solved N_dropped N_lefts N_rights N_parents N_rules N_depths) → va_S A s.heap H locs → fN_addChildren_95 N_size N_solved N_dropped N_lefts N_rights N_parents N_rules N_depths x1 v2 v3 v4 v5 = some (N_size_o, N_solved_o, N_dropped_o, N_lefts_o, N_rights_o, N_parents_o, N_rules_o, N_depths_o) → W p l e rmX7_addChildren s m ([.ref aN, .int x1] : List Value).toArray below meth c H locs 0 0 QQ (F0 m 95 ls []) := by
    intro N_size N_solved N_dropped N_lefts N_rights N_parents N_rules N_depths v2 v3 v4 v5 ls H locs hl hP hD hS h
    refine lv_iload hx hb dX7_addChildren_95 (lv_at hl 4 rfl) ?_
    refine lv_if_eq (tgt := 112) hx hb dX7_addChildren_97 (by decide) (fun q97 => ?_) (fun q97 => ?_)
    · have h := ifT h q97
      exact B112 N_size N_solved N_dropped N_lefts N_rights N_parents N_rules N_depths v2 v3 v5 ls H locs (lv_sub hl [0, 1, 2, 3, 5] rfl) hP hD hS h
    have h := ifF h q97
    refine lv_iload_n hx hb dX7_addChildren_100 rfl (lv_at hl 3 rfl) ?_
    refine lv_if_eq (tgt := 112) hx hb dX7_addChildren_101 (by decide) (fun q101 => ?_) (fun q101 => ?_)
    · have h := ifT h q101
      exact B112 N_size N_solved N_dropped N_lefts N_rights N_parents N_rules N_depths v2 v3 v5 ls H locs (lv_sub hl [0, 1, 2, 3, 5] rfl) hP hD hS h
    have h := ifF h q101
    refine lv_aload_n hx hb dX7_addChildren_104 rfl (lv_at hl 0 rfl) ?_
    refine lv_iload_n hx hb dX7_addChildren_105 rfl (lv_at hl 1 rfl) ?_
    refine lv_iconst (v := (3 : Int32)) hx hb dX7_addChildren_106 (by decide) ?_
    refine lv_iload_n hx hb dX7_addChildren_107 rfl (lv_at hl 2 rfl) ?_
    refine lv_iload_n hx hb dX7_addChildren_108 rfl (lv_at hl 3 rfl) ?_
    obtain ⟨N_size_109, N_solved_109, N_dropped_109, N_lefts_109, N_rights_109, N_parents_109, N_rules_109, N_depths_109, hc109, h⟩ := bd8_to h
    refine go_A (st1 := []) (run_V (As := [.int x1, .int (3 : Int32), .int v2, .int v3]) (rest := []) X hS (mX7_addLonger g l  aN aN_lefts aN_rights aN_parents aN_rules aN_depths N_size N_solved N_dropped N_lefts N_rights N_parents N_rules N_depths x1 (3 : Int32) v2 v3 N_size_109 N_solved_109 N_dropped_109 N_lefts_109 N_rights_109 N_parents_109 N_rules_109 N_depths_109 hc109) okX7_addLonger wd4_59 ⟨Nat.le_of_ble_eq_true rfl, Nat.le_of_ble_eq_true rfl⟩ ⟨rfl, rfl⟩ (va_recv hK hP (ci := 7) (q0 := 0) rfl rfl) hP hD (all_F hS hA hD) rfl hl.1 rfl (Nat.le_of_ble_eq_true rfl) dX7_addChildren_109 ⟨Nat.zero_le _, Nat.zero_le _⟩) hS (all_F hS hA hD) rfl (fun H locs hP hD hS => ?_)
    exact B112 N_size_109 N_solved_109 N_dropped_109 N_lefts_109 N_rights_109 N_parents_109 N_rules_109 N_depths_109 v2 v3 v5 ls H locs (lv_sub hl [0, 1, 2, 3, 5] rfl) hP hD hS h
  have B83 : ∀ (N_size : Int32) (N_solved : Int32) (N_dropped : Int32) (N_lefts : Nat → Int64) (N_rights : Nat → Int64) (N_parents : Nat → Int32) (N_rules : Nat → Int32) (N_depths : Nat → Int32) (v2 : Int32) (v3 : Int32) (v4 : Int32) (v5 : Int32) (ls : Array Slot) (H : Heap) (locs : List Loc), lv_has ls 6 [(0, .ref aN), (1, .int x1), (2, .int v2), (3, .int v3), (4, .int v4), (5, .int v5)] → va_P g.1 vwCl (wX7 g aN aN_lefts aN_rights aN_parents aN_rules aN_depths N_size N_solved N_dropped N_lefts N_rights N_parents N_rules N_depths) H → va_D A (wX7 g aN aN_lefts aN_rights aN_parents aN_rules aN_depths N_size N_solved N_dropped N_lefts N_rights N_parents N_rules N_depths) → va_S A s.heap H locs → fN_addChildren_83 N_size N_solved N_dropped N_lefts N_rights N_parents N_rules N_depths x1 v2 v3 v4 v5 = some (N_size_o, N_solved_o, N_dropped_o, N_lefts_o, N_rights_o, N_parents_o, N_rules_o, N_depths_o) → W p l e rmX7_addChildren s m ([.ref aN, .int x1] : List Value).toArray below meth c H locs 0 0 QQ (F0 m 83 ls []) := by
    intro N_size N_solved N_dropped N_lefts N_rights N_parents N_rules N_depths v2 v3 v4 v5 ls H locs hl hP hD hS h
    refine lv_iload hx hb dX7_addChildren_83 (lv_at hl 5 rfl) ?_
    refine lv_if_eq (tgt := 95) hx hb dX7_addChildren_85 (by decide) (fun q85 => ?_) (fun q85 => ?_)
    · have h := ifT h q85
      exact B95 N_size N_solved N_dropped N_lefts N_rights N_parents N_rules N_depths v2 v3 v4 v5 ls H locs (lv_sub hl [0, 1, 2, 3, 4, 5] rfl) hP hD hS h
    have h := ifF h q85
    refine lv_aload_n hx hb dX7_addChildren_88 rfl (lv_at hl 0 rfl) ?_
    refine lv_iload_n hx hb dX7_addChildren_89 rfl (lv_at hl 1 rfl) ?_
    refine lv_iconst (v := (2 : Int32)) hx hb dX7_addChildren_90 (by decide) ?_
    refine lv_iload_n hx hb dX7_addChildren_91 rfl (lv_at hl 3 rfl) ?_
    obtain ⟨N_size_92, N_solved_92, N_dropped_92, N_lefts_92, N_rights_92, N_parents_92, N_rules_92, N_depths_92, hc92, h⟩ := bd8_to h
    refine go_A (st1 := []) (run_V (As := [.int x1, .int (2 : Int32), .int v3]) (rest := []) X hS (mX7_addWithout g l  aN aN_lefts aN_rights aN_parents aN_rules aN_depths N_size N_solved N_dropped N_lefts N_rights N_parents N_rules N_depths x1 (2 : Int32) v3 N_size_92 N_solved_92 N_dropped_92 N_lefts_92 N_rights_92 N_parents_92 N_rules_92 N_depths_92 hc92) okX7_addWithout wd4_54 ⟨Nat.le_of_ble_eq_true rfl, Nat.le_of_ble_eq_true rfl⟩ ⟨rfl, rfl⟩ (va_recv hK hP (ci := 7) (q0 := 0) rfl rfl) hP hD (all_F hS hA hD) rfl hl.1 rfl (Nat.le_of_ble_eq_true rfl) dX7_addChildren_92 ⟨Nat.zero_le _, Nat.zero_le _⟩) hS (all_F hS hA hD) rfl (fun H locs hP hD hS => ?_)
    exact B95 N_size_92 N_solved_92 N_dropped_92 N_lefts_92 N_rights_92 N_parents_92 N_rules_92 N_depths_92 v2 v3 v4 v5 ls H locs (lv_sub hl [0, 1, 2, 3, 4, 5] rfl) hP hD hS h
  have hl : lv_has ls 6 [(0, .ref aN), (1, .int x1)] := hl
  obtain ⟨H, hH⟩ : ∃ H, H = s.heap := ⟨_, rfl⟩
  obtain ⟨locs, hlocs⟩ : ∃ l : List Loc, l = [] := ⟨_, rfl⟩
  rw [show W p l e rmX7_addChildren s m ([.ref aN, .int x1] : List Value).toArray below meth c s.heap [] 0 0 QQ (F0 m 0 ls []) = W p l e rmX7_addChildren s m ([.ref aN, .int x1] : List Value).toArray below meth c H locs 0 0 QQ (F0 m 0 ls []) by rw [hH, hlocs]]
  have hP : va_P g.1 vwCl (wX7 g aN aN_lefts aN_rights aN_parents aN_rules aN_depths N_size N_solved N_dropped N_lefts N_rights N_parents N_rules N_depths) H := by rw [hH]; exact hP
  have hD : va_D A (wX7 g aN aN_lefts aN_rights aN_parents aN_rules aN_depths N_size N_solved N_dropped N_lefts N_rights N_parents N_rules N_depths) := hD
  have hS : va_S A s.heap H locs := by rw [hH, hlocs]; exact hS
  clear hH hlocs
  refine lv_aload_n hx hb dX7_addChildren_0 rfl (lv_at hl 0 rfl) ?_
  refine lv_iload_n hx hb dX7_addChildren_1 rfl (lv_at hl 1 rfl) ?_
  obtain ⟨t2, hc2, h⟩ := bd1_to h
  refine go_A (st1 := [.int t2]) (run_V (As := [.int x1]) (rest := []) X hS (mX7_isNode g l  aN aN_lefts aN_rights aN_parents aN_rules aN_depths N_size N_solved N_dropped N_lefts N_rights N_parents N_rules N_depths x1 t2 hc2) okX7_isNode wd4_43 ⟨Nat.le_of_ble_eq_true rfl, Nat.le_of_ble_eq_true rfl⟩ ⟨rfl, rfl⟩ (va_recv hK hP (ci := 7) (q0 := 0) rfl rfl) hP hD (all_F hS hA hD) rfl hl.1 rfl (Nat.le_of_ble_eq_true rfl) dX7_addChildren_2 ⟨Nat.zero_le _, Nat.zero_le _⟩) hS (all_F hS hA hD) rfl (fun H locs hP hD hS => ?_)
  refine lv_if_ne (tgt := 9) hx hb dX7_addChildren_5 (by decide) (fun q5 => ?_) (fun q5 => ?_)
  · have h := ifF h q5
    refine lv_aload_n hx hb dX7_addChildren_9 rfl (lv_at hl 0 rfl) ?_
    refine va_get (D := g.1) (ci := 7) (v := .ref aN_lefts) (C := RX7) (T := TX7) (N := 8) hx hb hts inBX7 hown hK hP 0 rfl rfl 0 (by decide) (hts _ wd1_189) (fun _ h9 => h9) rfl dX7_addChildren_10 ?_
    refine lv_iload_n hx hb dX7_addChildren_13 rfl (lv_at hl 1 rfl) ?_
    have hin := ld_in h
    refine va_lald hx hb hK hP 1 1 rfl rfl hin dX7_addChildren_14 ?_
    refine lv_topl (fun t14 et14 => ?_)
    have h := ld_to h et14
    obtain ⟨t15, hc15, h⟩ := bd1_to h
    refine go_0 (st1 := [.int t15]) (run_S (As := [.long t14]) (rest := []) X hS (mX9_head g l  t14 t15 hc15) okX9_head wd4_51 ⟨Nat.le_of_ble_eq_true rfl, Nat.le_of_ble_eq_true rfl⟩ ⟨rfl, rfl⟩ nil_P nil_D (nil_F hS hA) rfl hl.1 rfl (Nat.le_of_ble_eq_true rfl) dX7_addChildren_15 ⟨Nat.zero_le _, Nat.zero_le _⟩) hS hA hP rfl (fun H locs hP hS => ?_)
    refine lv_istore_n (lv' := [(2, .int t15), (0, .ref aN), (1, .int x1)]) hx hb dX7_addChildren_18 rfl hl (by decide) rfl (fun ls hl => ?_)
    refine lv_aload_n hx hb dX7_addChildren_19 rfl (lv_at hl 1 rfl) ?_
    refine va_get (D := g.1) (ci := 7) (v := .ref aN_rights) (C := RX7) (T := TX7) (N := 8) hx hb hts inBX7 hown hK hP 0 rfl rfl 1 (by decide) (hts _ wd1_190) (fun _ h9 => h9) rfl dX7_addChildren_20 ?_
    refine lv_iload_n hx hb dX7_addChildren_23 rfl (lv_at hl 2 rfl) ?_
    have hin := ld_in h
    refine va_lald hx hb hK hP 2 1 rfl rfl hin dX7_addChildren_24 ?_
    refine lv_topl (fun t24 et24 => ?_)
    have h := ld_to h et24
    obtain ⟨t25, hc25, h⟩ := bd1_to h
    refine go_0 (st1 := [.int t25]) (run_S (As := [.long t24]) (rest := []) X hS (mX9_head g l  t24 t25 hc25) okX9_head wd4_51 ⟨Nat.le_of_ble_eq_true rfl, Nat.le_of_ble_eq_true rfl⟩ ⟨rfl, rfl⟩ nil_P nil_D (nil_F hS hA) rfl hl.1 rfl (Nat.le_of_ble_eq_true rfl) dX7_addChildren_25 ⟨Nat.zero_le _, Nat.zero_le _⟩) hS hA hP rfl (fun H locs hP hS => ?_)
    refine lv_istore_n (lv' := [(3, .int t25), (2, .int t15), (0, .ref aN), (1, .int x1)]) hx hb dX7_addChildren_28 rfl hl (by decide) rfl (fun ls hl => ?_)
    refine lv_iload_n hx hb dX7_addChildren_29 rfl (lv_at hl 1 rfl) ?_
    refine lv_iload_n hx hb dX7_addChildren_30 rfl (lv_at hl 0 rfl) ?_
    refine lv_icmp_ne (tgt := 59) hx hb dX7_addChildren_31 (by decide) (fun q31 => ?_) (fun q31 => ?_)
    · have h := ifF h q31
      refine lv_iload_n hx hb dX7_addChildren_59 rfl (lv_at hl 1 rfl) ?_
      obtain ⟨t60, hc60, h⟩ := bd1_to h
      refine go_0 (st1 := [.int t60]) (run_S (As := [.int t15]) (rest := []) X hS (mX9_isVariableSymbol g l  t15 t60 hc60) okX9_isVariableSymbol wd4_53 ⟨Nat.le_of_ble_eq_true rfl, Nat.le_of_ble_eq_true rfl⟩ ⟨rfl, rfl⟩ nil_P nil_D (nil_F hS hA) rfl hl.1 rfl (Nat.le_of_ble_eq_true rfl) dX7_addChildren_60 ⟨Nat.zero_le _, Nat.zero_le _⟩) hS hA hP rfl (fun H locs hP hS => ?_)
      refine lv_istore (lv' := [(4, .int t60), (3, .int t25), (2, .int t15), (0, .ref aN), (1, .int x1)]) hx hb dX7_addChildren_63 hl (by decide) rfl (fun ls hl => ?_)
      refine lv_iload_n hx hb dX7_addChildren_65 rfl (lv_at hl 1 rfl) ?_
      obtain ⟨t66, hc66, h⟩ := bd1_to h
      refine go_0 (st1 := [.int t66]) (run_S (As := [.int t25]) (rest := []) X hS (mX9_isVariableSymbol g l  t25 t66 hc66) okX9_isVariableSymbol wd4_53 ⟨Nat.le_of_ble_eq_true rfl, Nat.le_of_ble_eq_true rfl⟩ ⟨rfl, rfl⟩ nil_P nil_D (nil_F hS hA) rfl hl.1 rfl (Nat.le_of_ble_eq_true rfl) dX7_addChildren_66 ⟨Nat.zero_le _, Nat.zero_le _⟩) hS hA hP rfl (fun H locs hP hS => ?_)
      refine lv_istore (lv' := [(5, .int t66), (4, .int t60), (3, .int t25), (2, .int t15), (0, .ref aN), (1, .int x1)]) hx hb dX7_addChildren_69 hl (by decide) rfl (fun ls hl => ?_)
      refine lv_iload hx hb dX7_addChildren_71 (lv_at hl 1 rfl) ?_
      refine lv_if_eq (tgt := 83) hx hb dX7_addChildren_73 (by decide) (fun q73 => ?_) (fun q73 => ?_)
      · have h := ifT h q73
        exact B83 N_size N_solved N_dropped N_lefts N_rights N_parents N_rules N_depths t15 t25 t60 t66 ls H locs (lv_sub hl [4, 5, 3, 2, 1, 0] rfl) hP hD hS h
      have h := ifF h q73
      refine lv_aload_n hx hb dX7_addChildren_76 rfl (lv_at hl 4 rfl) ?_
      refine lv_iload_n hx hb dX7_addChildren_77 rfl (lv_at hl 5 rfl) ?_
      refine lv_iconst (v := (1 : Int32)) hx hb dX7_addChildren_78 (by decide) ?_
      refine lv_iload_n hx hb dX7_addChildren_79 rfl (lv_at hl 3 rfl) ?_
      obtain ⟨N_size_80, N_solved_80, N_dropped_80, N_lefts_80, N_rights_80, N_parents_80, N_rules_80, N_depths_80, hc80, h⟩ := bd8_to h
      refine go_A (st1 := []) (run_V (As := [.int x1, .int (1 : Int32), .int t15]) (rest := []) X hS (mX7_addWithout g l  aN aN_lefts aN_rights aN_parents aN_rules aN_depths N_size N_solved N_dropped N_lefts N_rights N_parents N_rules N_depths x1 (1 : Int32) t15 N_size_80 N_solved_80 N_dropped_80 N_lefts_80 N_rights_80 N_parents_80 N_rules_80 N_depths_80 hc80) okX7_addWithout wd4_54 ⟨Nat.le_of_ble_eq_true rfl, Nat.le_of_ble_eq_true rfl⟩ ⟨rfl, rfl⟩ (va_recv hK hP (ci := 7) (q0 := 0) rfl rfl) hP hD (all_F hS hA hD) rfl hl.1 rfl (Nat.le_of_ble_eq_true rfl) dX7_addChildren_80 ⟨Nat.zero_le _, Nat.zero_le _⟩) hS (all_F hS hA hD) rfl (fun H locs hP hD hS => ?_)
      exact B83 N_size_80 N_solved_80 N_dropped_80 N_lefts_80 N_rights_80 N_parents_80 N_rules_80 N_depths_80 t15 t25 t60 t66 ls H locs (lv_sub hl [4, 5, 3, 2, 1, 0] rfl) hP hD hS h
    have h := ifT h q31
    refine lv_aload_n hx hb dX7_addChildren_34 rfl (lv_at hl 2 rfl) ?_
    refine lv_iload_n hx hb dX7_addChildren_35 rfl (lv_at hl 3 rfl) ?_
    refine lv_iconst (v := (0 : Int32)) hx hb dX7_addChildren_36 (by decide) ?_
    refine lv_aload_n hx hb dX7_addChildren_37 rfl (lv_at hl 2 rfl) ?_
    refine va_get (D := g.1) (ci := 7) (v := .ref aN_lefts) (C := RX7) (T := TX7) (N := 8) hx hb hts inBX7 hown hK hP 0 rfl rfl 0 (by decide) (hts _ wd1_189) (fun _ h9 => h9) rfl dX7_addChildren_38 ?_
    refine lv_iload_n hx hb dX7_addChildren_41 rfl (lv_at hl 3 rfl) ?_
    have hin := ld_in h
    refine va_lald hx hb hK hP 1 1 rfl rfl hin dX7_addChildren_42 ?_
    refine lv_topl (fun t42 et42 => ?_)
    have h := ld_to h et42
    obtain ⟨t43, hc43, h⟩ := bd1_to h
    refine go_0 (st1 := [.long t43, .int (0 : Int32), .int x1, .ref aN]) (run_S (As := [.long t42]) (rest := [.int (0 : Int32), .int x1, .ref aN]) X hS (mX9_tail g l  t42 t43 hc43) okX9_tail wd4_52 ⟨Nat.le_of_ble_eq_true rfl, Nat.le_of_ble_eq_true rfl⟩ ⟨rfl, rfl⟩ nil_P nil_D (nil_F hS hA) rfl hl.1 rfl (Nat.le_of_ble_eq_true rfl) dX7_addChildren_43 ⟨Nat.zero_le _, Nat.zero_le _⟩) hS hA hP rfl (fun H locs hP hS => ?_)
    refine lv_aload_n hx hb dX7_addChildren_46 rfl (lv_at hl 2 rfl) ?_
    refine va_get (D := g.1) (ci := 7) (v := .ref aN_rights) (C := RX7) (T := TX7) (N := 8) hx hb hts inBX7 hown hK hP 0 rfl rfl 1 (by decide) (hts _ wd1_190) (fun _ h9 => h9) rfl dX7_addChildren_47 ?_
    refine lv_iload_n hx hb dX7_addChildren_50 rfl (lv_at hl 3 rfl) ?_
    have hin := ld_in h
    refine va_lald hx hb hK hP 2 1 rfl rfl hin dX7_addChildren_51 ?_
    refine lv_topl (fun t51 et51 => ?_)
    have h := ld_to h et51
    obtain ⟨t52, hc52, h⟩ := bd1_to h
    refine go_0 (st1 := [.long t52, .long t43, .int (0 : Int32), .int x1, .ref aN]) (run_S (As := [.long t51]) (rest := [.long t43, .int (0 : Int32), .int x1, .ref aN]) X hS (mX9_tail g l  t51 t52 hc52) okX9_tail wd4_52 ⟨Nat.le_of_ble_eq_true rfl, Nat.le_of_ble_eq_true rfl⟩ ⟨rfl, rfl⟩ nil_P nil_D (nil_F hS hA) rfl hl.1 rfl (Nat.le_of_ble_eq_true rfl) dX7_addChildren_52 ⟨Nat.zero_le _, Nat.zero_le _⟩) hS hA hP rfl (fun H locs hP hS => ?_)
    obtain ⟨N_size_55, N_solved_55, N_dropped_55, N_lefts_55, N_rights_55, N_parents_55, N_rules_55, N_depths_55, hc55, h⟩ := bd8_to h
    refine go_A (st1 := []) (run_V (As := [.int x1, .int (0 : Int32), .long t43, .long t52]) (rest := []) X hS (mX7_addNode g l  aN aN_lefts aN_rights aN_parents aN_rules aN_depths N_size N_solved N_dropped N_lefts N_rights N_parents N_rules N_depths x1 (0 : Int32) t43 t52 N_size_55 N_solved_55 N_dropped_55 N_lefts_55 N_rights_55 N_parents_55 N_rules_55 N_depths_55 hc55) okX7_addNode wd4_35 ⟨Nat.le_of_ble_eq_true rfl, Nat.le_of_ble_eq_true rfl⟩ ⟨rfl, rfl⟩ (va_recv hK hP (ci := 7) (q0 := 0) rfl rfl) hP hD (all_F hS hA hD) rfl hl.1 rfl (Nat.le_of_ble_eq_true rfl) dX7_addChildren_55 ⟨Nat.zero_le _, Nat.zero_le _⟩) hS (all_F hS hA hD) rfl (fun H locs hP hD hS => ?_)
    have h : some (N_size_55, N_solved_55, N_dropped_55, N_lefts_55, N_rights_55, N_parents_55, N_rules_55, N_depths_55) = some (N_size_o, N_solved_o, N_dropped_o, N_lefts_o, N_rights_o, N_parents_o, N_rules_o, N_depths_o) := h
    cases h
    exact hret _ _ _ _ hP hD hS dX7_addChildren_58
  have h := ifT h q5
  have h : some (N_size, N_solved, N_dropped, N_lefts, N_rights, N_parents, N_rules, N_depths) = some (N_size_o, N_solved_o, N_dropped_o, N_lefts_o, N_rights_o, N_parents_o, N_rules_o, N_depths_o) := h
  cases h
  exact hret _ _ _ _ hP hD hS dX7_addChildren_8
set_option maxHeartbeats 4000000 in
set_option maxRecDepth 100000 in
theorem mX7_answerFor (g : GP) (l : Launch) (aN aN_lefts aN_rights aN_parents aN_rules aN_depths aE : Nat) (N_size : Int32) (N_solved : Int32) (N_dropped : Int32) (N_lefts : Nat → Int64) (N_rights : Nat → Int64) (N_parents : Nat → Int32) (N_rules : Nat → Int32) (N_depths : Nat → Int32) (E_left : Int64) (E_right : Int64)  (r : Int32) (N_size_o : Int32) (N_solved_o : Int32) (N_dropped_o : Int32) (N_lefts_o : Nat → Int64) (N_rights_o : Nat → Int64) (N_parents_o : Nat → Int32) (N_rules_o : Nat → Int32) (N_depths_o : Nat → Int32) (h : fN_answerFor N_lefts N_rights N_parents N_rules N_depths E_left E_right = some (r, N_size_o, N_solved_o, N_dropped_o, N_lefts_o, N_rights_o, N_parents_o, N_rules_o, N_depths_o)) : Ct g l yX7_answerFor cX7_answerFor 3 (some .int) rmX7_answerFor [.ref aN, .ref aE] ((wX7 g aN aN_lefts aN_rights aN_parents aN_rules aN_depths N_size N_solved N_dropped N_lefts N_rights N_parents N_rules N_depths) ++ (wX2 g aE E_left E_right)) (some (.int r)) ((wX7 g aN aN_lefts aN_rights aN_parents aN_rules aN_depths N_size_o N_solved_o N_dropped_o N_lefts_o N_rights_o N_parents_o N_rules_o N_depths_o) ++ (wX2 g aE E_left E_right)) := by
  refine Ct.introI (by decide) (Nat.le_of_ble_eq_true rfl) ?_
  intro p e s m below meth c A QQ ls hyp hret
  obtain ⟨hx, hb, hml, hts, hown, hA, hE, hP, hD, hl⟩ := hyp
  have hK := hE.1
  have hS : va_S A s.heap s.heap [] := va_S.rf
  have X : Here g p s m c cX7_answerFor 3 ([.ref aN, .ref aE] : List Value).toArray RX7 A := ⟨⟨hx, hb, hml, hown, hts⟩, hE, hA⟩
  have B65 : ∀ (N_size : Int32) (N_solved : Int32) (N_dropped : Int32) (N_lefts : Nat → Int64) (N_rights : Nat → Int64) (N_parents : Nat → Int32) (N_rules : Nat → Int32) (N_depths : Nat → Int32) (ls : Array Slot) (H : Heap) (locs : List Loc), lv_has ls 3 [(0, .ref aN)] → va_P g.1 vwCl ((wX7 g aN aN_lefts aN_rights aN_parents aN_rules aN_depths N_size N_solved N_dropped N_lefts N_rights N_parents N_rules N_depths) ++ (wX2 g aE E_left E_right)) H → va_D A ((wX7 g aN aN_lefts aN_rights aN_parents aN_rules aN_depths N_size N_solved N_dropped N_lefts N_rights N_parents N_rules N_depths) ++ (wX2 g aE E_left E_right)) → va_S A s.heap H locs → fN_answerFor_65 N_size N_solved N_dropped N_lefts N_rights N_parents N_rules N_depths = some (r, N_size_o, N_solved_o, N_dropped_o, N_lefts_o, N_rights_o, N_parents_o, N_rules_o, N_depths_o) → W p l e rmX7_answerFor s m ([.ref aN, .ref aE] : List Value).toArray below meth c H locs 0 0 QQ (F0 m 65 ls []) := by
    intro N_size N_solved N_dropped N_lefts N_rights N_parents N_rules N_depths ls H locs hl hP hD hS h
    refine lv_aload_n hx hb dX7_answerFor_65 rfl (lv_at hl 0 rfl) ?_
    refine va_get (D := g.1) (ci := 7) (v := .int N_solved) (C := RX7) (T := TX7) (N := 8) hx hb hts inBX7 hown hK hP 0 rfl rfl 6 (by decide) (hts _ wd1_195) (fun _ h9 => h9) rfl dX7_answerFor_66 ?_
    refine lv_iconst (v := ((-1) : Int32)) hx hb dX7_answerFor_69 (by decide) ?_
    refine lv_icmp_eq (tgt := 75) hx hb dX7_answerFor_70 (by decide) (fun q70 => ?_) (fun q70 => ?_)
    · have h := ifT h q70
      refine lv_aload_n hx hb dX7_answerFor_75 rfl (lv_at hl 0 rfl) ?_
      refine va_get (D := g.1) (ci := 7) (v := .int N_dropped) (C := RX7) (T := TX7) (N := 8) hx hb hts inBX7 hown hK hP 0 rfl rfl 7 (by decide) (hts _ wd1_196) (fun _ h9 => h9) rfl dX7_answerFor_76 ?_
      refine lv_if_eq (tgt := 86) hx hb dX7_answerFor_79 (by decide) (fun q79 => ?_) (fun q79 => ?_)
      · have h := ifT h q79
        refine lv_iconst (v := (0 : Int32)) hx hb dX7_answerFor_86 (by decide) ?_
        have h : some ((0 : Int32), N_size, N_solved, N_dropped, N_lefts, N_rights, N_parents, N_rules, N_depths) = some (r, N_size_o, N_solved_o, N_dropped_o, N_lefts_o, N_rights_o, N_parents_o, N_rules_o, N_depths_o) := h
        cases h
        exact hret _ _ _ _ hP hD hS dX7_answerFor_87
      have h := ifF h q79
      refine lv_iconst (v := (2 : Int32)) hx hb dX7_answerFor_82 (by decide) ?_
      refine lv_goto (tgt := 87) hx hb dX7_answerFor_83 (by decide) ?_
      have h : some ((2 : Int32), N_size, N_solved, N_dropped, N_lefts, N_rights, N_parents, N_rules, N_depths) = some (r, N_size_o, N_solved_o, N_dropped_o, N_lefts_o, N_rights_o, N_parents_o, N_rules_o, N_depths_o) := h
      cases h
      exact hret _ _ _ _ hP hD hS dX7_answerFor_87
    have h := ifF h q70
    refine lv_iconst (v := (1 : Int32)) hx hb dX7_answerFor_73 (by decide) ?_
    have h : some ((1 : Int32), N_size, N_solved, N_dropped, N_lefts, N_rights, N_parents, N_rules, N_depths) = some (r, N_size_o, N_solved_o, N_dropped_o, N_lefts_o, N_rights_o, N_parents_o, N_rules_o, N_depths_o) := h
    cases h
    exact hret _ _ _ _ hP hD hS dX7_answerFor_74
  have L31 : ∀ (n31 : Nat), ∀ (N_size : Int32) (N_solved : Int32) (N_dropped : Int32) (N_lefts : Nat → Int64) (N_rights : Nat → Int64) (N_parents : Nat → Int32) (N_rules : Nat → Int32) (N_depths : Nat → Int32) (v2 : Int32) (ls : Array Slot) (H : Heap) (locs : List Loc), lv_has ls 3 [(0, .ref aN), (2, .int v2)] → va_P g.1 vwCl ((wX7 g aN aN_lefts aN_rights aN_parents aN_rules aN_depths N_size N_solved N_dropped N_lefts N_rights N_parents N_rules N_depths) ++ (wX2 g aE E_left E_right)) H → va_D A ((wX7 g aN aN_lefts aN_rights aN_parents aN_rules aN_depths N_size N_solved N_dropped N_lefts N_rights N_parents N_rules N_depths) ++ (wX2 g aE E_left E_right)) → va_S A s.heap H locs → fx9 (fN_answerFor_31) n31 N_size N_solved N_dropped N_lefts N_rights N_parents N_rules N_depths v2 = some (r, N_size_o, N_solved_o, N_dropped_o, N_lefts_o, N_rights_o, N_parents_o, N_rules_o, N_depths_o) → W p l e rmX7_answerFor s m ([.ref aN, .ref aE] : List Value).toArray below meth c H locs 0 0 QQ (F0 m 31 ls []) := by
    intro n31
    induction n31 with
    | zero => intro N_size N_solved N_dropped N_lefts N_rights N_parents N_rules N_depths v2 ls H locs hl hP hD hS h; exact fx9_0 h
    | succ n31 ih31 =>
      intro N_size N_solved N_dropped N_lefts N_rights N_parents N_rules N_depths v2 ls H locs hl hP hD hS h
      have h := (fx9_s (fN_answerFor_31) n31 N_size N_solved N_dropped N_lefts N_rights N_parents N_rules N_depths v2).symm.trans h
      refine lv_iload_n hx hb dX7_answerFor_31 rfl (lv_at hl 1 rfl) ?_
      refine lv_sipush (v := (200 : Int32)) hx hb dX7_answerFor_32 (by decide) ?_
      refine lv_icmp_ge (tgt := 65) hx hb dX7_answerFor_35 (by decide) (fun q35 => ?_) (fun q35 => ?_)
      · have h := ifT h q35
        exact B65 N_size N_solved N_dropped N_lefts N_rights N_parents N_rules N_depths ls H locs (lv_sub hl [0] rfl) hP hD hS h
      have h := ifF h q35
      refine lv_iload_n hx hb dX7_answerFor_38 rfl (lv_at hl 1 rfl) ?_
      refine lv_aload_n hx hb dX7_answerFor_39 rfl (lv_at hl 0 rfl) ?_
      refine va_get (D := g.1) (ci := 7) (v := .int N_size) (C := RX7) (T := TX7) (N := 8) hx hb hts inBX7 hown hK hP 0 rfl rfl 5 (by decide) (hts _ wd1_194) (fun _ h9 => h9) rfl dX7_answerFor_40 ?_
      refine lv_icmp_ge (tgt := 65) hx hb dX7_answerFor_43 (by decide) (fun q43 => ?_) (fun q43 => ?_)
      · have h := ifT h q43
        exact B65 N_size N_solved N_dropped N_lefts N_rights N_parents N_rules N_depths ls H locs (lv_sub hl [0] rfl) hP hD hS h
      have h := ifF h q43
      refine lv_aload_n hx hb dX7_answerFor_46 rfl (lv_at hl 0 rfl) ?_
      refine va_get (D := g.1) (ci := 7) (v := .int N_solved) (C := RX7) (T := TX7) (N := 8) hx hb hts inBX7 hown hK hP 0 rfl rfl 6 (by decide) (hts _ wd1_195) (fun _ h9 => h9) rfl dX7_answerFor_47 ?_
      refine lv_iconst (v := ((-1) : Int32)) hx hb dX7_answerFor_50 (by decide) ?_
      refine lv_icmp_ne (tgt := 65) hx hb dX7_answerFor_51 (by decide) (fun q51 => ?_) (fun q51 => ?_)
      · have h := ifF h q51
        exact B65 N_size N_solved N_dropped N_lefts N_rights N_parents N_rules N_depths ls H locs (lv_sub hl [0] rfl) hP hD hS h
      have h := ifT h q51
      refine lv_aload_n hx hb dX7_answerFor_54 rfl (lv_at hl 0 rfl) ?_
      refine lv_iload_n hx hb dX7_answerFor_55 rfl (lv_at hl 1 rfl) ?_
      obtain ⟨N_size_56, N_solved_56, N_dropped_56, N_lefts_56, N_rights_56, N_parents_56, N_rules_56, N_depths_56, hc56, h⟩ := bd8_to h
      refine go_P (st1 := []) (W1 := ((wX7 g aN aN_lefts aN_rights aN_parents aN_rules aN_depths N_size_56 N_solved_56 N_dropped_56 N_lefts_56 N_rights_56 N_parents_56 N_rules_56 N_depths_56) ++ (wX2 g aE E_left E_right))) (run_V (As := [.int v2]) (rest := []) X hS (mX7_addChildren g l  aN aN_lefts aN_rights aN_parents aN_rules aN_depths N_size N_solved N_dropped N_lefts N_rights N_parents N_rules N_depths v2 N_size_56 N_solved_56 N_dropped_56 N_lefts_56 N_rights_56 N_parents_56 N_rules_56 N_depths_56 hc56) okX7_addChildren wd4_47 ⟨Nat.le_of_ble_eq_true rfl, Nat.le_of_ble_eq_true rfl⟩ ⟨rfl, rfl⟩ (va_recv hK hP (ci := 7) (q0 := 0) rfl rfl) (sub_P hP [0, 1, 2, 3, 4, 5] rfl) (hD.sub [0, 1, 2, 3, 4, 5] (by decide) rfl) (va_free hD hS hA [0, 1, 2, 3, 4, 5] rfl) rfl hl.1 rfl (Nat.le_of_ble_eq_true rfl) dX7_answerFor_56 ⟨Nat.zero_le _, Nat.zero_le _⟩) hS (va_free hD hS hA [0, 1, 2, 3, 4, 5] rfl) hP hD [0, 1, 2, 3, 4, 5] [6] [1, 2, 3, 4, 5, 6, 0] rfl rfl (by decide) (by decide) rfl (by decide) rfl (fun H locs hP hD hS => ?_)
      obtain ⟨t59, et59⟩ : ∃ y : Int32, y = v2 + (1 : Int32) := ⟨_, rfl⟩
      refine lv_iinc (v := t59) (lv' := [(2, .int t59), (0, .ref aN)]) hx hb dX7_answerFor_59 hl (k := 1) rfl (by rw [et59]; rfl) (by decide) rfl (fun ls hl => ?_)
      have h := st_to h et59
      refine lv_goto (tgt := 31) hx hb dX7_answerFor_62 (by decide) ?_
      exact ih31 N_size_56 N_solved_56 N_dropped_56 N_lefts_56 N_rights_56 N_parents_56 N_rules_56 N_depths_56 t59 ls H locs (lv_sub hl [1, 0] rfl) hP hD hS h
  have hl : lv_has ls 3 [(0, .ref aN), (1, .ref aE)] := hl
  obtain ⟨H, hH⟩ : ∃ H, H = s.heap := ⟨_, rfl⟩
  obtain ⟨locs, hlocs⟩ : ∃ l : List Loc, l = [] := ⟨_, rfl⟩
  rw [show W p l e rmX7_answerFor s m ([.ref aN, .ref aE] : List Value).toArray below meth c s.heap [] 0 0 QQ (F0 m 0 ls []) = W p l e rmX7_answerFor s m ([.ref aN, .ref aE] : List Value).toArray below meth c H locs 0 0 QQ (F0 m 0 ls []) by rw [hH, hlocs]]
  have hP : va_P g.1 vwCl ((wX7 g aN aN_lefts aN_rights aN_parents aN_rules aN_depths N_size N_solved N_dropped N_lefts N_rights N_parents N_rules N_depths) ++ (wX2 g aE E_left E_right)) H := by rw [hH]; exact hP
  have hD : va_D A ((wX7 g aN aN_lefts aN_rights aN_parents aN_rules aN_depths N_size N_solved N_dropped N_lefts N_rights N_parents N_rules N_depths) ++ (wX2 g aE E_left E_right)) := hD
  have hS : va_S A s.heap H locs := by rw [hH, hlocs]; exact hS
  clear hH hlocs
  refine lv_aload_n hx hb dX7_answerFor_0 rfl (lv_at hl 0 rfl) ?_
  refine lv_iconst (v := (0 : Int32)) hx hb dX7_answerFor_1 (by decide) ?_
  refine va_put (D := g.1) (ci := 7) (v := .int (0 : Int32)) (ty := .int) (C := RX7) (T := TX7) (N := 8) hx hb hts inBX7 tyX7 tyX7_ok nmX7 hown hK hP hD hS 0 rfl rfl 5 (by decide) (hts _ wd1_194) (fun _ h9 => h9) rfl (tyX7_ok 5 (by decide)) rfl rfl (Nat.le_of_ble_eq_true rfl) dX7_answerFor_2 (fun H locs hP hD hS => ?_)
  have hP : va_P g.1 vwCl ((wX7 g aN aN_lefts aN_rights aN_parents aN_rules aN_depths (0 : Int32) N_solved N_dropped N_lefts N_rights N_parents N_rules N_depths) ++ (wX2 g aE E_left E_right)) H := hP
  have hD : va_D A ((wX7 g aN aN_lefts aN_rights aN_parents aN_rules aN_depths (0 : Int32) N_solved N_dropped N_lefts N_rights N_parents N_rules N_depths) ++ (wX2 g aE E_left E_right)) := hD
  refine lv_aload_n hx hb dX7_answerFor_5 rfl (lv_at hl 0 rfl) ?_
  refine lv_iconst (v := ((-1) : Int32)) hx hb dX7_answerFor_6 (by decide) ?_
  refine va_put (D := g.1) (ci := 7) (v := .int ((-1) : Int32)) (ty := .int) (C := RX7) (T := TX7) (N := 8) hx hb hts inBX7 tyX7 tyX7_ok nmX7 hown hK hP hD hS 0 rfl rfl 6 (by decide) (hts _ wd1_195) (fun _ h9 => h9) rfl (tyX7_ok 6 (by decide)) rfl rfl (Nat.le_of_ble_eq_true rfl) dX7_answerFor_7 (fun H locs hP hD hS => ?_)
  have hP : va_P g.1 vwCl ((wX7 g aN aN_lefts aN_rights aN_parents aN_rules aN_depths (0 : Int32) ((-1) : Int32) N_dropped N_lefts N_rights N_parents N_rules N_depths) ++ (wX2 g aE E_left E_right)) H := hP
  have hD : va_D A ((wX7 g aN aN_lefts aN_rights aN_parents aN_rules aN_depths (0 : Int32) ((-1) : Int32) N_dropped N_lefts N_rights N_parents N_rules N_depths) ++ (wX2 g aE E_left E_right)) := hD
  refine lv_aload_n hx hb dX7_answerFor_10 rfl (lv_at hl 0 rfl) ?_
  refine lv_iconst (v := (0 : Int32)) hx hb dX7_answerFor_11 (by decide) ?_
  refine va_put (D := g.1) (ci := 7) (v := .int (0 : Int32)) (ty := .boolean) (C := RX7) (T := TX7) (N := 8) hx hb hts inBX7 tyX7 tyX7_ok nmX7 hown hK hP hD hS 0 rfl rfl 7 (by decide) (hts _ wd1_196) (fun _ h9 => h9) rfl (tyX7_ok 7 (by decide)) rfl rfl (Nat.le_of_ble_eq_true rfl) dX7_answerFor_12 (fun H locs hP hD hS => ?_)
  have hP : va_P g.1 vwCl ((wX7 g aN aN_lefts aN_rights aN_parents aN_rules aN_depths (0 : Int32) ((-1) : Int32) (0 : Int32) N_lefts N_rights N_parents N_rules N_depths) ++ (wX2 g aE E_left E_right)) H := hP
  have hD : va_D A ((wX7 g aN aN_lefts aN_rights aN_parents aN_rules aN_depths (0 : Int32) ((-1) : Int32) (0 : Int32) N_lefts N_rights N_parents N_rules N_depths) ++ (wX2 g aE E_left E_right)) := hD
  refine lv_aload_n hx hb dX7_answerFor_15 rfl (lv_at hl 0 rfl) ?_
  refine lv_iconst (v := ((-1) : Int32)) hx hb dX7_answerFor_16 (by decide) ?_
  refine lv_iconst (v := (0 : Int32)) hx hb dX7_answerFor_17 (by decide) ?_
  refine lv_aload_n hx hb dX7_answerFor_18 rfl (lv_at hl 1 rfl) ?_
  refine va_get (D := g.1) (ci := 2) (v := .long E_left) (C := RX2) (T := TX2) (N := 2) hx hb hts inBX2 hown hK hP 6 rfl rfl 0 (by decide) (hts _ wd1_50) (fun _ h9 => h9) rfl dX7_answerFor_19 ?_
  refine lv_aload_n hx hb dX7_answerFor_22 rfl (lv_at hl 1 rfl) ?_
  refine va_get (D := g.1) (ci := 2) (v := .long E_right) (C := RX2) (T := TX2) (N := 2) hx hb hts inBX2 hown hK hP 6 rfl rfl 1 (by decide) (hts _ wd1_57) (fun _ h9 => h9) rfl dX7_answerFor_23 ?_
  obtain ⟨N_size_26, N_solved_26, N_dropped_26, N_lefts_26, N_rights_26, N_parents_26, N_rules_26, N_depths_26, hc26, h⟩ := bd8_to h
  refine go_P (st1 := []) (W1 := ((wX7 g aN aN_lefts aN_rights aN_parents aN_rules aN_depths N_size_26 N_solved_26 N_dropped_26 N_lefts_26 N_rights_26 N_parents_26 N_rules_26 N_depths_26) ++ (wX2 g aE E_left E_right))) (run_V (As := [.int ((-1) : Int32), .int (0 : Int32), .long E_left, .long E_right]) (rest := []) X hS (mX7_addNode g l  aN aN_lefts aN_rights aN_parents aN_rules aN_depths (0 : Int32) ((-1) : Int32) (0 : Int32) N_lefts N_rights N_parents N_rules N_depths ((-1) : Int32) (0 : Int32) E_left E_right N_size_26 N_solved_26 N_dropped_26 N_lefts_26 N_rights_26 N_parents_26 N_rules_26 N_depths_26 hc26) okX7_addNode wd4_35 ⟨Nat.le_of_ble_eq_true rfl, Nat.le_of_ble_eq_true rfl⟩ ⟨rfl, rfl⟩ (va_recv hK hP (ci := 7) (q0 := 0) rfl rfl) (sub_P hP [0, 1, 2, 3, 4, 5] rfl) (hD.sub [0, 1, 2, 3, 4, 5] (by decide) rfl) (va_free hD hS hA [0, 1, 2, 3, 4, 5] rfl) rfl hl.1 rfl (Nat.le_of_ble_eq_true rfl) dX7_answerFor_26 ⟨Nat.zero_le _, Nat.zero_le _⟩) hS (va_free hD hS hA [0, 1, 2, 3, 4, 5] rfl) hP hD [0, 1, 2, 3, 4, 5] [6] [1, 2, 3, 4, 5, 6, 0] rfl rfl (by decide) (by decide) rfl (by decide) rfl (fun H locs hP hD hS => ?_)
  refine lv_iconst (v := (0 : Int32)) hx hb dX7_answerFor_29 (by decide) ?_
  refine lv_istore_n (lv' := [(2, .int (0 : Int32)), (0, .ref aN), (1, .ref aE)]) hx hb dX7_answerFor_30 rfl hl (by decide) rfl (fun ls hl => ?_)
  exact L31 FU N_size_26 N_solved_26 N_dropped_26 N_lefts_26 N_rights_26 N_parents_26 N_rules_26 N_depths_26 (0 : Int32) ls H locs (lv_sub hl [1, 0] rfl) hP hD hS h
set_option maxHeartbeats 4000000 in
set_option maxRecDepth 100000 in
theorem mX11_decide (g : GP) (l : Launch) (aX aT aT_characters aE aH aH_lefts aH_rights aS aS_lefts aS_rights aS_filled aA aA_letters aA_lengths aK aB aB_first aQ aQ_weights aQ_possible aC aC_variables aC_relations aC_numbers aA2 aA2_letters aA2_lengths aN aN_lefts aN_rights aN_parents aN_rules aN_depths aE2 : Nat) (T_size : Int32) (T_characters : Nat → Int32) (E_left : Int64) (E_right : Int64) (H_size : Int32) (H_lefts : Nat → Int64) (H_rights : Nat → Int64) (S_lefts : Nat → Int64) (S_rights : Nat → Int64) (S_filled : Nat → Int32) (A_letters : Nat → Int64) (A_lengths : Nat → Int32) (B_left : Int64) (B_right : Int64) (B_found : Int32) (B_least : Int32) (B_first : Nat → Int32) (Q_letterSurplus : Int32) (Q_weights : Nat → Int32) (Q_possible : Nat → Int32) (C_size : Int32) (C_variables : Nat → Int32) (C_relations : Nat → Int32) (C_numbers : Nat → Int32) (A2_letters : Nat → Int64) (A2_lengths : Nat → Int32) (N_size : Int32) (N_solved : Int32) (N_dropped : Int32) (N_lefts : Nat → Int64) (N_rights : Nat → Int64) (N_parents : Nat → Int32) (N_rules : Nat → Int32) (N_depths : Nat → Int32) (E2_left : Int64) (E2_right : Int64)  (r : Int32) (N_size_o : Int32) (N_solved_o : Int32) (N_dropped_o : Int32) (N_lefts_o : Nat → Int64) (N_rights_o : Nat → Int64) (N_parents_o : Nat → Int32) (N_rules_o : Nat → Int32) (N_depths_o : Nat → Int32) (h : fX_decide E_left E_right N_lefts N_rights N_parents N_rules N_depths = some (r, N_size_o, N_solved_o, N_dropped_o, N_lefts_o, N_rights_o, N_parents_o, N_rules_o, N_depths_o)) : Ct g l yX11_decide cX11_decide 1 (some .int) rmX11_decide [.ref aX] (wX11 g aX aT aT_characters aE aH aH_lefts aH_rights aS aS_lefts aS_rights aS_filled aA aA_letters aA_lengths aK aB aB_first aQ aQ_weights aQ_possible aC aC_variables aC_relations aC_numbers aA2 aA2_letters aA2_lengths aN aN_lefts aN_rights aN_parents aN_rules aN_depths aE2 T_size T_characters E_left E_right H_size H_lefts H_rights S_lefts S_rights S_filled A_letters A_lengths B_left B_right B_found B_least B_first Q_letterSurplus Q_weights Q_possible C_size C_variables C_relations C_numbers A2_letters A2_lengths N_size N_solved N_dropped N_lefts N_rights N_parents N_rules N_depths E2_left E2_right) (some (.int r)) (wX11 g aX aT aT_characters aE aH aH_lefts aH_rights aS aS_lefts aS_rights aS_filled aA aA_letters aA_lengths aK aB aB_first aQ aQ_weights aQ_possible aC aC_variables aC_relations aC_numbers aA2 aA2_letters aA2_lengths aN aN_lefts aN_rights aN_parents aN_rules aN_depths aE2 T_size T_characters E_left E_right H_size H_lefts H_rights S_lefts S_rights S_filled A_letters A_lengths B_left B_right B_found B_least B_first Q_letterSurplus Q_weights Q_possible C_size C_variables C_relations C_numbers A2_letters A2_lengths N_size_o N_solved_o N_dropped_o N_lefts_o N_rights_o N_parents_o N_rules_o N_depths_o E2_left E2_right) := by
  refine Ct.introI (by decide) (Nat.le_of_ble_eq_true rfl) ?_
  intro p e s m below meth c A QQ ls hyp hret
  obtain ⟨hx, hb, hml, hts, hown, hA, hE, hP, hD, hl⟩ := hyp
  have hK := hE.1
  have hS : va_S A s.heap s.heap [] := va_S.rf
  have X : Here g p s m c cX11_decide 1 ([.ref aX] : List Value).toArray RX11 A := ⟨⟨hx, hb, hml, hown, hts⟩, hE, hA⟩
  have hl : lv_has ls 1 [(0, .ref aX)] := hl
  obtain ⟨H, hH⟩ : ∃ H, H = s.heap := ⟨_, rfl⟩
  obtain ⟨locs, hlocs⟩ : ∃ l : List Loc, l = [] := ⟨_, rfl⟩
  rw [show W p l e rmX11_decide s m ([.ref aX] : List Value).toArray below meth c s.heap [] 0 0 QQ (F0 m 0 ls []) = W p l e rmX11_decide s m ([.ref aX] : List Value).toArray below meth c H locs 0 0 QQ (F0 m 0 ls []) by rw [hH, hlocs]]
  have hP : va_P g.1 vwCl (wX11 g aX aT aT_characters aE aH aH_lefts aH_rights aS aS_lefts aS_rights aS_filled aA aA_letters aA_lengths aK aB aB_first aQ aQ_weights aQ_possible aC aC_variables aC_relations aC_numbers aA2 aA2_letters aA2_lengths aN aN_lefts aN_rights aN_parents aN_rules aN_depths aE2 T_size T_characters E_left E_right H_size H_lefts H_rights S_lefts S_rights S_filled A_letters A_lengths B_left B_right B_found B_least B_first Q_letterSurplus Q_weights Q_possible C_size C_variables C_relations C_numbers A2_letters A2_lengths N_size N_solved N_dropped N_lefts N_rights N_parents N_rules N_depths E2_left E2_right) H := by rw [hH]; exact hP
  have hD : va_D A (wX11 g aX aT aT_characters aE aH aH_lefts aH_rights aS aS_lefts aS_rights aS_filled aA aA_letters aA_lengths aK aB aB_first aQ aQ_weights aQ_possible aC aC_variables aC_relations aC_numbers aA2 aA2_letters aA2_lengths aN aN_lefts aN_rights aN_parents aN_rules aN_depths aE2 T_size T_characters E_left E_right H_size H_lefts H_rights S_lefts S_rights S_filled A_letters A_lengths B_left B_right B_found B_least B_first Q_letterSurplus Q_weights Q_possible C_size C_variables C_relations C_numbers A2_letters A2_lengths N_size N_solved N_dropped N_lefts N_rights N_parents N_rules N_depths E2_left E2_right) := hD
  have hS : va_S A s.heap H locs := by rw [hH, hlocs]; exact hS
  clear hH hlocs
  refine lv_aload_n hx hb dX11_decide_0 rfl (lv_at hl 0 rfl) ?_
  refine va_get (D := g.1) (ci := 10) (v := .ref aN) (C := RX11) (T := TX11) (N := 10) hx hb hts inBX11 hown hK hP 0 rfl rfl 8 (by decide) (hts _ wd2_0) (fun _ h9 => h9) rfl dX11_decide_1 ?_
  refine lv_aload_n hx hb dX11_decide_4 rfl (lv_at hl 0 rfl) ?_
  refine va_get (D := g.1) (ci := 10) (v := .ref aE) (C := RX11) (T := TX11) (N := 10) hx hb hts inBX11 hown hK hP 0 rfl rfl 1 (by decide) (hts _ wd1_233) (fun _ h9 => h9) rfl dX11_decide_5 ?_
  obtain ⟨t8, N_size_8, N_solved_8, N_dropped_8, N_lefts_8, N_rights_8, N_parents_8, N_rules_8, N_depths_8, hc8, h⟩ := bd9_to h
  refine go_P (st1 := [.int t8]) (W1 := (wX11 g aX aT aT_characters aE aH aH_lefts aH_rights aS aS_lefts aS_rights aS_filled aA aA_letters aA_lengths aK aB aB_first aQ aQ_weights aQ_possible aC aC_variables aC_relations aC_numbers aA2 aA2_letters aA2_lengths aN aN_lefts aN_rights aN_parents aN_rules aN_depths aE2 T_size T_characters E_left E_right H_size H_lefts H_rights S_lefts S_rights S_filled A_letters A_lengths B_left B_right B_found B_least B_first Q_letterSurplus Q_weights Q_possible C_size C_variables C_relations C_numbers A2_letters A2_lengths N_size_8 N_solved_8 N_dropped_8 N_lefts_8 N_rights_8 N_parents_8 N_rules_8 N_depths_8 E2_left E2_right)) (run_V (As := [.ref aE]) (rest := []) X hS (mX7_answerFor g l  aN aN_lefts aN_rights aN_parents aN_rules aN_depths aE N_size N_solved N_dropped N_lefts N_rights N_parents N_rules N_depths E_left E_right t8 N_size_8 N_solved_8 N_dropped_8 N_lefts_8 N_rights_8 N_parents_8 N_rules_8 N_depths_8 hc8) okX7_answerFor wd4_31 ⟨Nat.le_of_ble_eq_true rfl, Nat.le_of_ble_eq_true rfl⟩ ⟨rfl, rfl⟩ (va_recv hK hP (ci := 7) (q0 := 27) rfl rfl) (sub_P hP [27, 28, 29, 30, 31, 32, 3] rfl) (hD.sub [27, 28, 29, 30, 31, 32, 3] (by decide) rfl) (va_free hD hS hA [27, 28, 29, 30, 31, 32, 3] rfl) rfl hl.1 rfl (Nat.le_of_ble_eq_true rfl) dX11_decide_8 ⟨Nat.zero_le _, Nat.zero_le _⟩) hS (va_free hD hS hA [27, 28, 29, 30, 31, 32, 3] rfl) hP hD [27, 28, 29, 30, 31, 32, 3] [0, 1, 2, 4, 5, 6, 7, 8, 9, 10, 11, 12, 13, 14, 15, 16, 17, 18, 19, 20, 21, 22, 23, 24, 25, 26, 33] [0, 1, 2, 33, 3, 4, 5, 6, 7, 8, 9, 10, 11, 12, 13, 14, 15, 16, 17, 18, 19, 20, 21, 22, 23, 24, 25, 27, 28, 29, 30, 31, 32, 26] rfl rfl (by decide) (by decide) rfl (by decide) rfl (fun H locs hP hD hS => ?_)
  have h : some (t8, N_size_8, N_solved_8, N_dropped_8, N_lefts_8, N_rights_8, N_parents_8, N_rules_8, N_depths_8) = some (r, N_size_o, N_solved_o, N_dropped_o, N_lefts_o, N_rights_o, N_parents_o, N_rules_o, N_depths_o) := h
  cases h
  exact hret _ _ _ _ hP hD hS dX11_decide_11
set_option maxHeartbeats 4000000 in
set_option maxRecDepth 100000 in
theorem mX7_size (g : GP) (l : Launch) (aN aN_lefts aN_rights aN_parents aN_rules aN_depths : Nat) (N_size : Int32) (N_solved : Int32) (N_dropped : Int32) (N_lefts : Nat → Int64) (N_rights : Nat → Int64) (N_parents : Nat → Int32) (N_rules : Nat → Int32) (N_depths : Nat → Int32)  (r : Int32) (h : fN_size N_size = some r) : Ct g l yX7_size cX7_size 1 (some .int) rmX7_size [.ref aN] (wX7 g aN aN_lefts aN_rights aN_parents aN_rules aN_depths N_size N_solved N_dropped N_lefts N_rights N_parents N_rules N_depths) (some (.int r)) (wX7 g aN aN_lefts aN_rights aN_parents aN_rules aN_depths N_size N_solved N_dropped N_lefts N_rights N_parents N_rules N_depths) := by
  refine Ct.introI (by decide) (Nat.le_of_ble_eq_true rfl) ?_
  intro p e s m below meth c A QQ ls hyp hret
  obtain ⟨hx, hb, hml, hts, hown, hA, hE, hP, hD, hl⟩ := hyp
  have hK := hE.1
  have hS : va_S A s.heap s.heap [] := va_S.rf
  have X : Here g p s m c cX7_size 1 ([.ref aN] : List Value).toArray RX7 A := ⟨⟨hx, hb, hml, hown, hts⟩, hE, hA⟩
  have hl : lv_has ls 1 [(0, .ref aN)] := hl
  obtain ⟨H, hH⟩ : ∃ H, H = s.heap := ⟨_, rfl⟩
  obtain ⟨locs, hlocs⟩ : ∃ l : List Loc, l = [] := ⟨_, rfl⟩
  rw [show W p l e rmX7_size s m ([.ref aN] : List Value).toArray below meth c s.heap [] 0 0 QQ (F0 m 0 ls []) = W p l e rmX7_size s m ([.ref aN] : List Value).toArray below meth c H locs 0 0 QQ (F0 m 0 ls []) by rw [hH, hlocs]]
  have hP : va_P g.1 vwCl (wX7 g aN aN_lefts aN_rights aN_parents aN_rules aN_depths N_size N_solved N_dropped N_lefts N_rights N_parents N_rules N_depths) H := by rw [hH]; exact hP
  have hD : va_D A (wX7 g aN aN_lefts aN_rights aN_parents aN_rules aN_depths N_size N_solved N_dropped N_lefts N_rights N_parents N_rules N_depths) := hD
  have hS : va_S A s.heap H locs := by rw [hH, hlocs]; exact hS
  clear hH hlocs
  refine lv_aload_n hx hb dX7_size_0 rfl (lv_at hl 0 rfl) ?_
  refine va_get (D := g.1) (ci := 7) (v := .int N_size) (C := RX7) (T := TX7) (N := 8) hx hb hts inBX7 hown hK hP 0 rfl rfl 5 (by decide) (hts _ wd1_194) (fun _ h9 => h9) rfl dX7_size_1 ?_
  have h : some N_size = some r := h
  cases h
  exact hret _ _ _ _ hP hD hS dX7_size_4
set_option maxHeartbeats 4000000 in
set_option maxRecDepth 100000 in
theorem mX11_nodeCount (g : GP) (l : Launch) (aX aT aT_characters aE aH aH_lefts aH_rights aS aS_lefts aS_rights aS_filled aA aA_letters aA_lengths aK aB aB_first aQ aQ_weights aQ_possible aC aC_variables aC_relations aC_numbers aA2 aA2_letters aA2_lengths aN aN_lefts aN_rights aN_parents aN_rules aN_depths aE2 : Nat) (T_size : Int32) (T_characters : Nat → Int32) (E_left : Int64) (E_right : Int64) (H_size : Int32) (H_lefts : Nat → Int64) (H_rights : Nat → Int64) (S_lefts : Nat → Int64) (S_rights : Nat → Int64) (S_filled : Nat → Int32) (A_letters : Nat → Int64) (A_lengths : Nat → Int32) (B_left : Int64) (B_right : Int64) (B_found : Int32) (B_least : Int32) (B_first : Nat → Int32) (Q_letterSurplus : Int32) (Q_weights : Nat → Int32) (Q_possible : Nat → Int32) (C_size : Int32) (C_variables : Nat → Int32) (C_relations : Nat → Int32) (C_numbers : Nat → Int32) (A2_letters : Nat → Int64) (A2_lengths : Nat → Int32) (N_size : Int32) (N_solved : Int32) (N_dropped : Int32) (N_lefts : Nat → Int64) (N_rights : Nat → Int64) (N_parents : Nat → Int32) (N_rules : Nat → Int32) (N_depths : Nat → Int32) (E2_left : Int64) (E2_right : Int64)  (r : Int32) (N_size_o : Int32) (N_solved_o : Int32) (N_dropped_o : Int32) (N_lefts_o : Nat → Int64) (N_rights_o : Nat → Int64) (N_parents_o : Nat → Int32) (N_rules_o : Nat → Int32) (N_depths_o : Nat → Int32) (h : fX_nodeCount E_left E_right N_lefts N_rights N_parents N_rules N_depths = some (r, N_size_o, N_solved_o, N_dropped_o, N_lefts_o, N_rights_o, N_parents_o, N_rules_o, N_depths_o)) : Ct g l yX11_nodeCount cX11_nodeCount 1 (some .int) rmX11_nodeCount [.ref aX] (wX11 g aX aT aT_characters aE aH aH_lefts aH_rights aS aS_lefts aS_rights aS_filled aA aA_letters aA_lengths aK aB aB_first aQ aQ_weights aQ_possible aC aC_variables aC_relations aC_numbers aA2 aA2_letters aA2_lengths aN aN_lefts aN_rights aN_parents aN_rules aN_depths aE2 T_size T_characters E_left E_right H_size H_lefts H_rights S_lefts S_rights S_filled A_letters A_lengths B_left B_right B_found B_least B_first Q_letterSurplus Q_weights Q_possible C_size C_variables C_relations C_numbers A2_letters A2_lengths N_size N_solved N_dropped N_lefts N_rights N_parents N_rules N_depths E2_left E2_right) (some (.int r)) (wX11 g aX aT aT_characters aE aH aH_lefts aH_rights aS aS_lefts aS_rights aS_filled aA aA_letters aA_lengths aK aB aB_first aQ aQ_weights aQ_possible aC aC_variables aC_relations aC_numbers aA2 aA2_letters aA2_lengths aN aN_lefts aN_rights aN_parents aN_rules aN_depths aE2 T_size T_characters E_left E_right H_size H_lefts H_rights S_lefts S_rights S_filled A_letters A_lengths B_left B_right B_found B_least B_first Q_letterSurplus Q_weights Q_possible C_size C_variables C_relations C_numbers A2_letters A2_lengths N_size_o N_solved_o N_dropped_o N_lefts_o N_rights_o N_parents_o N_rules_o N_depths_o E2_left E2_right) := by
  refine Ct.introI (by decide) (Nat.le_of_ble_eq_true rfl) ?_
  intro p e s m below meth c A QQ ls hyp hret
  obtain ⟨hx, hb, hml, hts, hown, hA, hE, hP, hD, hl⟩ := hyp
  have hK := hE.1
  have hS : va_S A s.heap s.heap [] := va_S.rf
  have X : Here g p s m c cX11_nodeCount 1 ([.ref aX] : List Value).toArray RX11 A := ⟨⟨hx, hb, hml, hown, hts⟩, hE, hA⟩
  have hl : lv_has ls 1 [(0, .ref aX)] := hl
  obtain ⟨H, hH⟩ : ∃ H, H = s.heap := ⟨_, rfl⟩
  obtain ⟨locs, hlocs⟩ : ∃ l : List Loc, l = [] := ⟨_, rfl⟩
  rw [show W p l e rmX11_nodeCount s m ([.ref aX] : List Value).toArray below meth c s.heap [] 0 0 QQ (F0 m 0 ls []) = W p l e rmX11_nodeCount s m ([.ref aX] : List Value).toArray below meth c H locs 0 0 QQ (F0 m 0 ls []) by rw [hH, hlocs]]
  have hP : va_P g.1 vwCl (wX11 g aX aT aT_characters aE aH aH_lefts aH_rights aS aS_lefts aS_rights aS_filled aA aA_letters aA_lengths aK aB aB_first aQ aQ_weights aQ_possible aC aC_variables aC_relations aC_numbers aA2 aA2_letters aA2_lengths aN aN_lefts aN_rights aN_parents aN_rules aN_depths aE2 T_size T_characters E_left E_right H_size H_lefts H_rights S_lefts S_rights S_filled A_letters A_lengths B_left B_right B_found B_least B_first Q_letterSurplus Q_weights Q_possible C_size C_variables C_relations C_numbers A2_letters A2_lengths N_size N_solved N_dropped N_lefts N_rights N_parents N_rules N_depths E2_left E2_right) H := by rw [hH]; exact hP
  have hD : va_D A (wX11 g aX aT aT_characters aE aH aH_lefts aH_rights aS aS_lefts aS_rights aS_filled aA aA_letters aA_lengths aK aB aB_first aQ aQ_weights aQ_possible aC aC_variables aC_relations aC_numbers aA2 aA2_letters aA2_lengths aN aN_lefts aN_rights aN_parents aN_rules aN_depths aE2 T_size T_characters E_left E_right H_size H_lefts H_rights S_lefts S_rights S_filled A_letters A_lengths B_left B_right B_found B_least B_first Q_letterSurplus Q_weights Q_possible C_size C_variables C_relations C_numbers A2_letters A2_lengths N_size N_solved N_dropped N_lefts N_rights N_parents N_rules N_depths E2_left E2_right) := hD
  have hS : va_S A s.heap H locs := by rw [hH, hlocs]; exact hS
  clear hH hlocs
  refine lv_aload_n hx hb dX11_nodeCount_0 rfl (lv_at hl 0 rfl) ?_
  refine va_get (D := g.1) (ci := 10) (v := .ref aN) (C := RX11) (T := TX11) (N := 10) hx hb hts inBX11 hown hK hP 0 rfl rfl 8 (by decide) (hts _ wd2_0) (fun _ h9 => h9) rfl dX11_nodeCount_1 ?_
  refine lv_aload_n hx hb dX11_nodeCount_4 rfl (lv_at hl 0 rfl) ?_
  refine va_get (D := g.1) (ci := 10) (v := .ref aE) (C := RX11) (T := TX11) (N := 10) hx hb hts inBX11 hown hK hP 0 rfl rfl 1 (by decide) (hts _ wd1_233) (fun _ h9 => h9) rfl dX11_nodeCount_5 ?_
  obtain ⟨t8, N_size_8, N_solved_8, N_dropped_8, N_lefts_8, N_rights_8, N_parents_8, N_rules_8, N_depths_8, hc8, h⟩ := bd9_to h
  refine go_P (st1 := [.int t8]) (W1 := (wX11 g aX aT aT_characters aE aH aH_lefts aH_rights aS aS_lefts aS_rights aS_filled aA aA_letters aA_lengths aK aB aB_first aQ aQ_weights aQ_possible aC aC_variables aC_relations aC_numbers aA2 aA2_letters aA2_lengths aN aN_lefts aN_rights aN_parents aN_rules aN_depths aE2 T_size T_characters E_left E_right H_size H_lefts H_rights S_lefts S_rights S_filled A_letters A_lengths B_left B_right B_found B_least B_first Q_letterSurplus Q_weights Q_possible C_size C_variables C_relations C_numbers A2_letters A2_lengths N_size_8 N_solved_8 N_dropped_8 N_lefts_8 N_rights_8 N_parents_8 N_rules_8 N_depths_8 E2_left E2_right)) (run_V (As := [.ref aE]) (rest := []) X hS (mX7_answerFor g l  aN aN_lefts aN_rights aN_parents aN_rules aN_depths aE N_size N_solved N_dropped N_lefts N_rights N_parents N_rules N_depths E_left E_right t8 N_size_8 N_solved_8 N_dropped_8 N_lefts_8 N_rights_8 N_parents_8 N_rules_8 N_depths_8 hc8) okX7_answerFor wd4_31 ⟨Nat.le_of_ble_eq_true rfl, Nat.le_of_ble_eq_true rfl⟩ ⟨rfl, rfl⟩ (va_recv hK hP (ci := 7) (q0 := 27) rfl rfl) (sub_P hP [27, 28, 29, 30, 31, 32, 3] rfl) (hD.sub [27, 28, 29, 30, 31, 32, 3] (by decide) rfl) (va_free hD hS hA [27, 28, 29, 30, 31, 32, 3] rfl) rfl hl.1 rfl (Nat.le_of_ble_eq_true rfl) dX11_nodeCount_8 ⟨Nat.zero_le _, Nat.zero_le _⟩) hS (va_free hD hS hA [27, 28, 29, 30, 31, 32, 3] rfl) hP hD [27, 28, 29, 30, 31, 32, 3] [0, 1, 2, 4, 5, 6, 7, 8, 9, 10, 11, 12, 13, 14, 15, 16, 17, 18, 19, 20, 21, 22, 23, 24, 25, 26, 33] [0, 1, 2, 33, 3, 4, 5, 6, 7, 8, 9, 10, 11, 12, 13, 14, 15, 16, 17, 18, 19, 20, 21, 22, 23, 24, 25, 27, 28, 29, 30, 31, 32, 26] rfl rfl (by decide) (by decide) rfl (by decide) rfl (fun H locs hP hD hS => ?_)
  refine lv_pop hx hb dX11_nodeCount_11 rfl ?_
  refine lv_aload_n hx hb dX11_nodeCount_12 rfl (lv_at hl 0 rfl) ?_
  refine va_get (D := g.1) (ci := 10) (v := .ref aN) (C := RX11) (T := TX11) (N := 10) hx hb hts inBX11 hown hK hP 0 rfl rfl 8 (by decide) (hts _ wd2_0) (fun _ h9 => h9) rfl dX11_nodeCount_13 ?_
  obtain ⟨t16, hc16, h⟩ := bd1_to h
  refine go_P (st1 := [.int t16]) (W1 := (wX11 g aX aT aT_characters aE aH aH_lefts aH_rights aS aS_lefts aS_rights aS_filled aA aA_letters aA_lengths aK aB aB_first aQ aQ_weights aQ_possible aC aC_variables aC_relations aC_numbers aA2 aA2_letters aA2_lengths aN aN_lefts aN_rights aN_parents aN_rules aN_depths aE2 T_size T_characters E_left E_right H_size H_lefts H_rights S_lefts S_rights S_filled A_letters A_lengths B_left B_right B_found B_least B_first Q_letterSurplus Q_weights Q_possible C_size C_variables C_relations C_numbers A2_letters A2_lengths N_size_8 N_solved_8 N_dropped_8 N_lefts_8 N_rights_8 N_parents_8 N_rules_8 N_depths_8 E2_left E2_right)) (run_V (As := []) (rest := []) X hS (mX7_size g l  aN aN_lefts aN_rights aN_parents aN_rules aN_depths N_size_8 N_solved_8 N_dropped_8 N_lefts_8 N_rights_8 N_parents_8 N_rules_8 N_depths_8 t16 hc16) okX7_size wd4_69 ⟨Nat.le_of_ble_eq_true rfl, Nat.le_of_ble_eq_true rfl⟩ ⟨rfl, rfl⟩ (va_recv hK hP (ci := 7) (q0 := 27) rfl rfl) (sub_P hP [27, 28, 29, 30, 31, 32] rfl) (hD.sub [27, 28, 29, 30, 31, 32] (by decide) rfl) (va_free hD hS hA [27, 28, 29, 30, 31, 32] rfl) rfl hl.1 rfl (Nat.le_of_ble_eq_true rfl) dX11_nodeCount_16 ⟨Nat.zero_le _, Nat.zero_le _⟩) hS (va_free hD hS hA [27, 28, 29, 30, 31, 32] rfl) hP hD [27, 28, 29, 30, 31, 32] [0, 1, 2, 3, 4, 5, 6, 7, 8, 9, 10, 11, 12, 13, 14, 15, 16, 17, 18, 19, 20, 21, 22, 23, 24, 25, 26, 33] [0, 1, 2, 3, 4, 5, 6, 7, 8, 9, 10, 11, 12, 13, 14, 15, 16, 17, 18, 19, 20, 21, 22, 23, 24, 25, 26, 28, 29, 30, 31, 32, 33, 27] rfl rfl (by decide) (by decide) rfl (by decide) rfl (fun H locs hP hD hS => ?_)
  have h : some (t16, N_size_8, N_solved_8, N_dropped_8, N_lefts_8, N_rights_8, N_parents_8, N_rules_8, N_depths_8) = some (r, N_size_o, N_solved_o, N_dropped_o, N_lefts_o, N_rights_o, N_parents_o, N_rules_o, N_depths_o) := h
  cases h
  exact hret _ _ _ _ hP hD hS dX11_nodeCount_19
set_option maxHeartbeats 4000000 in
set_option maxRecDepth 100000 in
theorem mX7_proofSize (g : GP) (l : Launch) (aN aN_lefts aN_rights aN_parents aN_rules aN_depths : Nat) (N_size : Int32) (N_solved : Int32) (N_dropped : Int32) (N_lefts : Nat → Int64) (N_rights : Nat → Int64) (N_parents : Nat → Int32) (N_rules : Nat → Int32) (N_depths : Nat → Int32)  (r : Int32) (h : fN_proofSize N_size N_solved N_depths = some r) : Ct g l yX7_proofSize cX7_proofSize 1 (some .int) rmX7_proofSize [.ref aN] (wX7 g aN aN_lefts aN_rights aN_parents aN_rules aN_depths N_size N_solved N_dropped N_lefts N_rights N_parents N_rules N_depths) (some (.int r)) (wX7 g aN aN_lefts aN_rights aN_parents aN_rules aN_depths N_size N_solved N_dropped N_lefts N_rights N_parents N_rules N_depths) := by
  refine Ct.introI (by decide) (Nat.le_of_ble_eq_true rfl) ?_
  intro p e s m below meth c A QQ ls hyp hret
  obtain ⟨hx, hb, hml, hts, hown, hA, hE, hP, hD, hl⟩ := hyp
  have hK := hE.1
  have hS : va_S A s.heap s.heap [] := va_S.rf
  have X : Here g p s m c cX7_proofSize 1 ([.ref aN] : List Value).toArray RX7 A := ⟨⟨hx, hb, hml, hown, hts⟩, hE, hA⟩
  have hl : lv_has ls 1 [(0, .ref aN)] := hl
  obtain ⟨H, hH⟩ : ∃ H, H = s.heap := ⟨_, rfl⟩
  obtain ⟨locs, hlocs⟩ : ∃ l : List Loc, l = [] := ⟨_, rfl⟩
  rw [show W p l e rmX7_proofSize s m ([.ref aN] : List Value).toArray below meth c s.heap [] 0 0 QQ (F0 m 0 ls []) = W p l e rmX7_proofSize s m ([.ref aN] : List Value).toArray below meth c H locs 0 0 QQ (F0 m 0 ls []) by rw [hH, hlocs]]
  have hP : va_P g.1 vwCl (wX7 g aN aN_lefts aN_rights aN_parents aN_rules aN_depths N_size N_solved N_dropped N_lefts N_rights N_parents N_rules N_depths) H := by rw [hH]; exact hP
  have hD : va_D A (wX7 g aN aN_lefts aN_rights aN_parents aN_rules aN_depths N_size N_solved N_dropped N_lefts N_rights N_parents N_rules N_depths) := hD
  have hS : va_S A s.heap H locs := by rw [hH, hlocs]; exact hS
  clear hH hlocs
  refine lv_aload_n hx hb dX7_proofSize_0 rfl (lv_at hl 0 rfl) ?_
  refine lv_aload_n hx hb dX7_proofSize_1 rfl (lv_at hl 0 rfl) ?_
  refine va_get (D := g.1) (ci := 7) (v := .int N_solved) (C := RX7) (T := TX7) (N := 8) hx hb hts inBX7 hown hK hP 0 rfl rfl 6 (by decide) (hts _ wd1_195) (fun _ h9 => h9) rfl dX7_proofSize_2 ?_
  obtain ⟨t5, hc5, h⟩ := bd1_to h
  refine go_A (st1 := [.int t5]) (run_V (As := [.int N_solved]) (rest := []) X hS (mX7_isNode g l  aN aN_lefts aN_rights aN_parents aN_rules aN_depths N_size N_solved N_dropped N_lefts N_rights N_parents N_rules N_depths N_solved t5 hc5) okX7_isNode wd4_43 ⟨Nat.le_of_ble_eq_true rfl, Nat.le_of_ble_eq_true rfl⟩ ⟨rfl, rfl⟩ (va_recv hK hP (ci := 7) (q0 := 0) rfl rfl) hP hD (all_F hS hA hD) rfl hl.1 rfl (Nat.le_of_ble_eq_true rfl) dX7_proofSize_5 ⟨Nat.zero_le _, Nat.zero_le _⟩) hS (all_F hS hA hD) rfl (fun H locs hP hD hS => ?_)
  refine lv_if_eq (tgt := 23) hx hb dX7_proofSize_8 (by decide) (fun q8 => ?_) (fun q8 => ?_)
  · have h := ifT h q8
    refine lv_iconst (v := (0 : Int32)) hx hb dX7_proofSize_23 (by decide) ?_
    have h : some (0 : Int32) = some r := h
    cases h
    exact hret _ _ _ _ hP hD hS dX7_proofSize_24
  have h := ifF h q8
  refine lv_aload_n hx hb dX7_proofSize_11 rfl (lv_at hl 0 rfl) ?_
  refine va_get (D := g.1) (ci := 7) (v := .ref aN_depths) (C := RX7) (T := TX7) (N := 8) hx hb hts inBX7 hown hK hP 0 rfl rfl 4 (by decide) (hts _ wd1_193) (fun _ h9 => h9) rfl dX7_proofSize_12 ?_
  refine lv_aload_n hx hb dX7_proofSize_15 rfl (lv_at hl 0 rfl) ?_
  refine va_get (D := g.1) (ci := 7) (v := .int N_solved) (C := RX7) (T := TX7) (N := 8) hx hb hts inBX7 hown hK hP 0 rfl rfl 6 (by decide) (hts _ wd1_195) (fun _ h9 => h9) rfl dX7_proofSize_16 ?_
  have hin := ld_in h
  refine va_iald hx hb hK hP 5 0 rfl rfl hin dX7_proofSize_19 ?_
  refine lv_topi (fun t19 et19 => ?_)
  have h := ld_to h et19
  refine lv_goto (tgt := 24) hx hb dX7_proofSize_20 (by decide) ?_
  have h : some t19 = some r := h
  cases h
  exact hret _ _ _ _ hP hD hS dX7_proofSize_24
set_option maxHeartbeats 4000000 in
set_option maxRecDepth 100000 in
theorem mX11_proofLength (g : GP) (l : Launch) (aX aT aT_characters aE aH aH_lefts aH_rights aS aS_lefts aS_rights aS_filled aA aA_letters aA_lengths aK aB aB_first aQ aQ_weights aQ_possible aC aC_variables aC_relations aC_numbers aA2 aA2_letters aA2_lengths aN aN_lefts aN_rights aN_parents aN_rules aN_depths aE2 : Nat) (T_size : Int32) (T_characters : Nat → Int32) (E_left : Int64) (E_right : Int64) (H_size : Int32) (H_lefts : Nat → Int64) (H_rights : Nat → Int64) (S_lefts : Nat → Int64) (S_rights : Nat → Int64) (S_filled : Nat → Int32) (A_letters : Nat → Int64) (A_lengths : Nat → Int32) (B_left : Int64) (B_right : Int64) (B_found : Int32) (B_least : Int32) (B_first : Nat → Int32) (Q_letterSurplus : Int32) (Q_weights : Nat → Int32) (Q_possible : Nat → Int32) (C_size : Int32) (C_variables : Nat → Int32) (C_relations : Nat → Int32) (C_numbers : Nat → Int32) (A2_letters : Nat → Int64) (A2_lengths : Nat → Int32) (N_size : Int32) (N_solved : Int32) (N_dropped : Int32) (N_lefts : Nat → Int64) (N_rights : Nat → Int64) (N_parents : Nat → Int32) (N_rules : Nat → Int32) (N_depths : Nat → Int32) (E2_left : Int64) (E2_right : Int64)  (r : Int32) (N_size_o : Int32) (N_solved_o : Int32) (N_dropped_o : Int32) (N_lefts_o : Nat → Int64) (N_rights_o : Nat → Int64) (N_parents_o : Nat → Int32) (N_rules_o : Nat → Int32) (N_depths_o : Nat → Int32) (h : fX_proofLength E_left E_right N_lefts N_rights N_parents N_rules N_depths = some (r, N_size_o, N_solved_o, N_dropped_o, N_lefts_o, N_rights_o, N_parents_o, N_rules_o, N_depths_o)) : Ct g l yX11_proofLength cX11_proofLength 1 (some .int) rmX11_proofLength [.ref aX] (wX11 g aX aT aT_characters aE aH aH_lefts aH_rights aS aS_lefts aS_rights aS_filled aA aA_letters aA_lengths aK aB aB_first aQ aQ_weights aQ_possible aC aC_variables aC_relations aC_numbers aA2 aA2_letters aA2_lengths aN aN_lefts aN_rights aN_parents aN_rules aN_depths aE2 T_size T_characters E_left E_right H_size H_lefts H_rights S_lefts S_rights S_filled A_letters A_lengths B_left B_right B_found B_least B_first Q_letterSurplus Q_weights Q_possible C_size C_variables C_relations C_numbers A2_letters A2_lengths N_size N_solved N_dropped N_lefts N_rights N_parents N_rules N_depths E2_left E2_right) (some (.int r)) (wX11 g aX aT aT_characters aE aH aH_lefts aH_rights aS aS_lefts aS_rights aS_filled aA aA_letters aA_lengths aK aB aB_first aQ aQ_weights aQ_possible aC aC_variables aC_relations aC_numbers aA2 aA2_letters aA2_lengths aN aN_lefts aN_rights aN_parents aN_rules aN_depths aE2 T_size T_characters E_left E_right H_size H_lefts H_rights S_lefts S_rights S_filled A_letters A_lengths B_left B_right B_found B_least B_first Q_letterSurplus Q_weights Q_possible C_size C_variables C_relations C_numbers A2_letters A2_lengths N_size_o N_solved_o N_dropped_o N_lefts_o N_rights_o N_parents_o N_rules_o N_depths_o E2_left E2_right) := by
  refine Ct.introI (by decide) (Nat.le_of_ble_eq_true rfl) ?_
  intro p e s m below meth c A QQ ls hyp hret
  obtain ⟨hx, hb, hml, hts, hown, hA, hE, hP, hD, hl⟩ := hyp
  have hK := hE.1
  have hS : va_S A s.heap s.heap [] := va_S.rf
  have X : Here g p s m c cX11_proofLength 1 ([.ref aX] : List Value).toArray RX11 A := ⟨⟨hx, hb, hml, hown, hts⟩, hE, hA⟩
  have hl : lv_has ls 1 [(0, .ref aX)] := hl
  obtain ⟨H, hH⟩ : ∃ H, H = s.heap := ⟨_, rfl⟩
  obtain ⟨locs, hlocs⟩ : ∃ l : List Loc, l = [] := ⟨_, rfl⟩
  rw [show W p l e rmX11_proofLength s m ([.ref aX] : List Value).toArray below meth c s.heap [] 0 0 QQ (F0 m 0 ls []) = W p l e rmX11_proofLength s m ([.ref aX] : List Value).toArray below meth c H locs 0 0 QQ (F0 m 0 ls []) by rw [hH, hlocs]]
  have hP : va_P g.1 vwCl (wX11 g aX aT aT_characters aE aH aH_lefts aH_rights aS aS_lefts aS_rights aS_filled aA aA_letters aA_lengths aK aB aB_first aQ aQ_weights aQ_possible aC aC_variables aC_relations aC_numbers aA2 aA2_letters aA2_lengths aN aN_lefts aN_rights aN_parents aN_rules aN_depths aE2 T_size T_characters E_left E_right H_size H_lefts H_rights S_lefts S_rights S_filled A_letters A_lengths B_left B_right B_found B_least B_first Q_letterSurplus Q_weights Q_possible C_size C_variables C_relations C_numbers A2_letters A2_lengths N_size N_solved N_dropped N_lefts N_rights N_parents N_rules N_depths E2_left E2_right) H := by rw [hH]; exact hP
  have hD : va_D A (wX11 g aX aT aT_characters aE aH aH_lefts aH_rights aS aS_lefts aS_rights aS_filled aA aA_letters aA_lengths aK aB aB_first aQ aQ_weights aQ_possible aC aC_variables aC_relations aC_numbers aA2 aA2_letters aA2_lengths aN aN_lefts aN_rights aN_parents aN_rules aN_depths aE2 T_size T_characters E_left E_right H_size H_lefts H_rights S_lefts S_rights S_filled A_letters A_lengths B_left B_right B_found B_least B_first Q_letterSurplus Q_weights Q_possible C_size C_variables C_relations C_numbers A2_letters A2_lengths N_size N_solved N_dropped N_lefts N_rights N_parents N_rules N_depths E2_left E2_right) := hD
  have hS : va_S A s.heap H locs := by rw [hH, hlocs]; exact hS
  clear hH hlocs
  refine lv_aload_n hx hb dX11_proofLength_0 rfl (lv_at hl 0 rfl) ?_
  refine va_get (D := g.1) (ci := 10) (v := .ref aN) (C := RX11) (T := TX11) (N := 10) hx hb hts inBX11 hown hK hP 0 rfl rfl 8 (by decide) (hts _ wd2_0) (fun _ h9 => h9) rfl dX11_proofLength_1 ?_
  refine lv_aload_n hx hb dX11_proofLength_4 rfl (lv_at hl 0 rfl) ?_
  refine va_get (D := g.1) (ci := 10) (v := .ref aE) (C := RX11) (T := TX11) (N := 10) hx hb hts inBX11 hown hK hP 0 rfl rfl 1 (by decide) (hts _ wd1_233) (fun _ h9 => h9) rfl dX11_proofLength_5 ?_
  obtain ⟨t8, N_size_8, N_solved_8, N_dropped_8, N_lefts_8, N_rights_8, N_parents_8, N_rules_8, N_depths_8, hc8, h⟩ := bd9_to h
  refine go_P (st1 := [.int t8]) (W1 := (wX11 g aX aT aT_characters aE aH aH_lefts aH_rights aS aS_lefts aS_rights aS_filled aA aA_letters aA_lengths aK aB aB_first aQ aQ_weights aQ_possible aC aC_variables aC_relations aC_numbers aA2 aA2_letters aA2_lengths aN aN_lefts aN_rights aN_parents aN_rules aN_depths aE2 T_size T_characters E_left E_right H_size H_lefts H_rights S_lefts S_rights S_filled A_letters A_lengths B_left B_right B_found B_least B_first Q_letterSurplus Q_weights Q_possible C_size C_variables C_relations C_numbers A2_letters A2_lengths N_size_8 N_solved_8 N_dropped_8 N_lefts_8 N_rights_8 N_parents_8 N_rules_8 N_depths_8 E2_left E2_right)) (run_V (As := [.ref aE]) (rest := []) X hS (mX7_answerFor g l  aN aN_lefts aN_rights aN_parents aN_rules aN_depths aE N_size N_solved N_dropped N_lefts N_rights N_parents N_rules N_depths E_left E_right t8 N_size_8 N_solved_8 N_dropped_8 N_lefts_8 N_rights_8 N_parents_8 N_rules_8 N_depths_8 hc8) okX7_answerFor wd4_31 ⟨Nat.le_of_ble_eq_true rfl, Nat.le_of_ble_eq_true rfl⟩ ⟨rfl, rfl⟩ (va_recv hK hP (ci := 7) (q0 := 27) rfl rfl) (sub_P hP [27, 28, 29, 30, 31, 32, 3] rfl) (hD.sub [27, 28, 29, 30, 31, 32, 3] (by decide) rfl) (va_free hD hS hA [27, 28, 29, 30, 31, 32, 3] rfl) rfl hl.1 rfl (Nat.le_of_ble_eq_true rfl) dX11_proofLength_8 ⟨Nat.zero_le _, Nat.zero_le _⟩) hS (va_free hD hS hA [27, 28, 29, 30, 31, 32, 3] rfl) hP hD [27, 28, 29, 30, 31, 32, 3] [0, 1, 2, 4, 5, 6, 7, 8, 9, 10, 11, 12, 13, 14, 15, 16, 17, 18, 19, 20, 21, 22, 23, 24, 25, 26, 33] [0, 1, 2, 33, 3, 4, 5, 6, 7, 8, 9, 10, 11, 12, 13, 14, 15, 16, 17, 18, 19, 20, 21, 22, 23, 24, 25, 27, 28, 29, 30, 31, 32, 26] rfl rfl (by decide) (by decide) rfl (by decide) rfl (fun H locs hP hD hS => ?_)
  refine lv_iconst (v := (1 : Int32)) hx hb dX11_proofLength_11 (by decide) ?_
  refine lv_icmp_ne (tgt := 25) hx hb dX11_proofLength_12 (by decide) (fun q12 => ?_) (fun q12 => ?_)
  · have h := ifF h q12
    refine lv_bipush (v := ((-9) : Int32)) hx hb dX11_proofLength_25 (by decide) ?_
    have h : some (((-9) : Int32), N_size_8, N_solved_8, N_dropped_8, N_lefts_8, N_rights_8, N_parents_8, N_rules_8, N_depths_8) = some (r, N_size_o, N_solved_o, N_dropped_o, N_lefts_o, N_rights_o, N_parents_o, N_rules_o, N_depths_o) := h
    cases h
    exact hret _ _ _ _ hP hD hS dX11_proofLength_27
  have h := ifT h q12
  refine lv_aload_n hx hb dX11_proofLength_15 rfl (lv_at hl 0 rfl) ?_
  refine va_get (D := g.1) (ci := 10) (v := .ref aN) (C := RX11) (T := TX11) (N := 10) hx hb hts inBX11 hown hK hP 0 rfl rfl 8 (by decide) (hts _ wd2_0) (fun _ h9 => h9) rfl dX11_proofLength_16 ?_
  obtain ⟨t19, hc19, h⟩ := bd1_to h
  refine go_P (st1 := [.int t19]) (W1 := (wX11 g aX aT aT_characters aE aH aH_lefts aH_rights aS aS_lefts aS_rights aS_filled aA aA_letters aA_lengths aK aB aB_first aQ aQ_weights aQ_possible aC aC_variables aC_relations aC_numbers aA2 aA2_letters aA2_lengths aN aN_lefts aN_rights aN_parents aN_rules aN_depths aE2 T_size T_characters E_left E_right H_size H_lefts H_rights S_lefts S_rights S_filled A_letters A_lengths B_left B_right B_found B_least B_first Q_letterSurplus Q_weights Q_possible C_size C_variables C_relations C_numbers A2_letters A2_lengths N_size_8 N_solved_8 N_dropped_8 N_lefts_8 N_rights_8 N_parents_8 N_rules_8 N_depths_8 E2_left E2_right)) (run_V (As := []) (rest := []) X hS (mX7_proofSize g l  aN aN_lefts aN_rights aN_parents aN_rules aN_depths N_size_8 N_solved_8 N_dropped_8 N_lefts_8 N_rights_8 N_parents_8 N_rules_8 N_depths_8 t19 hc19) okX7_proofSize wd4_77 ⟨Nat.le_of_ble_eq_true rfl, Nat.le_of_ble_eq_true rfl⟩ ⟨rfl, rfl⟩ (va_recv hK hP (ci := 7) (q0 := 27) rfl rfl) (sub_P hP [27, 28, 29, 30, 31, 32] rfl) (hD.sub [27, 28, 29, 30, 31, 32] (by decide) rfl) (va_free hD hS hA [27, 28, 29, 30, 31, 32] rfl) rfl hl.1 rfl (Nat.le_of_ble_eq_true rfl) dX11_proofLength_19 ⟨Nat.zero_le _, Nat.zero_le _⟩) hS (va_free hD hS hA [27, 28, 29, 30, 31, 32] rfl) hP hD [27, 28, 29, 30, 31, 32] [0, 1, 2, 3, 4, 5, 6, 7, 8, 9, 10, 11, 12, 13, 14, 15, 16, 17, 18, 19, 20, 21, 22, 23, 24, 25, 26, 33] [0, 1, 2, 3, 4, 5, 6, 7, 8, 9, 10, 11, 12, 13, 14, 15, 16, 17, 18, 19, 20, 21, 22, 23, 24, 25, 26, 28, 29, 30, 31, 32, 33, 27] rfl rfl (by decide) (by decide) rfl (by decide) rfl (fun H locs hP hD hS => ?_)
  refine lv_goto (tgt := 27) hx hb dX11_proofLength_22 (by decide) ?_
  have h : some (t19, N_size_8, N_solved_8, N_dropped_8, N_lefts_8, N_rights_8, N_parents_8, N_rules_8, N_depths_8) = some (r, N_size_o, N_solved_o, N_dropped_o, N_lefts_o, N_rights_o, N_parents_o, N_rules_o, N_depths_o) := h
  cases h
  exact hret _ _ _ _ hP hD hS dX11_proofLength_27
set_option maxHeartbeats 4000000 in
set_option maxRecDepth 100000 in
theorem mX7_ruleOfProof (g : GP) (l : Launch) (aN aN_lefts aN_rights aN_parents aN_rules aN_depths : Nat) (N_size : Int32) (N_solved : Int32) (N_dropped : Int32) (N_lefts : Nat → Int64) (N_rights : Nat → Int64) (N_parents : Nat → Int32) (N_rules : Nat → Int32) (N_depths : Nat → Int32) (x1 : Int32) (r : Int32) (h : fN_ruleOfProof N_size N_solved N_parents N_rules N_depths x1 = some r) : Ct g l yX7_ruleOfProof cX7_ruleOfProof 4 (some .int) rmX7_ruleOfProof [.ref aN, .int x1] (wX7 g aN aN_lefts aN_rights aN_parents aN_rules aN_depths N_size N_solved N_dropped N_lefts N_rights N_parents N_rules N_depths) (some (.int r)) (wX7 g aN aN_lefts aN_rights aN_parents aN_rules aN_depths N_size N_solved N_dropped N_lefts N_rights N_parents N_rules N_depths) := by
  refine Ct.introI (by decide) (Nat.le_of_ble_eq_true rfl) ?_
  intro p e s m below meth c A QQ ls hyp hret
  obtain ⟨hx, hb, hml, hts, hown, hA, hE, hP, hD, hl⟩ := hyp
  have hK := hE.1
  have hS : va_S A s.heap s.heap [] := va_S.rf
  have X : Here g p s m c cX7_ruleOfProof 4 ([.ref aN, .int x1] : List Value).toArray RX7 A := ⟨⟨hx, hb, hml, hown, hts⟩, hE, hA⟩
  have B38 : ∀ (v2 : Int32) (ls : Array Slot) (H : Heap) (locs : List Loc), lv_has ls 4 [(0, .ref aN), (2, .int v2)] → va_P g.1 vwCl (wX7 g aN aN_lefts aN_rights aN_parents aN_rules aN_depths N_size N_solved N_dropped N_lefts N_rights N_parents N_rules N_depths) H → va_D A (wX7 g aN aN_lefts aN_rights aN_parents aN_rules aN_depths N_size N_solved N_dropped N_lefts N_rights N_parents N_rules N_depths) → va_S A s.heap H locs → fN_ruleOfProof_38 N_size N_rules v2 = some r → W p l e rmX7_ruleOfProof s m ([.ref aN, .int x1] : List Value).toArray below meth c H locs 0 0 QQ (F0 m 38 ls []) := by
    intro v2 ls H locs hl hP hD hS h
    refine lv_aload_n hx hb dX7_ruleOfProof_38 rfl (lv_at hl 0 rfl) ?_
    refine lv_iload_n hx hb dX7_ruleOfProof_39 rfl (lv_at hl 1 rfl) ?_
    obtain ⟨t40, hc40, h⟩ := bd1_to h
    refine go_A (st1 := [.int t40]) (run_V (As := [.int v2]) (rest := []) X hS (mX7_isNode g l  aN aN_lefts aN_rights aN_parents aN_rules aN_depths N_size N_solved N_dropped N_lefts N_rights N_parents N_rules N_depths v2 t40 hc40) okX7_isNode wd4_43 ⟨Nat.le_of_ble_eq_true rfl, Nat.le_of_ble_eq_true rfl⟩ ⟨rfl, rfl⟩ (va_recv hK hP (ci := 7) (q0 := 0) rfl rfl) hP hD (all_F hS hA hD) rfl hl.1 rfl (Nat.le_of_ble_eq_true rfl) dX7_ruleOfProof_40 ⟨Nat.zero_le _, Nat.zero_le _⟩) hS (all_F hS hA hD) rfl (fun H locs hP hD hS => ?_)
    refine lv_if_eq (tgt := 55) hx hb dX7_ruleOfProof_43 (by decide) (fun q43 => ?_) (fun q43 => ?_)
    · have h := ifT h q43
      refine lv_bipush (v := ((-9) : Int32)) hx hb dX7_ruleOfProof_55 (by decide) ?_
      have h : some ((-9) : Int32) = some r := h
      cases h
      exact hret _ _ _ _ hP hD hS dX7_ruleOfProof_57
    have h := ifF h q43
    refine lv_aload_n hx hb dX7_ruleOfProof_46 rfl (lv_at hl 0 rfl) ?_
    refine va_get (D := g.1) (ci := 7) (v := .ref aN_rules) (C := RX7) (T := TX7) (N := 8) hx hb hts inBX7 hown hK hP 0 rfl rfl 3 (by decide) (hts _ wd1_192) (fun _ h9 => h9) rfl dX7_ruleOfProof_47 ?_
    refine lv_iload_n hx hb dX7_ruleOfProof_50 rfl (lv_at hl 1 rfl) ?_
    have hin := ld_in h
    refine va_iald hx hb hK hP 4 0 rfl rfl hin dX7_ruleOfProof_51 ?_
    refine lv_topi (fun t51 et51 => ?_)
    have h := ld_to h et51
    refine lv_goto (tgt := 57) hx hb dX7_ruleOfProof_52 (by decide) ?_
    have h : some t51 = some r := h
    cases h
    exact hret _ _ _ _ hP hD hS dX7_ruleOfProof_57
  have L10 : ∀ (n10 : Nat), ∀ (v2 : Int32) (v3 : Int32) (ls : Array Slot) (H : Heap) (locs : List Loc), lv_has ls 4 [(0, .ref aN), (1, .int x1), (2, .int v2), (3, .int v3)] → va_P g.1 vwCl (wX7 g aN aN_lefts aN_rights aN_parents aN_rules aN_depths N_size N_solved N_dropped N_lefts N_rights N_parents N_rules N_depths) H → va_D A (wX7 g aN aN_lefts aN_rights aN_parents aN_rules aN_depths N_size N_solved N_dropped N_lefts N_rights N_parents N_rules N_depths) → va_S A s.heap H locs → fx2 (fN_ruleOfProof_10 N_size N_parents N_rules x1) n10 v2 v3 = some r → W p l e rmX7_ruleOfProof s m ([.ref aN, .int x1] : List Value).toArray below meth c H locs 0 0 QQ (F0 m 10 ls []) := by
    intro n10
    induction n10 with
    | zero => intro v2 v3 ls H locs hl hP hD hS h; exact fx2_0 h
    | succ n10 ih10 =>
      intro v2 v3 ls H locs hl hP hD hS h
      have h := (fx2_s (fN_ruleOfProof_10 N_size N_parents N_rules x1) n10 v2 v3).symm.trans h
      refine lv_iload_n hx hb dX7_ruleOfProof_10 rfl (lv_at hl 3 rfl) ?_
      refine lv_iload_n hx hb dX7_ruleOfProof_11 rfl (lv_at hl 1 rfl) ?_
      refine lv_iconst (v := (1 : Int32)) hx hb dX7_ruleOfProof_12 (by decide) ?_
      refine lv_iadd hx hb dX7_ruleOfProof_13 ?_
      refine lv_icmp_le (tgt := 38) hx hb dX7_ruleOfProof_14 (by decide) (fun q14 => ?_) (fun q14 => ?_)
      · have h := ifT h q14
        exact B38 v2 ls H locs (lv_sub hl [0, 2] rfl) hP hD hS h
      have h := ifF h q14
      refine lv_aload_n hx hb dX7_ruleOfProof_17 rfl (lv_at hl 0 rfl) ?_
      refine lv_iload_n hx hb dX7_ruleOfProof_18 rfl (lv_at hl 2 rfl) ?_
      obtain ⟨t19, hc19, h⟩ := bd1_to h
      refine go_A (st1 := [.int t19]) (run_V (As := [.int v2]) (rest := []) X hS (mX7_isNode g l  aN aN_lefts aN_rights aN_parents aN_rules aN_depths N_size N_solved N_dropped N_lefts N_rights N_parents N_rules N_depths v2 t19 hc19) okX7_isNode wd4_43 ⟨Nat.le_of_ble_eq_true rfl, Nat.le_of_ble_eq_true rfl⟩ ⟨rfl, rfl⟩ (va_recv hK hP (ci := 7) (q0 := 0) rfl rfl) hP hD (all_F hS hA hD) rfl hl.1 rfl (Nat.le_of_ble_eq_true rfl) dX7_ruleOfProof_19 ⟨Nat.zero_le _, Nat.zero_le _⟩) hS (all_F hS hA hD) rfl (fun H locs hP hD hS => ?_)
      refine lv_if_eq (tgt := 38) hx hb dX7_ruleOfProof_22 (by decide) (fun q22 => ?_) (fun q22 => ?_)
      · have h := ifT h q22
        exact B38 v2 ls H locs (lv_sub hl [0, 2] rfl) hP hD hS h
      have h := ifF h q22
      refine lv_aload_n hx hb dX7_ruleOfProof_25 rfl (lv_at hl 0 rfl) ?_
      refine va_get (D := g.1) (ci := 7) (v := .ref aN_parents) (C := RX7) (T := TX7) (N := 8) hx hb hts inBX7 hown hK hP 0 rfl rfl 2 (by decide) (hts _ wd1_191) (fun _ h9 => h9) rfl dX7_ruleOfProof_26 ?_
      refine lv_iload_n hx hb dX7_ruleOfProof_29 rfl (lv_at hl 2 rfl) ?_
      have hin := ld_in h
      refine va_iald hx hb hK hP 3 0 rfl rfl hin dX7_ruleOfProof_30 ?_
      refine lv_topi (fun t30 et30 => ?_)
      have h := ld_to h et30
      refine lv_istore_n (lv' := [(2, .int t30), (0, .ref aN), (1, .int x1), (3, .int v3)]) hx hb dX7_ruleOfProof_31 rfl hl (by decide) rfl (fun ls hl => ?_)
      obtain ⟨t32, et32⟩ : ∃ y : Int32, y = v3 + ((-1) : Int32) := ⟨_, rfl⟩
      refine lv_iinc (v := t32) (lv' := [(3, .int t32), (2, .int t30), (0, .ref aN), (1, .int x1)]) hx hb dX7_ruleOfProof_32 hl (k := 3) rfl (by rw [et32]; rfl) (by decide) rfl (fun ls hl => ?_)
      have h := st_to h et32
      refine lv_goto (tgt := 10) hx hb dX7_ruleOfProof_35 (by decide) ?_
      exact ih10 t30 t32 ls H locs (lv_sub hl [2, 3, 1, 0] rfl) hP hD hS h
  have hl : lv_has ls 4 [(0, .ref aN), (1, .int x1)] := hl
  obtain ⟨H, hH⟩ : ∃ H, H = s.heap := ⟨_, rfl⟩
  obtain ⟨locs, hlocs⟩ : ∃ l : List Loc, l = [] := ⟨_, rfl⟩
  rw [show W p l e rmX7_ruleOfProof s m ([.ref aN, .int x1] : List Value).toArray below meth c s.heap [] 0 0 QQ (F0 m 0 ls []) = W p l e rmX7_ruleOfProof s m ([.ref aN, .int x1] : List Value).toArray below meth c H locs 0 0 QQ (F0 m 0 ls []) by rw [hH, hlocs]]
  have hP : va_P g.1 vwCl (wX7 g aN aN_lefts aN_rights aN_parents aN_rules aN_depths N_size N_solved N_dropped N_lefts N_rights N_parents N_rules N_depths) H := by rw [hH]; exact hP
  have hD : va_D A (wX7 g aN aN_lefts aN_rights aN_parents aN_rules aN_depths N_size N_solved N_dropped N_lefts N_rights N_parents N_rules N_depths) := hD
  have hS : va_S A s.heap H locs := by rw [hH, hlocs]; exact hS
  clear hH hlocs
  refine lv_aload_n hx hb dX7_ruleOfProof_0 rfl (lv_at hl 0 rfl) ?_
  refine va_get (D := g.1) (ci := 7) (v := .int N_solved) (C := RX7) (T := TX7) (N := 8) hx hb hts inBX7 hown hK hP 0 rfl rfl 6 (by decide) (hts _ wd1_195) (fun _ h9 => h9) rfl dX7_ruleOfProof_1 ?_
  refine lv_istore_n (lv' := [(2, .int N_solved), (0, .ref aN), (1, .int x1)]) hx hb dX7_ruleOfProof_4 rfl hl (by decide) rfl (fun ls hl => ?_)
  refine lv_aload_n hx hb dX7_ruleOfProof_5 rfl (lv_at hl 1 rfl) ?_
  obtain ⟨t6, hc6, h⟩ := bd1_to h
  refine go_A (st1 := [.int t6]) (run_V (As := []) (rest := []) X hS (mX7_proofSize g l  aN aN_lefts aN_rights aN_parents aN_rules aN_depths N_size N_solved N_dropped N_lefts N_rights N_parents N_rules N_depths t6 hc6) okX7_proofSize wd4_89 ⟨Nat.le_of_ble_eq_true rfl, Nat.le_of_ble_eq_true rfl⟩ ⟨rfl, rfl⟩ (va_recv hK hP (ci := 7) (q0 := 0) rfl rfl) hP hD (all_F hS hA hD) rfl hl.1 rfl (Nat.le_of_ble_eq_true rfl) dX7_ruleOfProof_6 ⟨Nat.zero_le _, Nat.zero_le _⟩) hS (all_F hS hA hD) rfl (fun H locs hP hD hS => ?_)
  refine lv_istore_n (lv' := [(3, .int t6), (2, .int N_solved), (0, .ref aN), (1, .int x1)]) hx hb dX7_ruleOfProof_9 rfl hl (by decide) rfl (fun ls hl => ?_)
  exact L10 FU N_solved t6 ls H locs (lv_sub hl [2, 3, 1, 0] rfl) hP hD hS h
set_option maxHeartbeats 4000000 in
set_option maxRecDepth 100000 in
theorem mX11_proofRule (g : GP) (l : Launch) (aX aT aT_characters aE aH aH_lefts aH_rights aS aS_lefts aS_rights aS_filled aA aA_letters aA_lengths aK aB aB_first aQ aQ_weights aQ_possible aC aC_variables aC_relations aC_numbers aA2 aA2_letters aA2_lengths aN aN_lefts aN_rights aN_parents aN_rules aN_depths aE2 : Nat) (T_size : Int32) (T_characters : Nat → Int32) (E_left : Int64) (E_right : Int64) (H_size : Int32) (H_lefts : Nat → Int64) (H_rights : Nat → Int64) (S_lefts : Nat → Int64) (S_rights : Nat → Int64) (S_filled : Nat → Int32) (A_letters : Nat → Int64) (A_lengths : Nat → Int32) (B_left : Int64) (B_right : Int64) (B_found : Int32) (B_least : Int32) (B_first : Nat → Int32) (Q_letterSurplus : Int32) (Q_weights : Nat → Int32) (Q_possible : Nat → Int32) (C_size : Int32) (C_variables : Nat → Int32) (C_relations : Nat → Int32) (C_numbers : Nat → Int32) (A2_letters : Nat → Int64) (A2_lengths : Nat → Int32) (N_size : Int32) (N_solved : Int32) (N_dropped : Int32) (N_lefts : Nat → Int64) (N_rights : Nat → Int64) (N_parents : Nat → Int32) (N_rules : Nat → Int32) (N_depths : Nat → Int32) (E2_left : Int64) (E2_right : Int64) (x1 : Int32) (r : Int32) (N_size_o : Int32) (N_solved_o : Int32) (N_dropped_o : Int32) (N_lefts_o : Nat → Int64) (N_rights_o : Nat → Int64) (N_parents_o : Nat → Int32) (N_rules_o : Nat → Int32) (N_depths_o : Nat → Int32) (h : fX_proofRule E_left E_right N_lefts N_rights N_parents N_rules N_depths x1 = some (r, N_size_o, N_solved_o, N_dropped_o, N_lefts_o, N_rights_o, N_parents_o, N_rules_o, N_depths_o)) : Ct g l yX11_proofRule cX11_proofRule 2 (some .int) rmX11_proofRule [.ref aX, .int x1] (wX11 g aX aT aT_characters aE aH aH_lefts aH_rights aS aS_lefts aS_rights aS_filled aA aA_letters aA_lengths aK aB aB_first aQ aQ_weights aQ_possible aC aC_variables aC_relations aC_numbers aA2 aA2_letters aA2_lengths aN aN_lefts aN_rights aN_parents aN_rules aN_depths aE2 T_size T_characters E_left E_right H_size H_lefts H_rights S_lefts S_rights S_filled A_letters A_lengths B_left B_right B_found B_least B_first Q_letterSurplus Q_weights Q_possible C_size C_variables C_relations C_numbers A2_letters A2_lengths N_size N_solved N_dropped N_lefts N_rights N_parents N_rules N_depths E2_left E2_right) (some (.int r)) (wX11 g aX aT aT_characters aE aH aH_lefts aH_rights aS aS_lefts aS_rights aS_filled aA aA_letters aA_lengths aK aB aB_first aQ aQ_weights aQ_possible aC aC_variables aC_relations aC_numbers aA2 aA2_letters aA2_lengths aN aN_lefts aN_rights aN_parents aN_rules aN_depths aE2 T_size T_characters E_left E_right H_size H_lefts H_rights S_lefts S_rights S_filled A_letters A_lengths B_left B_right B_found B_least B_first Q_letterSurplus Q_weights Q_possible C_size C_variables C_relations C_numbers A2_letters A2_lengths N_size_o N_solved_o N_dropped_o N_lefts_o N_rights_o N_parents_o N_rules_o N_depths_o E2_left E2_right) := by
  refine Ct.introI (by decide) (Nat.le_of_ble_eq_true rfl) ?_
  intro p e s m below meth c A QQ ls hyp hret
  obtain ⟨hx, hb, hml, hts, hown, hA, hE, hP, hD, hl⟩ := hyp
  have hK := hE.1
  have hS : va_S A s.heap s.heap [] := va_S.rf
  have X : Here g p s m c cX11_proofRule 2 ([.ref aX, .int x1] : List Value).toArray RX11 A := ⟨⟨hx, hb, hml, hown, hts⟩, hE, hA⟩
  have hl : lv_has ls 2 [(0, .ref aX), (1, .int x1)] := hl
  obtain ⟨H, hH⟩ : ∃ H, H = s.heap := ⟨_, rfl⟩
  obtain ⟨locs, hlocs⟩ : ∃ l : List Loc, l = [] := ⟨_, rfl⟩
  rw [show W p l e rmX11_proofRule s m ([.ref aX, .int x1] : List Value).toArray below meth c s.heap [] 0 0 QQ (F0 m 0 ls []) = W p l e rmX11_proofRule s m ([.ref aX, .int x1] : List Value).toArray below meth c H locs 0 0 QQ (F0 m 0 ls []) by rw [hH, hlocs]]
  have hP : va_P g.1 vwCl (wX11 g aX aT aT_characters aE aH aH_lefts aH_rights aS aS_lefts aS_rights aS_filled aA aA_letters aA_lengths aK aB aB_first aQ aQ_weights aQ_possible aC aC_variables aC_relations aC_numbers aA2 aA2_letters aA2_lengths aN aN_lefts aN_rights aN_parents aN_rules aN_depths aE2 T_size T_characters E_left E_right H_size H_lefts H_rights S_lefts S_rights S_filled A_letters A_lengths B_left B_right B_found B_least B_first Q_letterSurplus Q_weights Q_possible C_size C_variables C_relations C_numbers A2_letters A2_lengths N_size N_solved N_dropped N_lefts N_rights N_parents N_rules N_depths E2_left E2_right) H := by rw [hH]; exact hP
  have hD : va_D A (wX11 g aX aT aT_characters aE aH aH_lefts aH_rights aS aS_lefts aS_rights aS_filled aA aA_letters aA_lengths aK aB aB_first aQ aQ_weights aQ_possible aC aC_variables aC_relations aC_numbers aA2 aA2_letters aA2_lengths aN aN_lefts aN_rights aN_parents aN_rules aN_depths aE2 T_size T_characters E_left E_right H_size H_lefts H_rights S_lefts S_rights S_filled A_letters A_lengths B_left B_right B_found B_least B_first Q_letterSurplus Q_weights Q_possible C_size C_variables C_relations C_numbers A2_letters A2_lengths N_size N_solved N_dropped N_lefts N_rights N_parents N_rules N_depths E2_left E2_right) := hD
  have hS : va_S A s.heap H locs := by rw [hH, hlocs]; exact hS
  clear hH hlocs
  refine lv_aload_n hx hb dX11_proofRule_0 rfl (lv_at hl 0 rfl) ?_
  refine va_get (D := g.1) (ci := 10) (v := .ref aN) (C := RX11) (T := TX11) (N := 10) hx hb hts inBX11 hown hK hP 0 rfl rfl 8 (by decide) (hts _ wd2_0) (fun _ h9 => h9) rfl dX11_proofRule_1 ?_
  refine lv_aload_n hx hb dX11_proofRule_4 rfl (lv_at hl 0 rfl) ?_
  refine va_get (D := g.1) (ci := 10) (v := .ref aE) (C := RX11) (T := TX11) (N := 10) hx hb hts inBX11 hown hK hP 0 rfl rfl 1 (by decide) (hts _ wd1_233) (fun _ h9 => h9) rfl dX11_proofRule_5 ?_
  obtain ⟨t8, N_size_8, N_solved_8, N_dropped_8, N_lefts_8, N_rights_8, N_parents_8, N_rules_8, N_depths_8, hc8, h⟩ := bd9_to h
  refine go_P (st1 := [.int t8]) (W1 := (wX11 g aX aT aT_characters aE aH aH_lefts aH_rights aS aS_lefts aS_rights aS_filled aA aA_letters aA_lengths aK aB aB_first aQ aQ_weights aQ_possible aC aC_variables aC_relations aC_numbers aA2 aA2_letters aA2_lengths aN aN_lefts aN_rights aN_parents aN_rules aN_depths aE2 T_size T_characters E_left E_right H_size H_lefts H_rights S_lefts S_rights S_filled A_letters A_lengths B_left B_right B_found B_least B_first Q_letterSurplus Q_weights Q_possible C_size C_variables C_relations C_numbers A2_letters A2_lengths N_size_8 N_solved_8 N_dropped_8 N_lefts_8 N_rights_8 N_parents_8 N_rules_8 N_depths_8 E2_left E2_right)) (run_V (As := [.ref aE]) (rest := []) X hS (mX7_answerFor g l  aN aN_lefts aN_rights aN_parents aN_rules aN_depths aE N_size N_solved N_dropped N_lefts N_rights N_parents N_rules N_depths E_left E_right t8 N_size_8 N_solved_8 N_dropped_8 N_lefts_8 N_rights_8 N_parents_8 N_rules_8 N_depths_8 hc8) okX7_answerFor wd4_31 ⟨Nat.le_of_ble_eq_true rfl, Nat.le_of_ble_eq_true rfl⟩ ⟨rfl, rfl⟩ (va_recv hK hP (ci := 7) (q0 := 27) rfl rfl) (sub_P hP [27, 28, 29, 30, 31, 32, 3] rfl) (hD.sub [27, 28, 29, 30, 31, 32, 3] (by decide) rfl) (va_free hD hS hA [27, 28, 29, 30, 31, 32, 3] rfl) rfl hl.1 rfl (Nat.le_of_ble_eq_true rfl) dX11_proofRule_8 ⟨Nat.zero_le _, Nat.zero_le _⟩) hS (va_free hD hS hA [27, 28, 29, 30, 31, 32, 3] rfl) hP hD [27, 28, 29, 30, 31, 32, 3] [0, 1, 2, 4, 5, 6, 7, 8, 9, 10, 11, 12, 13, 14, 15, 16, 17, 18, 19, 20, 21, 22, 23, 24, 25, 26, 33] [0, 1, 2, 33, 3, 4, 5, 6, 7, 8, 9, 10, 11, 12, 13, 14, 15, 16, 17, 18, 19, 20, 21, 22, 23, 24, 25, 27, 28, 29, 30, 31, 32, 26] rfl rfl (by decide) (by decide) rfl (by decide) rfl (fun H locs hP hD hS => ?_)
  refine lv_iconst (v := (1 : Int32)) hx hb dX11_proofRule_11 (by decide) ?_
  refine lv_icmp_eq (tgt := 18) hx hb dX11_proofRule_12 (by decide) (fun q12 => ?_) (fun q12 => ?_)
  · have h := ifT h q12
    refine lv_iload_n hx hb dX11_proofRule_18 rfl (lv_at hl 1 rfl) ?_
    refine lv_if_lt (tgt := 33) hx hb dX11_proofRule_19 (by decide) (fun q19 => ?_) (fun q19 => ?_)
    · have h := ifT h q19
      refine lv_iconst (v := ((-1) : Int32)) hx hb dX11_proofRule_33 (by decide) ?_
      refine lv_goto (tgt := 45) hx hb dX11_proofRule_34 (by decide) ?_
      have h : some (((-1) : Int32), N_size_8, N_solved_8, N_dropped_8, N_lefts_8, N_rights_8, N_parents_8, N_rules_8, N_depths_8) = some (r, N_size_o, N_solved_o, N_dropped_o, N_lefts_o, N_rights_o, N_parents_o, N_rules_o, N_depths_o) := h
      cases h
      exact hret _ _ _ _ hP hD hS dX11_proofRule_45
    have h := ifF h q19
    refine lv_iload_n hx hb dX11_proofRule_22 rfl (lv_at hl 1 rfl) ?_
    refine lv_aload_n hx hb dX11_proofRule_23 rfl (lv_at hl 0 rfl) ?_
    refine va_get (D := g.1) (ci := 10) (v := .ref aN) (C := RX11) (T := TX11) (N := 10) hx hb hts inBX11 hown hK hP 0 rfl rfl 8 (by decide) (hts _ wd2_0) (fun _ h9 => h9) rfl dX11_proofRule_24 ?_
    obtain ⟨t27, hc27, h⟩ := bd1_to h
    refine go_P (st1 := [.int t27, .int x1]) (W1 := (wX11 g aX aT aT_characters aE aH aH_lefts aH_rights aS aS_lefts aS_rights aS_filled aA aA_letters aA_lengths aK aB aB_first aQ aQ_weights aQ_possible aC aC_variables aC_relations aC_numbers aA2 aA2_letters aA2_lengths aN aN_lefts aN_rights aN_parents aN_rules aN_depths aE2 T_size T_characters E_left E_right H_size H_lefts H_rights S_lefts S_rights S_filled A_letters A_lengths B_left B_right B_found B_least B_first Q_letterSurplus Q_weights Q_possible C_size C_variables C_relations C_numbers A2_letters A2_lengths N_size_8 N_solved_8 N_dropped_8 N_lefts_8 N_rights_8 N_parents_8 N_rules_8 N_depths_8 E2_left E2_right)) (run_V (As := []) (rest := [.int x1]) X hS (mX7_proofSize g l  aN aN_lefts aN_rights aN_parents aN_rules aN_depths N_size_8 N_solved_8 N_dropped_8 N_lefts_8 N_rights_8 N_parents_8 N_rules_8 N_depths_8 t27 hc27) okX7_proofSize wd4_77 ⟨Nat.le_of_ble_eq_true rfl, Nat.le_of_ble_eq_true rfl⟩ ⟨rfl, rfl⟩ (va_recv hK hP (ci := 7) (q0 := 27) rfl rfl) (sub_P hP [27, 28, 29, 30, 31, 32] rfl) (hD.sub [27, 28, 29, 30, 31, 32] (by decide) rfl) (va_free hD hS hA [27, 28, 29, 30, 31, 32] rfl) rfl hl.1 rfl (Nat.le_of_ble_eq_true rfl) dX11_proofRule_27 ⟨Nat.zero_le _, Nat.zero_le _⟩) hS (va_free hD hS hA [27, 28, 29, 30, 31, 32] rfl) hP hD [27, 28, 29, 30, 31, 32] [0, 1, 2, 3, 4, 5, 6, 7, 8, 9, 10, 11, 12, 13, 14, 15, 16, 17, 18, 19, 20, 21, 22, 23, 24, 25, 26, 33] [0, 1, 2, 3, 4, 5, 6, 7, 8, 9, 10, 11, 12, 13, 14, 15, 16, 17, 18, 19, 20, 21, 22, 23, 24, 25, 26, 28, 29, 30, 31, 32, 33, 27] rfl rfl (by decide) (by decide) rfl (by decide) rfl (fun H locs hP hD hS => ?_)
    refine lv_icmp_lt (tgt := 37) hx hb dX11_proofRule_30 (by decide) (fun q30 => ?_) (fun q30 => ?_)
    · have h := ifT h q30
      refine lv_aload_n hx hb dX11_proofRule_37 rfl (lv_at hl 0 rfl) ?_
      refine va_get (D := g.1) (ci := 10) (v := .ref aN) (C := RX11) (T := TX11) (N := 10) hx hb hts inBX11 hown hK hP 0 rfl rfl 8 (by decide) (hts _ wd2_0) (fun _ h9 => h9) rfl dX11_proofRule_38 ?_
      refine lv_iload_n hx hb dX11_proofRule_41 rfl (lv_at hl 1 rfl) ?_
      obtain ⟨t42, hc42, h⟩ := bd1_to h
      refine go_P (st1 := [.int t42]) (W1 := (wX11 g aX aT aT_characters aE aH aH_lefts aH_rights aS aS_lefts aS_rights aS_filled aA aA_letters aA_lengths aK aB aB_first aQ aQ_weights aQ_possible aC aC_variables aC_relations aC_numbers aA2 aA2_letters aA2_lengths aN aN_lefts aN_rights aN_parents aN_rules aN_depths aE2 T_size T_characters E_left E_right H_size H_lefts H_rights S_lefts S_rights S_filled A_letters A_lengths B_left B_right B_found B_least B_first Q_letterSurplus Q_weights Q_possible C_size C_variables C_relations C_numbers A2_letters A2_lengths N_size_8 N_solved_8 N_dropped_8 N_lefts_8 N_rights_8 N_parents_8 N_rules_8 N_depths_8 E2_left E2_right)) (run_V (As := [.int x1]) (rest := []) X hS (mX7_ruleOfProof g l  aN aN_lefts aN_rights aN_parents aN_rules aN_depths N_size_8 N_solved_8 N_dropped_8 N_lefts_8 N_rights_8 N_parents_8 N_rules_8 N_depths_8 x1 t42 hc42) okX7_ruleOfProof wd4_85 ⟨Nat.le_of_ble_eq_true rfl, Nat.le_of_ble_eq_true rfl⟩ ⟨rfl, rfl⟩ (va_recv hK hP (ci := 7) (q0 := 27) rfl rfl) (sub_P hP [27, 28, 29, 30, 31, 32] rfl) (hD.sub [27, 28, 29, 30, 31, 32] (by decide) rfl) (va_free hD hS hA [27, 28, 29, 30, 31, 32] rfl) rfl hl.1 rfl (Nat.le_of_ble_eq_true rfl) dX11_proofRule_42 ⟨Nat.zero_le _, Nat.zero_le _⟩) hS (va_free hD hS hA [27, 28, 29, 30, 31, 32] rfl) hP hD [27, 28, 29, 30, 31, 32] [0, 1, 2, 3, 4, 5, 6, 7, 8, 9, 10, 11, 12, 13, 14, 15, 16, 17, 18, 19, 20, 21, 22, 23, 24, 25, 26, 33] [0, 1, 2, 3, 4, 5, 6, 7, 8, 9, 10, 11, 12, 13, 14, 15, 16, 17, 18, 19, 20, 21, 22, 23, 24, 25, 26, 28, 29, 30, 31, 32, 33, 27] rfl rfl (by decide) (by decide) rfl (by decide) rfl (fun H locs hP hD hS => ?_)
      have h : some (t42, N_size_8, N_solved_8, N_dropped_8, N_lefts_8, N_rights_8, N_parents_8, N_rules_8, N_depths_8) = some (r, N_size_o, N_solved_o, N_dropped_o, N_lefts_o, N_rights_o, N_parents_o, N_rules_o, N_depths_o) := h
      cases h
      exact hret _ _ _ _ hP hD hS dX11_proofRule_45
    have h := ifF h q30
    refine lv_iconst (v := ((-1) : Int32)) hx hb dX11_proofRule_33 (by decide) ?_
    refine lv_goto (tgt := 45) hx hb dX11_proofRule_34 (by decide) ?_
    have h : some (((-1) : Int32), N_size_8, N_solved_8, N_dropped_8, N_lefts_8, N_rights_8, N_parents_8, N_rules_8, N_depths_8) = some (r, N_size_o, N_solved_o, N_dropped_o, N_lefts_o, N_rights_o, N_parents_o, N_rules_o, N_depths_o) := h
    cases h
    exact hret _ _ _ _ hP hD hS dX11_proofRule_45
  have h := ifF h q12
  refine lv_bipush (v := ((-9) : Int32)) hx hb dX11_proofRule_15 (by decide) ?_
  have h : some (((-9) : Int32), N_size_8, N_solved_8, N_dropped_8, N_lefts_8, N_rights_8, N_parents_8, N_rules_8, N_depths_8) = some (r, N_size_o, N_solved_o, N_dropped_o, N_lefts_o, N_rights_o, N_parents_o, N_rules_o, N_depths_o) := h
  cases h
  exact hret _ _ _ _ hP hD hS dX11_proofRule_17
set_option maxHeartbeats 4000000 in
set_option maxRecDepth 100000 in
theorem mX0_empty (g : GP) (l : Launch) (aA aA_letters aA_lengths : Nat) (A_letters : Nat → Int64) (A_lengths : Nat → Int32)  (A_letters_o : Nat → Int64) (A_lengths_o : Nat → Int32) (h : fA_empty A_letters A_lengths = some (A_letters_o, A_lengths_o)) : Ct g l yX0_empty cX0_empty 2 none rmX0_empty [.ref aA] (wX0 g aA aA_letters aA_lengths A_letters A_lengths) none (wX0 g aA aA_letters aA_lengths A_letters_o A_lengths_o) := by
  refine Ct.introV (by decide) (Nat.le_of_ble_eq_true rfl) ?_
  intro p e s m below meth c A QQ ls hyp hret
  obtain ⟨hx, hb, hml, hts, hown, hA, hE, hP, hD, hl⟩ := hyp
  have hK := hE.1
  have hS : va_S A s.heap s.heap [] := va_S.rf
  have X : Here g p s m c cX0_empty 2 ([.ref aA] : List Value).toArray RX0 A := ⟨⟨hx, hb, hml, hown, hts⟩, hE, hA⟩
  have L2 : ∀ (n2 : Nat), ∀ (A_letters : Nat → Int64) (A_lengths : Nat → Int32) (v1 : Int32) (ls : Array Slot) (H : Heap) (locs : List Loc), lv_has ls 2 [(0, .ref aA), (1, .int v1)] → va_P g.1 vwCl (wX0 g aA aA_letters aA_lengths A_letters A_lengths) H → va_D A (wX0 g aA aA_letters aA_lengths A_letters A_lengths) → va_S A s.heap H locs → fx3 (fA_empty_2) n2 A_letters A_lengths v1 = some (A_letters_o, A_lengths_o) → W p l e rmX0_empty s m ([.ref aA] : List Value).toArray below meth c H locs 0 0 QQ (F0 m 2 ls []) := by
    intro n2
    induction n2 with
    | zero => intro A_letters A_lengths v1 ls H locs hl hP hD hS h; exact fx3_0 h
    | succ n2 ih2 =>
      intro A_letters A_lengths v1 ls H locs hl hP hD hS h
      have h := (fx3_s (fA_empty_2) n2 A_letters A_lengths v1).symm.trans h
      refine lv_iload_n hx hb dX0_empty_2 rfl (lv_at hl 1 rfl) ?_
      refine lv_iconst (v := (4 : Int32)) hx hb dX0_empty_3 (by decide) ?_
      refine lv_icmp_ge (tgt := 23) hx hb dX0_empty_4 (by decide) (fun q4 => ?_) (fun q4 => ?_)
      · have h := ifT h q4
        have h : some (A_letters, A_lengths) = some (A_letters_o, A_lengths_o) := h
        cases h
        exact hret _ _ _ _ hP hD hS dX0_empty_23
      have h := ifF h q4
      refine lv_aload_n hx hb dX0_empty_7 rfl (lv_at hl 0 rfl) ?_
      refine lv_iload_n hx hb dX0_empty_8 rfl (lv_at hl 1 rfl) ?_
      obtain ⟨t9, hc9, h⟩ := bd1_to h
      refine go_0 (st1 := [.int t9, .ref aA]) (run_S (As := [.int v1]) (rest := [.ref aA]) X hS (mX9_variable g l  v1 t9 hc9) okX9_variable wd4_102 ⟨Nat.le_of_ble_eq_true rfl, Nat.le_of_ble_eq_true rfl⟩ ⟨rfl, rfl⟩ nil_P nil_D (nil_F hS hA) rfl hl.1 rfl (Nat.le_of_ble_eq_true rfl) dX0_empty_9 ⟨Nat.zero_le _, Nat.zero_le _⟩) hS hA hP rfl (fun H locs hP hS => ?_)
      refine lv_lconst (v := (0 : Int64)) hx hb dX0_empty_12 (by decide) ?_
      refine lv_iconst (v := (0 : Int32)) hx hb dX0_empty_13 (by decide) ?_
      obtain ⟨A_letters_14, A_lengths_14, hc14, h⟩ := bd2_to h
      refine go_A (st1 := []) (run_V (As := [.int t9, .long (0 : Int64), .int (0 : Int32)]) (rest := []) X hS (mX0_give g l  aA aA_letters aA_lengths A_letters A_lengths t9 (0 : Int64) (0 : Int32) A_letters_14 A_lengths_14 hc14) okX0_give wd3_147 ⟨Nat.le_of_ble_eq_true rfl, Nat.le_of_ble_eq_true rfl⟩ ⟨rfl, rfl⟩ (va_recv hK hP (ci := 0) (q0 := 0) rfl rfl) hP hD (all_F hS hA hD) rfl hl.1 rfl (Nat.le_of_ble_eq_true rfl) dX0_empty_14 ⟨Nat.zero_le _, Nat.zero_le _⟩) hS (all_F hS hA hD) rfl (fun H locs hP hD hS => ?_)
      obtain ⟨t17, et17⟩ : ∃ y : Int32, y = v1 + (1 : Int32) := ⟨_, rfl⟩
      refine lv_iinc (v := t17) (lv' := [(1, .int t17), (0, .ref aA)]) hx hb dX0_empty_17 hl (k := 1) rfl (by rw [et17]; rfl) (by decide) rfl (fun ls hl => ?_)
      have h := st_to h et17
      refine lv_goto (tgt := 2) hx hb dX0_empty_20 (by decide) ?_
      exact ih2 A_letters_14 A_lengths_14 t17 ls H locs (lv_sub hl [1, 0] rfl) hP hD hS h
  have hl : lv_has ls 2 [(0, .ref aA)] := hl
  obtain ⟨H, hH⟩ : ∃ H, H = s.heap := ⟨_, rfl⟩
  obtain ⟨locs, hlocs⟩ : ∃ l : List Loc, l = [] := ⟨_, rfl⟩
  rw [show W p l e rmX0_empty s m ([.ref aA] : List Value).toArray below meth c s.heap [] 0 0 QQ (F0 m 0 ls []) = W p l e rmX0_empty s m ([.ref aA] : List Value).toArray below meth c H locs 0 0 QQ (F0 m 0 ls []) by rw [hH, hlocs]]
  have hP : va_P g.1 vwCl (wX0 g aA aA_letters aA_lengths A_letters A_lengths) H := by rw [hH]; exact hP
  have hD : va_D A (wX0 g aA aA_letters aA_lengths A_letters A_lengths) := hD
  have hS : va_S A s.heap H locs := by rw [hH, hlocs]; exact hS
  clear hH hlocs
  refine lv_iconst (v := (0 : Int32)) hx hb dX0_empty_0 (by decide) ?_
  refine lv_istore_n (lv' := [(1, .int (0 : Int32)), (0, .ref aA)]) hx hb dX0_empty_1 rfl hl (by decide) rfl (fun ls hl => ?_)
  exact L2 FU A_letters A_lengths (0 : Int32) ls H locs (lv_sub hl [1, 0] rfl) hP hD hS h
set_option maxHeartbeats 4000000 in
set_option maxRecDepth 100000 in
theorem mX0_prepend (g : GP) (l : Launch) (aA aA_letters aA_lengths : Nat) (A_letters : Nat → Int64) (A_lengths : Nat → Int32) (x1 : Int32) (x2 : Int32) (r : Int32) (A_letters_o : Nat → Int64) (A_lengths_o : Nat → Int32) (h : fA_prepend A_letters A_lengths x1 x2 = some (r, A_letters_o, A_lengths_o)) : Ct g l yX0_prepend cX0_prepend 5 (some .boolean) rmX0_prepend [.ref aA, .int x1, .int x2] (wX0 g aA aA_letters aA_lengths A_letters A_lengths) (some (.int r)) (wX0 g aA aA_letters aA_lengths A_letters_o A_lengths_o) := by
  refine Ct.introZ (by decide) (Nat.le_of_ble_eq_true rfl) ?_
  intro p e s m below meth c A QQ ls hyp hret
  obtain ⟨hx, hb, hml, hts, hown, hA, hE, hP, hD, hl⟩ := hyp
  have hK := hE.1
  have hS : va_S A s.heap s.heap [] := va_S.rf
  have X : Here g p s m c cX0_prepend 5 ([.ref aA, .int x1, .int x2] : List Value).toArray RX0 A := ⟨⟨hx, hb, hml, hown, hts⟩, hE, hA⟩
  have hl : lv_has ls 5 [(0, .ref aA), (1, .int x1), (2, .int x2)] := hl
  obtain ⟨H, hH⟩ : ∃ H, H = s.heap := ⟨_, rfl⟩
  obtain ⟨locs, hlocs⟩ : ∃ l : List Loc, l = [] := ⟨_, rfl⟩
  rw [show W p l e rmX0_prepend s m ([.ref aA, .int x1, .int x2] : List Value).toArray below meth c s.heap [] 0 0 QQ (F0 m 0 ls []) = W p l e rmX0_prepend s m ([.ref aA, .int x1, .int x2] : List Value).toArray below meth c H locs 0 0 QQ (F0 m 0 ls []) by rw [hH, hlocs]]
  have hP : va_P g.1 vwCl (wX0 g aA aA_letters aA_lengths A_letters A_lengths) H := by rw [hH]; exact hP
  have hD : va_D A (wX0 g aA aA_letters aA_lengths A_letters A_lengths) := hD
  have hS : va_S A s.heap H locs := by rw [hH, hlocs]; exact hS
  clear hH hlocs
  refine lv_aload_n hx hb dX0_prepend_0 rfl (lv_at hl 0 rfl) ?_
  refine lv_iload_n hx hb dX0_prepend_1 rfl (lv_at hl 1 rfl) ?_
  obtain ⟨t2, hc2, h⟩ := bd1_to h
  refine go_A (st1 := [.int t2]) (run_V (As := [.int x1]) (rest := []) X hS (mX0_lengthOf g l  aA aA_letters aA_lengths A_letters A_lengths x1 t2 hc2) okX0_lengthOf wd4_112 ⟨Nat.le_of_ble_eq_true rfl, Nat.le_of_ble_eq_true rfl⟩ ⟨rfl, rfl⟩ (va_recv hK hP (ci := 0) (q0 := 0) rfl rfl) hP hD (all_F hS hA hD) rfl hl.1 rfl (Nat.le_of_ble_eq_true rfl) dX0_prepend_2 ⟨Nat.zero_le _, Nat.zero_le _⟩) hS (all_F hS hA hD) rfl (fun H locs hP hD hS => ?_)
  refine lv_istore_n (lv' := [(3, .int t2), (0, .ref aA), (1, .int x1), (2, .int x2)]) hx hb dX0_prepend_5 rfl hl (by decide) rfl (fun ls hl => ?_)
  refine lv_aload_n hx hb dX0_prepend_6 rfl (lv_at hl 1 rfl) ?_
  refine lv_iload_n hx hb dX0_prepend_7 rfl (lv_at hl 3 rfl) ?_
  obtain ⟨t8, hc8, h⟩ := bd1_to h
  refine go_A (st1 := [.int t8]) (run_V (As := [.int x2]) (rest := []) X hS (mX0_lengthOf g l  aA aA_letters aA_lengths A_letters A_lengths x2 t8 hc8) okX0_lengthOf wd4_112 ⟨Nat.le_of_ble_eq_true rfl, Nat.le_of_ble_eq_true rfl⟩ ⟨rfl, rfl⟩ (va_recv hK hP (ci := 0) (q0 := 0) rfl rfl) hP hD (all_F hS hA hD) rfl hl.1 rfl (Nat.le_of_ble_eq_true rfl) dX0_prepend_8 ⟨Nat.zero_le _, Nat.zero_le _⟩) hS (all_F hS hA hD) rfl (fun H locs hP hD hS => ?_)
  refine lv_iload_n hx hb dX0_prepend_11 rfl (lv_at hl 0 rfl) ?_
  refine lv_iadd hx hb dX0_prepend_12 ?_
  refine lv_topi (fun t13 et13 => ?_)
  have h := st_to h et13
  refine lv_istore (lv' := [(4, .int t13), (3, .int t2), (0, .ref aA), (1, .int x1), (2, .int x2)]) hx hb dX0_prepend_13 hl (by decide) rfl (fun ls hl => ?_)
  refine lv_iload hx hb dX0_prepend_15 (lv_at hl 0 rfl) ?_
  refine lv_bipush (v := (60 : Int32)) hx hb dX0_prepend_17 (by decide) ?_
  refine lv_icmp_le (tgt := 24) hx hb dX0_prepend_19 (by decide) (fun q19 => ?_) (fun q19 => ?_)
  · have h := ifT h q19
    refine lv_aload_n hx hb dX0_prepend_24 rfl (lv_at hl 2 rfl) ?_
    refine lv_iload_n hx hb dX0_prepend_25 rfl (lv_at hl 3 rfl) ?_
    refine lv_aload_n hx hb dX0_prepend_26 rfl (lv_at hl 2 rfl) ?_
    refine va_get (D := g.1) (ci := 0) (v := .ref aA_letters) (C := RX0) (T := TX0) (N := 2) hx hb hts inBX0 hown hK hP 0 rfl rfl 0 (by decide) (hts _ wd1_127) (fun _ h9 => h9) rfl dX0_prepend_27 ?_
    refine lv_iload_n hx hb dX0_prepend_30 rfl (lv_at hl 4 rfl) ?_
    refine lv_bipush (v := (7 : Int32)) hx hb dX0_prepend_31 (by decide) ?_
    refine lv_iand hx hb dX0_prepend_33 ?_
    have hin := ld_in h
    refine va_lald hx hb hK hP 1 1 rfl rfl hin dX0_prepend_34 ?_
    refine lv_topl (fun t34 et34 => ?_)
    have h := ld_to h et34
    refine lv_iload_n hx hb dX0_prepend_35 rfl (lv_at hl 1 rfl) ?_
    refine lv_lshl (v := (shlL t34 t2)) hx hb dX0_prepend_36 rfl ?_
    refine lv_aload_n hx hb dX0_prepend_37 rfl (lv_at hl 2 rfl) ?_
    refine va_get (D := g.1) (ci := 0) (v := .ref aA_letters) (C := RX0) (T := TX0) (N := 2) hx hb hts inBX0 hown hK hP 0 rfl rfl 0 (by decide) (hts _ wd1_127) (fun _ h9 => h9) rfl dX0_prepend_38 ?_
    refine lv_iload_n hx hb dX0_prepend_41 rfl (lv_at hl 3 rfl) ?_
    refine lv_bipush (v := (7 : Int32)) hx hb dX0_prepend_42 (by decide) ?_
    refine lv_iand hx hb dX0_prepend_44 ?_
    have hin := ld_in h
    refine va_lald hx hb hK hP 1 1 rfl rfl hin dX0_prepend_45 ?_
    refine lv_topl (fun t45 et45 => ?_)
    have h := ld_to h et45
    refine lv_lor hx hb dX0_prepend_46 ?_
    refine lv_iload hx hb dX0_prepend_47 (lv_at hl 0 rfl) ?_
    obtain ⟨A_letters_49, A_lengths_49, hc49, h⟩ := bd2_to h
    refine go_A (st1 := []) (run_V (As := [.int x1, .long ((shlL t34 t2) ||| t45), .int t13]) (rest := []) X hS (mX0_give g l  aA aA_letters aA_lengths A_letters A_lengths x1 ((shlL t34 t2) ||| t45) t13 A_letters_49 A_lengths_49 hc49) okX0_give wd3_147 ⟨Nat.le_of_ble_eq_true rfl, Nat.le_of_ble_eq_true rfl⟩ ⟨rfl, rfl⟩ (va_recv hK hP (ci := 0) (q0 := 0) rfl rfl) hP hD (all_F hS hA hD) rfl hl.1 rfl (Nat.le_of_ble_eq_true rfl) dX0_prepend_49 ⟨Nat.zero_le _, Nat.zero_le _⟩) hS (all_F hS hA hD) rfl (fun H locs hP hD hS => ?_)
    refine lv_iconst (v := (1 : Int32)) hx hb dX0_prepend_52 (by decide) ?_
    have h : some ((1 : Int32), A_letters_49, A_lengths_49) = some (r, A_letters_o, A_lengths_o) := h
    cases h
    exact hret _ _ _ _ rfl hP hD hS dX0_prepend_53
  have h := ifF h q19
  refine lv_iconst (v := (0 : Int32)) hx hb dX0_prepend_22 (by decide) ?_
  have h : some ((0 : Int32), A_letters, A_lengths) = some (r, A_letters_o, A_lengths_o) := h
  cases h
  exact hret _ _ _ _ rfl hP hD hS dX0_prepend_23
set_option maxHeartbeats 4000000 in
set_option maxRecDepth 100000 in
theorem mX7_takeRuleBack (g : GP) (l : Launch) (aN aN_lefts aN_rights aN_parents aN_rules aN_depths aA aA_letters aA_lengths : Nat) (N_size : Int32) (N_solved : Int32) (N_dropped : Int32) (N_lefts : Nat → Int64) (N_rights : Nat → Int64) (N_parents : Nat → Int32) (N_rules : Nat → Int32) (N_depths : Nat → Int32) (A_letters : Nat → Int64) (A_lengths : Nat → Int32) (x1 : Int32) (r : Int32) (A_letters_o : Nat → Int64) (A_lengths_o : Nat → Int32) (h : fN_takeRuleBack N_size N_lefts N_rights N_parents N_rules A_letters A_lengths x1 = some (r, A_letters_o, A_lengths_o)) : Ct g l yX7_takeRuleBack cX7_takeRuleBack 6 (some .boolean) rmX7_takeRuleBack [.ref aN, .int x1, .ref aA] ((wX7 g aN aN_lefts aN_rights aN_parents aN_rules aN_depths N_size N_solved N_dropped N_lefts N_rights N_parents N_rules N_depths) ++ (wX0 g aA aA_letters aA_lengths A_letters A_lengths)) (some (.int r)) ((wX7 g aN aN_lefts aN_rights aN_parents aN_rules aN_depths N_size N_solved N_dropped N_lefts N_rights N_parents N_rules N_depths) ++ (wX0 g aA aA_letters aA_lengths A_letters_o A_lengths_o)) := by
  refine Ct.introZ (by decide) (Nat.le_of_ble_eq_true rfl) ?_
  intro p e s m below meth c A QQ ls hyp hret
  obtain ⟨hx, hb, hml, hts, hown, hA, hE, hP, hD, hl⟩ := hyp
  have hK := hE.1
  have hS : va_S A s.heap s.heap [] := va_S.rf
  have X : Here g p s m c cX7_takeRuleBack 6 ([.ref aN, .int x1, .ref aA] : List Value).toArray RX7 A := ⟨⟨hx, hb, hml, hown, hts⟩, hE, hA⟩
  have B18 : ∀ (A_letters : Nat → Int64) (A_lengths : Nat → Int32) (s0 : Int32) (ls : Array Slot) (H : Heap) (locs : List Loc), lv_has ls 6 [(0, .ref aN), (1, .int x1), (2, .ref aA)] → va_P g.1 vwCl ((wX7 g aN aN_lefts aN_rights aN_parents aN_rules aN_depths N_size N_solved N_dropped N_lefts N_rights N_parents N_rules N_depths) ++ (wX0 g aA aA_letters aA_lengths A_letters A_lengths)) H → va_D A ((wX7 g aN aN_lefts aN_rights aN_parents aN_rules aN_depths N_size N_solved N_dropped N_lefts N_rights N_parents N_rules N_depths) ++ (wX0 g aA aA_letters aA_lengths A_letters A_lengths)) → va_S A s.heap H locs → fN_takeRuleBack_18 N_size N_lefts N_rights N_rules A_letters A_lengths x1 s0 = some (r, A_letters_o, A_lengths_o) → W p l e rmX7_takeRuleBack s m ([.ref aN, .int x1, .ref aA] : List Value).toArray below meth c H locs 0 0 QQ (F0 m 18 ls [.int s0]) := by
    intro A_letters A_lengths s0 ls H locs hl hP hD hS h
    refine lv_istore_n (lv' := [(3, .int s0), (0, .ref aN), (1, .int x1), (2, .ref aA)]) hx hb dX7_takeRuleBack_18 rfl hl (by decide) rfl (fun ls hl => ?_)
    refine lv_aload_n hx hb dX7_takeRuleBack_19 rfl (lv_at hl 1 rfl) ?_
    refine lv_iload_n hx hb dX7_takeRuleBack_20 rfl (lv_at hl 0 rfl) ?_
    obtain ⟨t21, hc21, h⟩ := bd1_to h
    refine go_P (st1 := [.int t21]) (W1 := ((wX7 g aN aN_lefts aN_rights aN_parents aN_rules aN_depths N_size N_solved N_dropped N_lefts N_rights N_parents N_rules N_depths) ++ (wX0 g aA aA_letters aA_lengths A_letters A_lengths))) (run_V (As := [.int s0]) (rest := []) X hS (mX7_isNode g l  aN aN_lefts aN_rights aN_parents aN_rules aN_depths N_size N_solved N_dropped N_lefts N_rights N_parents N_rules N_depths s0 t21 hc21) okX7_isNode wd4_43 ⟨Nat.le_of_ble_eq_true rfl, Nat.le_of_ble_eq_true rfl⟩ ⟨rfl, rfl⟩ (va_recv hK hP (ci := 7) (q0 := 0) rfl rfl) (sub_P hP [0, 1, 2, 3, 4, 5] rfl) (hD.sub [0, 1, 2, 3, 4, 5] (by decide) rfl) (va_free hD hS hA [0, 1, 2, 3, 4, 5] rfl) rfl hl.1 rfl (Nat.le_of_ble_eq_true rfl) dX7_takeRuleBack_21 ⟨Nat.zero_le _, Nat.zero_le _⟩) hS (va_free hD hS hA [0, 1, 2, 3, 4, 5] rfl) hP hD [0, 1, 2, 3, 4, 5] [6, 7, 8] [3, 4, 5, 6, 7, 8, 0, 1, 2] rfl rfl (by decide) (by decide) rfl (by decide) rfl (fun H locs hP hD hS => ?_)
    refine lv_if_ne (tgt := 29) hx hb dX7_takeRuleBack_24 (by decide) (fun q24 => ?_) (fun q24 => ?_)
    · have h := ifF h q24
      refine lv_aload_n hx hb dX7_takeRuleBack_29 rfl (lv_at hl 1 rfl) ?_
      refine va_get (D := g.1) (ci := 7) (v := .ref aN_lefts) (C := RX7) (T := TX7) (N := 8) hx hb hts inBX7 hown hK hP 0 rfl rfl 0 (by decide) (hts _ wd1_189) (fun _ h9 => h9) rfl dX7_takeRuleBack_30 ?_
      refine lv_iload_n hx hb dX7_takeRuleBack_33 rfl (lv_at hl 0 rfl) ?_
      have hin := ld_in h
      refine va_lald hx hb hK hP 1 1 rfl rfl hin dX7_takeRuleBack_34 ?_
      refine lv_topl (fun t34 et34 => ?_)
      have h := ld_to h et34
      obtain ⟨t35, hc35, h⟩ := bd1_to h
      refine go_0 (st1 := [.int t35]) (run_S (As := [.long t34]) (rest := []) X hS (mX9_head g l  t34 t35 hc35) okX9_head wd4_51 ⟨Nat.le_of_ble_eq_true rfl, Nat.le_of_ble_eq_true rfl⟩ ⟨rfl, rfl⟩ nil_P nil_D (nil_F hS hA) rfl hl.1 rfl (Nat.le_of_ble_eq_true rfl) dX7_takeRuleBack_35 ⟨Nat.zero_le _, Nat.zero_le _⟩) hS hA hP rfl (fun H locs hP hS => ?_)
      refine lv_istore (lv' := [(4, .int t35), (3, .int s0), (0, .ref aN), (1, .int x1), (2, .ref aA)]) hx hb dX7_takeRuleBack_38 hl (by decide) rfl (fun ls hl => ?_)
      refine lv_aload_n hx hb dX7_takeRuleBack_40 rfl (lv_at hl 2 rfl) ?_
      refine va_get (D := g.1) (ci := 7) (v := .ref aN_rights) (C := RX7) (T := TX7) (N := 8) hx hb hts inBX7 hown hK hP 0 rfl rfl 1 (by decide) (hts _ wd1_190) (fun _ h9 => h9) rfl dX7_takeRuleBack_41 ?_
      refine lv_iload_n hx hb dX7_takeRuleBack_44 rfl (lv_at hl 1 rfl) ?_
      have hin := ld_in h
      refine va_lald hx hb hK hP 2 1 rfl rfl hin dX7_takeRuleBack_45 ?_
      refine lv_topl (fun t45 et45 => ?_)
      have h := ld_to h et45
      obtain ⟨t46, hc46, h⟩ := bd1_to h
      refine go_0 (st1 := [.int t46]) (run_S (As := [.long t45]) (rest := []) X hS (mX9_head g l  t45 t46 hc46) okX9_head wd4_51 ⟨Nat.le_of_ble_eq_true rfl, Nat.le_of_ble_eq_true rfl⟩ ⟨rfl, rfl⟩ nil_P nil_D (nil_F hS hA) rfl hl.1 rfl (Nat.le_of_ble_eq_true rfl) dX7_takeRuleBack_46 ⟨Nat.zero_le _, Nat.zero_le _⟩) hS hA hP rfl (fun H locs hP hS => ?_)
      refine lv_istore (lv' := [(5, .int t46), (4, .int t35), (3, .int s0), (0, .ref aN), (1, .int x1), (2, .ref aA)]) hx hb dX7_takeRuleBack_49 hl (by decide) rfl (fun ls hl => ?_)
      refine lv_aload_n hx hb dX7_takeRuleBack_51 rfl (lv_at hl 3 rfl) ?_
      refine va_get (D := g.1) (ci := 7) (v := .ref aN_rules) (C := RX7) (T := TX7) (N := 8) hx hb hts inBX7 hown hK hP 0 rfl rfl 3 (by decide) (hts _ wd1_192) (fun _ h9 => h9) rfl dX7_takeRuleBack_52 ?_
      refine lv_iload_n hx hb dX7_takeRuleBack_55 rfl (lv_at hl 4 rfl) ?_
      have hin := ld_in h
      refine va_iald hx hb hK hP 4 0 rfl rfl hin dX7_takeRuleBack_56 ?_
      refine lv_topi (fun t56 et56 => ?_)
      have h := ld_to h et56
      by_cases q57_1 : t56 = (1 : Int32)
      · have h := ifT h q57_1
        refine lv_tableIn (off := 31) (tgt := 88) hx hb dX7_takeRuleBack_57 (by rw [q57_1]; decide) (by rw [q57_1]; decide) (by rw [q57_1]; rfl) (by decide) ?_
        refine lv_aload_n hx hb dX7_takeRuleBack_88 rfl (lv_at hl 5 rfl) ?_
        refine lv_iload hx hb dX7_takeRuleBack_89 (lv_at hl 1 rfl) ?_
        refine lv_lconst (v := (0 : Int64)) hx hb dX7_takeRuleBack_91 (by decide) ?_
        refine lv_iconst (v := (0 : Int32)) hx hb dX7_takeRuleBack_92 (by decide) ?_
        obtain ⟨A_letters_93, A_lengths_93, hc93, h⟩ := bd2_to h
        refine go_P (st1 := []) (W1 := ((wX7 g aN aN_lefts aN_rights aN_parents aN_rules aN_depths N_size N_solved N_dropped N_lefts N_rights N_parents N_rules N_depths) ++ (wX0 g aA aA_letters aA_lengths A_letters_93 A_lengths_93))) (run_V (As := [.int t35, .long (0 : Int64), .int (0 : Int32)]) (rest := []) X hS (mX0_give g l  aA aA_letters aA_lengths A_letters A_lengths t35 (0 : Int64) (0 : Int32) A_letters_93 A_lengths_93 hc93) okX0_give wd4_107 ⟨Nat.le_of_ble_eq_true rfl, Nat.le_of_ble_eq_true rfl⟩ ⟨rfl, rfl⟩ (va_recv hK hP (ci := 0) (q0 := 6) rfl rfl) (sub_P hP [6, 7, 8] rfl) (hD.sub [6, 7, 8] (by decide) rfl) (va_free hD hS hA [6, 7, 8] rfl) rfl hl.1 rfl (Nat.le_of_ble_eq_true rfl) dX7_takeRuleBack_93 ⟨Nat.zero_le _, Nat.zero_le _⟩) hS (va_free hD hS hA [6, 7, 8] rfl) hP hD [6, 7, 8] [0, 1, 2, 3, 4, 5] [0, 1, 2, 3, 4, 5, 6, 7, 8] rfl rfl (by decide) (by decide) rfl (by decide) rfl (fun H locs hP hD hS => ?_)
        refine lv_iconst (v := (1 : Int32)) hx hb dX7_takeRuleBack_96 (by decide) ?_
        have h : some ((1 : Int32), A_letters_93, A_lengths_93) = some (r, A_letters_o, A_lengths_o) := h
        cases h
        exact hret _ _ _ _ rfl hP hD hS dX7_takeRuleBack_97
      have h := ifF h q57_1
      by_cases q57_2 : t56 = (2 : Int32)
      · have h := ifT h q57_2
        refine lv_tableIn (off := 41) (tgt := 98) hx hb dX7_takeRuleBack_57 (by rw [q57_2]; decide) (by rw [q57_2]; decide) (by rw [q57_2]; rfl) (by decide) ?_
        refine lv_aload_n hx hb dX7_takeRuleBack_98 rfl (lv_at hl 5 rfl) ?_
        refine lv_iload hx hb dX7_takeRuleBack_99 (lv_at hl 0 rfl) ?_
        refine lv_lconst (v := (0 : Int64)) hx hb dX7_takeRuleBack_101 (by decide) ?_
        refine lv_iconst (v := (0 : Int32)) hx hb dX7_takeRuleBack_102 (by decide) ?_
        obtain ⟨A_letters_103, A_lengths_103, hc103, h⟩ := bd2_to h
        refine go_P (st1 := []) (W1 := ((wX7 g aN aN_lefts aN_rights aN_parents aN_rules aN_depths N_size N_solved N_dropped N_lefts N_rights N_parents N_rules N_depths) ++ (wX0 g aA aA_letters aA_lengths A_letters_103 A_lengths_103))) (run_V (As := [.int t46, .long (0 : Int64), .int (0 : Int32)]) (rest := []) X hS (mX0_give g l  aA aA_letters aA_lengths A_letters A_lengths t46 (0 : Int64) (0 : Int32) A_letters_103 A_lengths_103 hc103) okX0_give wd4_107 ⟨Nat.le_of_ble_eq_true rfl, Nat.le_of_ble_eq_true rfl⟩ ⟨rfl, rfl⟩ (va_recv hK hP (ci := 0) (q0 := 6) rfl rfl) (sub_P hP [6, 7, 8] rfl) (hD.sub [6, 7, 8] (by decide) rfl) (va_free hD hS hA [6, 7, 8] rfl) rfl hl.1 rfl (Nat.le_of_ble_eq_true rfl) dX7_takeRuleBack_103 ⟨Nat.zero_le _, Nat.zero_le _⟩) hS (va_free hD hS hA [6, 7, 8] rfl) hP hD [6, 7, 8] [0, 1, 2, 3, 4, 5] [0, 1, 2, 3, 4, 5, 6, 7, 8] rfl rfl (by decide) (by decide) rfl (by decide) rfl (fun H locs hP hD hS => ?_)
        refine lv_iconst (v := (1 : Int32)) hx hb dX7_takeRuleBack_106 (by decide) ?_
        have h : some ((1 : Int32), A_letters_103, A_lengths_103) = some (r, A_letters_o, A_lengths_o) := h
        cases h
        exact hret _ _ _ _ rfl hP hD hS dX7_takeRuleBack_107
      have h := ifF h q57_2
      by_cases q57_3 : t56 = (3 : Int32)
      · have h := ifT h q57_3
        refine lv_tableIn (off := 51) (tgt := 108) hx hb dX7_takeRuleBack_57 (by rw [q57_3]; decide) (by rw [q57_3]; decide) (by rw [q57_3]; rfl) (by decide) ?_
        refine lv_aload_n hx hb dX7_takeRuleBack_108 rfl (lv_at hl 5 rfl) ?_
        refine lv_iload hx hb dX7_takeRuleBack_109 (lv_at hl 1 rfl) ?_
        refine lv_iload hx hb dX7_takeRuleBack_111 (lv_at hl 0 rfl) ?_
        obtain ⟨t113, A_letters_113, A_lengths_113, hc113, h⟩ := bd3_to h
        refine go_P (st1 := [.int t113]) (W1 := ((wX7 g aN aN_lefts aN_rights aN_parents aN_rules aN_depths N_size N_solved N_dropped N_lefts N_rights N_parents N_rules N_depths) ++ (wX0 g aA aA_letters aA_lengths A_letters_113 A_lengths_113))) (run_V (As := [.int t35, .int t46]) (rest := []) X hS (mX0_prepend g l  aA aA_letters aA_lengths A_letters A_lengths t35 t46 t113 A_letters_113 A_lengths_113 hc113) okX0_prepend wd4_108 ⟨Nat.le_of_ble_eq_true rfl, Nat.le_of_ble_eq_true rfl⟩ ⟨rfl, rfl⟩ (va_recv hK hP (ci := 0) (q0 := 6) rfl rfl) (sub_P hP [6, 7, 8] rfl) (hD.sub [6, 7, 8] (by decide) rfl) (va_free hD hS hA [6, 7, 8] rfl) rfl hl.1 rfl (Nat.le_of_ble_eq_true rfl) dX7_takeRuleBack_113 ⟨Nat.zero_le _, Nat.zero_le _⟩) hS (va_free hD hS hA [6, 7, 8] rfl) hP hD [6, 7, 8] [0, 1, 2, 3, 4, 5] [0, 1, 2, 3, 4, 5, 6, 7, 8] rfl rfl (by decide) (by decide) rfl (by decide) rfl (fun H locs hP hD hS => ?_)
        have z116 := ckz_is h
        have h := ckz_to h
        have h : some (t113, A_letters_113, A_lengths_113) = some (r, A_letters_o, A_lengths_o) := h
        cases h
        exact hret _ _ _ _ (nz_nar z116) hP hD hS dX7_takeRuleBack_116
      have h := ifF h q57_3
      by_cases q57_4 : t56 = (4 : Int32)
      · have h := ifT h q57_4
        refine lv_tableIn (off := 60) (tgt := 117) hx hb dX7_takeRuleBack_57 (by rw [q57_4]; decide) (by rw [q57_4]; decide) (by rw [q57_4]; rfl) (by decide) ?_
        refine lv_aload_n hx hb dX7_takeRuleBack_117 rfl (lv_at hl 5 rfl) ?_
        refine lv_iload hx hb dX7_takeRuleBack_118 (lv_at hl 0 rfl) ?_
        refine lv_iload hx hb dX7_takeRuleBack_120 (lv_at hl 1 rfl) ?_
        obtain ⟨t122, A_letters_122, A_lengths_122, hc122, h⟩ := bd3_to h
        refine go_P (st1 := [.int t122]) (W1 := ((wX7 g aN aN_lefts aN_rights aN_parents aN_rules aN_depths N_size N_solved N_dropped N_lefts N_rights N_parents N_rules N_depths) ++ (wX0 g aA aA_letters aA_lengths A_letters_122 A_lengths_122))) (run_V (As := [.int t46, .int t35]) (rest := []) X hS (mX0_prepend g l  aA aA_letters aA_lengths A_letters A_lengths t46 t35 t122 A_letters_122 A_lengths_122 hc122) okX0_prepend wd4_108 ⟨Nat.le_of_ble_eq_true rfl, Nat.le_of_ble_eq_true rfl⟩ ⟨rfl, rfl⟩ (va_recv hK hP (ci := 0) (q0 := 6) rfl rfl) (sub_P hP [6, 7, 8] rfl) (hD.sub [6, 7, 8] (by decide) rfl) (va_free hD hS hA [6, 7, 8] rfl) rfl hl.1 rfl (Nat.le_of_ble_eq_true rfl) dX7_takeRuleBack_122 ⟨Nat.zero_le _, Nat.zero_le _⟩) hS (va_free hD hS hA [6, 7, 8] rfl) hP hD [6, 7, 8] [0, 1, 2, 3, 4, 5] [0, 1, 2, 3, 4, 5, 6, 7, 8] rfl rfl (by decide) (by decide) rfl (by decide) rfl (fun H locs hP hD hS => ?_)
        have z125 := ckz_is h
        have h := ckz_to h
        have h : some (t122, A_letters_122, A_lengths_122) = some (r, A_letters_o, A_lengths_o) := h
        cases h
        exact hret _ _ _ _ (nz_nar z125) hP hD hS dX7_takeRuleBack_125
      have h := ifF h q57_4
      refine lv_tableOut (tgt := 126) hx hb dX7_takeRuleBack_57 (by have z1 := lv_neT (a := 1) q57_1 (by decide); have z2 := lv_neT (a := 2) q57_2 (by decide); have z3 := lv_neT (a := 3) q57_3 (by decide); have z4 := lv_neT (a := 4) q57_4 (by decide); omega) (by decide) ?_
      refine lv_iconst (v := (1 : Int32)) hx hb dX7_takeRuleBack_126 (by decide) ?_
      have h : some ((1 : Int32), A_letters, A_lengths) = some (r, A_letters_o, A_lengths_o) := h
      cases h
      exact hret _ _ _ _ rfl hP hD hS dX7_takeRuleBack_127
    have h := ifT h q24
    refine lv_iconst (v := (1 : Int32)) hx hb dX7_takeRuleBack_27 (by decide) ?_
    have h : some ((1 : Int32), A_letters, A_lengths) = some (r, A_letters_o, A_lengths_o) := h
    cases h
    exact hret _ _ _ _ rfl hP hD hS dX7_takeRuleBack_28
  have hl : lv_has ls 6 [(0, .ref aN), (1, .int x1), (2, .ref aA)] := hl
  obtain ⟨H, hH⟩ : ∃ H, H = s.heap := ⟨_, rfl⟩
  obtain ⟨locs, hlocs⟩ : ∃ l : List Loc, l = [] := ⟨_, rfl⟩
  rw [show W p l e rmX7_takeRuleBack s m ([.ref aN, .int x1, .ref aA] : List Value).toArray below meth c s.heap [] 0 0 QQ (F0 m 0 ls []) = W p l e rmX7_takeRuleBack s m ([.ref aN, .int x1, .ref aA] : List Value).toArray below meth c H locs 0 0 QQ (F0 m 0 ls []) by rw [hH, hlocs]]
  have hP : va_P g.1 vwCl ((wX7 g aN aN_lefts aN_rights aN_parents aN_rules aN_depths N_size N_solved N_dropped N_lefts N_rights N_parents N_rules N_depths) ++ (wX0 g aA aA_letters aA_lengths A_letters A_lengths)) H := by rw [hH]; exact hP
  have hD : va_D A ((wX7 g aN aN_lefts aN_rights aN_parents aN_rules aN_depths N_size N_solved N_dropped N_lefts N_rights N_parents N_rules N_depths) ++ (wX0 g aA aA_letters aA_lengths A_letters A_lengths)) := hD
  have hS : va_S A s.heap H locs := by rw [hH, hlocs]; exact hS
  clear hH hlocs
  refine lv_aload_n hx hb dX7_takeRuleBack_0 rfl (lv_at hl 0 rfl) ?_
  refine lv_iload_n hx hb dX7_takeRuleBack_1 rfl (lv_at hl 1 rfl) ?_
  obtain ⟨t2, hc2, h⟩ := bd1_to h
  refine go_P (st1 := [.int t2]) (W1 := ((wX7 g aN aN_lefts aN_rights aN_parents aN_rules aN_depths N_size N_solved N_dropped N_lefts N_rights N_parents N_rules N_depths) ++ (wX0 g aA aA_letters aA_lengths A_letters A_lengths))) (run_V (As := [.int x1]) (rest := []) X hS (mX7_isNode g l  aN aN_lefts aN_rights aN_parents aN_rules aN_depths N_size N_solved N_dropped N_lefts N_rights N_parents N_rules N_depths x1 t2 hc2) okX7_isNode wd4_43 ⟨Nat.le_of_ble_eq_true rfl, Nat.le_of_ble_eq_true rfl⟩ ⟨rfl, rfl⟩ (va_recv hK hP (ci := 7) (q0 := 0) rfl rfl) (sub_P hP [0, 1, 2, 3, 4, 5] rfl) (hD.sub [0, 1, 2, 3, 4, 5] (by decide) rfl) (va_free hD hS hA [0, 1, 2, 3, 4, 5] rfl) rfl hl.1 rfl (Nat.le_of_ble_eq_true rfl) dX7_takeRuleBack_2 ⟨Nat.zero_le _, Nat.zero_le _⟩) hS (va_free hD hS hA [0, 1, 2, 3, 4, 5] rfl) hP hD [0, 1, 2, 3, 4, 5] [6, 7, 8] [3, 4, 5, 6, 7, 8, 0, 1, 2] rfl rfl (by decide) (by decide) rfl (by decide) rfl (fun H locs hP hD hS => ?_)
  refine lv_if_eq (tgt := 17) hx hb dX7_takeRuleBack_5 (by decide) (fun q5 => ?_) (fun q5 => ?_)
  · have h := ifT h q5
    refine lv_iconst (v := ((-1) : Int32)) hx hb dX7_takeRuleBack_17 (by decide) ?_
    exact B18 A_letters A_lengths ((-1) : Int32) ls H locs (lv_sub hl [0, 1, 2] rfl) hP hD hS h
  have h := ifF h q5
  refine lv_aload_n hx hb dX7_takeRuleBack_8 rfl (lv_at hl 0 rfl) ?_
  refine va_get (D := g.1) (ci := 7) (v := .ref aN_parents) (C := RX7) (T := TX7) (N := 8) hx hb hts inBX7 hown hK hP 0 rfl rfl 2 (by decide) (hts _ wd1_191) (fun _ h9 => h9) rfl dX7_takeRuleBack_9 ?_
  refine lv_iload_n hx hb dX7_takeRuleBack_12 rfl (lv_at hl 1 rfl) ?_
  have hin := ld_in h
  refine va_iald hx hb hK hP 3 0 rfl rfl hin dX7_takeRuleBack_13 ?_
  refine lv_topi (fun t13 et13 => ?_)
  have h := ld_to h et13
  refine lv_goto (tgt := 18) hx hb dX7_takeRuleBack_14 (by decide) ?_
  exact B18 A_letters A_lengths t13 ls H locs (lv_sub hl [0, 1, 2] rfl) hP hD hS h
set_option maxHeartbeats 4000000 in
set_option maxRecDepth 100000 in
theorem mX7_buildWitness (g : GP) (l : Launch) (aN aN_lefts aN_rights aN_parents aN_rules aN_depths aA aA_letters aA_lengths : Nat) (N_size : Int32) (N_solved : Int32) (N_dropped : Int32) (N_lefts : Nat → Int64) (N_rights : Nat → Int64) (N_parents : Nat → Int32) (N_rules : Nat → Int32) (N_depths : Nat → Int32) (A_letters : Nat → Int64) (A_lengths : Nat → Int32)  (r : Int32) (A_letters_o : Nat → Int64) (A_lengths_o : Nat → Int32) (h : fN_buildWitness N_size N_solved N_lefts N_rights N_parents N_rules N_depths A_letters A_lengths = some (r, A_letters_o, A_lengths_o)) : Ct g l yX7_buildWitness cX7_buildWitness 4 (some .boolean) rmX7_buildWitness [.ref aN, .ref aA] ((wX7 g aN aN_lefts aN_rights aN_parents aN_rules aN_depths N_size N_solved N_dropped N_lefts N_rights N_parents N_rules N_depths) ++ (wX0 g aA aA_letters aA_lengths A_letters A_lengths)) (some (.int r)) ((wX7 g aN aN_lefts aN_rights aN_parents aN_rules aN_depths N_size N_solved N_dropped N_lefts N_rights N_parents N_rules N_depths) ++ (wX0 g aA aA_letters aA_lengths A_letters_o A_lengths_o)) := by
  refine Ct.introZ (by decide) (Nat.le_of_ble_eq_true rfl) ?_
  intro p e s m below meth c A QQ ls hyp hret
  obtain ⟨hx, hb, hml, hts, hown, hA, hE, hP, hD, hl⟩ := hyp
  have hK := hE.1
  have hS : va_S A s.heap s.heap [] := va_S.rf
  have X : Here g p s m c cX7_buildWitness 4 ([.ref aN, .ref aA] : List Value).toArray RX7 A := ⟨⟨hx, hb, hml, hown, hts⟩, hE, hA⟩
  have L14 : ∀ (n14 : Nat), ∀ (A_letters : Nat → Int64) (A_lengths : Nat → Int32) (v2 : Int32) (v3 : Int32) (ls : Array Slot) (H : Heap) (locs : List Loc), lv_has ls 4 [(0, .ref aN), (1, .ref aA), (2, .int v2), (3, .int v3)] → va_P g.1 vwCl ((wX7 g aN aN_lefts aN_rights aN_parents aN_rules aN_depths N_size N_solved N_dropped N_lefts N_rights N_parents N_rules N_depths) ++ (wX0 g aA aA_letters aA_lengths A_letters A_lengths)) H → va_D A ((wX7 g aN aN_lefts aN_rights aN_parents aN_rules aN_depths N_size N_solved N_dropped N_lefts N_rights N_parents N_rules N_depths) ++ (wX0 g aA aA_letters aA_lengths A_letters A_lengths)) → va_S A s.heap H locs → fx4 (fN_buildWitness_14 N_size N_lefts N_rights N_parents N_rules) n14 A_letters A_lengths v2 v3 = some (r, A_letters_o, A_lengths_o) → W p l e rmX7_buildWitness s m ([.ref aN, .ref aA] : List Value).toArray below meth c H locs 0 0 QQ (F0 m 14 ls []) := by
    intro n14
    induction n14 with
    | zero => intro A_letters A_lengths v2 v3 ls H locs hl hP hD hS h; exact fx4_0 h
    | succ n14 ih14 =>
      intro A_letters A_lengths v2 v3 ls H locs hl hP hD hS h
      have h := (fx4_s (fN_buildWitness_14 N_size N_lefts N_rights N_parents N_rules) n14 A_letters A_lengths v2 v3).symm.trans h
      refine lv_iload_n hx hb dX7_buildWitness_14 rfl (lv_at hl 3 rfl) ?_
      refine lv_if_le (tgt := 50) hx hb dX7_buildWitness_15 (by decide) (fun q15 => ?_) (fun q15 => ?_)
      · have h := ifT h q15
        refine lv_iconst (v := (1 : Int32)) hx hb dX7_buildWitness_50 (by decide) ?_
        have h : some ((1 : Int32), A_letters, A_lengths) = some (r, A_letters_o, A_lengths_o) := h
        cases h
        exact hret _ _ _ _ rfl hP hD hS dX7_buildWitness_51
      have h := ifF h q15
      refine lv_aload_n hx hb dX7_buildWitness_18 rfl (lv_at hl 0 rfl) ?_
      refine lv_iload_n hx hb dX7_buildWitness_19 rfl (lv_at hl 2 rfl) ?_
      obtain ⟨t20, hc20, h⟩ := bd1_to h
      refine go_P (st1 := [.int t20]) (W1 := ((wX7 g aN aN_lefts aN_rights aN_parents aN_rules aN_depths N_size N_solved N_dropped N_lefts N_rights N_parents N_rules N_depths) ++ (wX0 g aA aA_letters aA_lengths A_letters A_lengths))) (run_V (As := [.int v2]) (rest := []) X hS (mX7_isNode g l  aN aN_lefts aN_rights aN_parents aN_rules aN_depths N_size N_solved N_dropped N_lefts N_rights N_parents N_rules N_depths v2 t20 hc20) okX7_isNode wd4_43 ⟨Nat.le_of_ble_eq_true rfl, Nat.le_of_ble_eq_true rfl⟩ ⟨rfl, rfl⟩ (va_recv hK hP (ci := 7) (q0 := 0) rfl rfl) (sub_P hP [0, 1, 2, 3, 4, 5] rfl) (hD.sub [0, 1, 2, 3, 4, 5] (by decide) rfl) (va_free hD hS hA [0, 1, 2, 3, 4, 5] rfl) rfl hl.1 rfl (Nat.le_of_ble_eq_true rfl) dX7_buildWitness_20 ⟨Nat.zero_le _, Nat.zero_le _⟩) hS (va_free hD hS hA [0, 1, 2, 3, 4, 5] rfl) hP hD [0, 1, 2, 3, 4, 5] [6, 7, 8] [3, 4, 5, 6, 7, 8, 0, 1, 2] rfl rfl (by decide) (by decide) rfl (by decide) rfl (fun H locs hP hD hS => ?_)
      refine lv_if_eq (tgt := 50) hx hb dX7_buildWitness_23 (by decide) (fun q23 => ?_) (fun q23 => ?_)
      · have h := ifT h q23
        refine lv_iconst (v := (1 : Int32)) hx hb dX7_buildWitness_50 (by decide) ?_
        have h : some ((1 : Int32), A_letters, A_lengths) = some (r, A_letters_o, A_lengths_o) := h
        cases h
        exact hret _ _ _ _ rfl hP hD hS dX7_buildWitness_51
      have h := ifF h q23
      refine lv_aload_n hx hb dX7_buildWitness_26 rfl (lv_at hl 0 rfl) ?_
      refine lv_iload_n hx hb dX7_buildWitness_27 rfl (lv_at hl 2 rfl) ?_
      refine lv_aload_n hx hb dX7_buildWitness_28 rfl (lv_at hl 1 rfl) ?_
      obtain ⟨t29, A_letters_29, A_lengths_29, hc29, h⟩ := bd3_to h
      refine go_A (st1 := [.int t29]) (run_V (As := [.int v2, .ref aA]) (rest := []) X hS (mX7_takeRuleBack g l  aN aN_lefts aN_rights aN_parents aN_rules aN_depths aA aA_letters aA_lengths N_size N_solved N_dropped N_lefts N_rights N_parents N_rules N_depths A_letters A_lengths v2 t29 A_letters_29 A_lengths_29 hc29) okX7_takeRuleBack wd4_103 ⟨Nat.le_of_ble_eq_true rfl, Nat.le_of_ble_eq_true rfl⟩ ⟨rfl, rfl⟩ (va_recv hK hP (ci := 7) (q0 := 0) rfl rfl) hP hD (all_F hS hA hD) rfl hl.1 rfl (Nat.le_of_ble_eq_true rfl) dX7_buildWitness_29 ⟨Nat.zero_le _, Nat.zero_le _⟩) hS (all_F hS hA hD) rfl (fun H locs hP hD hS => ?_)
      refine lv_if_ne (tgt := 37) hx hb dX7_buildWitness_32 (by decide) (fun q32 => ?_) (fun q32 => ?_)
      · have h := ifF h q32
        refine lv_aload_n hx hb dX7_buildWitness_37 rfl (lv_at hl 0 rfl) ?_
        refine va_get (D := g.1) (ci := 7) (v := .ref aN_parents) (C := RX7) (T := TX7) (N := 8) hx hb hts inBX7 hown hK hP 0 rfl rfl 2 (by decide) (hts _ wd1_191) (fun _ h9 => h9) rfl dX7_buildWitness_38 ?_
        refine lv_iload_n hx hb dX7_buildWitness_41 rfl (lv_at hl 2 rfl) ?_
        have hin := ld_in h
        refine va_iald hx hb hK hP 3 0 rfl rfl hin dX7_buildWitness_42 ?_
        refine lv_topi (fun t42 et42 => ?_)
        have h := ld_to h et42
        refine lv_istore_n (lv' := [(2, .int t42), (0, .ref aN), (1, .ref aA), (3, .int v3)]) hx hb dX7_buildWitness_43 rfl hl (by decide) rfl (fun ls hl => ?_)
        obtain ⟨t44, et44⟩ : ∃ y : Int32, y = v3 + ((-1) : Int32) := ⟨_, rfl⟩
        refine lv_iinc (v := t44) (lv' := [(3, .int t44), (2, .int t42), (0, .ref aN), (1, .ref aA)]) hx hb dX7_buildWitness_44 hl (k := 3) rfl (by rw [et44]; rfl) (by decide) rfl (fun ls hl => ?_)
        have h := st_to h et44
        refine lv_goto (tgt := 14) hx hb dX7_buildWitness_47 (by decide) ?_
        exact ih14 A_letters_29 A_lengths_29 t42 t44 ls H locs (lv_sub hl [2, 3, 1, 0] rfl) hP hD hS h
      have h := ifT h q32
      refine lv_iconst (v := (0 : Int32)) hx hb dX7_buildWitness_35 (by decide) ?_
      have h : some ((0 : Int32), A_letters_29, A_lengths_29) = some (r, A_letters_o, A_lengths_o) := h
      cases h
      exact hret _ _ _ _ rfl hP hD hS dX7_buildWitness_36
  have hl : lv_has ls 4 [(0, .ref aN), (1, .ref aA)] := hl
  obtain ⟨H, hH⟩ : ∃ H, H = s.heap := ⟨_, rfl⟩
  obtain ⟨locs, hlocs⟩ : ∃ l : List Loc, l = [] := ⟨_, rfl⟩
  rw [show W p l e rmX7_buildWitness s m ([.ref aN, .ref aA] : List Value).toArray below meth c s.heap [] 0 0 QQ (F0 m 0 ls []) = W p l e rmX7_buildWitness s m ([.ref aN, .ref aA] : List Value).toArray below meth c H locs 0 0 QQ (F0 m 0 ls []) by rw [hH, hlocs]]
  have hP : va_P g.1 vwCl ((wX7 g aN aN_lefts aN_rights aN_parents aN_rules aN_depths N_size N_solved N_dropped N_lefts N_rights N_parents N_rules N_depths) ++ (wX0 g aA aA_letters aA_lengths A_letters A_lengths)) H := by rw [hH]; exact hP
  have hD : va_D A ((wX7 g aN aN_lefts aN_rights aN_parents aN_rules aN_depths N_size N_solved N_dropped N_lefts N_rights N_parents N_rules N_depths) ++ (wX0 g aA aA_letters aA_lengths A_letters A_lengths)) := hD
  have hS : va_S A s.heap H locs := by rw [hH, hlocs]; exact hS
  clear hH hlocs
  refine lv_aload_n hx hb dX7_buildWitness_0 rfl (lv_at hl 1 rfl) ?_
  obtain ⟨A_letters_1, A_lengths_1, hc1, h⟩ := bd2_to h
  refine go_P (st1 := []) (W1 := ((wX7 g aN aN_lefts aN_rights aN_parents aN_rules aN_depths N_size N_solved N_dropped N_lefts N_rights N_parents N_rules N_depths) ++ (wX0 g aA aA_letters aA_lengths A_letters_1 A_lengths_1))) (run_V (As := []) (rest := []) X hS (mX0_empty g l  aA aA_letters aA_lengths A_letters A_lengths A_letters_1 A_lengths_1 hc1) okX0_empty wd4_98 ⟨Nat.le_of_ble_eq_true rfl, Nat.le_of_ble_eq_true rfl⟩ ⟨rfl, rfl⟩ (va_recv hK hP (ci := 0) (q0 := 6) rfl rfl) (sub_P hP [6, 7, 8] rfl) (hD.sub [6, 7, 8] (by decide) rfl) (va_free hD hS hA [6, 7, 8] rfl) rfl hl.1 rfl (Nat.le_of_ble_eq_true rfl) dX7_buildWitness_1 ⟨Nat.zero_le _, Nat.zero_le _⟩) hS (va_free hD hS hA [6, 7, 8] rfl) hP hD [6, 7, 8] [0, 1, 2, 3, 4, 5] [0, 1, 2, 3, 4, 5, 6, 7, 8] rfl rfl (by decide) (by decide) rfl (by decide) rfl (fun H locs hP hD hS => ?_)
  refine lv_aload_n hx hb dX7_buildWitness_4 rfl (lv_at hl 0 rfl) ?_
  refine va_get (D := g.1) (ci := 7) (v := .int N_solved) (C := RX7) (T := TX7) (N := 8) hx hb hts inBX7 hown hK hP 0 rfl rfl 6 (by decide) (hts _ wd1_195) (fun _ h9 => h9) rfl dX7_buildWitness_5 ?_
  refine lv_istore_n (lv' := [(2, .int N_solved), (0, .ref aN), (1, .ref aA)]) hx hb dX7_buildWitness_8 rfl hl (by decide) rfl (fun ls hl => ?_)
  refine lv_aload_n hx hb dX7_buildWitness_9 rfl (lv_at hl 1 rfl) ?_
  obtain ⟨t10, hc10, h⟩ := bd1_to h
  refine go_P (st1 := [.int t10]) (W1 := ((wX7 g aN aN_lefts aN_rights aN_parents aN_rules aN_depths N_size N_solved N_dropped N_lefts N_rights N_parents N_rules N_depths) ++ (wX0 g aA aA_letters aA_lengths A_letters_1 A_lengths_1))) (run_V (As := []) (rest := []) X hS (mX7_proofSize g l  aN aN_lefts aN_rights aN_parents aN_rules aN_depths N_size N_solved N_dropped N_lefts N_rights N_parents N_rules N_depths t10 hc10) okX7_proofSize wd4_89 ⟨Nat.le_of_ble_eq_true rfl, Nat.le_of_ble_eq_true rfl⟩ ⟨rfl, rfl⟩ (va_recv hK hP (ci := 7) (q0 := 0) rfl rfl) (sub_P hP [0, 1, 2, 3, 4, 5] rfl) (hD.sub [0, 1, 2, 3, 4, 5] (by decide) rfl) (va_free hD hS hA [0, 1, 2, 3, 4, 5] rfl) rfl hl.1 rfl (Nat.le_of_ble_eq_true rfl) dX7_buildWitness_10 ⟨Nat.zero_le _, Nat.zero_le _⟩) hS (va_free hD hS hA [0, 1, 2, 3, 4, 5] rfl) hP hD [0, 1, 2, 3, 4, 5] [6, 7, 8] [3, 4, 5, 6, 7, 8, 0, 1, 2] rfl rfl (by decide) (by decide) rfl (by decide) rfl (fun H locs hP hD hS => ?_)
  refine lv_istore_n (lv' := [(3, .int t10), (2, .int N_solved), (0, .ref aN), (1, .ref aA)]) hx hb dX7_buildWitness_13 rfl hl (by decide) rfl (fun ls hl => ?_)
  exact L14 FU A_letters_1 A_lengths_1 N_solved t10 ls H locs (lv_sub hl [2, 3, 1, 0] rfl) hP hD hS h
set_option maxHeartbeats 4000000 in
set_option maxRecDepth 100000 in
theorem mX11_witnessLength (g : GP) (l : Launch) (aX aT aT_characters aE aH aH_lefts aH_rights aS aS_lefts aS_rights aS_filled aA aA_letters aA_lengths aK aB aB_first aQ aQ_weights aQ_possible aC aC_variables aC_relations aC_numbers aA2 aA2_letters aA2_lengths aN aN_lefts aN_rights aN_parents aN_rules aN_depths aE2 : Nat) (T_size : Int32) (T_characters : Nat → Int32) (E_left : Int64) (E_right : Int64) (H_size : Int32) (H_lefts : Nat → Int64) (H_rights : Nat → Int64) (S_lefts : Nat → Int64) (S_rights : Nat → Int64) (S_filled : Nat → Int32) (A_letters : Nat → Int64) (A_lengths : Nat → Int32) (B_left : Int64) (B_right : Int64) (B_found : Int32) (B_least : Int32) (B_first : Nat → Int32) (Q_letterSurplus : Int32) (Q_weights : Nat → Int32) (Q_possible : Nat → Int32) (C_size : Int32) (C_variables : Nat → Int32) (C_relations : Nat → Int32) (C_numbers : Nat → Int32) (A2_letters : Nat → Int64) (A2_lengths : Nat → Int32) (N_size : Int32) (N_solved : Int32) (N_dropped : Int32) (N_lefts : Nat → Int64) (N_rights : Nat → Int64) (N_parents : Nat → Int32) (N_rules : Nat → Int32) (N_depths : Nat → Int32) (E2_left : Int64) (E2_right : Int64) (x1 : Int32) (r : Int32) (A_letters_o : Nat → Int64) (A_lengths_o : Nat → Int32) (N_size_o : Int32) (N_solved_o : Int32) (N_dropped_o : Int32) (N_lefts_o : Nat → Int64) (N_rights_o : Nat → Int64) (N_parents_o : Nat → Int32) (N_rules_o : Nat → Int32) (N_depths_o : Nat → Int32) (h : fX_witnessLength E_left E_right A_letters A_lengths N_size N_solved N_dropped N_lefts N_rights N_parents N_rules N_depths x1 = some (r, A_letters_o, A_lengths_o, N_size_o, N_solved_o, N_dropped_o, N_lefts_o, N_rights_o, N_parents_o, N_rules_o, N_depths_o)) : Ct g l yX11_witnessLength cX11_witnessLength 2 (some .int) rmX11_witnessLength [.ref aX, .int x1] (wX11 g aX aT aT_characters aE aH aH_lefts aH_rights aS aS_lefts aS_rights aS_filled aA aA_letters aA_lengths aK aB aB_first aQ aQ_weights aQ_possible aC aC_variables aC_relations aC_numbers aA2 aA2_letters aA2_lengths aN aN_lefts aN_rights aN_parents aN_rules aN_depths aE2 T_size T_characters E_left E_right H_size H_lefts H_rights S_lefts S_rights S_filled A_letters A_lengths B_left B_right B_found B_least B_first Q_letterSurplus Q_weights Q_possible C_size C_variables C_relations C_numbers A2_letters A2_lengths N_size N_solved N_dropped N_lefts N_rights N_parents N_rules N_depths E2_left E2_right) (some (.int r)) (wX11 g aX aT aT_characters aE aH aH_lefts aH_rights aS aS_lefts aS_rights aS_filled aA aA_letters aA_lengths aK aB aB_first aQ aQ_weights aQ_possible aC aC_variables aC_relations aC_numbers aA2 aA2_letters aA2_lengths aN aN_lefts aN_rights aN_parents aN_rules aN_depths aE2 T_size T_characters E_left E_right H_size H_lefts H_rights S_lefts S_rights S_filled A_letters_o A_lengths_o B_left B_right B_found B_least B_first Q_letterSurplus Q_weights Q_possible C_size C_variables C_relations C_numbers A2_letters A2_lengths N_size_o N_solved_o N_dropped_o N_lefts_o N_rights_o N_parents_o N_rules_o N_depths_o E2_left E2_right) := by
  refine Ct.introI (by decide) (Nat.le_of_ble_eq_true rfl) ?_
  intro p e s m below meth c A QQ ls hyp hret
  obtain ⟨hx, hb, hml, hts, hown, hA, hE, hP, hD, hl⟩ := hyp
  have hK := hE.1
  have hS : va_S A s.heap s.heap [] := va_S.rf
  have X : Here g p s m c cX11_witnessLength 2 ([.ref aX, .int x1] : List Value).toArray RX11 A := ⟨⟨hx, hb, hml, hown, hts⟩, hE, hA⟩
  have hl : lv_has ls 2 [(0, .ref aX), (1, .int x1)] := hl
  obtain ⟨H, hH⟩ : ∃ H, H = s.heap := ⟨_, rfl⟩
  obtain ⟨locs, hlocs⟩ : ∃ l : List Loc, l = [] := ⟨_, rfl⟩
  rw [show W p l e rmX11_witnessLength s m ([.ref aX, .int x1] : List Value).toArray below meth c s.heap [] 0 0 QQ (F0 m 0 ls []) = W p l e rmX11_witnessLength s m ([.ref aX, .int x1] : List Value).toArray below meth c H locs 0 0 QQ (F0 m 0 ls []) by rw [hH, hlocs]]
  have hP : va_P g.1 vwCl (wX11 g aX aT aT_characters aE aH aH_lefts aH_rights aS aS_lefts aS_rights aS_filled aA aA_letters aA_lengths aK aB aB_first aQ aQ_weights aQ_possible aC aC_variables aC_relations aC_numbers aA2 aA2_letters aA2_lengths aN aN_lefts aN_rights aN_parents aN_rules aN_depths aE2 T_size T_characters E_left E_right H_size H_lefts H_rights S_lefts S_rights S_filled A_letters A_lengths B_left B_right B_found B_least B_first Q_letterSurplus Q_weights Q_possible C_size C_variables C_relations C_numbers A2_letters A2_lengths N_size N_solved N_dropped N_lefts N_rights N_parents N_rules N_depths E2_left E2_right) H := by rw [hH]; exact hP
  have hD : va_D A (wX11 g aX aT aT_characters aE aH aH_lefts aH_rights aS aS_lefts aS_rights aS_filled aA aA_letters aA_lengths aK aB aB_first aQ aQ_weights aQ_possible aC aC_variables aC_relations aC_numbers aA2 aA2_letters aA2_lengths aN aN_lefts aN_rights aN_parents aN_rules aN_depths aE2 T_size T_characters E_left E_right H_size H_lefts H_rights S_lefts S_rights S_filled A_letters A_lengths B_left B_right B_found B_least B_first Q_letterSurplus Q_weights Q_possible C_size C_variables C_relations C_numbers A2_letters A2_lengths N_size N_solved N_dropped N_lefts N_rights N_parents N_rules N_depths E2_left E2_right) := hD
  have hS : va_S A s.heap H locs := by rw [hH, hlocs]; exact hS
  clear hH hlocs
  refine lv_iload_n hx hb dX11_witnessLength_0 rfl (lv_at hl 1 rfl) ?_
  obtain ⟨t1, hc1, h⟩ := bd1_to h
  refine go_0 (st1 := [.int t1]) (run_S (As := [.int x1]) (rest := []) X hS (mX11_isVariable g l  x1 t1 hc1) okX11_isVariable wd3_8 ⟨Nat.le_of_ble_eq_true rfl, Nat.le_of_ble_eq_true rfl⟩ ⟨rfl, rfl⟩ nil_P nil_D (nil_F hS hA) rfl hl.1 rfl (Nat.le_of_ble_eq_true rfl) dX11_witnessLength_1 ⟨Nat.zero_le _, Nat.zero_le _⟩) hS hA hP rfl (fun H locs hP hS => ?_)
  refine lv_if_ne (tgt := 9) hx hb dX11_witnessLength_4 (by decide) (fun q4 => ?_) (fun q4 => ?_)
  · have h := ifF h q4
    refine lv_aload_n hx hb dX11_witnessLength_9 rfl (lv_at hl 0 rfl) ?_
    refine va_get (D := g.1) (ci := 10) (v := .ref aN) (C := RX11) (T := TX11) (N := 10) hx hb hts inBX11 hown hK hP 0 rfl rfl 8 (by decide) (hts _ wd2_0) (fun _ h9 => h9) rfl dX11_witnessLength_10 ?_
    refine lv_aload_n hx hb dX11_witnessLength_13 rfl (lv_at hl 0 rfl) ?_
    refine va_get (D := g.1) (ci := 10) (v := .ref aE) (C := RX11) (T := TX11) (N := 10) hx hb hts inBX11 hown hK hP 0 rfl rfl 1 (by decide) (hts _ wd1_233) (fun _ h9 => h9) rfl dX11_witnessLength_14 ?_
    obtain ⟨t17, N_size_17, N_solved_17, N_dropped_17, N_lefts_17, N_rights_17, N_parents_17, N_rules_17, N_depths_17, hc17, h⟩ := bd9_to h
    refine go_P (st1 := [.int t17]) (W1 := (wX11 g aX aT aT_characters aE aH aH_lefts aH_rights aS aS_lefts aS_rights aS_filled aA aA_letters aA_lengths aK aB aB_first aQ aQ_weights aQ_possible aC aC_variables aC_relations aC_numbers aA2 aA2_letters aA2_lengths aN aN_lefts aN_rights aN_parents aN_rules aN_depths aE2 T_size T_characters E_left E_right H_size H_lefts H_rights S_lefts S_rights S_filled A_letters A_lengths B_left B_right B_found B_least B_first Q_letterSurplus Q_weights Q_possible C_size C_variables C_relations C_numbers A2_letters A2_lengths N_size_17 N_solved_17 N_dropped_17 N_lefts_17 N_rights_17 N_parents_17 N_rules_17 N_depths_17 E2_left E2_right)) (run_V (As := [.ref aE]) (rest := []) X hS (mX7_answerFor g l  aN aN_lefts aN_rights aN_parents aN_rules aN_depths aE N_size N_solved N_dropped N_lefts N_rights N_parents N_rules N_depths E_left E_right t17 N_size_17 N_solved_17 N_dropped_17 N_lefts_17 N_rights_17 N_parents_17 N_rules_17 N_depths_17 hc17) okX7_answerFor wd4_31 ⟨Nat.le_of_ble_eq_true rfl, Nat.le_of_ble_eq_true rfl⟩ ⟨rfl, rfl⟩ (va_recv hK hP (ci := 7) (q0 := 27) rfl rfl) (sub_P hP [27, 28, 29, 30, 31, 32, 3] rfl) (hD.sub [27, 28, 29, 30, 31, 32, 3] (by decide) rfl) (va_free hD hS hA [27, 28, 29, 30, 31, 32, 3] rfl) rfl hl.1 rfl (Nat.le_of_ble_eq_true rfl) dX11_witnessLength_17 ⟨Nat.zero_le _, Nat.zero_le _⟩) hS (va_free hD hS hA [27, 28, 29, 30, 31, 32, 3] rfl) hP hD [27, 28, 29, 30, 31, 32, 3] [0, 1, 2, 4, 5, 6, 7, 8, 9, 10, 11, 12, 13, 14, 15, 16, 17, 18, 19, 20, 21, 22, 23, 24, 25, 26, 33] [0, 1, 2, 33, 3, 4, 5, 6, 7, 8, 9, 10, 11, 12, 13, 14, 15, 16, 17, 18, 19, 20, 21, 22, 23, 24, 25, 27, 28, 29, 30, 31, 32, 26] rfl rfl (by decide) (by decide) rfl (by decide) rfl (fun H locs hP hD hS => ?_)
    refine lv_iconst (v := (1 : Int32)) hx hb dX11_witnessLength_20 (by decide) ?_
    refine lv_icmp_ne (tgt := 38) hx hb dX11_witnessLength_21 (by decide) (fun q21 => ?_) (fun q21 => ?_)
    · have h := ifF h q21
      refine lv_bipush (v := ((-9) : Int32)) hx hb dX11_witnessLength_38 (by decide) ?_
      have h : some (((-9) : Int32), A_letters, A_lengths, N_size_17, N_solved_17, N_dropped_17, N_lefts_17, N_rights_17, N_parents_17, N_rules_17, N_depths_17) = some (r, A_letters_o, A_lengths_o, N_size_o, N_solved_o, N_dropped_o, N_lefts_o, N_rights_o, N_parents_o, N_rules_o, N_depths_o) := h
      cases h
      exact hret _ _ _ _ hP hD hS dX11_witnessLength_40
    have h := ifT h q21
    refine lv_aload_n hx hb dX11_witnessLength_24 rfl (lv_at hl 0 rfl) ?_
    refine va_get (D := g.1) (ci := 10) (v := .ref aN) (C := RX11) (T := TX11) (N := 10) hx hb hts inBX11 hown hK hP 0 rfl rfl 8 (by decide) (hts _ wd2_0) (fun _ h9 => h9) rfl dX11_witnessLength_25 ?_
    refine lv_aload_n hx hb dX11_witnessLength_28 rfl (lv_at hl 0 rfl) ?_
    refine va_get (D := g.1) (ci := 10) (v := .ref aA) (C := RX11) (T := TX11) (N := 10) hx hb hts inBX11 hown hK hP 0 rfl rfl 5 (by decide) (hts _ wd1_237) (fun _ h9 => h9) rfl dX11_witnessLength_29 ?_
    obtain ⟨t32, A_letters_32, A_lengths_32, hc32, h⟩ := bd3_to h
    refine go_P (st1 := [.int t32]) (W1 := (wX11 g aX aT aT_characters aE aH aH_lefts aH_rights aS aS_lefts aS_rights aS_filled aA aA_letters aA_lengths aK aB aB_first aQ aQ_weights aQ_possible aC aC_variables aC_relations aC_numbers aA2 aA2_letters aA2_lengths aN aN_lefts aN_rights aN_parents aN_rules aN_depths aE2 T_size T_characters E_left E_right H_size H_lefts H_rights S_lefts S_rights S_filled A_letters_32 A_lengths_32 B_left B_right B_found B_least B_first Q_letterSurplus Q_weights Q_possible C_size C_variables C_relations C_numbers A2_letters A2_lengths N_size_17 N_solved_17 N_dropped_17 N_lefts_17 N_rights_17 N_parents_17 N_rules_17 N_depths_17 E2_left E2_right)) (run_V (As := [.ref aA]) (rest := []) X hS (mX7_buildWitness g l  aN aN_lefts aN_rights aN_parents aN_rules aN_depths aA aA_letters aA_lengths N_size_17 N_solved_17 N_dropped_17 N_lefts_17 N_rights_17 N_parents_17 N_rules_17 N_depths_17 A_letters A_lengths t32 A_letters_32 A_lengths_32 hc32) okX7_buildWitness wd4_94 ⟨Nat.le_of_ble_eq_true rfl, Nat.le_of_ble_eq_true rfl⟩ ⟨rfl, rfl⟩ (va_recv hK hP (ci := 7) (q0 := 27) rfl rfl) (sub_P hP [27, 28, 29, 30, 31, 32, 11, 12, 13] rfl) (hD.sub [27, 28, 29, 30, 31, 32, 11, 12, 13] (by decide) rfl) (va_free hD hS hA [27, 28, 29, 30, 31, 32, 11, 12, 13] rfl) rfl hl.1 rfl (Nat.le_of_ble_eq_true rfl) dX11_witnessLength_32 ⟨Nat.zero_le _, Nat.zero_le _⟩) hS (va_free hD hS hA [27, 28, 29, 30, 31, 32, 11, 12, 13] rfl) hP hD [27, 28, 29, 30, 31, 32, 11, 12, 13] [0, 1, 2, 3, 4, 5, 6, 7, 8, 9, 10, 14, 15, 16, 17, 18, 19, 20, 21, 22, 23, 24, 25, 26, 33] [0, 1, 2, 3, 4, 5, 6, 7, 8, 9, 10, 31, 32, 33, 11, 12, 13, 14, 15, 16, 17, 18, 19, 20, 21, 22, 23, 25, 26, 27, 28, 29, 30, 24] rfl rfl (by decide) (by decide) rfl (by decide) rfl (fun H locs hP hD hS => ?_)
    refine lv_if_ne (tgt := 41) hx hb dX11_witnessLength_35 (by decide) (fun q35 => ?_) (fun q35 => ?_)
    · have h := ifF h q35
      refine lv_aload_n hx hb dX11_witnessLength_41 rfl (lv_at hl 0 rfl) ?_
      refine va_get (D := g.1) (ci := 10) (v := .ref aA) (C := RX11) (T := TX11) (N := 10) hx hb hts inBX11 hown hK hP 0 rfl rfl 5 (by decide) (hts _ wd1_237) (fun _ h9 => h9) rfl dX11_witnessLength_42 ?_
      refine lv_iload_n hx hb dX11_witnessLength_45 rfl (lv_at hl 1 rfl) ?_
      obtain ⟨t46, hc46, h⟩ := bd1_to h
      refine go_0 (st1 := [.int t46, .ref aA]) (run_S (As := [.int x1]) (rest := [.ref aA]) X hS (mX9_variable g l  x1 t46 hc46) okX9_variable wd3_11 ⟨Nat.le_of_ble_eq_true rfl, Nat.le_of_ble_eq_true rfl⟩ ⟨rfl, rfl⟩ nil_P nil_D (nil_F hS hA) rfl hl.1 rfl (Nat.le_of_ble_eq_true rfl) dX11_witnessLength_46 ⟨Nat.zero_le _, Nat.zero_le _⟩) hS hA hP rfl (fun H locs hP hS => ?_)
      obtain ⟨t49, hc49, h⟩ := bd1_to h
      refine go_P (st1 := [.int t49]) (W1 := (wX11 g aX aT aT_characters aE aH aH_lefts aH_rights aS aS_lefts aS_rights aS_filled aA aA_letters aA_lengths aK aB aB_first aQ aQ_weights aQ_possible aC aC_variables aC_relations aC_numbers aA2 aA2_letters aA2_lengths aN aN_lefts aN_rights aN_parents aN_rules aN_depths aE2 T_size T_characters E_left E_right H_size H_lefts H_rights S_lefts S_rights S_filled A_letters_32 A_lengths_32 B_left B_right B_found B_least B_first Q_letterSurplus Q_weights Q_possible C_size C_variables C_relations C_numbers A2_letters A2_lengths N_size_17 N_solved_17 N_dropped_17 N_lefts_17 N_rights_17 N_parents_17 N_rules_17 N_depths_17 E2_left E2_right)) (run_V (As := [.int t46]) (rest := []) X hS (mX0_lengthOf g l  aA aA_letters aA_lengths A_letters_32 A_lengths_32 t46 t49 hc49) okX0_lengthOf wd3_152 ⟨Nat.le_of_ble_eq_true rfl, Nat.le_of_ble_eq_true rfl⟩ ⟨rfl, rfl⟩ (va_recv hK hP (ci := 0) (q0 := 11) rfl rfl) (sub_P hP [11, 12, 13] rfl) (hD.sub [11, 12, 13] (by decide) rfl) (va_free hD hS hA [11, 12, 13] rfl) rfl hl.1 rfl (Nat.le_of_ble_eq_true rfl) dX11_witnessLength_49 ⟨Nat.zero_le _, Nat.zero_le _⟩) hS (va_free hD hS hA [11, 12, 13] rfl) hP hD [11, 12, 13] [0, 1, 2, 3, 4, 5, 6, 7, 8, 9, 10, 14, 15, 16, 17, 18, 19, 20, 21, 22, 23, 24, 25, 26, 27, 28, 29, 30, 31, 32, 33] [0, 1, 2, 3, 4, 5, 6, 7, 8, 9, 10, 31, 32, 33, 11, 12, 13, 14, 15, 16, 17, 18, 19, 20, 21, 22, 23, 24, 25, 26, 27, 28, 29, 30] rfl rfl (by decide) (by decide) rfl (by decide) rfl (fun H locs hP hD hS => ?_)
      have h : some (t49, A_letters_32, A_lengths_32, N_size_17, N_solved_17, N_dropped_17, N_lefts_17, N_rights_17, N_parents_17, N_rules_17, N_depths_17) = some (r, A_letters_o, A_lengths_o, N_size_o, N_solved_o, N_dropped_o, N_lefts_o, N_rights_o, N_parents_o, N_rules_o, N_depths_o) := h
      cases h
      exact hret _ _ _ _ hP hD hS dX11_witnessLength_52
    have h := ifT h q35
    refine lv_bipush (v := ((-9) : Int32)) hx hb dX11_witnessLength_38 (by decide) ?_
    have h : some (((-9) : Int32), A_letters_32, A_lengths_32, N_size_17, N_solved_17, N_dropped_17, N_lefts_17, N_rights_17, N_parents_17, N_rules_17, N_depths_17) = some (r, A_letters_o, A_lengths_o, N_size_o, N_solved_o, N_dropped_o, N_lefts_o, N_rights_o, N_parents_o, N_rules_o, N_depths_o) := h
    cases h
    exact hret _ _ _ _ hP hD hS dX11_witnessLength_40
  have h := ifT h q4
  refine lv_iconst (v := ((-1) : Int32)) hx hb dX11_witnessLength_7 (by decide) ?_
  have h : some (((-1) : Int32), A_letters, A_lengths, N_size, N_solved, N_dropped, N_lefts, N_rights, N_parents, N_rules, N_depths) = some (r, A_letters_o, A_lengths_o, N_size_o, N_solved_o, N_dropped_o, N_lefts_o, N_rights_o, N_parents_o, N_rules_o, N_depths_o) := h
  cases h
  exact hret _ _ _ _ hP hD hS dX11_witnessLength_8
set_option maxHeartbeats 4000000 in
set_option maxRecDepth 100000 in
theorem mX0_letterOf (g : GP) (l : Launch) (aA aA_letters aA_lengths : Nat) (A_letters : Nat → Int64) (A_lengths : Nat → Int32) (x1 : Int32) (x2 : Int32) (r : Int32) (h : fA_letterOf A_letters A_lengths x1 x2 = some r) : Ct g l yX0_letterOf cX0_letterOf 4 (some .int) rmX0_letterOf [.ref aA, .int x1, .int x2] (wX0 g aA aA_letters aA_lengths A_letters A_lengths) (some (.int r)) (wX0 g aA aA_letters aA_lengths A_letters A_lengths) := by
  refine Ct.introI (by decide) (Nat.le_of_ble_eq_true rfl) ?_
  intro p e s m below meth c A QQ ls hyp hret
  obtain ⟨hx, hb, hml, hts, hown, hA, hE, hP, hD, hl⟩ := hyp
  have hK := hE.1
  have hS : va_S A s.heap s.heap [] := va_S.rf
  have X : Here g p s m c cX0_letterOf 4 ([.ref aA, .int x1, .int x2] : List Value).toArray RX0 A := ⟨⟨hx, hb, hml, hown, hts⟩, hE, hA⟩
  have hl : lv_has ls 4 [(0, .ref aA), (1, .int x1), (2, .int x2)] := hl
  obtain ⟨H, hH⟩ : ∃ H, H = s.heap := ⟨_, rfl⟩
  obtain ⟨locs, hlocs⟩ : ∃ l : List Loc, l = [] := ⟨_, rfl⟩
  rw [show W p l e rmX0_letterOf s m ([.ref aA, .int x1, .int x2] : List Value).toArray below meth c s.heap [] 0 0 QQ (F0 m 0 ls []) = W p l e rmX0_letterOf s m ([.ref aA, .int x1, .int x2] : List Value).toArray below meth c H locs 0 0 QQ (F0 m 0 ls []) by rw [hH, hlocs]]
  have hP : va_P g.1 vwCl (wX0 g aA aA_letters aA_lengths A_letters A_lengths) H := by rw [hH]; exact hP
  have hD : va_D A (wX0 g aA aA_letters aA_lengths A_letters A_lengths) := hD
  have hS : va_S A s.heap H locs := by rw [hH, hlocs]; exact hS
  clear hH hlocs
  refine lv_aload_n hx hb dX0_letterOf_0 rfl (lv_at hl 0 rfl) ?_
  refine lv_iload_n hx hb dX0_letterOf_1 rfl (lv_at hl 1 rfl) ?_
  obtain ⟨t2, hc2, h⟩ := bd1_to h
  refine go_A (st1 := [.int t2]) (run_V (As := [.int x1]) (rest := []) X hS (mX0_lengthOf g l  aA aA_letters aA_lengths A_letters A_lengths x1 t2 hc2) okX0_lengthOf wd4_112 ⟨Nat.le_of_ble_eq_true rfl, Nat.le_of_ble_eq_true rfl⟩ ⟨rfl, rfl⟩ (va_recv hK hP (ci := 0) (q0 := 0) rfl rfl) hP hD (all_F hS hA hD) rfl hl.1 rfl (Nat.le_of_ble_eq_true rfl) dX0_letterOf_2 ⟨Nat.zero_le _, Nat.zero_le _⟩) hS (all_F hS hA hD) rfl (fun H locs hP hD hS => ?_)
  refine lv_iconst (v := (1 : Int32)) hx hb dX0_letterOf_5 (by decide) ?_
  refine lv_isub hx hb dX0_letterOf_6 ?_
  refine lv_iload_n hx hb dX0_letterOf_7 rfl (lv_at hl 2 rfl) ?_
  refine lv_isub hx hb dX0_letterOf_8 ?_
  refine lv_topi (fun t9 et9 => ?_)
  have h := st_to h et9
  refine lv_istore_n (lv' := [(3, .int t9), (0, .ref aA), (1, .int x1), (2, .int x2)]) hx hb dX0_letterOf_9 rfl hl (by decide) rfl (fun ls hl => ?_)
  refine lv_aload_n hx hb dX0_letterOf_10 rfl (lv_at hl 1 rfl) ?_
  refine va_get (D := g.1) (ci := 0) (v := .ref aA_letters) (C := RX0) (T := TX0) (N := 2) hx hb hts inBX0 hown hK hP 0 rfl rfl 0 (by decide) (hts _ wd1_127) (fun _ h9 => h9) rfl dX0_letterOf_11 ?_
  refine lv_iload_n hx hb dX0_letterOf_14 rfl (lv_at hl 2 rfl) ?_
  refine lv_bipush (v := (7 : Int32)) hx hb dX0_letterOf_15 (by decide) ?_
  refine lv_iand hx hb dX0_letterOf_17 ?_
  have hin := ld_in h
  refine va_lald hx hb hK hP 1 1 rfl rfl hin dX0_letterOf_18 ?_
  refine lv_topl (fun t18 et18 => ?_)
  have h := ld_to h et18
  refine lv_iload_n hx hb dX0_letterOf_19 rfl (lv_at hl 0 rfl) ?_
  refine lv_lushr (v := (ushrL t18 t9)) hx hb dX0_letterOf_20 rfl ?_
  refine lv_lconst (v := (1 : Int64)) hx hb dX0_letterOf_21 (by decide) ?_
  refine lv_land hx hb dX0_letterOf_22 ?_
  refine lv_lconst (v := (0 : Int64)) hx hb dX0_letterOf_23 (by decide) ?_
  refine W.lcmp hx hb dX0_letterOf_24 ?_
  refine lv_if_ne (tgt := 33) hx hb dX0_letterOf_25 (by decide) (fun q25 => ?_) (fun q25 => ?_)
  · have h := ifF h q25
    refine lv_bipush (v := (98 : Int32)) hx hb dX0_letterOf_33 (by decide) ?_
    have h : some (98 : Int32) = some r := h
    cases h
    exact hret _ _ _ _ hP hD hS dX0_letterOf_35
  have h := ifT h q25
  refine lv_bipush (v := (97 : Int32)) hx hb dX0_letterOf_28 (by decide) ?_
  refine lv_goto (tgt := 35) hx hb dX0_letterOf_30 (by decide) ?_
  have h : some (97 : Int32) = some r := h
  cases h
  exact hret _ _ _ _ hP hD hS dX0_letterOf_35
set_option maxHeartbeats 4000000 in
set_option maxRecDepth 100000 in
theorem mX11_witnessLetter (g : GP) (l : Launch) (aX aT aT_characters aE aH aH_lefts aH_rights aS aS_lefts aS_rights aS_filled aA aA_letters aA_lengths aK aB aB_first aQ aQ_weights aQ_possible aC aC_variables aC_relations aC_numbers aA2 aA2_letters aA2_lengths aN aN_lefts aN_rights aN_parents aN_rules aN_depths aE2 : Nat) (T_size : Int32) (T_characters : Nat → Int32) (E_left : Int64) (E_right : Int64) (H_size : Int32) (H_lefts : Nat → Int64) (H_rights : Nat → Int64) (S_lefts : Nat → Int64) (S_rights : Nat → Int64) (S_filled : Nat → Int32) (A_letters : Nat → Int64) (A_lengths : Nat → Int32) (B_left : Int64) (B_right : Int64) (B_found : Int32) (B_least : Int32) (B_first : Nat → Int32) (Q_letterSurplus : Int32) (Q_weights : Nat → Int32) (Q_possible : Nat → Int32) (C_size : Int32) (C_variables : Nat → Int32) (C_relations : Nat → Int32) (C_numbers : Nat → Int32) (A2_letters : Nat → Int64) (A2_lengths : Nat → Int32) (N_size : Int32) (N_solved : Int32) (N_dropped : Int32) (N_lefts : Nat → Int64) (N_rights : Nat → Int64) (N_parents : Nat → Int32) (N_rules : Nat → Int32) (N_depths : Nat → Int32) (E2_left : Int64) (E2_right : Int64) (x1 : Int32) (x2 : Int32) (r : Int32) (A_letters_o : Nat → Int64) (A_lengths_o : Nat → Int32) (N_size_o : Int32) (N_solved_o : Int32) (N_dropped_o : Int32) (N_lefts_o : Nat → Int64) (N_rights_o : Nat → Int64) (N_parents_o : Nat → Int32) (N_rules_o : Nat → Int32) (N_depths_o : Nat → Int32) (h : fX_witnessLetter E_left E_right A_letters A_lengths N_size N_solved N_dropped N_lefts N_rights N_parents N_rules N_depths x1 x2 = some (r, A_letters_o, A_lengths_o, N_size_o, N_solved_o, N_dropped_o, N_lefts_o, N_rights_o, N_parents_o, N_rules_o, N_depths_o)) : Ct g l yX11_witnessLetter cX11_witnessLetter 4 (some .int) rmX11_witnessLetter [.ref aX, .int x1, .int x2] (wX11 g aX aT aT_characters aE aH aH_lefts aH_rights aS aS_lefts aS_rights aS_filled aA aA_letters aA_lengths aK aB aB_first aQ aQ_weights aQ_possible aC aC_variables aC_relations aC_numbers aA2 aA2_letters aA2_lengths aN aN_lefts aN_rights aN_parents aN_rules aN_depths aE2 T_size T_characters E_left E_right H_size H_lefts H_rights S_lefts S_rights S_filled A_letters A_lengths B_left B_right B_found B_least B_first Q_letterSurplus Q_weights Q_possible C_size C_variables C_relations C_numbers A2_letters A2_lengths N_size N_solved N_dropped N_lefts N_rights N_parents N_rules N_depths E2_left E2_right) (some (.int r)) (wX11 g aX aT aT_characters aE aH aH_lefts aH_rights aS aS_lefts aS_rights aS_filled aA aA_letters aA_lengths aK aB aB_first aQ aQ_weights aQ_possible aC aC_variables aC_relations aC_numbers aA2 aA2_letters aA2_lengths aN aN_lefts aN_rights aN_parents aN_rules aN_depths aE2 T_size T_characters E_left E_right H_size H_lefts H_rights S_lefts S_rights S_filled A_letters_o A_lengths_o B_left B_right B_found B_least B_first Q_letterSurplus Q_weights Q_possible C_size C_variables C_relations C_numbers A2_letters A2_lengths N_size_o N_solved_o N_dropped_o N_lefts_o N_rights_o N_parents_o N_rules_o N_depths_o E2_left E2_right) := by
  refine Ct.introI (by decide) (Nat.le_of_ble_eq_true rfl) ?_
  intro p e s m below meth c A QQ ls hyp hret
  obtain ⟨hx, hb, hml, hts, hown, hA, hE, hP, hD, hl⟩ := hyp
  have hK := hE.1
  have hS : va_S A s.heap s.heap [] := va_S.rf
  have X : Here g p s m c cX11_witnessLetter 4 ([.ref aX, .int x1, .int x2] : List Value).toArray RX11 A := ⟨⟨hx, hb, hml, hown, hts⟩, hE, hA⟩
  have hl : lv_has ls 4 [(0, .ref aX), (1, .int x1), (2, .int x2)] := hl
  obtain ⟨H, hH⟩ : ∃ H, H = s.heap := ⟨_, rfl⟩
  obtain ⟨locs, hlocs⟩ : ∃ l : List Loc, l = [] := ⟨_, rfl⟩
  rw [show W p l e rmX11_witnessLetter s m ([.ref aX, .int x1, .int x2] : List Value).toArray below meth c s.heap [] 0 0 QQ (F0 m 0 ls []) = W p l e rmX11_witnessLetter s m ([.ref aX, .int x1, .int x2] : List Value).toArray below meth c H locs 0 0 QQ (F0 m 0 ls []) by rw [hH, hlocs]]
  have hP : va_P g.1 vwCl (wX11 g aX aT aT_characters aE aH aH_lefts aH_rights aS aS_lefts aS_rights aS_filled aA aA_letters aA_lengths aK aB aB_first aQ aQ_weights aQ_possible aC aC_variables aC_relations aC_numbers aA2 aA2_letters aA2_lengths aN aN_lefts aN_rights aN_parents aN_rules aN_depths aE2 T_size T_characters E_left E_right H_size H_lefts H_rights S_lefts S_rights S_filled A_letters A_lengths B_left B_right B_found B_least B_first Q_letterSurplus Q_weights Q_possible C_size C_variables C_relations C_numbers A2_letters A2_lengths N_size N_solved N_dropped N_lefts N_rights N_parents N_rules N_depths E2_left E2_right) H := by rw [hH]; exact hP
  have hD : va_D A (wX11 g aX aT aT_characters aE aH aH_lefts aH_rights aS aS_lefts aS_rights aS_filled aA aA_letters aA_lengths aK aB aB_first aQ aQ_weights aQ_possible aC aC_variables aC_relations aC_numbers aA2 aA2_letters aA2_lengths aN aN_lefts aN_rights aN_parents aN_rules aN_depths aE2 T_size T_characters E_left E_right H_size H_lefts H_rights S_lefts S_rights S_filled A_letters A_lengths B_left B_right B_found B_least B_first Q_letterSurplus Q_weights Q_possible C_size C_variables C_relations C_numbers A2_letters A2_lengths N_size N_solved N_dropped N_lefts N_rights N_parents N_rules N_depths E2_left E2_right) := hD
  have hS : va_S A s.heap H locs := by rw [hH, hlocs]; exact hS
  clear hH hlocs
  refine lv_iload_n hx hb dX11_witnessLetter_0 rfl (lv_at hl 1 rfl) ?_
  obtain ⟨t1, hc1, h⟩ := bd1_to h
  refine go_0 (st1 := [.int t1]) (run_S (As := [.int x1]) (rest := []) X hS (mX11_isVariable g l  x1 t1 hc1) okX11_isVariable wd3_8 ⟨Nat.le_of_ble_eq_true rfl, Nat.le_of_ble_eq_true rfl⟩ ⟨rfl, rfl⟩ nil_P nil_D (nil_F hS hA) rfl hl.1 rfl (Nat.le_of_ble_eq_true rfl) dX11_witnessLetter_1 ⟨Nat.zero_le _, Nat.zero_le _⟩) hS hA hP rfl (fun H locs hP hS => ?_)
  refine lv_if_ne (tgt := 9) hx hb dX11_witnessLetter_4 (by decide) (fun q4 => ?_) (fun q4 => ?_)
  · have h := ifF h q4
    refine lv_aload_n hx hb dX11_witnessLetter_9 rfl (lv_at hl 0 rfl) ?_
    refine va_get (D := g.1) (ci := 10) (v := .ref aN) (C := RX11) (T := TX11) (N := 10) hx hb hts inBX11 hown hK hP 0 rfl rfl 8 (by decide) (hts _ wd2_0) (fun _ h9 => h9) rfl dX11_witnessLetter_10 ?_
    refine lv_aload_n hx hb dX11_witnessLetter_13 rfl (lv_at hl 0 rfl) ?_
    refine va_get (D := g.1) (ci := 10) (v := .ref aE) (C := RX11) (T := TX11) (N := 10) hx hb hts inBX11 hown hK hP 0 rfl rfl 1 (by decide) (hts _ wd1_233) (fun _ h9 => h9) rfl dX11_witnessLetter_14 ?_
    obtain ⟨t17, N_size_17, N_solved_17, N_dropped_17, N_lefts_17, N_rights_17, N_parents_17, N_rules_17, N_depths_17, hc17, h⟩ := bd9_to h
    refine go_P (st1 := [.int t17]) (W1 := (wX11 g aX aT aT_characters aE aH aH_lefts aH_rights aS aS_lefts aS_rights aS_filled aA aA_letters aA_lengths aK aB aB_first aQ aQ_weights aQ_possible aC aC_variables aC_relations aC_numbers aA2 aA2_letters aA2_lengths aN aN_lefts aN_rights aN_parents aN_rules aN_depths aE2 T_size T_characters E_left E_right H_size H_lefts H_rights S_lefts S_rights S_filled A_letters A_lengths B_left B_right B_found B_least B_first Q_letterSurplus Q_weights Q_possible C_size C_variables C_relations C_numbers A2_letters A2_lengths N_size_17 N_solved_17 N_dropped_17 N_lefts_17 N_rights_17 N_parents_17 N_rules_17 N_depths_17 E2_left E2_right)) (run_V (As := [.ref aE]) (rest := []) X hS (mX7_answerFor g l  aN aN_lefts aN_rights aN_parents aN_rules aN_depths aE N_size N_solved N_dropped N_lefts N_rights N_parents N_rules N_depths E_left E_right t17 N_size_17 N_solved_17 N_dropped_17 N_lefts_17 N_rights_17 N_parents_17 N_rules_17 N_depths_17 hc17) okX7_answerFor wd4_31 ⟨Nat.le_of_ble_eq_true rfl, Nat.le_of_ble_eq_true rfl⟩ ⟨rfl, rfl⟩ (va_recv hK hP (ci := 7) (q0 := 27) rfl rfl) (sub_P hP [27, 28, 29, 30, 31, 32, 3] rfl) (hD.sub [27, 28, 29, 30, 31, 32, 3] (by decide) rfl) (va_free hD hS hA [27, 28, 29, 30, 31, 32, 3] rfl) rfl hl.1 rfl (Nat.le_of_ble_eq_true rfl) dX11_witnessLetter_17 ⟨Nat.zero_le _, Nat.zero_le _⟩) hS (va_free hD hS hA [27, 28, 29, 30, 31, 32, 3] rfl) hP hD [27, 28, 29, 30, 31, 32, 3] [0, 1, 2, 4, 5, 6, 7, 8, 9, 10, 11, 12, 13, 14, 15, 16, 17, 18, 19, 20, 21, 22, 23, 24, 25, 26, 33] [0, 1, 2, 33, 3, 4, 5, 6, 7, 8, 9, 10, 11, 12, 13, 14, 15, 16, 17, 18, 19, 20, 21, 22, 23, 24, 25, 27, 28, 29, 30, 31, 32, 26] rfl rfl (by decide) (by decide) rfl (by decide) rfl (fun H locs hP hD hS => ?_)
    refine lv_iconst (v := (1 : Int32)) hx hb dX11_witnessLetter_20 (by decide) ?_
    refine lv_icmp_ne (tgt := 38) hx hb dX11_witnessLetter_21 (by decide) (fun q21 => ?_) (fun q21 => ?_)
    · have h := ifF h q21
      refine lv_bipush (v := ((-9) : Int32)) hx hb dX11_witnessLetter_38 (by decide) ?_
      have h : some (((-9) : Int32), A_letters, A_lengths, N_size_17, N_solved_17, N_dropped_17, N_lefts_17, N_rights_17, N_parents_17, N_rules_17, N_depths_17) = some (r, A_letters_o, A_lengths_o, N_size_o, N_solved_o, N_dropped_o, N_lefts_o, N_rights_o, N_parents_o, N_rules_o, N_depths_o) := h
      cases h
      exact hret _ _ _ _ hP hD hS dX11_witnessLetter_40
    have h := ifT h q21
    refine lv_aload_n hx hb dX11_witnessLetter_24 rfl (lv_at hl 0 rfl) ?_
    refine va_get (D := g.1) (ci := 10) (v := .ref aN) (C := RX11) (T := TX11) (N := 10) hx hb hts inBX11 hown hK hP 0 rfl rfl 8 (by decide) (hts _ wd2_0) (fun _ h9 => h9) rfl dX11_witnessLetter_25 ?_
    refine lv_aload_n hx hb dX11_witnessLetter_28 rfl (lv_at hl 0 rfl) ?_
    refine va_get (D := g.1) (ci := 10) (v := .ref aA) (C := RX11) (T := TX11) (N := 10) hx hb hts inBX11 hown hK hP 0 rfl rfl 5 (by decide) (hts _ wd1_237) (fun _ h9 => h9) rfl dX11_witnessLetter_29 ?_
    obtain ⟨t32, A_letters_32, A_lengths_32, hc32, h⟩ := bd3_to h
    refine go_P (st1 := [.int t32]) (W1 := (wX11 g aX aT aT_characters aE aH aH_lefts aH_rights aS aS_lefts aS_rights aS_filled aA aA_letters aA_lengths aK aB aB_first aQ aQ_weights aQ_possible aC aC_variables aC_relations aC_numbers aA2 aA2_letters aA2_lengths aN aN_lefts aN_rights aN_parents aN_rules aN_depths aE2 T_size T_characters E_left E_right H_size H_lefts H_rights S_lefts S_rights S_filled A_letters_32 A_lengths_32 B_left B_right B_found B_least B_first Q_letterSurplus Q_weights Q_possible C_size C_variables C_relations C_numbers A2_letters A2_lengths N_size_17 N_solved_17 N_dropped_17 N_lefts_17 N_rights_17 N_parents_17 N_rules_17 N_depths_17 E2_left E2_right)) (run_V (As := [.ref aA]) (rest := []) X hS (mX7_buildWitness g l  aN aN_lefts aN_rights aN_parents aN_rules aN_depths aA aA_letters aA_lengths N_size_17 N_solved_17 N_dropped_17 N_lefts_17 N_rights_17 N_parents_17 N_rules_17 N_depths_17 A_letters A_lengths t32 A_letters_32 A_lengths_32 hc32) okX7_buildWitness wd4_94 ⟨Nat.le_of_ble_eq_true rfl, Nat.le_of_ble_eq_true rfl⟩ ⟨rfl, rfl⟩ (va_recv hK hP (ci := 7) (q0 := 27) rfl rfl) (sub_P hP [27, 28, 29, 30, 31, 32, 11, 12, 13] rfl) (hD.sub [27, 28, 29, 30, 31, 32, 11, 12, 13] (by decide) rfl) (va_free hD hS hA [27, 28, 29, 30, 31, 32, 11, 12, 13] rfl) rfl hl.1 rfl (Nat.le_of_ble_eq_true rfl) dX11_witnessLetter_32 ⟨Nat.zero_le _, Nat.zero_le _⟩) hS (va_free hD hS hA [27, 28, 29, 30, 31, 32, 11, 12, 13] rfl) hP hD [27, 28, 29, 30, 31, 32, 11, 12, 13] [0, 1, 2, 3, 4, 5, 6, 7, 8, 9, 10, 14, 15, 16, 17, 18, 19, 20, 21, 22, 23, 24, 25, 26, 33] [0, 1, 2, 3, 4, 5, 6, 7, 8, 9, 10, 31, 32, 33, 11, 12, 13, 14, 15, 16, 17, 18, 19, 20, 21, 22, 23, 25, 26, 27, 28, 29, 30, 24] rfl rfl (by decide) (by decide) rfl (by decide) rfl (fun H locs hP hD hS => ?_)
    refine lv_if_ne (tgt := 41) hx hb dX11_witnessLetter_35 (by decide) (fun q35 => ?_) (fun q35 => ?_)
    · have h := ifF h q35
      refine lv_iload_n hx hb dX11_witnessLetter_41 rfl (lv_at hl 1 rfl) ?_
      obtain ⟨t42, hc42, h⟩ := bd1_to h
      refine go_0 (st1 := [.int t42]) (run_S (As := [.int x1]) (rest := []) X hS (mX9_variable g l  x1 t42 hc42) okX9_variable wd3_11 ⟨Nat.le_of_ble_eq_true rfl, Nat.le_of_ble_eq_true rfl⟩ ⟨rfl, rfl⟩ nil_P nil_D (nil_F hS hA) rfl hl.1 rfl (Nat.le_of_ble_eq_true rfl) dX11_witnessLetter_42 ⟨Nat.zero_le _, Nat.zero_le _⟩) hS hA hP rfl (fun H locs hP hS => ?_)
      refine lv_istore_n (lv' := [(3, .int t42), (0, .ref aX), (1, .int x1), (2, .int x2)]) hx hb dX11_witnessLetter_45 rfl hl (by decide) rfl (fun ls hl => ?_)
      refine lv_iload_n hx hb dX11_witnessLetter_46 rfl (lv_at hl 3 rfl) ?_
      refine lv_if_lt (tgt := 62) hx hb dX11_witnessLetter_47 (by decide) (fun q47 => ?_) (fun q47 => ?_)
      · have h := ifT h q47
        refine lv_bipush (v := ((-9) : Int32)) hx hb dX11_witnessLetter_62 (by decide) ?_
        refine lv_goto (tgt := 76) hx hb dX11_witnessLetter_64 (by decide) ?_
        have h : some (((-9) : Int32), A_letters_32, A_lengths_32, N_size_17, N_solved_17, N_dropped_17, N_lefts_17, N_rights_17, N_parents_17, N_rules_17, N_depths_17) = some (r, A_letters_o, A_lengths_o, N_size_o, N_solved_o, N_dropped_o, N_lefts_o, N_rights_o, N_parents_o, N_rules_o, N_depths_o) := h
        cases h
        exact hret _ _ _ _ hP hD hS dX11_witnessLetter_76
      have h := ifF h q47
      refine lv_iload_n hx hb dX11_witnessLetter_50 rfl (lv_at hl 3 rfl) ?_
      refine lv_aload_n hx hb dX11_witnessLetter_51 rfl (lv_at hl 1 rfl) ?_
      refine va_get (D := g.1) (ci := 10) (v := .ref aA) (C := RX11) (T := TX11) (N := 10) hx hb hts inBX11 hown hK hP 0 rfl rfl 5 (by decide) (hts _ wd1_237) (fun _ h9 => h9) rfl dX11_witnessLetter_52 ?_
      refine lv_iload_n hx hb dX11_witnessLetter_55 rfl (lv_at hl 0 rfl) ?_
      obtain ⟨t56, hc56, h⟩ := bd1_to h
      refine go_P (st1 := [.int t56, .int x2]) (W1 := (wX11 g aX aT aT_characters aE aH aH_lefts aH_rights aS aS_lefts aS_rights aS_filled aA aA_letters aA_lengths aK aB aB_first aQ aQ_weights aQ_possible aC aC_variables aC_relations aC_numbers aA2 aA2_letters aA2_lengths aN aN_lefts aN_rights aN_parents aN_rules aN_depths aE2 T_size T_characters E_left E_right H_size H_lefts H_rights S_lefts S_rights S_filled A_letters_32 A_lengths_32 B_left B_right B_found B_least B_first Q_letterSurplus Q_weights Q_possible C_size C_variables C_relations C_numbers A2_letters A2_lengths N_size_17 N_solved_17 N_dropped_17 N_lefts_17 N_rights_17 N_parents_17 N_rules_17 N_depths_17 E2_left E2_right)) (run_V (As := [.int t42]) (rest := [.int x2]) X hS (mX0_lengthOf g l  aA aA_letters aA_lengths A_letters_32 A_lengths_32 t42 t56 hc56) okX0_lengthOf wd3_152 ⟨Nat.le_of_ble_eq_true rfl, Nat.le_of_ble_eq_true rfl⟩ ⟨rfl, rfl⟩ (va_recv hK hP (ci := 0) (q0 := 11) rfl rfl) (sub_P hP [11, 12, 13] rfl) (hD.sub [11, 12, 13] (by decide) rfl) (va_free hD hS hA [11, 12, 13] rfl) rfl hl.1 rfl (Nat.le_of_ble_eq_true rfl) dX11_witnessLetter_56 ⟨Nat.zero_le _, Nat.zero_le _⟩) hS (va_free hD hS hA [11, 12, 13] rfl) hP hD [11, 12, 13] [0, 1, 2, 3, 4, 5, 6, 7, 8, 9, 10, 14, 15, 16, 17, 18, 19, 20, 21, 22, 23, 24, 25, 26, 27, 28, 29, 30, 31, 32, 33] [0, 1, 2, 3, 4, 5, 6, 7, 8, 9, 10, 31, 32, 33, 11, 12, 13, 14, 15, 16, 17, 18, 19, 20, 21, 22, 23, 24, 25, 26, 27, 28, 29, 30] rfl rfl (by decide) (by decide) rfl (by decide) rfl (fun H locs hP hD hS => ?_)
      refine lv_icmp_lt (tgt := 67) hx hb dX11_witnessLetter_59 (by decide) (fun q59 => ?_) (fun q59 => ?_)
      · have h := ifT h q59
        refine lv_aload_n hx hb dX11_witnessLetter_67 rfl (lv_at hl 1 rfl) ?_
        refine va_get (D := g.1) (ci := 10) (v := .ref aA) (C := RX11) (T := TX11) (N := 10) hx hb hts inBX11 hown hK hP 0 rfl rfl 5 (by decide) (hts _ wd1_237) (fun _ h9 => h9) rfl dX11_witnessLetter_68 ?_
        refine lv_iload_n hx hb dX11_witnessLetter_71 rfl (lv_at hl 0 rfl) ?_
        refine lv_iload_n hx hb dX11_witnessLetter_72 rfl (lv_at hl 3 rfl) ?_
        obtain ⟨t73, hc73, h⟩ := bd1_to h
        refine go_P (st1 := [.int t73]) (W1 := (wX11 g aX aT aT_characters aE aH aH_lefts aH_rights aS aS_lefts aS_rights aS_filled aA aA_letters aA_lengths aK aB aB_first aQ aQ_weights aQ_possible aC aC_variables aC_relations aC_numbers aA2 aA2_letters aA2_lengths aN aN_lefts aN_rights aN_parents aN_rules aN_depths aE2 T_size T_characters E_left E_right H_size H_lefts H_rights S_lefts S_rights S_filled A_letters_32 A_lengths_32 B_left B_right B_found B_least B_first Q_letterSurplus Q_weights Q_possible C_size C_variables C_relations C_numbers A2_letters A2_lengths N_size_17 N_solved_17 N_dropped_17 N_lefts_17 N_rights_17 N_parents_17 N_rules_17 N_depths_17 E2_left E2_right)) (run_V (As := [.int t42, .int x2]) (rest := []) X hS (mX0_letterOf g l  aA aA_letters aA_lengths A_letters_32 A_lengths_32 t42 x2 t73 hc73) okX0_letterOf wd4_117 ⟨Nat.le_of_ble_eq_true rfl, Nat.le_of_ble_eq_true rfl⟩ ⟨rfl, rfl⟩ (va_recv hK hP (ci := 0) (q0 := 11) rfl rfl) (sub_P hP [11, 12, 13] rfl) (hD.sub [11, 12, 13] (by decide) rfl) (va_free hD hS hA [11, 12, 13] rfl) rfl hl.1 rfl (Nat.le_of_ble_eq_true rfl) dX11_witnessLetter_73 ⟨Nat.zero_le _, Nat.zero_le _⟩) hS (va_free hD hS hA [11, 12, 13] rfl) hP hD [11, 12, 13] [0, 1, 2, 3, 4, 5, 6, 7, 8, 9, 10, 14, 15, 16, 17, 18, 19, 20, 21, 22, 23, 24, 25, 26, 27, 28, 29, 30, 31, 32, 33] [0, 1, 2, 3, 4, 5, 6, 7, 8, 9, 10, 31, 32, 33, 11, 12, 13, 14, 15, 16, 17, 18, 19, 20, 21, 22, 23, 24, 25, 26, 27, 28, 29, 30] rfl rfl (by decide) (by decide) rfl (by decide) rfl (fun H locs hP hD hS => ?_)
        have h : some (t73, A_letters_32, A_lengths_32, N_size_17, N_solved_17, N_dropped_17, N_lefts_17, N_rights_17, N_parents_17, N_rules_17, N_depths_17) = some (r, A_letters_o, A_lengths_o, N_size_o, N_solved_o, N_dropped_o, N_lefts_o, N_rights_o, N_parents_o, N_rules_o, N_depths_o) := h
        cases h
        exact hret _ _ _ _ hP hD hS dX11_witnessLetter_76
      have h := ifF h q59
      refine lv_bipush (v := ((-9) : Int32)) hx hb dX11_witnessLetter_62 (by decide) ?_
      refine lv_goto (tgt := 76) hx hb dX11_witnessLetter_64 (by decide) ?_
      have h : some (((-9) : Int32), A_letters_32, A_lengths_32, N_size_17, N_solved_17, N_dropped_17, N_lefts_17, N_rights_17, N_parents_17, N_rules_17, N_depths_17) = some (r, A_letters_o, A_lengths_o, N_size_o, N_solved_o, N_dropped_o, N_lefts_o, N_rights_o, N_parents_o, N_rules_o, N_depths_o) := h
      cases h
      exact hret _ _ _ _ hP hD hS dX11_witnessLetter_76
    have h := ifT h q35
    refine lv_bipush (v := ((-9) : Int32)) hx hb dX11_witnessLetter_38 (by decide) ?_
    have h : some (((-9) : Int32), A_letters_32, A_lengths_32, N_size_17, N_solved_17, N_dropped_17, N_lefts_17, N_rights_17, N_parents_17, N_rules_17, N_depths_17) = some (r, A_letters_o, A_lengths_o, N_size_o, N_solved_o, N_dropped_o, N_lefts_o, N_rights_o, N_parents_o, N_rules_o, N_depths_o) := h
    cases h
    exact hret _ _ _ _ hP hD hS dX11_witnessLetter_40
  have h := ifT h q4
  refine lv_iconst (v := ((-1) : Int32)) hx hb dX11_witnessLetter_7 (by decide) ?_
  have h : some (((-1) : Int32), A_letters, A_lengths, N_size, N_solved, N_dropped, N_lefts, N_rights, N_parents, N_rules, N_depths) = some (r, A_letters_o, A_lengths_o, N_size_o, N_solved_o, N_dropped_o, N_lefts_o, N_rights_o, N_parents_o, N_rules_o, N_depths_o) := h
  cases h
  exact hret _ _ _ _ hP hD hS dX11_witnessLetter_8
set_option maxHeartbeats 4000000 in
set_option maxRecDepth 100000 in
theorem mX8_withoutLast (g : GP) (l : Launch)  (x0 : Int32) (x1 : Int64) (r : Int64) (h : fK_withoutLast x0 x1 = some r) : Ct g l yX8_withoutLast cX8_withoutLast 6 (some .long) rmX8_withoutLast [.int x0, .long x1] [] (some (.long r)) [] := by
  refine Ct.introL (by decide) (Nat.le_of_ble_eq_true rfl) ?_
  intro p e s m below meth c A QQ ls hyp hret
  obtain ⟨hx, hb, hml, hts, hown, hA, hE, hP, hD, hl⟩ := hyp
  have hK := hE.1
  have hS : va_S A s.heap s.heap [] := va_S.rf
  have X : Here g p s m c cX8_withoutLast 6 ([.int x0, .long x1] : List Value).toArray RX8 A := ⟨⟨hx, hb, hml, hown, hts⟩, hE, hA⟩
  have L5 : ∀ (n5 : Nat), ∀ (v3 : Int64) (v5 : Int32) (ls : Array Slot) (H : Heap) (locs : List Loc), lv_has ls 6 [(0, .int x0), (3, .long v3), (5, .int v5)] → va_P g.1 vwCl [] H → va_D A [] → va_S A s.heap H locs → fx2 (fK_withoutLast_5 x0) n5 v3 v5 = some r → W p l e rmX8_withoutLast s m ([.int x0, .long x1] : List Value).toArray below meth c H locs 0 0 QQ (F0 m 5 ls []) := by
    intro n5
    induction n5 with
    | zero => intro v3 v5 ls H locs hl hP hD hS h; exact fx2_0 h
    | succ n5 ih5 =>
      intro v3 v5 ls H locs hl hP hD hS h
      have h := (fx2_s (fK_withoutLast_5 x0) n5 v3 v5).symm.trans h
      refine lv_iload hx hb dX8_withoutLast_5 (lv_at hl 2 rfl) ?_
      refine lv_iload_n hx hb dX8_withoutLast_7 rfl (lv_at hl 0 rfl) ?_
      refine lv_icmp_ge (tgt := 23) hx hb dX8_withoutLast_8 (by decide) (fun q8 => ?_) (fun q8 => ?_)
      · have h := ifT h q8
        refine lv_lload_n hx hb dX8_withoutLast_23 rfl (lv_at hl 1 rfl) ?_
        have h : some v3 = some r := h
        cases h
        exact hret _ _ _ _ hP hD hS dX8_withoutLast_24
      have h := ifF h q8
      refine lv_lload_n hx hb dX8_withoutLast_11 rfl (lv_at hl 1 rfl) ?_
      refine lv_ldc2 (v := (1000 : Int64)) hx hb hown (hts _ wd4_128) dX8_withoutLast_12 ?_
      refine lv_ldiv hx hb dX8_withoutLast_15 (by decide) ?_
      refine lv_topl (fun t16 et16 => ?_)
      have h := st_to h et16
      refine lv_lstore_n (lv' := [(3, .long t16), (0, .int x0), (5, .int v5)]) hx hb dX8_withoutLast_16 rfl hl (by decide) rfl (fun ls hl => ?_)
      obtain ⟨t17, et17⟩ : ∃ y : Int32, y = v5 + (1 : Int32) := ⟨_, rfl⟩
      refine lv_iinc (v := t17) (lv' := [(5, .int t17), (3, .long t16), (0, .int x0)]) hx hb dX8_withoutLast_17 hl (k := 2) rfl (by rw [et17]; rfl) (by decide) rfl (fun ls hl => ?_)
      have h := st_to h et17
      refine lv_goto (tgt := 5) hx hb dX8_withoutLast_20 (by decide) ?_
      exact ih5 t16 t17 ls H locs (lv_sub hl [2, 1, 0] rfl) hP hD hS h
  have hl : lv_has ls 6 [(0, .int x0), (1, .long x1)] := hl
  obtain ⟨H, hH⟩ : ∃ H, H = s.heap := ⟨_, rfl⟩
  obtain ⟨locs, hlocs⟩ : ∃ l : List Loc, l = [] := ⟨_, rfl⟩
  rw [show W p l e rmX8_withoutLast s m ([.int x0, .long x1] : List Value).toArray below meth c s.heap [] 0 0 QQ (F0 m 0 ls []) = W p l e rmX8_withoutLast s m ([.int x0, .long x1] : List Value).toArray below meth c H locs 0 0 QQ (F0 m 0 ls []) by rw [hH, hlocs]]
  have hP : va_P g.1 vwCl [] H := by rw [hH]; exact hP
  have hD : va_D A [] := hD
  have hS : va_S A s.heap H locs := by rw [hH, hlocs]; exact hS
  clear hH hlocs
  refine lv_lload_n hx hb dX8_withoutLast_0 rfl (lv_at hl 1 rfl) ?_
  refine lv_lstore_n (lv' := [(3, .long x1), (0, .int x0), (1, .long x1)]) hx hb dX8_withoutLast_1 rfl hl (by decide) rfl (fun ls hl => ?_)
  refine lv_iconst (v := (0 : Int32)) hx hb dX8_withoutLast_2 (by decide) ?_
  refine lv_istore (lv' := [(5, .int (0 : Int32)), (3, .long x1), (0, .int x0), (1, .long x1)]) hx hb dX8_withoutLast_3 hl (by decide) rfl (fun ls hl => ?_)
  exact L5 FU x1 (0 : Int32) ls H locs (lv_sub hl [2, 1, 0] rfl) hP hD hS h
set_option maxHeartbeats 4000000 in
set_option maxRecDepth 100000 in
theorem mX8_begin (g : GP) (l : Launch) (aK aB aB_first aQ aQ_weights aQ_possible aC aC_variables aC_relations aC_numbers aA aA_letters aA_lengths aN aN_lefts aN_rights aN_parents aN_rules aN_depths aE aE2 : Nat) (B_left : Int64) (B_right : Int64) (B_found : Int32) (B_least : Int32) (B_first : Nat → Int32) (Q_letterSurplus : Int32) (Q_weights : Nat → Int32) (Q_possible : Nat → Int32) (C_size : Int32) (C_variables : Nat → Int32) (C_relations : Nat → Int32) (C_numbers : Nat → Int32) (A_letters : Nat → Int64) (A_lengths : Nat → Int32) (N_size : Int32) (N_solved : Int32) (N_dropped : Int32) (N_lefts : Nat → Int64) (N_rights : Nat → Int64) (N_parents : Nat → Int32) (N_rules : Nat → Int32) (N_depths : Nat → Int32) (E_left : Int64) (E_right : Int64) (E2_left : Int64) (E2_right : Int64)  (E_left_o : Int64) (E_right_o : Int64) (h : fK_begin E2_left E2_right = some (E_left_o, E_right_o)) : Ct g l yX8_begin cX8_begin 2 none rmX8_begin [.ref aK, .ref aE2] ((wX8 g aK aB aB_first aQ aQ_weights aQ_possible aC aC_variables aC_relations aC_numbers aA aA_letters aA_lengths aN aN_lefts aN_rights aN_parents aN_rules aN_depths aE B_left B_right B_found B_least B_first Q_letterSurplus Q_weights Q_possible C_size C_variables C_relations C_numbers A_letters A_lengths N_size N_solved N_dropped N_lefts N_rights N_parents N_rules N_depths E_left E_right) ++ (wX2 g aE2 E2_left E2_right)) none ((wX8 g aK aB aB_first aQ aQ_weights aQ_possible aC aC_variables aC_relations aC_numbers aA aA_letters aA_lengths aN aN_lefts aN_rights aN_parents aN_rules aN_depths aE B_left B_right B_found B_least B_first Q_letterSurplus Q_weights Q_possible C_size C_variables C_relations C_numbers A_letters A_lengths N_size N_solved N_dropped N_lefts N_rights N_parents N_rules N_depths E_left_o E_right_o) ++ (wX2 g aE2 E2_left E2_right)) := by
  refine Ct.introV (by decide) (Nat.le_of_ble_eq_true rfl) ?_
  intro p e s m below meth c A QQ ls hyp hret
  obtain ⟨hx, hb, hml, hts, hown, hA, hE, hP, hD, hl⟩ := hyp
  have hK := hE.1
  have hS : va_S A s.heap s.heap [] := va_S.rf
  have X : Here g p s m c cX8_begin 2 ([.ref aK, .ref aE2] : List Value).toArray RX8 A := ⟨⟨hx, hb, hml, hown, hts⟩, hE, hA⟩
  have hl : lv_has ls 2 [(0, .ref aK), (1, .ref aE2)] := hl
  obtain ⟨H, hH⟩ : ∃ H, H = s.heap := ⟨_, rfl⟩
  obtain ⟨locs, hlocs⟩ : ∃ l : List Loc, l = [] := ⟨_, rfl⟩
  rw [show W p l e rmX8_begin s m ([.ref aK, .ref aE2] : List Value).toArray below meth c s.heap [] 0 0 QQ (F0 m 0 ls []) = W p l e rmX8_begin s m ([.ref aK, .ref aE2] : List Value).toArray below meth c H locs 0 0 QQ (F0 m 0 ls []) by rw [hH, hlocs]]
  have hP : va_P g.1 vwCl ((wX8 g aK aB aB_first aQ aQ_weights aQ_possible aC aC_variables aC_relations aC_numbers aA aA_letters aA_lengths aN aN_lefts aN_rights aN_parents aN_rules aN_depths aE B_left B_right B_found B_least B_first Q_letterSurplus Q_weights Q_possible C_size C_variables C_relations C_numbers A_letters A_lengths N_size N_solved N_dropped N_lefts N_rights N_parents N_rules N_depths E_left E_right) ++ (wX2 g aE2 E2_left E2_right)) H := by rw [hH]; exact hP
  have hD : va_D A ((wX8 g aK aB aB_first aQ aQ_weights aQ_possible aC aC_variables aC_relations aC_numbers aA aA_letters aA_lengths aN aN_lefts aN_rights aN_parents aN_rules aN_depths aE B_left B_right B_found B_least B_first Q_letterSurplus Q_weights Q_possible C_size C_variables C_relations C_numbers A_letters A_lengths N_size N_solved N_dropped N_lefts N_rights N_parents N_rules N_depths E_left E_right) ++ (wX2 g aE2 E2_left E2_right)) := hD
  have hS : va_S A s.heap H locs := by rw [hH, hlocs]; exact hS
  clear hH hlocs
  refine lv_aload_n hx hb dX8_begin_0 rfl (lv_at hl 0 rfl) ?_
  refine va_get (D := g.1) (ci := 8) (v := .ref aE) (C := RX8) (T := TX8) (N := 3) hx hb hts inBX8 hown hK hP 0 rfl rfl 2 (by decide) (hts _ wd1_224) (fun _ h9 => h9) rfl dX8_begin_1 ?_
  refine lv_aload_n hx hb dX8_begin_4 rfl (lv_at hl 1 rfl) ?_
  refine va_get (D := g.1) (ci := 2) (v := .long E2_left) (C := RX2) (T := TX2) (N := 2) hx hb hts inBX2 hown hK hP 20 rfl rfl 0 (by decide) (hts _ wd1_51) (fun _ h9 => h9) rfl dX8_begin_5 ?_
  refine lv_aload_n hx hb dX8_begin_8 rfl (lv_at hl 1 rfl) ?_
  refine va_get (D := g.1) (ci := 2) (v := .long E2_right) (C := RX2) (T := TX2) (N := 2) hx hb hts inBX2 hown hK hP 20 rfl rfl 1 (by decide) (hts _ wd1_58) (fun _ h9 => h9) rfl dX8_begin_9 ?_
  obtain ⟨E_left_12, E_right_12, hc12, h⟩ := bd2_to h
  refine go_P (st1 := []) (W1 := ((wX8 g aK aB aB_first aQ aQ_weights aQ_possible aC aC_variables aC_relations aC_numbers aA aA_letters aA_lengths aN aN_lefts aN_rights aN_parents aN_rules aN_depths aE B_left B_right B_found B_least B_first Q_letterSurplus Q_weights Q_possible C_size C_variables C_relations C_numbers A_letters A_lengths N_size N_solved N_dropped N_lefts N_rights N_parents N_rules N_depths E_left_12 E_right_12) ++ (wX2 g aE2 E2_left E2_right))) (run_V (As := [.long E2_left, .long E2_right]) (rest := []) X hS (mX2_set g l  aE E_left E_right E2_left E2_right E_left_12 E_right_12 hc12) okX2_set wd4_133 ⟨Nat.le_of_ble_eq_true rfl, Nat.le_of_ble_eq_true rfl⟩ ⟨rfl, rfl⟩ (va_recv hK hP (ci := 2) (q0 := 19) rfl rfl) (sub_P hP [19] rfl) (hD.sub [19] (by decide) rfl) (va_free hD hS hA [19] rfl) rfl hl.1 rfl (Nat.le_of_ble_eq_true rfl) dX8_begin_12 ⟨Nat.zero_le _, Nat.zero_le _⟩) hS (va_free hD hS hA [19] rfl) hP hD [19] [0, 1, 2, 3, 4, 5, 6, 7, 8, 9, 10, 11, 12, 13, 14, 15, 16, 17, 18, 20] [0, 1, 2, 3, 4, 5, 6, 7, 8, 9, 10, 11, 12, 13, 14, 15, 16, 17, 18, 20, 19] rfl rfl (by decide) (by decide) rfl (by decide) rfl (fun H locs hP hD hS => ?_)
  have h : some (E_left_12, E_right_12) = some (E_left_o, E_right_o) := h
  cases h
  exact hret _ _ _ _ hP hD hS dX8_begin_15
set_option maxHeartbeats 4000000 in
set_option maxRecDepth 100000 in
theorem mX8_removes (g : GP) (l : Launch) (aK aB aB_first aQ aQ_weights aQ_possible aC aC_variables aC_relations aC_numbers aA aA_letters aA_lengths aN aN_lefts aN_rights aN_parents aN_rules aN_depths aE : Nat) (B_left : Int64) (B_right : Int64) (B_found : Int32) (B_least : Int32) (B_first : Nat → Int32) (Q_letterSurplus : Int32) (Q_weights : Nat → Int32) (Q_possible : Nat → Int32) (C_size : Int32) (C_variables : Nat → Int32) (C_relations : Nat → Int32) (C_numbers : Nat → Int32) (A_letters : Nat → Int64) (A_lengths : Nat → Int32) (N_size : Int32) (N_solved : Int32) (N_dropped : Int32) (N_lefts : Nat → Int64) (N_rights : Nat → Int64) (N_parents : Nat → Int32) (N_rules : Nat → Int32) (N_depths : Nat → Int32) (E_left : Int64) (E_right : Int64) (x1 : Int32) (r : Int32) (E_left_o : Int64) (E_right_o : Int64) (h : fK_removes E_left E_right x1 = some (r, E_left_o, E_right_o)) : Ct g l yX8_removes cX8_removes 2 (some .boolean) rmX8_removes [.ref aK, .int x1] (wX8 g aK aB aB_first aQ aQ_weights aQ_possible aC aC_variables aC_relations aC_numbers aA aA_letters aA_lengths aN aN_lefts aN_rights aN_parents aN_rules aN_depths aE B_left B_right B_found B_least B_first Q_letterSurplus Q_weights Q_possible C_size C_variables C_relations C_numbers A_letters A_lengths N_size N_solved N_dropped N_lefts N_rights N_parents N_rules N_depths E_left E_right) (some (.int r)) (wX8 g aK aB aB_first aQ aQ_weights aQ_possible aC aC_variables aC_relations aC_numbers aA aA_letters aA_lengths aN aN_lefts aN_rights aN_parents aN_rules aN_depths aE B_left B_right B_found B_least B_first Q_letterSurplus Q_weights Q_possible C_size C_variables C_relations C_numbers A_letters A_lengths N_size N_solved N_dropped N_lefts N_rights N_parents N_rules N_depths E_left_o E_right_o) := by
  refine Ct.introZ (by decide) (Nat.le_of_ble_eq_true rfl) ?_
  intro p e s m below meth c A QQ ls hyp hret
  obtain ⟨hx, hb, hml, hts, hown, hA, hE, hP, hD, hl⟩ := hyp
  have hK := hE.1
  have hS : va_S A s.heap s.heap [] := va_S.rf
  have X : Here g p s m c cX8_removes 2 ([.ref aK, .int x1] : List Value).toArray RX8 A := ⟨⟨hx, hb, hml, hown, hts⟩, hE, hA⟩
  have hl : lv_has ls 2 [(0, .ref aK), (1, .int x1)] := hl
  obtain ⟨H, hH⟩ : ∃ H, H = s.heap := ⟨_, rfl⟩
  obtain ⟨locs, hlocs⟩ : ∃ l : List Loc, l = [] := ⟨_, rfl⟩
  rw [show W p l e rmX8_removes s m ([.ref aK, .int x1] : List Value).toArray below meth c s.heap [] 0 0 QQ (F0 m 0 ls []) = W p l e rmX8_removes s m ([.ref aK, .int x1] : List Value).toArray below meth c H locs 0 0 QQ (F0 m 0 ls []) by rw [hH, hlocs]]
  have hP : va_P g.1 vwCl (wX8 g aK aB aB_first aQ aQ_weights aQ_possible aC aC_variables aC_relations aC_numbers aA aA_letters aA_lengths aN aN_lefts aN_rights aN_parents aN_rules aN_depths aE B_left B_right B_found B_least B_first Q_letterSurplus Q_weights Q_possible C_size C_variables C_relations C_numbers A_letters A_lengths N_size N_solved N_dropped N_lefts N_rights N_parents N_rules N_depths E_left E_right) H := by rw [hH]; exact hP
  have hD : va_D A (wX8 g aK aB aB_first aQ aQ_weights aQ_possible aC aC_variables aC_relations aC_numbers aA aA_letters aA_lengths aN aN_lefts aN_rights aN_parents aN_rules aN_depths aE B_left B_right B_found B_least B_first Q_letterSurplus Q_weights Q_possible C_size C_variables C_relations C_numbers A_letters A_lengths N_size N_solved N_dropped N_lefts N_rights N_parents N_rules N_depths E_left E_right) := hD
  have hS : va_S A s.heap H locs := by rw [hH, hlocs]; exact hS
  clear hH hlocs
  refine lv_iload_n hx hb dX8_removes_0 rfl (lv_at hl 1 rfl) ?_
  obtain ⟨t1, hc1, h⟩ := bd1_to h
  refine go_0 (st1 := [.int t1]) (run_SN (As := [.int x1]) (rest := []) X hS (mX11_isVariable g l  x1 t1 hc1) okX11_isVariable (List.mem_of_getElem? (i := 9) rfl) ⟨Nat.le_of_ble_eq_true rfl, Nat.le_of_ble_eq_true rfl⟩ ⟨rfl, rfl⟩ nil_P nil_D (nil_F hS hA) rfl hl.1 rfl (Nat.le_of_ble_eq_true rfl) dX8_removes_1 ⟨Nat.zero_le _, Nat.zero_le _⟩) hS hA hP rfl (fun H locs hP hS => ?_)
  refine lv_if_ne (tgt := 9) hx hb dX8_removes_4 (by decide) (fun q4 => ?_) (fun q4 => ?_)
  · have h := ifF h q4
    refine lv_aload_n hx hb dX8_removes_9 rfl (lv_at hl 0 rfl) ?_
    refine va_get (D := g.1) (ci := 8) (v := .ref aE) (C := RX8) (T := TX8) (N := 3) hx hb hts inBX8 hown hK hP 0 rfl rfl 2 (by decide) (hts _ wd1_224) (fun _ h9 => h9) rfl dX8_removes_10 ?_
    refine lv_iload_n hx hb dX8_removes_13 rfl (lv_at hl 1 rfl) ?_
    obtain ⟨t14, hc14, h⟩ := bd1_to h
    refine go_0 (st1 := [.int t14, .ref aE]) (run_S (As := [.int x1]) (rest := [.ref aE]) X hS (mX9_variable g l  x1 t14 hc14) okX9_variable wd4_144 ⟨Nat.le_of_ble_eq_true rfl, Nat.le_of_ble_eq_true rfl⟩ ⟨rfl, rfl⟩ nil_P nil_D (nil_F hS hA) rfl hl.1 rfl (Nat.le_of_ble_eq_true rfl) dX8_removes_14 ⟨Nat.zero_le _, Nat.zero_le _⟩) hS hA hP rfl (fun H locs hP hS => ?_)
    refine lv_lconst (v := (0 : Int64)) hx hb dX8_removes_17 (by decide) ?_
    obtain ⟨t18, E_left_18, E_right_18, hc18, h⟩ := bd3_to h
    refine go_P (st1 := [.int t18]) (W1 := (wX8 g aK aB aB_first aQ aQ_weights aQ_possible aC aC_variables aC_relations aC_numbers aA aA_letters aA_lengths aN aN_lefts aN_rights aN_parents aN_rules aN_depths aE B_left B_right B_found B_least B_first Q_letterSurplus Q_weights Q_possible C_size C_variables C_relations C_numbers A_letters A_lengths N_size N_solved N_dropped N_lefts N_rights N_parents N_rules N_depths E_left_18 E_right_18)) (run_V (As := [.int t14, .long (0 : Int64)]) (rest := []) X hS (mX2_replace g l  aE E_left E_right t14 (0 : Int64) t18 E_left_18 E_right_18 hc18) okX2_replace wd4_145 ⟨Nat.le_of_ble_eq_true rfl, Nat.le_of_ble_eq_true rfl⟩ ⟨rfl, rfl⟩ (va_recv hK hP (ci := 2) (q0 := 19) rfl rfl) (sub_P hP [19] rfl) (hD.sub [19] (by decide) rfl) (va_free hD hS hA [19] rfl) rfl hl.1 rfl (Nat.le_of_ble_eq_true rfl) dX8_removes_18 ⟨Nat.zero_le _, Nat.zero_le _⟩) hS (va_free hD hS hA [19] rfl) hP hD [19] [0, 1, 2, 3, 4, 5, 6, 7, 8, 9, 10, 11, 12, 13, 14, 15, 16, 17, 18] [0, 1, 2, 3, 4, 5, 6, 7, 8, 9, 10, 11, 12, 13, 14, 15, 16, 17, 18, 19] rfl rfl (by decide) (by decide) rfl (by decide) rfl (fun H locs hP hD hS => ?_)
    refine lv_pop hx hb dX8_removes_21 rfl ?_
    refine lv_iconst (v := (1 : Int32)) hx hb dX8_removes_22 (by decide) ?_
    have h : some ((1 : Int32), E_left_18, E_right_18) = some (r, E_left_o, E_right_o) := h
    cases h
    exact hret _ _ _ _ rfl hP hD hS dX8_removes_23
  have h := ifT h q4
  refine lv_iconst (v := (0 : Int32)) hx hb dX8_removes_7 (by decide) ?_
  have h : some ((0 : Int32), E_left, E_right) = some (r, E_left_o, E_right_o) := h
  cases h
  exact hret _ _ _ _ rfl hP hD hS dX8_removes_8
set_option maxHeartbeats 4000000 in
set_option maxRecDepth 100000 in
theorem mX8_rewrites (g : GP) (l : Launch) (aK aB aB_first aQ aQ_weights aQ_possible aC aC_variables aC_relations aC_numbers aA aA_letters aA_lengths aN aN_lefts aN_rights aN_parents aN_rules aN_depths aE : Nat) (B_left : Int64) (B_right : Int64) (B_found : Int32) (B_least : Int32) (B_first : Nat → Int32) (Q_letterSurplus : Int32) (Q_weights : Nat → Int32) (Q_possible : Nat → Int32) (C_size : Int32) (C_variables : Nat → Int32) (C_relations : Nat → Int32) (C_numbers : Nat → Int32) (A_letters : Nat → Int64) (A_lengths : Nat → Int32) (N_size : Int32) (N_solved : Int32) (N_dropped : Int32) (N_lefts : Nat → Int64) (N_rights : Nat → Int64) (N_parents : Nat → Int32) (N_rules : Nat → Int32) (N_depths : Nat → Int32) (E_left : Int64) (E_right : Int64) (x1 : Int32) (r : Int32) (E_left_o : Int64) (E_right_o : Int64) (h : fK_rewrites E_left E_right x1 = some (r, E_left_o, E_right_o)) : Ct g l yX8_rewrites cX8_rewrites 2 (some .boolean) rmX8_rewrites [.ref aK, .int x1] (wX8 g aK aB aB_first aQ aQ_weights aQ_possible aC aC_variables aC_relations aC_numbers aA aA_letters aA_lengths aN aN_lefts aN_rights aN_parents aN_rules aN_depths aE B_left B_right B_found B_least B_first Q_letterSurplus Q_weights Q_possible C_size C_variables C_relations C_numbers A_letters A_lengths N_size N_solved N_dropped N_lefts N_rights N_parents N_rules N_depths E_left E_right) (some (.int r)) (wX8 g aK aB aB_first aQ aQ_weights aQ_possible aC aC_variables aC_relations aC_numbers aA aA_letters aA_lengths aN aN_lefts aN_rights aN_parents aN_rules aN_depths aE B_left B_right B_found B_least B_first Q_letterSurplus Q_weights Q_possible C_size C_variables C_relations C_numbers A_letters A_lengths N_size N_solved N_dropped N_lefts N_rights N_parents N_rules N_depths E_left_o E_right_o) := by
  refine Ct.introZ (by decide) (Nat.le_of_ble_eq_true rfl) ?_
  intro p e s m below meth c A QQ ls hyp hret
  obtain ⟨hx, hb, hml, hts, hown, hA, hE, hP, hD, hl⟩ := hyp
  have hK := hE.1
  have hS : va_S A s.heap s.heap [] := va_S.rf
  have X : Here g p s m c cX8_rewrites 2 ([.ref aK, .int x1] : List Value).toArray RX8 A := ⟨⟨hx, hb, hml, hown, hts⟩, hE, hA⟩
  have hl : lv_has ls 2 [(0, .ref aK), (1, .int x1)] := hl
  obtain ⟨H, hH⟩ : ∃ H, H = s.heap := ⟨_, rfl⟩
  obtain ⟨locs, hlocs⟩ : ∃ l : List Loc, l = [] := ⟨_, rfl⟩
  rw [show W p l e rmX8_rewrites s m ([.ref aK, .int x1] : List Value).toArray below meth c s.heap [] 0 0 QQ (F0 m 0 ls []) = W p l e rmX8_rewrites s m ([.ref aK, .int x1] : List Value).toArray below meth c H locs 0 0 QQ (F0 m 0 ls []) by rw [hH, hlocs]]
  have hP : va_P g.1 vwCl (wX8 g aK aB aB_first aQ aQ_weights aQ_possible aC aC_variables aC_relations aC_numbers aA aA_letters aA_lengths aN aN_lefts aN_rights aN_parents aN_rules aN_depths aE B_left B_right B_found B_least B_first Q_letterSurplus Q_weights Q_possible C_size C_variables C_relations C_numbers A_letters A_lengths N_size N_solved N_dropped N_lefts N_rights N_parents N_rules N_depths E_left E_right) H := by rw [hH]; exact hP
  have hD : va_D A (wX8 g aK aB aB_first aQ aQ_weights aQ_possible aC aC_variables aC_relations aC_numbers aA aA_letters aA_lengths aN aN_lefts aN_rights aN_parents aN_rules aN_depths aE B_left B_right B_found B_least B_first Q_letterSurplus Q_weights Q_possible C_size C_variables C_relations C_numbers A_letters A_lengths N_size N_solved N_dropped N_lefts N_rights N_parents N_rules N_depths E_left E_right) := hD
  have hS : va_S A s.heap H locs := by rw [hH, hlocs]; exact hS
  clear hH hlocs
  refine lv_iload_n hx hb dX8_rewrites_0 rfl (lv_at hl 1 rfl) ?_
  by_cases q1_100 : x1 = (100 : Int32)
  · have h := ifT h q1_100
    refine lv_lookup (off := 35) (tgt := 36) hx hb dX8_rewrites_1 (by decide) (by rw [q1_100]; rfl) (by decide) ?_
    refine lv_aload_n hx hb dX8_rewrites_36 rfl (lv_at hl 0 rfl) ?_
    refine va_get (D := g.1) (ci := 8) (v := .ref aE) (C := RX8) (T := TX8) (N := 3) hx hb hts inBX8 hown hK hP 0 rfl rfl 2 (by decide) (hts _ wd1_224) (fun _ h9 => h9) rfl dX8_rewrites_37 ?_
    obtain ⟨E_left_40, E_right_40, hc40, h⟩ := bd2_to h
    refine go_P (st1 := []) (W1 := (wX8 g aK aB aB_first aQ aQ_weights aQ_possible aC aC_variables aC_relations aC_numbers aA aA_letters aA_lengths aN aN_lefts aN_rights aN_parents aN_rules aN_depths aE B_left B_right B_found B_least B_first Q_letterSurplus Q_weights Q_possible C_size C_variables C_relations C_numbers A_letters A_lengths N_size N_solved N_dropped N_lefts N_rights N_parents N_rules N_depths E_left_40 E_right_40)) (run_V (As := []) (rest := []) X hS (mX2_swap g l  aE E_left E_right E_left_40 E_right_40 hc40) okX2_swap wd4_156 ⟨Nat.le_of_ble_eq_true rfl, Nat.le_of_ble_eq_true rfl⟩ ⟨rfl, rfl⟩ (va_recv hK hP (ci := 2) (q0 := 19) rfl rfl) (sub_P hP [19] rfl) (hD.sub [19] (by decide) rfl) (va_free hD hS hA [19] rfl) rfl hl.1 rfl (Nat.le_of_ble_eq_true rfl) dX8_rewrites_40 ⟨Nat.zero_le _, Nat.zero_le _⟩) hS (va_free hD hS hA [19] rfl) hP hD [19] [0, 1, 2, 3, 4, 5, 6, 7, 8, 9, 10, 11, 12, 13, 14, 15, 16, 17, 18] [0, 1, 2, 3, 4, 5, 6, 7, 8, 9, 10, 11, 12, 13, 14, 15, 16, 17, 18, 19] rfl rfl (by decide) (by decide) rfl (by decide) rfl (fun H locs hP hD hS => ?_)
    refine lv_iconst (v := (1 : Int32)) hx hb dX8_rewrites_43 (by decide) ?_
    have h : some ((1 : Int32), E_left_40, E_right_40) = some (r, E_left_o, E_right_o) := h
    cases h
    exact hret _ _ _ _ rfl hP hD hS dX8_rewrites_44
  have h := ifF h q1_100
  by_cases q1_200 : x1 = (200 : Int32)
  · have h := ifT h q1_200
    refine lv_lookup (off := 44) (tgt := 45) hx hb dX8_rewrites_1 (by decide) (by rw [q1_200]; rfl) (by decide) ?_
    refine lv_aload_n hx hb dX8_rewrites_45 rfl (lv_at hl 0 rfl) ?_
    refine va_get (D := g.1) (ci := 8) (v := .ref aE) (C := RX8) (T := TX8) (N := 3) hx hb hts inBX8 hown hK hP 0 rfl rfl 2 (by decide) (hts _ wd1_224) (fun _ h9 => h9) rfl dX8_rewrites_46 ?_
    obtain ⟨E_left_49, E_right_49, hc49, h⟩ := bd2_to h
    refine go_P (st1 := []) (W1 := (wX8 g aK aB aB_first aQ aQ_weights aQ_possible aC aC_variables aC_relations aC_numbers aA aA_letters aA_lengths aN aN_lefts aN_rights aN_parents aN_rules aN_depths aE B_left B_right B_found B_least B_first Q_letterSurplus Q_weights Q_possible C_size C_variables C_relations C_numbers A_letters A_lengths N_size N_solved N_dropped N_lefts N_rights N_parents N_rules N_depths E_left_49 E_right_49)) (run_V (As := []) (rest := []) X hS (mX2_turn g l  aE E_left E_right E_left_49 E_right_49 hc49) okX2_turn wd4_157 ⟨Nat.le_of_ble_eq_true rfl, Nat.le_of_ble_eq_true rfl⟩ ⟨rfl, rfl⟩ (va_recv hK hP (ci := 2) (q0 := 19) rfl rfl) (sub_P hP [19] rfl) (hD.sub [19] (by decide) rfl) (va_free hD hS hA [19] rfl) rfl hl.1 rfl (Nat.le_of_ble_eq_true rfl) dX8_rewrites_49 ⟨Nat.zero_le _, Nat.zero_le _⟩) hS (va_free hD hS hA [19] rfl) hP hD [19] [0, 1, 2, 3, 4, 5, 6, 7, 8, 9, 10, 11, 12, 13, 14, 15, 16, 17, 18] [0, 1, 2, 3, 4, 5, 6, 7, 8, 9, 10, 11, 12, 13, 14, 15, 16, 17, 18, 19] rfl rfl (by decide) (by decide) rfl (by decide) rfl (fun H locs hP hD hS => ?_)
    refine lv_iconst (v := (1 : Int32)) hx hb dX8_rewrites_52 (by decide) ?_
    have h : some ((1 : Int32), E_left_49, E_right_49) = some (r, E_left_o, E_right_o) := h
    cases h
    exact hret _ _ _ _ rfl hP hD hS dX8_rewrites_53
  have h := ifF h q1_200
  by_cases q1_300 : x1 = (300 : Int32)
  · have h := ifT h q1_300
    refine lv_lookup (off := 53) (tgt := 54) hx hb dX8_rewrites_1 (by decide) (by rw [q1_300]; rfl) (by decide) ?_
    refine lv_aload_n hx hb dX8_rewrites_54 rfl (lv_at hl 0 rfl) ?_
    refine va_get (D := g.1) (ci := 8) (v := .ref aE) (C := RX8) (T := TX8) (N := 3) hx hb hts inBX8 hown hK hP 0 rfl rfl 2 (by decide) (hts _ wd1_224) (fun _ h9 => h9) rfl dX8_rewrites_55 ?_
    obtain ⟨t58, E_left_58, E_right_58, hc58, h⟩ := bd3_to h
    refine go_P (st1 := [.int t58]) (W1 := (wX8 g aK aB aB_first aQ aQ_weights aQ_possible aC aC_variables aC_relations aC_numbers aA aA_letters aA_lengths aN aN_lefts aN_rights aN_parents aN_rules aN_depths aE B_left B_right B_found B_least B_first Q_letterSurplus Q_weights Q_possible C_size C_variables C_relations C_numbers A_letters A_lengths N_size N_solved N_dropped N_lefts N_rights N_parents N_rules N_depths E_left_58 E_right_58)) (run_V (As := []) (rest := []) X hS (mX2_cancelEnds g l  aE E_left E_right t58 E_left_58 E_right_58 hc58) okX2_cancelEnds wd4_158 ⟨Nat.le_of_ble_eq_true rfl, Nat.le_of_ble_eq_true rfl⟩ ⟨rfl, rfl⟩ (va_recv hK hP (ci := 2) (q0 := 19) rfl rfl) (sub_P hP [19] rfl) (hD.sub [19] (by decide) rfl) (va_free hD hS hA [19] rfl) rfl hl.1 rfl (Nat.le_of_ble_eq_true rfl) dX8_rewrites_58 ⟨Nat.zero_le _, Nat.zero_le _⟩) hS (va_free hD hS hA [19] rfl) hP hD [19] [0, 1, 2, 3, 4, 5, 6, 7, 8, 9, 10, 11, 12, 13, 14, 15, 16, 17, 18] [0, 1, 2, 3, 4, 5, 6, 7, 8, 9, 10, 11, 12, 13, 14, 15, 16, 17, 18, 19] rfl rfl (by decide) (by decide) rfl (by decide) rfl (fun H locs hP hD hS => ?_)
    refine lv_pop hx hb dX8_rewrites_61 rfl ?_
    refine lv_iconst (v := (1 : Int32)) hx hb dX8_rewrites_62 (by decide) ?_
    have h : some ((1 : Int32), E_left_58, E_right_58) = some (r, E_left_o, E_right_o) := h
    cases h
    exact hret _ _ _ _ rfl hP hD hS dX8_rewrites_63
  have h := ifF h q1_300
  refine lv_lookup (off := 63) (tgt := 64) hx hb dX8_rewrites_1 (by decide) (by show Op.lookupswitch.offset [(100, 35), (200, 44), (300, 53)] 63 _ = _; rw [lv_osw q1_100 (by decide), lv_osw q1_200 (by decide), lv_osw q1_300 (by decide)]; rfl) (by decide) ?_
  refine lv_iconst (v := (0 : Int32)) hx hb dX8_rewrites_64 (by decide) ?_
  have h : some ((0 : Int32), E_left, E_right) = some (r, E_left_o, E_right_o) := h
  cases h
  exact hret _ _ _ _ rfl hP hD hS dX8_rewrites_65
set_option maxHeartbeats 4000000 in
set_option maxRecDepth 100000 in
theorem mX8_succeeds (g : GP) (l : Launch) (aK aB aB_first aQ aQ_weights aQ_possible aC aC_variables aC_relations aC_numbers aA aA_letters aA_lengths aN aN_lefts aN_rights aN_parents aN_rules aN_depths aE : Nat) (B_left : Int64) (B_right : Int64) (B_found : Int32) (B_least : Int32) (B_first : Nat → Int32) (Q_letterSurplus : Int32) (Q_weights : Nat → Int32) (Q_possible : Nat → Int32) (C_size : Int32) (C_variables : Nat → Int32) (C_relations : Nat → Int32) (C_numbers : Nat → Int32) (A_letters : Nat → Int64) (A_lengths : Nat → Int32) (N_size : Int32) (N_solved : Int32) (N_dropped : Int32) (N_lefts : Nat → Int64) (N_rights : Nat → Int64) (N_parents : Nat → Int32) (N_rules : Nat → Int32) (N_depths : Nat → Int32) (E_left : Int64) (E_right : Int64) (x1 : Int32) (r : Int32) (B_left_o : Int64) (B_right_o : Int64) (B_found_o : Int32) (B_least_o : Int32) (B_first_o : Nat → Int32) (Q_letterSurplus_o : Int32) (Q_weights_o : Nat → Int32) (Q_possible_o : Nat → Int32) (A_letters_o : Nat → Int64) (A_lengths_o : Nat → Int32) (N_size_o : Int32) (N_solved_o : Int32) (N_dropped_o : Int32) (N_lefts_o : Nat → Int64) (N_rights_o : Nat → Int64) (N_parents_o : Nat → Int32) (N_rules_o : Nat → Int32) (N_depths_o : Nat → Int32) (E_left_o : Int64) (E_right_o : Int64) (h : fK_succeeds B_left B_right B_found B_least B_first Q_letterSurplus Q_weights Q_possible C_size C_variables C_relations C_numbers A_letters A_lengths N_size N_solved N_dropped N_lefts N_rights N_parents N_rules N_depths E_left E_right x1 = some (r, B_left_o, B_right_o, B_found_o, B_least_o, B_first_o, Q_letterSurplus_o, Q_weights_o, Q_possible_o, A_letters_o, A_lengths_o, N_size_o, N_solved_o, N_dropped_o, N_lefts_o, N_rights_o, N_parents_o, N_rules_o, N_depths_o, E_left_o, E_right_o)) : Ct g l yX8_succeeds cX8_succeeds 4 (some .boolean) rmX8_succeeds [.ref aK, .int x1] (wX8 g aK aB aB_first aQ aQ_weights aQ_possible aC aC_variables aC_relations aC_numbers aA aA_letters aA_lengths aN aN_lefts aN_rights aN_parents aN_rules aN_depths aE B_left B_right B_found B_least B_first Q_letterSurplus Q_weights Q_possible C_size C_variables C_relations C_numbers A_letters A_lengths N_size N_solved N_dropped N_lefts N_rights N_parents N_rules N_depths E_left E_right) (some (.int r)) (wX8 g aK aB aB_first aQ aQ_weights aQ_possible aC aC_variables aC_relations aC_numbers aA aA_letters aA_lengths aN aN_lefts aN_rights aN_parents aN_rules aN_depths aE B_left_o B_right_o B_found_o B_least_o B_first_o Q_letterSurplus_o Q_weights_o Q_possible_o C_size C_variables C_relations C_numbers A_letters_o A_lengths_o N_size_o N_solved_o N_dropped_o N_lefts_o N_rights_o N_parents_o N_rules_o N_depths_o E_left_o E_right_o) := by
  refine Ct.introZ (by decide) (Nat.le_of_ble_eq_true rfl) ?_
  intro p e s m below meth c A QQ ls hyp hret
  obtain ⟨hx, hb, hml, hts, hown, hA, hE, hP, hD, hl⟩ := hyp
  have hK := hE.1
  have hS : va_S A s.heap s.heap [] := va_S.rf
  have X : Here g p s m c cX8_succeeds 4 ([.ref aK, .int x1] : List Value).toArray RX8 A := ⟨⟨hx, hb, hml, hown, hts⟩, hE, hA⟩
  have hl : lv_has ls 4 [(0, .ref aK), (1, .int x1)] := hl
  obtain ⟨H, hH⟩ : ∃ H, H = s.heap := ⟨_, rfl⟩
  obtain ⟨locs, hlocs⟩ : ∃ l : List Loc, l = [] := ⟨_, rfl⟩
  rw [show W p l e rmX8_succeeds s m ([.ref aK, .int x1] : List Value).toArray below meth c s.heap [] 0 0 QQ (F0 m 0 ls []) = W p l e rmX8_succeeds s m ([.ref aK, .int x1] : List Value).toArray below meth c H locs 0 0 QQ (F0 m 0 ls []) by rw [hH, hlocs]]
  have hP : va_P g.1 vwCl (wX8 g aK aB aB_first aQ aQ_weights aQ_possible aC aC_variables aC_relations aC_numbers aA aA_letters aA_lengths aN aN_lefts aN_rights aN_parents aN_rules aN_depths aE B_left B_right B_found B_least B_first Q_letterSurplus Q_weights Q_possible C_size C_variables C_relations C_numbers A_letters A_lengths N_size N_solved N_dropped N_lefts N_rights N_parents N_rules N_depths E_left E_right) H := by rw [hH]; exact hP
  have hD : va_D A (wX8 g aK aB aB_first aQ aQ_weights aQ_possible aC aC_variables aC_relations aC_numbers aA aA_letters aA_lengths aN aN_lefts aN_rights aN_parents aN_rules aN_depths aE B_left B_right B_found B_least B_first Q_letterSurplus Q_weights Q_possible C_size C_variables C_relations C_numbers A_letters A_lengths N_size N_solved N_dropped N_lefts N_rights N_parents N_rules N_depths E_left E_right) := hD
  have hS : va_S A s.heap H locs := by rw [hH, hlocs]; exact hS
  clear hH hlocs
  refine lv_iload_n hx hb dX8_succeeds_0 rfl (lv_at hl 1 rfl) ?_
  refine lv_bipush (v := (10 : Int32)) hx hb dX8_succeeds_1 (by decide) ?_
  refine lv_idiv hx hb dX8_succeeds_3 (by decide) ?_
  refine lv_bipush (v := (10 : Int32)) hx hb dX8_succeeds_4 (by decide) ?_
  refine lv_irem hx hb dX8_succeeds_6 (by decide) ?_
  refine lv_topi (fun t7 et7 => ?_)
  have h := st_to h et7
  refine lv_istore_n (lv' := [(2, .int t7), (0, .ref aK), (1, .int x1)]) hx hb dX8_succeeds_7 rfl hl (by decide) rfl (fun ls hl => ?_)
  refine lv_iload_n hx hb dX8_succeeds_8 rfl (lv_at hl 2 rfl) ?_
  refine lv_bipush (v := (10 : Int32)) hx hb dX8_succeeds_9 (by decide) ?_
  refine lv_irem hx hb dX8_succeeds_11 (by decide) ?_
  refine lv_topi (fun t12 et12 => ?_)
  have h := st_to h et12
  refine lv_istore_n (lv' := [(3, .int t12), (2, .int t7), (0, .ref aK), (1, .int x1)]) hx hb dX8_succeeds_12 rfl hl (by decide) rfl (fun ls hl => ?_)
  refine lv_iload_n hx hb dX8_succeeds_13 rfl (lv_at hl 3 rfl) ?_
  refine lv_bipush (v := (100 : Int32)) hx hb dX8_succeeds_14 (by decide) ?_
  refine lv_idiv hx hb dX8_succeeds_16 (by decide) ?_
  by_cases q17_4 : (x1 / (100 : Int32)) = (4 : Int32)
  · have h := ifT h q17_4
    refine lv_tableIn (off := 35) (tgt := 52) hx hb dX8_succeeds_17 (by rw [q17_4]; decide) (by rw [q17_4]; decide) (by rw [q17_4]; rfl) (by decide) ?_
    refine lv_iload_n hx hb dX8_succeeds_52 rfl (lv_at hl 0 rfl) ?_
    refine lv_if_ne (tgt := 68) hx hb dX8_succeeds_53 (by decide) (fun q53 => ?_) (fun q53 => ?_)
    · have h := ifF h q53
      refine lv_iconst (v := (0 : Int32)) hx hb dX8_succeeds_68 (by decide) ?_
      have h : some ((0 : Int32), B_left, B_right, B_found, B_least, B_first, Q_letterSurplus, Q_weights, Q_possible, A_letters, A_lengths, N_size, N_solved, N_dropped, N_lefts, N_rights, N_parents, N_rules, N_depths, E_left, E_right) = some (r, B_left_o, B_right_o, B_found_o, B_least_o, B_first_o, Q_letterSurplus_o, Q_weights_o, Q_possible_o, A_letters_o, A_lengths_o, N_size_o, N_solved_o, N_dropped_o, N_lefts_o, N_rights_o, N_parents_o, N_rules_o, N_depths_o, E_left_o, E_right_o) := h
      cases h
      exact hret _ _ _ _ rfl hP hD hS dX8_succeeds_69
    have h := ifT h q53
    refine lv_aload_n hx hb dX8_succeeds_56 rfl (lv_at hl 2 rfl) ?_
    refine lv_iload_n hx hb dX8_succeeds_57 rfl (lv_at hl 1 rfl) ?_
    obtain ⟨t58, E_left_58, E_right_58, hc58, h⟩ := bd3_to h
    refine go_A (st1 := [.int t58]) (run_V (As := [.int t7]) (rest := []) X hS (mX8_removes g l  aK aB aB_first aQ aQ_weights aQ_possible aC aC_variables aC_relations aC_numbers aA aA_letters aA_lengths aN aN_lefts aN_rights aN_parents aN_rules aN_depths aE B_left B_right B_found B_least B_first Q_letterSurplus Q_weights Q_possible C_size C_variables C_relations C_numbers A_letters A_lengths N_size N_solved N_dropped N_lefts N_rights N_parents N_rules N_depths E_left E_right t7 t58 E_left_58 E_right_58 hc58) okX8_removes wd4_139 ⟨Nat.le_of_ble_eq_true rfl, Nat.le_of_ble_eq_true rfl⟩ ⟨rfl, rfl⟩ (va_recv hK hP (ci := 8) (q0 := 0) rfl rfl) hP hD (all_F hS hA hD) rfl hl.1 rfl (Nat.le_of_ble_eq_true rfl) dX8_succeeds_58 ⟨Nat.zero_le _, Nat.zero_le _⟩) hS (all_F hS hA hD) rfl (fun H locs hP hD hS => ?_)
    refine lv_if_eq (tgt := 68) hx hb dX8_succeeds_61 (by decide) (fun q61 => ?_) (fun q61 => ?_)
    · have h := ifT h q61
      refine lv_iconst (v := (0 : Int32)) hx hb dX8_succeeds_68 (by decide) ?_
      have h : some ((0 : Int32), B_left, B_right, B_found, B_least, B_first, Q_letterSurplus, Q_weights, Q_possible, A_letters, A_lengths, N_size, N_solved, N_dropped, N_lefts, N_rights, N_parents, N_rules, N_depths, E_left_58, E_right_58) = some (r, B_left_o, B_right_o, B_found_o, B_least_o, B_first_o, Q_letterSurplus_o, Q_weights_o, Q_possible_o, A_letters_o, A_lengths_o, N_size_o, N_solved_o, N_dropped_o, N_lefts_o, N_rights_o, N_parents_o, N_rules_o, N_depths_o, E_left_o, E_right_o) := h
      cases h
      exact hret _ _ _ _ rfl hP hD hS dX8_succeeds_69
    have h := ifF h q61
    refine lv_iconst (v := (1 : Int32)) hx hb dX8_succeeds_64 (by decide) ?_
    refine lv_goto (tgt := 69) hx hb dX8_succeeds_65 (by decide) ?_
    have h : some ((1 : Int32), B_left, B_right, B_found, B_least, B_first, Q_letterSurplus, Q_weights, Q_possible, A_letters, A_lengths, N_size, N_solved, N_dropped, N_lefts, N_rights, N_parents, N_rules, N_depths, E_left_58, E_right_58) = some (r, B_left_o, B_right_o, B_found_o, B_least_o, B_first_o, Q_letterSurplus_o, Q_weights_o, Q_possible_o, A_letters_o, A_lengths_o, N_size_o, N_solved_o, N_dropped_o, N_lefts_o, N_rights_o, N_parents_o, N_rules_o, N_depths_o, E_left_o, E_right_o) := h
    cases h
    exact hret _ _ _ _ rfl hP hD hS dX8_succeeds_69
  have h := ifF h q17_4
  by_cases q17_5 : (x1 / (100 : Int32)) = (5 : Int32)
  · have h := ifT h q17_5
    refine lv_tableIn (off := 53) (tgt := 70) hx hb dX8_succeeds_17 (by rw [q17_5]; decide) (by rw [q17_5]; decide) (by rw [q17_5]; rfl) (by decide) ?_
    refine lv_iload_n hx hb dX8_succeeds_70 rfl (lv_at hl 1 rfl) ?_
    obtain ⟨t71, hc71, h⟩ := bd1_to h
    refine go_0 (st1 := [.int t71]) (run_SN (As := [.int t7]) (rest := []) X hS (mX11_isSide g l  t7 t71 hc71) okX11_isSide (List.mem_of_getElem? (i := 10) rfl) ⟨Nat.le_of_ble_eq_true rfl, Nat.le_of_ble_eq_true rfl⟩ ⟨rfl, rfl⟩ nil_P nil_D (nil_F hS hA) rfl hl.1 rfl (Nat.le_of_ble_eq_true rfl) dX8_succeeds_71 ⟨Nat.zero_le _, Nat.zero_le _⟩) hS hA hP rfl (fun H locs hP hS => ?_)
    refine lv_if_eq (tgt := 96) hx hb dX8_succeeds_74 (by decide) (fun q74 => ?_) (fun q74 => ?_)
    · have h := ifT h q74
      refine lv_iconst (v := (0 : Int32)) hx hb dX8_succeeds_96 (by decide) ?_
      have h : some ((0 : Int32), B_left, B_right, B_found, B_least, B_first, Q_letterSurplus, Q_weights, Q_possible, A_letters, A_lengths, N_size, N_solved, N_dropped, N_lefts, N_rights, N_parents, N_rules, N_depths, E_left, E_right) = some (r, B_left_o, B_right_o, B_found_o, B_least_o, B_first_o, Q_letterSurplus_o, Q_weights_o, Q_possible_o, A_letters_o, A_lengths_o, N_size_o, N_solved_o, N_dropped_o, N_lefts_o, N_rights_o, N_parents_o, N_rules_o, N_depths_o, E_left_o, E_right_o) := h
      cases h
      exact hret _ _ _ _ rfl hP hD hS dX8_succeeds_97
    have h := ifF h q74
    refine lv_aload_n hx hb dX8_succeeds_77 rfl (lv_at hl 2 rfl) ?_
    refine va_get (D := g.1) (ci := 8) (v := .ref aE) (C := RX8) (T := TX8) (N := 3) hx hb hts inBX8 hown hK hP 0 rfl rfl 2 (by decide) (hts _ wd1_224) (fun _ h9 => h9) rfl dX8_succeeds_78 ?_
    refine lv_iload_n hx hb dX8_succeeds_81 rfl (lv_at hl 1 rfl) ?_
    obtain ⟨t82, hc82, h⟩ := bd1_to h
    refine go_P (st1 := [.long t82]) (W1 := (wX8 g aK aB aB_first aQ aQ_weights aQ_possible aC aC_variables aC_relations aC_numbers aA aA_letters aA_lengths aN aN_lefts aN_rights aN_parents aN_rules aN_depths aE B_left B_right B_found B_least B_first Q_letterSurplus Q_weights Q_possible C_size C_variables C_relations C_numbers A_letters A_lengths N_size N_solved N_dropped N_lefts N_rights N_parents N_rules N_depths E_left E_right)) (run_V (As := [.int t7]) (rest := []) X hS (mX2_side g l  aE E_left E_right t7 t82 hc82) okX2_side wd4_147 ⟨Nat.le_of_ble_eq_true rfl, Nat.le_of_ble_eq_true rfl⟩ ⟨rfl, rfl⟩ (va_recv hK hP (ci := 2) (q0 := 19) rfl rfl) (sub_P hP [19] rfl) (hD.sub [19] (by decide) rfl) (va_free hD hS hA [19] rfl) rfl hl.1 rfl (Nat.le_of_ble_eq_true rfl) dX8_succeeds_82 ⟨Nat.zero_le _, Nat.zero_le _⟩) hS (va_free hD hS hA [19] rfl) hP hD [19] [0, 1, 2, 3, 4, 5, 6, 7, 8, 9, 10, 11, 12, 13, 14, 15, 16, 17, 18] [0, 1, 2, 3, 4, 5, 6, 7, 8, 9, 10, 11, 12, 13, 14, 15, 16, 17, 18, 19] rfl rfl (by decide) (by decide) rfl (by decide) rfl (fun H locs hP hD hS => ?_)
    obtain ⟨t85, hc85, h⟩ := bd1_to h
    refine go_0 (st1 := [.int t85]) (run_S (As := [.long t82]) (rest := []) X hS (mX9_size g l  t82 t85 hc85) okX9_size wd4_148 ⟨Nat.le_of_ble_eq_true rfl, Nat.le_of_ble_eq_true rfl⟩ ⟨rfl, rfl⟩ nil_P nil_D (nil_F hS hA) rfl hl.1 rfl (Nat.le_of_ble_eq_true rfl) dX8_succeeds_85 ⟨Nat.zero_le _, Nat.zero_le _⟩) hS hA hP rfl (fun H locs hP hS => ?_)
    refine lv_iload_n hx hb dX8_succeeds_88 rfl (lv_at hl 0 rfl) ?_
    refine lv_icmp_ne (tgt := 96) hx hb dX8_succeeds_89 (by decide) (fun q89 => ?_) (fun q89 => ?_)
    · have h := ifF h q89
      refine lv_iconst (v := (0 : Int32)) hx hb dX8_succeeds_96 (by decide) ?_
      have h : some ((0 : Int32), B_left, B_right, B_found, B_least, B_first, Q_letterSurplus, Q_weights, Q_possible, A_letters, A_lengths, N_size, N_solved, N_dropped, N_lefts, N_rights, N_parents, N_rules, N_depths, E_left, E_right) = some (r, B_left_o, B_right_o, B_found_o, B_least_o, B_first_o, Q_letterSurplus_o, Q_weights_o, Q_possible_o, A_letters_o, A_lengths_o, N_size_o, N_solved_o, N_dropped_o, N_lefts_o, N_rights_o, N_parents_o, N_rules_o, N_depths_o, E_left_o, E_right_o) := h
      cases h
      exact hret _ _ _ _ rfl hP hD hS dX8_succeeds_97
    have h := ifT h q89
    refine lv_iconst (v := (1 : Int32)) hx hb dX8_succeeds_92 (by decide) ?_
    refine lv_goto (tgt := 97) hx hb dX8_succeeds_93 (by decide) ?_
    have h : some ((1 : Int32), B_left, B_right, B_found, B_least, B_first, Q_letterSurplus, Q_weights, Q_possible, A_letters, A_lengths, N_size, N_solved, N_dropped, N_lefts, N_rights, N_parents, N_rules, N_depths, E_left, E_right) = some (r, B_left_o, B_right_o, B_found_o, B_least_o, B_first_o, Q_letterSurplus_o, Q_weights_o, Q_possible_o, A_letters_o, A_lengths_o, N_size_o, N_solved_o, N_dropped_o, N_lefts_o, N_rights_o, N_parents_o, N_rules_o, N_depths_o, E_left_o, E_right_o) := h
    cases h
    exact hret _ _ _ _ rfl hP hD hS dX8_succeeds_97
  have h := ifF h q17_5
  by_cases q17_6 : (x1 / (100 : Int32)) = (6 : Int32)
  · have h := ifT h q17_6
    refine lv_tableIn (off := 81) (tgt := 98) hx hb dX8_succeeds_17 (by rw [q17_6]; decide) (by rw [q17_6]; decide) (by rw [q17_6]; rfl) (by decide) ?_
    refine lv_aload_n hx hb dX8_succeeds_98 rfl (lv_at hl 2 rfl) ?_
    refine va_get (D := g.1) (ci := 8) (v := .ref aB) (C := RX8) (T := TX8) (N := 3) hx hb hts inBX8 hown hK hP 0 rfl rfl 0 (by decide) (hts _ wd1_222) (fun _ h9 => h9) rfl dX8_succeeds_99 ?_
    refine lv_aload_n hx hb dX8_succeeds_102 rfl (lv_at hl 2 rfl) ?_
    refine va_get (D := g.1) (ci := 8) (v := .ref aE) (C := RX8) (T := TX8) (N := 3) hx hb hts inBX8 hown hK hP 0 rfl rfl 2 (by decide) (hts _ wd1_224) (fun _ h9 => h9) rfl dX8_succeeds_103 ?_
    refine lv_iconst (v := (2 : Int32)) hx hb dX8_succeeds_106 (by decide) ?_
    obtain ⟨t107, B_left_107, B_right_107, B_found_107, B_least_107, B_first_107, Q_letterSurplus_107, Q_weights_107, Q_possible_107, A_letters_107, A_lengths_107, hc107, h⟩ := bd11_to h
    refine go_P (st1 := [.int t107]) (W1 := (wX8 g aK aB aB_first aQ aQ_weights aQ_possible aC aC_variables aC_relations aC_numbers aA aA_letters aA_lengths aN aN_lefts aN_rights aN_parents aN_rules aN_depths aE B_left_107 B_right_107 B_found_107 B_least_107 B_first_107 Q_letterSurplus_107 Q_weights_107 Q_possible_107 C_size C_variables C_relations C_numbers A_letters_107 A_lengths_107 N_size N_solved N_dropped N_lefts N_rights N_parents N_rules N_depths E_left E_right)) (run_V (As := [.ref aE, .int (2 : Int32)]) (rest := []) X hS (mX1_enumerate g l  aB aB_first aQ aQ_weights aQ_possible aC aC_variables aC_relations aC_numbers aA aA_letters aA_lengths aE B_left B_right B_found B_least B_first Q_letterSurplus Q_weights Q_possible C_size C_variables C_relations C_numbers A_letters A_lengths E_left E_right (2 : Int32) t107 B_left_107 B_right_107 B_found_107 B_least_107 B_first_107 Q_letterSurplus_107 Q_weights_107 Q_possible_107 A_letters_107 A_lengths_107 hc107) okX1_enumerate wd4_149 ⟨Nat.le_of_ble_eq_true rfl, Nat.le_of_ble_eq_true rfl⟩ ⟨rfl, rfl⟩ (va_recv hK hP (ci := 1) (q0 := 1) rfl rfl) (sub_P hP [1, 2, 3, 4, 5, 6, 7, 8, 9, 10, 11, 12, 19] rfl) (hD.sub [1, 2, 3, 4, 5, 6, 7, 8, 9, 10, 11, 12, 19] (by decide) rfl) (va_free hD hS hA [1, 2, 3, 4, 5, 6, 7, 8, 9, 10, 11, 12, 19] rfl) rfl hl.1 rfl (Nat.le_of_ble_eq_true rfl) dX8_succeeds_107 ⟨Nat.zero_le _, Nat.zero_le _⟩) hS (va_free hD hS hA [1, 2, 3, 4, 5, 6, 7, 8, 9, 10, 11, 12, 19] rfl) hP hD [1, 2, 3, 4, 5, 6, 7, 8, 9, 10, 11, 12, 19] [0, 13, 14, 15, 16, 17, 18] [0, 7, 8, 9, 10, 11, 12, 13, 14, 15, 16, 17, 18, 1, 2, 3, 4, 5, 6, 19] rfl rfl (by decide) (by decide) rfl (by decide) rfl (fun H locs hP hD hS => ?_)
    refine lv_iload_n hx hb dX8_succeeds_110 rfl (lv_at hl 3 rfl) ?_
    refine lv_bipush (v := (100 : Int32)) hx hb dX8_succeeds_111 (by decide) ?_
    refine lv_irem hx hb dX8_succeeds_113 (by decide) ?_
    refine lv_icmp_ne (tgt := 121) hx hb dX8_succeeds_114 (by decide) (fun q114 => ?_) (fun q114 => ?_)
    · have h := ifF h q114
      refine lv_iconst (v := (0 : Int32)) hx hb dX8_succeeds_121 (by decide) ?_
      have h : some ((0 : Int32), B_left_107, B_right_107, B_found_107, B_least_107, B_first_107, Q_letterSurplus_107, Q_weights_107, Q_possible_107, A_letters_107, A_lengths_107, N_size, N_solved, N_dropped, N_lefts, N_rights, N_parents, N_rules, N_depths, E_left, E_right) = some (r, B_left_o, B_right_o, B_found_o, B_least_o, B_first_o, Q_letterSurplus_o, Q_weights_o, Q_possible_o, A_letters_o, A_lengths_o, N_size_o, N_solved_o, N_dropped_o, N_lefts_o, N_rights_o, N_parents_o, N_rules_o, N_depths_o, E_left_o, E_right_o) := h
      cases h
      exact hret _ _ _ _ rfl hP hD hS dX8_succeeds_122
    have h := ifT h q114
    refine lv_iconst (v := (1 : Int32)) hx hb dX8_succeeds_117 (by decide) ?_
    refine lv_goto (tgt := 122) hx hb dX8_succeeds_118 (by decide) ?_
    have h : some ((1 : Int32), B_left_107, B_right_107, B_found_107, B_least_107, B_first_107, Q_letterSurplus_107, Q_weights_107, Q_possible_107, A_letters_107, A_lengths_107, N_size, N_solved, N_dropped, N_lefts, N_rights, N_parents, N_rules, N_depths, E_left, E_right) = some (r, B_left_o, B_right_o, B_found_o, B_least_o, B_first_o, Q_letterSurplus_o, Q_weights_o, Q_possible_o, A_letters_o, A_lengths_o, N_size_o, N_solved_o, N_dropped_o, N_lefts_o, N_rights_o, N_parents_o, N_rules_o, N_depths_o, E_left_o, E_right_o) := h
    cases h
    exact hret _ _ _ _ rfl hP hD hS dX8_succeeds_122
  have h := ifF h q17_6
  by_cases q17_7 : (x1 / (100 : Int32)) = (7 : Int32)
  · have h := ifT h q17_7
    refine lv_tableIn (off := 106) (tgt := 123) hx hb dX8_succeeds_17 (by rw [q17_7]; decide) (by rw [q17_7]; decide) (by rw [q17_7]; rfl) (by decide) ?_
    refine lv_iload_n hx hb dX8_succeeds_123 rfl (lv_at hl 1 rfl) ?_
    refine lv_if_ne (tgt := 146) hx hb dX8_succeeds_124 (by decide) (fun q124 => ?_) (fun q124 => ?_)
    · have h := ifF h q124
      refine lv_iconst (v := (0 : Int32)) hx hb dX8_succeeds_146 (by decide) ?_
      have h : some ((0 : Int32), B_left, B_right, B_found, B_least, B_first, Q_letterSurplus, Q_weights, Q_possible, A_letters, A_lengths, N_size, N_solved, N_dropped, N_lefts, N_rights, N_parents, N_rules, N_depths, E_left, E_right) = some (r, B_left_o, B_right_o, B_found_o, B_least_o, B_first_o, Q_letterSurplus_o, Q_weights_o, Q_possible_o, A_letters_o, A_lengths_o, N_size_o, N_solved_o, N_dropped_o, N_lefts_o, N_rights_o, N_parents_o, N_rules_o, N_depths_o, E_left_o, E_right_o) := h
      cases h
      exact hret _ _ _ _ rfl hP hD hS dX8_succeeds_147
    have h := ifT h q124
    refine lv_aload_n hx hb dX8_succeeds_127 rfl (lv_at hl 2 rfl) ?_
    refine va_get (D := g.1) (ci := 8) (v := .ref aN) (C := RX8) (T := TX8) (N := 3) hx hb hts inBX8 hown hK hP 0 rfl rfl 1 (by decide) (hts _ wd1_223) (fun _ h9 => h9) rfl dX8_succeeds_128 ?_
    refine lv_aload_n hx hb dX8_succeeds_131 rfl (lv_at hl 2 rfl) ?_
    refine va_get (D := g.1) (ci := 8) (v := .ref aE) (C := RX8) (T := TX8) (N := 3) hx hb hts inBX8 hown hK hP 0 rfl rfl 2 (by decide) (hts _ wd1_224) (fun _ h9 => h9) rfl dX8_succeeds_132 ?_
    obtain ⟨t135, N_size_135, N_solved_135, N_dropped_135, N_lefts_135, N_rights_135, N_parents_135, N_rules_135, N_depths_135, hc135, h⟩ := bd9_to h
    refine go_P (st1 := [.int t135]) (W1 := (wX8 g aK aB aB_first aQ aQ_weights aQ_possible aC aC_variables aC_relations aC_numbers aA aA_letters aA_lengths aN aN_lefts aN_rights aN_parents aN_rules aN_depths aE B_left B_right B_found B_least B_first Q_letterSurplus Q_weights Q_possible C_size C_variables C_relations C_numbers A_letters A_lengths N_size_135 N_solved_135 N_dropped_135 N_lefts_135 N_rights_135 N_parents_135 N_rules_135 N_depths_135 E_left E_right)) (run_V (As := [.ref aE]) (rest := []) X hS (mX7_answerFor g l  aN aN_lefts aN_rights aN_parents aN_rules aN_depths aE N_size N_solved N_dropped N_lefts N_rights N_parents N_rules N_depths E_left E_right t135 N_size_135 N_solved_135 N_dropped_135 N_lefts_135 N_rights_135 N_parents_135 N_rules_135 N_depths_135 hc135) okX7_answerFor wd4_150 ⟨Nat.le_of_ble_eq_true rfl, Nat.le_of_ble_eq_true rfl⟩ ⟨rfl, rfl⟩ (va_recv hK hP (ci := 7) (q0 := 13) rfl rfl) (sub_P hP [13, 14, 15, 16, 17, 18, 19] rfl) (hD.sub [13, 14, 15, 16, 17, 18, 19] (by decide) rfl) (va_free hD hS hA [13, 14, 15, 16, 17, 18, 19] rfl) rfl hl.1 rfl (Nat.le_of_ble_eq_true rfl) dX8_succeeds_135 ⟨Nat.zero_le _, Nat.zero_le _⟩) hS (va_free hD hS hA [13, 14, 15, 16, 17, 18, 19] rfl) hP hD [13, 14, 15, 16, 17, 18, 19] [0, 1, 2, 3, 4, 5, 6, 7, 8, 9, 10, 11, 12] [0, 1, 2, 3, 4, 5, 6, 7, 8, 9, 10, 11, 12, 13, 14, 15, 16, 17, 18, 19] rfl rfl (by decide) (by decide) rfl (by decide) rfl (fun H locs hP hD hS => ?_)
    refine lv_iload_n hx hb dX8_succeeds_138 rfl (lv_at hl 0 rfl) ?_
    refine lv_icmp_ne (tgt := 146) hx hb dX8_succeeds_139 (by decide) (fun q139 => ?_) (fun q139 => ?_)
    · have h := ifF h q139
      refine lv_iconst (v := (0 : Int32)) hx hb dX8_succeeds_146 (by decide) ?_
      have h : some ((0 : Int32), B_left, B_right, B_found, B_least, B_first, Q_letterSurplus, Q_weights, Q_possible, A_letters, A_lengths, N_size_135, N_solved_135, N_dropped_135, N_lefts_135, N_rights_135, N_parents_135, N_rules_135, N_depths_135, E_left, E_right) = some (r, B_left_o, B_right_o, B_found_o, B_least_o, B_first_o, Q_letterSurplus_o, Q_weights_o, Q_possible_o, A_letters_o, A_lengths_o, N_size_o, N_solved_o, N_dropped_o, N_lefts_o, N_rights_o, N_parents_o, N_rules_o, N_depths_o, E_left_o, E_right_o) := h
      cases h
      exact hret _ _ _ _ rfl hP hD hS dX8_succeeds_147
    have h := ifT h q139
    refine lv_iconst (v := (1 : Int32)) hx hb dX8_succeeds_142 (by decide) ?_
    refine lv_goto (tgt := 147) hx hb dX8_succeeds_143 (by decide) ?_
    have h : some ((1 : Int32), B_left, B_right, B_found, B_least, B_first, Q_letterSurplus, Q_weights, Q_possible, A_letters, A_lengths, N_size_135, N_solved_135, N_dropped_135, N_lefts_135, N_rights_135, N_parents_135, N_rules_135, N_depths_135, E_left, E_right) = some (r, B_left_o, B_right_o, B_found_o, B_least_o, B_first_o, Q_letterSurplus_o, Q_weights_o, Q_possible_o, A_letters_o, A_lengths_o, N_size_o, N_solved_o, N_dropped_o, N_lefts_o, N_rights_o, N_parents_o, N_rules_o, N_depths_o, E_left_o, E_right_o) := h
    cases h
    exact hret _ _ _ _ rfl hP hD hS dX8_succeeds_147
  have h := ifF h q17_7
  by_cases q17_8 : (x1 / (100 : Int32)) = (8 : Int32)
  · have h := ifT h q17_8
    refine lv_tableIn (off := 131) (tgt := 148) hx hb dX8_succeeds_17 (by rw [q17_8]; decide) (by rw [q17_8]; decide) (by rw [q17_8]; rfl) (by decide) ?_
    refine lv_iload_n hx hb dX8_succeeds_148 rfl (lv_at hl 1 rfl) ?_
    obtain ⟨t149, hc149, h⟩ := bd1_to h
    refine go_0 (st1 := [.int t149]) (run_SN (As := [.int t7]) (rest := []) X hS (mX11_isVariable g l  t7 t149 hc149) okX11_isVariable (List.mem_of_getElem? (i := 9) rfl) ⟨Nat.le_of_ble_eq_true rfl, Nat.le_of_ble_eq_true rfl⟩ ⟨rfl, rfl⟩ nil_P nil_D (nil_F hS hA) rfl hl.1 rfl (Nat.le_of_ble_eq_true rfl) dX8_succeeds_149 ⟨Nat.zero_le _, Nat.zero_le _⟩) hS hA hP rfl (fun H locs hP hS => ?_)
    refine lv_if_eq (tgt := 174) hx hb dX8_succeeds_152 (by decide) (fun q152 => ?_) (fun q152 => ?_)
    · have h := ifT h q152
      refine lv_iconst (v := (0 : Int32)) hx hb dX8_succeeds_174 (by decide) ?_
      have h : some ((0 : Int32), B_left, B_right, B_found, B_least, B_first, Q_letterSurplus, Q_weights, Q_possible, A_letters, A_lengths, N_size, N_solved, N_dropped, N_lefts, N_rights, N_parents, N_rules, N_depths, E_left, E_right) = some (r, B_left_o, B_right_o, B_found_o, B_least_o, B_first_o, Q_letterSurplus_o, Q_weights_o, Q_possible_o, A_letters_o, A_lengths_o, N_size_o, N_solved_o, N_dropped_o, N_lefts_o, N_rights_o, N_parents_o, N_rules_o, N_depths_o, E_left_o, E_right_o) := h
      cases h
      exact hret _ _ _ _ rfl hP hD hS dX8_succeeds_175
    have h := ifF h q152
    refine lv_aload_n hx hb dX8_succeeds_155 rfl (lv_at hl 2 rfl) ?_
    refine va_get (D := g.1) (ci := 8) (v := .ref aE) (C := RX8) (T := TX8) (N := 3) hx hb hts inBX8 hown hK hP 0 rfl rfl 2 (by decide) (hts _ wd1_224) (fun _ h9 => h9) rfl dX8_succeeds_156 ?_
    refine lv_iload_n hx hb dX8_succeeds_159 rfl (lv_at hl 1 rfl) ?_
    obtain ⟨t160, hc160, h⟩ := bd1_to h
    refine go_0 (st1 := [.int t160, .ref aE]) (run_S (As := [.int t7]) (rest := [.ref aE]) X hS (mX9_variable g l  t7 t160 hc160) okX9_variable wd4_144 ⟨Nat.le_of_ble_eq_true rfl, Nat.le_of_ble_eq_true rfl⟩ ⟨rfl, rfl⟩ nil_P nil_D (nil_F hS hA) rfl hl.1 rfl (Nat.le_of_ble_eq_true rfl) dX8_succeeds_160 ⟨Nat.zero_le _, Nat.zero_le _⟩) hS hA hP rfl (fun H locs hP hS => ?_)
    obtain ⟨t163, hc163, h⟩ := bd1_to h
    refine go_P (st1 := [.int t163]) (W1 := (wX8 g aK aB aB_first aQ aQ_weights aQ_possible aC aC_variables aC_relations aC_numbers aA aA_letters aA_lengths aN aN_lefts aN_rights aN_parents aN_rules aN_depths aE B_left B_right B_found B_least B_first Q_letterSurplus Q_weights Q_possible C_size C_variables C_relations C_numbers A_letters A_lengths N_size N_solved N_dropped N_lefts N_rights N_parents N_rules N_depths E_left E_right)) (run_V (As := [.int t160]) (rest := []) X hS (mX2_total g l  aE E_left E_right t160 t163 hc163) okX2_total wd4_151 ⟨Nat.le_of_ble_eq_true rfl, Nat.le_of_ble_eq_true rfl⟩ ⟨rfl, rfl⟩ (va_recv hK hP (ci := 2) (q0 := 19) rfl rfl) (sub_P hP [19] rfl) (hD.sub [19] (by decide) rfl) (va_free hD hS hA [19] rfl) rfl hl.1 rfl (Nat.le_of_ble_eq_true rfl) dX8_succeeds_163 ⟨Nat.zero_le _, Nat.zero_le _⟩) hS (va_free hD hS hA [19] rfl) hP hD [19] [0, 1, 2, 3, 4, 5, 6, 7, 8, 9, 10, 11, 12, 13, 14, 15, 16, 17, 18] [0, 1, 2, 3, 4, 5, 6, 7, 8, 9, 10, 11, 12, 13, 14, 15, 16, 17, 18, 19] rfl rfl (by decide) (by decide) rfl (by decide) rfl (fun H locs hP hD hS => ?_)
    refine lv_iload_n hx hb dX8_succeeds_166 rfl (lv_at hl 0 rfl) ?_
    refine lv_icmp_ne (tgt := 174) hx hb dX8_succeeds_167 (by decide) (fun q167 => ?_) (fun q167 => ?_)
    · have h := ifF h q167
      refine lv_iconst (v := (0 : Int32)) hx hb dX8_succeeds_174 (by decide) ?_
      have h : some ((0 : Int32), B_left, B_right, B_found, B_least, B_first, Q_letterSurplus, Q_weights, Q_possible, A_letters, A_lengths, N_size, N_solved, N_dropped, N_lefts, N_rights, N_parents, N_rules, N_depths, E_left, E_right) = some (r, B_left_o, B_right_o, B_found_o, B_least_o, B_first_o, Q_letterSurplus_o, Q_weights_o, Q_possible_o, A_letters_o, A_lengths_o, N_size_o, N_solved_o, N_dropped_o, N_lefts_o, N_rights_o, N_parents_o, N_rules_o, N_depths_o, E_left_o, E_right_o) := h
      cases h
      exact hret _ _ _ _ rfl hP hD hS dX8_succeeds_175
    have h := ifT h q167
    refine lv_iconst (v := (1 : Int32)) hx hb dX8_succeeds_170 (by decide) ?_
    refine lv_goto (tgt := 175) hx hb dX8_succeeds_171 (by decide) ?_
    have h : some ((1 : Int32), B_left, B_right, B_found, B_least, B_first, Q_letterSurplus, Q_weights, Q_possible, A_letters, A_lengths, N_size, N_solved, N_dropped, N_lefts, N_rights, N_parents, N_rules, N_depths, E_left, E_right) = some (r, B_left_o, B_right_o, B_found_o, B_least_o, B_first_o, Q_letterSurplus_o, Q_weights_o, Q_possible_o, A_letters_o, A_lengths_o, N_size_o, N_solved_o, N_dropped_o, N_lefts_o, N_rights_o, N_parents_o, N_rules_o, N_depths_o, E_left_o, E_right_o) := h
    cases h
    exact hret _ _ _ _ rfl hP hD hS dX8_succeeds_175
  have h := ifF h q17_8
  refine lv_tableOut (tgt := 176) hx hb dX8_succeeds_17 (by have z4 := lv_neT (a := 4) q17_4 (by decide); have z5 := lv_neT (a := 5) q17_5 (by decide); have z6 := lv_neT (a := 6) q17_6 (by decide); have z7 := lv_neT (a := 7) q17_7 (by decide); have z8 := lv_neT (a := 8) q17_8 (by decide); omega) (by decide) ?_
  refine lv_aload_n hx hb dX8_succeeds_176 rfl (lv_at hl 2 rfl) ?_
  refine lv_iload_n hx hb dX8_succeeds_177 rfl (lv_at hl 3 rfl) ?_
  obtain ⟨t178, E_left_178, E_right_178, hc178, h⟩ := bd3_to h
  refine go_A (st1 := [.int t178]) (run_V (As := [.int x1]) (rest := []) X hS (mX8_rewrites g l  aK aB aB_first aQ aQ_weights aQ_possible aC aC_variables aC_relations aC_numbers aA aA_letters aA_lengths aN aN_lefts aN_rights aN_parents aN_rules aN_depths aE B_left B_right B_found B_least B_first Q_letterSurplus Q_weights Q_possible C_size C_variables C_relations C_numbers A_letters A_lengths N_size N_solved N_dropped N_lefts N_rights N_parents N_rules N_depths E_left E_right x1 t178 E_left_178 E_right_178 hc178) okX8_rewrites wd4_152 ⟨Nat.le_of_ble_eq_true rfl, Nat.le_of_ble_eq_true rfl⟩ ⟨rfl, rfl⟩ (va_recv hK hP (ci := 8) (q0 := 0) rfl rfl) hP hD (all_F hS hA hD) rfl hl.1 rfl (Nat.le_of_ble_eq_true rfl) dX8_succeeds_178 ⟨Nat.zero_le _, Nat.zero_le _⟩) hS (all_F hS hA hD) rfl (fun H locs hP hD hS => ?_)
  have z181 := ckz_is h
  have h := ckz_to h
  have h : some (t178, B_left, B_right, B_found, B_least, B_first, Q_letterSurplus, Q_weights, Q_possible, A_letters, A_lengths, N_size, N_solved, N_dropped, N_lefts, N_rights, N_parents, N_rules, N_depths, E_left_178, E_right_178) = some (r, B_left_o, B_right_o, B_found_o, B_least_o, B_first_o, Q_letterSurplus_o, Q_weights_o, Q_possible_o, A_letters_o, A_lengths_o, N_size_o, N_solved_o, N_dropped_o, N_lefts_o, N_rights_o, N_parents_o, N_rules_o, N_depths_o, E_left_o, E_right_o) := h
  cases h
  exact hret _ _ _ _ (nz_nar z181) hP hD hS dX8_succeeds_181
