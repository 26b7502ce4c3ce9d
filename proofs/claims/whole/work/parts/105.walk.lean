set_option maxHeartbeats 4000000 in
set_option maxRecDepth 100000 in
theorem mX11_runScript (g : GP) (l : Launch) (aX aT aT_characters aE aH aH_lefts aH_rights aS aS_lefts aS_rights aS_filled aA aA_letters aA_lengths aK aB aB_first aQ aQ_weights aQ_possible aC aC_variables aC_relations aC_numbers aA2 aA2_letters aA2_lengths aN aN_lefts aN_rights aN_parents aN_rules aN_depths aE2 : Nat) (T_size : Int32) (T_characters : Nat → Int32) (E_left : Int64) (E_right : Int64) (H_size : Int32) (H_lefts : Nat → Int64) (H_rights : Nat → Int64) (S_lefts : Nat → Int64) (S_rights : Nat → Int64) (S_filled : Nat → Int32) (A_letters : Nat → Int64) (A_lengths : Nat → Int32) (B_left : Int64) (B_right : Int64) (B_found : Int32) (B_least : Int32) (B_first : Nat → Int32) (Q_letterSurplus : Int32) (Q_weights : Nat → Int32) (Q_possible : Nat → Int32) (C_size : Int32) (C_variables : Nat → Int32) (C_relations : Nat → Int32) (C_numbers : Nat → Int32) (A2_letters : Nat → Int64) (A2_lengths : Nat → Int32) (N_size : Int32) (N_solved : Int32) (N_dropped : Int32) (N_lefts : Nat → Int64) (N_rights : Nat → Int64) (N_parents : Nat → Int32) (N_rules : Nat → Int32) (N_depths : Nat → Int32) (E2_left : Int64) (E2_right : Int64) (x1 : Int32) (x2 : Int64) (r : Int32) (B_left_o : Int64) (B_right_o : Int64) (B_found_o : Int32) (B_least_o : Int32) (B_first_o : Nat → Int32) (Q_letterSurplus_o : Int32) (Q_weights_o : Nat → Int32) (Q_possible_o : Nat → Int32) (A2_letters_o : Nat → Int64) (A2_lengths_o : Nat → Int32) (N_size_o : Int32) (N_solved_o : Int32) (N_dropped_o : Int32) (N_lefts_o : Nat → Int64) (N_rights_o : Nat → Int64) (N_parents_o : Nat → Int32) (N_rules_o : Nat → Int32) (N_depths_o : Nat → Int32) (E2_left_o : Int64) (E2_right_o : Int64) (h : fX_runScript E_left E_right B_left B_right B_found B_least B_first Q_letterSurplus Q_weights Q_possible C_size C_variables C_relations C_numbers A2_letters A2_lengths N_size N_solved N_dropped N_lefts N_rights N_parents N_rules N_depths E2_left E2_right x1 x2 = some (r, B_left_o, B_right_o, B_found_o, B_least_o, B_first_o, Q_letterSurplus_o, Q_weights_o, Q_possible_o, A2_letters_o, A2_lengths_o, N_size_o, N_solved_o, N_dropped_o, N_lefts_o, N_rights_o, N_parents_o, N_rules_o, N_depths_o, E2_left_o, E2_right_o)) : Ct g l yX11_runScript cX11_runScript 5 (some .int) rmX11_runScript [.ref aX, .int x1, .long x2] (wX11 g aX aT aT_characters aE aH aH_lefts aH_rights aS aS_lefts aS_rights aS_filled aA aA_letters aA_lengths aK aB aB_first aQ aQ_weights aQ_possible aC aC_variables aC_relations aC_numbers aA2 aA2_letters aA2_lengths aN aN_lefts aN_rights aN_parents aN_rules aN_depths aE2 T_size T_characters E_left E_right H_size H_lefts H_rights S_lefts S_rights S_filled A_letters A_lengths B_left B_right B_found B_least B_first Q_letterSurplus Q_weights Q_possible C_size C_variables C_relations C_numbers A2_letters A2_lengths N_size N_solved N_dropped N_lefts N_rights N_parents N_rules N_depths E2_left E2_right) (some (.int r)) (wX11 g aX aT aT_characters aE aH aH_lefts aH_rights aS aS_lefts aS_rights aS_filled aA aA_letters aA_lengths aK aB aB_first aQ aQ_weights aQ_possible aC aC_variables aC_relations aC_numbers aA2 aA2_letters aA2_lengths aN aN_lefts aN_rights aN_parents aN_rules aN_depths aE2 T_size T_characters E_left E_right H_size H_lefts H_rights S_lefts S_rights S_filled A_letters A_lengths B_left_o B_right_o B_found_o B_least_o B_first_o Q_letterSurplus_o Q_weights_o Q_possible_o C_size C_variables C_relations C_numbers A2_letters_o A2_lengths_o N_size_o N_solved_o N_dropped_o N_lefts_o N_rights_o N_parents_o N_rules_o N_depths_o E2_left_o E2_right_o) := by
  refine Ct.introI (by decide) (Nat.le_of_ble_eq_true rfl) ?_
  intro p e s m below meth c A QQ ls hyp hret
  obtain ⟨hx, hb, hml, hts, hown, hA, hE, hP, hD, hl⟩ := hyp
  have hK := hE.1
  have hS : va_S A s.heap s.heap [] := va_S.rf
  have X : Here g p s m c cX11_runScript 5 ([.ref aX, .int x1, .long x2] : List Value).toArray RX11 A := ⟨⟨hx, hb, hml, hown, hts⟩, hE, hA⟩
  have L43 : ∀ (n43 : Nat), ∀ (B_left : Int64) (B_right : Int64) (B_found : Int32) (B_least : Int32) (B_first : Nat → Int32) (Q_letterSurplus : Int32) (Q_weights : Nat → Int32) (Q_possible : Nat → Int32) (A2_letters : Nat → Int64) (A2_lengths : Nat → Int32) (N_size : Int32) (N_solved : Int32) (N_dropped : Int32) (N_lefts : Nat → Int64) (N_rights : Nat → Int64) (N_parents : Nat → Int32) (N_rules : Nat → Int32) (N_depths : Nat → Int32) (E2_left : Int64) (E2_right : Int64) (v4 : Int32) (ls : Array Slot) (H : Heap) (locs : List Loc), lv_has ls 5 [(0, .ref aX), (1, .int x1), (2, .long x2), (4, .int v4)] → va_P g.1 vwCl (wX11 g aX aT aT_characters aE aH aH_lefts aH_rights aS aS_lefts aS_rights aS_filled aA aA_letters aA_lengths aK aB aB_first aQ aQ_weights aQ_possible aC aC_variables aC_relations aC_numbers aA2 aA2_letters aA2_lengths aN aN_lefts aN_rights aN_parents aN_rules aN_depths aE2 T_size T_characters E_left E_right H_size H_lefts H_rights S_lefts S_rights S_filled A_letters A_lengths B_left B_right B_found B_least B_first Q_letterSurplus Q_weights Q_possible C_size C_variables C_relations C_numbers A2_letters A2_lengths N_size N_solved N_dropped N_lefts N_rights N_parents N_rules N_depths E2_left E2_right) H → va_D A (wX11 g aX aT aT_characters aE aH aH_lefts aH_rights aS aS_lefts aS_rights aS_filled aA aA_letters aA_lengths aK aB aB_first aQ aQ_weights aQ_possible aC aC_variables aC_relations aC_numbers aA2 aA2_letters aA2_lengths aN aN_lefts aN_rights aN_parents aN_rules aN_depths aE2 T_size T_characters E_left E_right H_size H_lefts H_rights S_lefts S_rights S_filled A_letters A_lengths B_left B_right B_found B_least B_first Q_letterSurplus Q_weights Q_possible C_size C_variables C_relations C_numbers A2_letters A2_lengths N_size N_solved N_dropped N_lefts N_rights N_parents N_rules N_depths E2_left E2_right) → va_S A s.heap H locs → fx21 (fX_runScript_43 C_size C_variables C_relations C_numbers x1 x2) n43 B_left B_right B_found B_least B_first Q_letterSurplus Q_weights Q_possible A2_letters A2_lengths N_size N_solved N_dropped N_lefts N_rights N_parents N_rules N_depths E2_left E2_right v4 = some (r, B_left_o, B_right_o, B_found_o, B_least_o, B_first_o, Q_letterSurplus_o, Q_weights_o, Q_possible_o, A2_letters_o, A2_lengths_o, N_size_o, N_solved_o, N_dropped_o, N_lefts_o, N_rights_o, N_parents_o, N_rules_o, N_depths_o, E2_left_o, E2_right_o) → W p l e rmX11_runScript s m ([.ref aX, .int x1, .long x2] : List Value).toArray below meth c H locs 0 0 QQ (F0 m 43 ls []) := by
    intro n43
    induction n43 with
    | zero => intro B_left B_right B_found B_least B_first Q_letterSurplus Q_weights Q_possible A2_letters A2_lengths N_size N_solved N_dropped N_lefts N_rights N_parents N_rules N_depths E2_left E2_right v4 ls H locs hl hP hD hS h; exact fx21_0 h
    | succ n43 ih43 =>
      intro B_left B_right B_found B_least B_first Q_letterSurplus Q_weights Q_possible A2_letters A2_lengths N_size N_solved N_dropped N_lefts N_rights N_parents N_rules N_depths E2_left E2_right v4 ls H locs hl hP hD hS h
      have h := (fx21_s (fX_runScript_43 C_size C_variables C_relations C_numbers x1 x2) n43 B_left B_right B_found B_least B_first Q_letterSurplus Q_weights Q_possible A2_letters A2_lengths N_size N_solved N_dropped N_lefts N_rights N_parents N_rules N_depths E2_left E2_right v4).symm.trans h
      refine lv_iload hx hb dX11_runScript_43 (lv_at hl 3 rfl) ?_
      refine lv_iload_n hx hb dX11_runScript_45 rfl (lv_at hl 1 rfl) ?_
      refine lv_icmp_ge (tgt := 83) hx hb dX11_runScript_46 (by decide) (fun q46 => ?_) (fun q46 => ?_)
      · have h := ifT h q46
        refine lv_bipush (v := ((-9) : Int32)) hx hb dX11_runScript_83 (by decide) ?_
        have h : some (((-9) : Int32), B_left, B_right, B_found, B_least, B_first, Q_letterSurplus, Q_weights, Q_possible, A2_letters, A2_lengths, N_size, N_solved, N_dropped, N_lefts, N_rights, N_parents, N_rules, N_depths, E2_left, E2_right) = some (r, B_left_o, B_right_o, B_found_o, B_least_o, B_first_o, Q_letterSurplus_o, Q_weights_o, Q_possible_o, A2_letters_o, A2_lengths_o, N_size_o, N_solved_o, N_dropped_o, N_lefts_o, N_rights_o, N_parents_o, N_rules_o, N_depths_o, E2_left_o, E2_right_o) := h
        cases h
        exact hret _ _ _ _ hP hD hS dX11_runScript_85
      have h := ifF h q46
      refine lv_aload_n hx hb dX11_runScript_49 rfl (lv_at hl 0 rfl) ?_
      refine va_get (D := g.1) (ci := 10) (v := .ref aK) (C := RX11) (T := TX11) (N := 10) hx hb hts inBX11 hown hK hP 0 rfl rfl 9 (by decide) (hts _ wd2_1) (fun _ h9 => h9) rfl dX11_runScript_50 ?_
      refine lv_iload_n hx hb dX11_runScript_53 rfl (lv_at hl 1 rfl) ?_
      refine lv_iconst (v := (1 : Int32)) hx hb dX11_runScript_54 (by decide) ?_
      refine lv_isub hx hb dX11_runScript_55 ?_
      refine lv_iload hx hb dX11_runScript_56 (lv_at hl 3 rfl) ?_
      refine lv_isub hx hb dX11_runScript_58 ?_
      refine lv_lload_n hx hb dX11_runScript_59 rfl (lv_at hl 2 rfl) ?_
      obtain ⟨t60, hc60, h⟩ := bd1_to h
      refine go_0 (st1 := [.long t60, .ref aK]) (run_S (As := [.int ((x1 - (1 : Int32)) - v4), .long x2]) (rest := [.ref aK]) X hS (mX8_withoutLast g l  ((x1 - (1 : Int32)) - v4) x2 t60 hc60) okX8_withoutLast wd4_125 ⟨Nat.le_of_ble_eq_true rfl, Nat.le_of_ble_eq_true rfl⟩ ⟨rfl, rfl⟩ nil_P nil_D (nil_F hS hA) rfl hl.1 rfl (Nat.le_of_ble_eq_true rfl) dX11_runScript_60 ⟨Nat.zero_le _, Nat.zero_le _⟩) hS hA hP rfl (fun H locs hP hS => ?_)
      refine lv_ldc2 (v := (1000 : Int64)) hx hb hown (hts _ wd4_134) dX11_runScript_63 ?_
      refine lv_lrem hx hb dX11_runScript_66 (by decide) ?_
      refine lv_l2i (v := (Int64.toInt32 (remL t60 (1000 : Int64)))) hx hb dX11_runScript_67 rfl ?_
      obtain ⟨t68, B_left_68, B_right_68, B_found_68, B_least_68, B_first_68, Q_letterSurplus_68, Q_weights_68, Q_possible_68, A2_letters_68, A2_lengths_68, N_size_68, N_solved_68, N_dropped_68, N_lefts_68, N_rights_68, N_parents_68, N_rules_68, N_depths_68, E2_left_68, E2_right_68, hc68, h⟩ := bd21_to h
      refine go_P (st1 := [.int t68]) (W1 := (wX11 g aX aT aT_characters aE aH aH_lefts aH_rights aS aS_lefts aS_rights aS_filled aA aA_letters aA_lengths aK aB aB_first aQ aQ_weights aQ_possible aC aC_variables aC_relations aC_numbers aA2 aA2_letters aA2_lengths aN aN_lefts aN_rights aN_parents aN_rules aN_depths aE2 T_size T_characters E_left E_right H_size H_lefts H_rights S_lefts S_rights S_filled A_letters A_lengths B_left_68 B_right_68 B_found_68 B_least_68 B_first_68 Q_letterSurplus_68 Q_weights_68 Q_possible_68 C_size C_variables C_relations C_numbers A2_letters_68 A2_lengths_68 N_size_68 N_solved_68 N_dropped_68 N_lefts_68 N_rights_68 N_parents_68 N_rules_68 N_depths_68 E2_left_68 E2_right_68)) (run_V (As := [.int (Int64.toInt32 (remL t60 (1000 : Int64)))]) (rest := []) X hS (mX8_succeeds g l  aK aB aB_first aQ aQ_weights aQ_possible aC aC_variables aC_relations aC_numbers aA2 aA2_letters aA2_lengths aN aN_lefts aN_rights aN_parents aN_rules aN_depths aE2 B_left B_right B_found B_least B_first Q_letterSurplus Q_weights Q_possible C_size C_variables C_relations C_numbers A2_letters A2_lengths N_size N_solved N_dropped N_lefts N_rights N_parents N_rules N_depths E2_left E2_right (Int64.toInt32 (remL t60 (1000 : Int64))) t68 B_left_68 B_right_68 B_found_68 B_least_68 B_first_68 Q_letterSurplus_68 Q_weights_68 Q_possible_68 A2_letters_68 A2_lengths_68 N_size_68 N_solved_68 N_dropped_68 N_lefts_68 N_rights_68 N_parents_68 N_rules_68 N_depths_68 E2_left_68 E2_right_68 hc68) okX8_succeeds wd4_135 ⟨Nat.le_of_ble_eq_true rfl, Nat.le_of_ble_eq_true rfl⟩ ⟨rfl, rfl⟩ (va_recv hK hP (ci := 8) (q0 := 14) rfl rfl) (sub_P hP [14, 15, 16, 17, 18, 19, 20, 21, 22, 23, 24, 25, 26, 27, 28, 29, 30, 31, 32, 33] rfl) (hD.sub [14, 15, 16, 17, 18, 19, 20, 21, 22, 23, 24, 25, 26, 27, 28, 29, 30, 31, 32, 33] (by decide) rfl) (va_free hD hS hA [14, 15, 16, 17, 18, 19, 20, 21, 22, 23, 24, 25, 26, 27, 28, 29, 30, 31, 32, 33] rfl) rfl hl.1 rfl (Nat.le_of_ble_eq_true rfl) dX11_runScript_68 ⟨Nat.zero_le _, Nat.zero_le _⟩) hS (va_free hD hS hA [14, 15, 16, 17, 18, 19, 20, 21, 22, 23, 24, 25, 26, 27, 28, 29, 30, 31, 32, 33] rfl) hP hD [14, 15, 16, 17, 18, 19, 20, 21, 22, 23, 24, 25, 26, 27, 28, 29, 30, 31, 32, 33] [0, 1, 2, 3, 4, 5, 6, 7, 8, 9, 10, 11, 12, 13] [0, 1, 2, 3, 4, 5, 6, 7, 8, 9, 10, 11, 12, 13, 14, 15, 16, 17, 18, 19, 20, 21, 22, 23, 24, 25, 26, 27, 28, 29, 30, 31, 32, 33] rfl rfl (by decide) (by decide) rfl (by decide) rfl (fun H locs hP hD hS => ?_)
      refine lv_if_ne (tgt := 77) hx hb dX11_runScript_71 (by decide) (fun q71 => ?_) (fun q71 => ?_)
      · have h := ifF h q71
        obtain ⟨t77, et77⟩ : ∃ y : Int32, y = v4 + (1 : Int32) := ⟨_, rfl⟩
        refine lv_iinc (v := t77) (lv' := [(4, .int t77), (0, .ref aX), (1, .int x1), (2, .long x2)]) hx hb dX11_runScript_77 hl (k := 3) rfl (by rw [et77]; rfl) (by decide) rfl (fun ls hl => ?_)
        have h := st_to h et77
        refine lv_goto (tgt := 43) hx hb dX11_runScript_80 (by decide) ?_
        exact ih43 B_left_68 B_right_68 B_found_68 B_least_68 B_first_68 Q_letterSurplus_68 Q_weights_68 Q_possible_68 A2_letters_68 A2_lengths_68 N_size_68 N_solved_68 N_dropped_68 N_lefts_68 N_rights_68 N_parents_68 N_rules_68 N_depths_68 E2_left_68 E2_right_68 t77 ls H locs (lv_sub hl [1, 2, 3, 0] rfl) hP hD hS h
      have h := ifT h q71
      refine lv_iload hx hb dX11_runScript_74 (lv_at hl 3 rfl) ?_
      have h : some (v4, B_left_68, B_right_68, B_found_68, B_least_68, B_first_68, Q_letterSurplus_68, Q_weights_68, Q_possible_68, A2_letters_68, A2_lengths_68, N_size_68, N_solved_68, N_dropped_68, N_lefts_68, N_rights_68, N_parents_68, N_rules_68, N_depths_68, E2_left_68, E2_right_68) = some (r, B_left_o, B_right_o, B_found_o, B_least_o, B_first_o, Q_letterSurplus_o, Q_weights_o, Q_possible_o, A2_letters_o, A2_lengths_o, N_size_o, N_solved_o, N_dropped_o, N_lefts_o, N_rights_o, N_parents_o, N_rules_o, N_depths_o, E2_left_o, E2_right_o) := h
      cases h
      exact hret _ _ _ _ hP hD hS dX11_runScript_76
  have hl : lv_has ls 5 [(0, .ref aX), (1, .int x1), (2, .long x2)] := hl
  obtain ⟨H, hH⟩ : ∃ H, H = s.heap := ⟨_, rfl⟩
  obtain ⟨locs, hlocs⟩ : ∃ l : List Loc, l = [] := ⟨_, rfl⟩
  rw [show W p l e rmX11_runScript s m ([.ref aX, .int x1, .long x2] : List Value).toArray below meth c s.heap [] 0 0 QQ (F0 m 0 ls []) = W p l e rmX11_runScript s m ([.ref aX, .int x1, .long x2] : List Value).toArray below meth c H locs 0 0 QQ (F0 m 0 ls []) by rw [hH, hlocs]]
  have hP : va_P g.1 vwCl (wX11 g aX aT aT_characters aE aH aH_lefts aH_rights aS aS_lefts aS_rights aS_filled aA aA_letters aA_lengths aK aB aB_first aQ aQ_weights aQ_possible aC aC_variables aC_relations aC_numbers aA2 aA2_letters aA2_lengths aN aN_lefts aN_rights aN_parents aN_rules aN_depths aE2 T_size T_characters E_left E_right H_size H_lefts H_rights S_lefts S_rights S_filled A_letters A_lengths B_left B_right B_found B_least B_first Q_letterSurplus Q_weights Q_possible C_size C_variables C_relations C_numbers A2_letters A2_lengths N_size N_solved N_dropped N_lefts N_rights N_parents N_rules N_depths E2_left E2_right) H := by rw [hH]; exact hP
  have hD : va_D A (wX11 g aX aT aT_characters aE aH aH_lefts aH_rights aS aS_lefts aS_rights aS_filled aA aA_letters aA_lengths aK aB aB_first aQ aQ_weights aQ_possible aC aC_variables aC_relations aC_numbers aA2 aA2_letters aA2_lengths aN aN_lefts aN_rights aN_parents aN_rules aN_depths aE2 T_size T_characters E_left E_right H_size H_lefts H_rights S_lefts S_rights S_filled A_letters A_lengths B_left B_right B_found B_least B_first Q_letterSurplus Q_weights Q_possible C_size C_variables C_relations C_numbers A2_letters A2_lengths N_size N_solved N_dropped N_lefts N_rights N_parents N_rules N_depths E2_left E2_right) := hD
  have hS : va_S A s.heap H locs := by rw [hH, hlocs]; exact hS
  clear hH hlocs
  refine lv_iload_n hx hb dX11_runScript_0 rfl (lv_at hl 1 rfl) ?_
  refine lv_iconst (v := (1 : Int32)) hx hb dX11_runScript_1 (by decide) ?_
  refine lv_icmp_lt (tgt := 26) hx hb dX11_runScript_2 (by decide) (fun q2 => ?_) (fun q2 => ?_)
  · have h := ifT h q2
    refine lv_bipush (v := ((-2) : Int32)) hx hb dX11_runScript_26 (by decide) ?_
    have h : some (((-2) : Int32), B_left, B_right, B_found, B_least, B_first, Q_letterSurplus, Q_weights, Q_possible, A2_letters, A2_lengths, N_size, N_solved, N_dropped, N_lefts, N_rights, N_parents, N_rules, N_depths, E2_left, E2_right) = some (r, B_left_o, B_right_o, B_found_o, B_least_o, B_first_o, Q_letterSurplus_o, Q_weights_o, Q_possible_o, A2_letters_o, A2_lengths_o, N_size_o, N_solved_o, N_dropped_o, N_lefts_o, N_rights_o, N_parents_o, N_rules_o, N_depths_o, E2_left_o, E2_right_o) := h
    cases h
    exact hret _ _ _ _ hP hD hS dX11_runScript_28
  have h := ifF h q2
  refine lv_iload_n hx hb dX11_runScript_5 rfl (lv_at hl 1 rfl) ?_
  refine lv_iconst (v := (4 : Int32)) hx hb dX11_runScript_6 (by decide) ?_
  refine lv_icmp_gt (tgt := 26) hx hb dX11_runScript_7 (by decide) (fun q7 => ?_) (fun q7 => ?_)
  · have h := ifT h q7
    refine lv_bipush (v := ((-2) : Int32)) hx hb dX11_runScript_26 (by decide) ?_
    have h : some (((-2) : Int32), B_left, B_right, B_found, B_least, B_first, Q_letterSurplus, Q_weights, Q_possible, A2_letters, A2_lengths, N_size, N_solved, N_dropped, N_lefts, N_rights, N_parents, N_rules, N_depths, E2_left, E2_right) = some (r, B_left_o, B_right_o, B_found_o, B_least_o, B_first_o, Q_letterSurplus_o, Q_weights_o, Q_possible_o, A2_letters_o, A2_lengths_o, N_size_o, N_solved_o, N_dropped_o, N_lefts_o, N_rights_o, N_parents_o, N_rules_o, N_depths_o, E2_left_o, E2_right_o) := h
    cases h
    exact hret _ _ _ _ hP hD hS dX11_runScript_28
  have h := ifF h q7
  refine lv_lload_n hx hb dX11_runScript_10 rfl (lv_at hl 2 rfl) ?_
  refine lv_lconst (v := (0 : Int64)) hx hb dX11_runScript_11 (by decide) ?_
  refine W.lcmp hx hb dX11_runScript_12 ?_
  refine lv_if_lt (tgt := 26) hx hb dX11_runScript_13 (by decide) (fun q13 => ?_) (fun q13 => ?_)
  · have h := ifT h q13
    refine lv_bipush (v := ((-2) : Int32)) hx hb dX11_runScript_26 (by decide) ?_
    have h : some (((-2) : Int32), B_left, B_right, B_found, B_least, B_first, Q_letterSurplus, Q_weights, Q_possible, A2_letters, A2_lengths, N_size, N_solved, N_dropped, N_lefts, N_rights, N_parents, N_rules, N_depths, E2_left, E2_right) = some (r, B_left_o, B_right_o, B_found_o, B_least_o, B_first_o, Q_letterSurplus_o, Q_weights_o, Q_possible_o, A2_letters_o, A2_lengths_o, N_size_o, N_solved_o, N_dropped_o, N_lefts_o, N_rights_o, N_parents_o, N_rules_o, N_depths_o, E2_left_o, E2_right_o) := h
    cases h
    exact hret _ _ _ _ hP hD hS dX11_runScript_28
  have h := ifF h q13
  refine lv_iload_n hx hb dX11_runScript_16 rfl (lv_at hl 1 rfl) ?_
  refine lv_lload_n hx hb dX11_runScript_17 rfl (lv_at hl 2 rfl) ?_
  obtain ⟨t18, hc18, h⟩ := bd1_to h
  refine go_0 (st1 := [.long t18]) (run_S (As := [.int x1, .long x2]) (rest := []) X hS (mX8_withoutLast g l  x1 x2 t18 hc18) okX8_withoutLast wd4_125 ⟨Nat.le_of_ble_eq_true rfl, Nat.le_of_ble_eq_true rfl⟩ ⟨rfl, rfl⟩ nil_P nil_D (nil_F hS hA) rfl hl.1 rfl (Nat.le_of_ble_eq_true rfl) dX11_runScript_18 ⟨Nat.zero_le _, Nat.zero_le _⟩) hS hA hP rfl (fun H locs hP hS => ?_)
  refine lv_lconst (v := (0 : Int64)) hx hb dX11_runScript_21 (by decide) ?_
  refine W.lcmp hx hb dX11_runScript_22 ?_
  refine lv_if_eq (tgt := 29) hx hb dX11_runScript_23 (by decide) (fun q23 => ?_) (fun q23 => ?_)
  · have h := ifT h q23
    refine lv_aload_n hx hb dX11_runScript_29 rfl (lv_at hl 0 rfl) ?_
    refine va_get (D := g.1) (ci := 10) (v := .ref aK) (C := RX11) (T := TX11) (N := 10) hx hb hts inBX11 hown hK hP 0 rfl rfl 9 (by decide) (hts _ wd2_1) (fun _ h9 => h9) rfl dX11_runScript_30 ?_
    refine lv_aload_n hx hb dX11_runScript_33 rfl (lv_at hl 0 rfl) ?_
    refine va_get (D := g.1) (ci := 10) (v := .ref aE) (C := RX11) (T := TX11) (N := 10) hx hb hts inBX11 hown hK hP 0 rfl rfl 1 (by decide) (hts _ wd1_233) (fun _ h9 => h9) rfl dX11_runScript_34 ?_
    obtain ⟨E2_left_37, E2_right_37, hc37, h⟩ := bd2_to h
    refine go_P (st1 := []) (W1 := (wX11 g aX aT aT_characters aE aH aH_lefts aH_rights aS aS_lefts aS_rights aS_filled aA aA_letters aA_lengths aK aB aB_first aQ aQ_weights aQ_possible aC aC_variables aC_relations aC_numbers aA2 aA2_letters aA2_lengths aN aN_lefts aN_rights aN_parents aN_rules aN_depths aE2 T_size T_characters E_left E_right H_size H_lefts H_rights S_lefts S_rights S_filled A_letters A_lengths B_left B_right B_found B_least B_first Q_letterSurplus Q_weights Q_possible C_size C_variables C_relations C_numbers A2_letters A2_lengths N_size N_solved N_dropped N_lefts N_rights N_parents N_rules N_depths E2_left_37 E2_right_37)) (run_V (As := [.ref aE]) (rest := []) X hS (mX8_begin g l  aK aB aB_first aQ aQ_weights aQ_possible aC aC_variables aC_relations aC_numbers aA2 aA2_letters aA2_lengths aN aN_lefts aN_rights aN_parents aN_rules aN_depths aE2 aE B_left B_right B_found B_least B_first Q_letterSurplus Q_weights Q_possible C_size C_variables C_relations C_numbers A2_letters A2_lengths N_size N_solved N_dropped N_lefts N_rights N_parents N_rules N_depths E2_left E2_right E_left E_right E2_left_37 E2_right_37 hc37) okX8_begin wd4_129 ⟨Nat.le_of_ble_eq_true rfl, Nat.le_of_ble_eq_true rfl⟩ ⟨rfl, rfl⟩ (va_recv hK hP (ci := 8) (q0 := 14) rfl rfl) (sub_P hP [14, 15, 16, 17, 18, 19, 20, 21, 22, 23, 24, 25, 26, 27, 28, 29, 30, 31, 32, 33, 3] rfl) (hD.sub [14, 15, 16, 17, 18, 19, 20, 21, 22, 23, 24, 25, 26, 27, 28, 29, 30, 31, 32, 33, 3] (by decide) rfl) (va_free hD hS hA [14, 15, 16, 17, 18, 19, 20, 21, 22, 23, 24, 25, 26, 27, 28, 29, 30, 31, 32, 33, 3] rfl) rfl hl.1 rfl (Nat.le_of_ble_eq_true rfl) dX11_runScript_37 ⟨Nat.zero_le _, Nat.zero_le _⟩) hS (va_free hD hS hA [14, 15, 16, 17, 18, 19, 20, 21, 22, 23, 24, 25, 26, 27, 28, 29, 30, 31, 32, 33, 3] rfl) hP hD [14, 15, 16, 17, 18, 19, 20, 21, 22, 23, 24, 25, 26, 27, 28, 29, 30, 31, 32, 33, 3] [0, 1, 2, 4, 5, 6, 7, 8, 9, 10, 11, 12, 13] [0, 1, 2, 33, 3, 4, 5, 6, 7, 8, 9, 10, 11, 12, 13, 14, 15, 16, 17, 18, 19, 20, 21, 22, 23, 24, 25, 26, 27, 28, 29, 30, 31, 32] rfl rfl (by decide) (by decide) rfl (by decide) rfl (fun H locs hP hD hS => ?_)
    refine lv_iconst (v := (0 : Int32)) hx hb dX11_runScript_40 (by decide) ?_
    refine lv_istore (lv' := [(4, .int (0 : Int32)), (0, .ref aX), (1, .int x1), (2, .long x2)]) hx hb dX11_runScript_41 hl (by decide) rfl (fun ls hl => ?_)
    exact L43 FU B_left B_right B_found B_least B_first Q_letterSurplus Q_weights Q_possible A2_letters A2_lengths N_size N_solved N_dropped N_lefts N_rights N_parents N_rules N_depths E2_left_37 E2_right_37 (0 : Int32) ls H locs (lv_sub hl [1, 2, 3, 0] rfl) hP hD hS h
  have h := ifF h q23
  refine lv_bipush (v := ((-2) : Int32)) hx hb dX11_runScript_26 (by decide) ?_
  have h : some (((-2) : Int32), B_left, B_right, B_found, B_least, B_first, Q_letterSurplus, Q_weights, Q_possible, A2_letters, A2_lengths, N_size, N_solved, N_dropped, N_lefts, N_rights, N_parents, N_rules, N_depths, E2_left, E2_right) = some (r, B_left_o, B_right_o, B_found_o, B_least_o, B_first_o, Q_letterSurplus_o, Q_weights_o, Q_possible_o, A2_letters_o, A2_lengths_o, N_size_o, N_solved_o, N_dropped_o, N_lefts_o, N_rights_o, N_parents_o, N_rules_o, N_depths_o, E2_left_o, E2_right_o) := h
  cases h
  exact hret _ _ _ _ hP hD hS dX11_runScript_28
set_option maxHeartbeats 4000000 in
set_option maxRecDepth 100000 in
theorem mX11_randomChecks (g : GP) (l : Launch) (aX aT aT_characters aE aH aH_lefts aH_rights aS aS_lefts aS_rights aS_filled aA aA_letters aA_lengths aK aB aB_first aQ aQ_weights aQ_possible aC aC_variables aC_relations aC_numbers aA2 aA2_letters aA2_lengths aN aN_lefts aN_rights aN_parents aN_rules aN_depths aE2 : Nat) (T_size : Int32) (T_characters : Nat → Int32) (E_left : Int64) (E_right : Int64) (H_size : Int32) (H_lefts : Nat → Int64) (H_rights : Nat → Int64) (S_lefts : Nat → Int64) (S_rights : Nat → Int64) (S_filled : Nat → Int32) (A_letters : Nat → Int64) (A_lengths : Nat → Int32) (B_left : Int64) (B_right : Int64) (B_found : Int32) (B_least : Int32) (B_first : Nat → Int32) (Q_letterSurplus : Int32) (Q_weights : Nat → Int32) (Q_possible : Nat → Int32) (C_size : Int32) (C_variables : Nat → Int32) (C_relations : Nat → Int32) (C_numbers : Nat → Int32) (A2_letters : Nat → Int64) (A2_lengths : Nat → Int32) (N_size : Int32) (N_solved : Int32) (N_dropped : Int32) (N_lefts : Nat → Int64) (N_rights : Nat → Int64) (N_parents : Nat → Int32) (N_rules : Nat → Int32) (N_depths : Nat → Int32) (E2_left : Int64) (E2_right : Int64) (x1 : Int64) (x3 : Int32) (r : Int32) (A_letters_o : Nat → Int64) (A_lengths_o : Nat → Int32) (h : fX_randomChecks E_left E_right A_letters A_lengths C_size C_variables C_relations C_numbers x1 x3 = some (r, A_letters_o, A_lengths_o)) : Ct g l yX11_randomChecks cX11_randomChecks 9 (some .int) rmX11_randomChecks [.ref aX, .long x1, .int x3] (wX11 g aX aT aT_characters aE aH aH_lefts aH_rights aS aS_lefts aS_rights aS_filled aA aA_letters aA_lengths aK aB aB_first aQ aQ_weights aQ_possible aC aC_variables aC_relations aC_numbers aA2 aA2_letters aA2_lengths aN aN_lefts aN_rights aN_parents aN_rules aN_depths aE2 T_size T_characters E_left E_right H_size H_lefts H_rights S_lefts S_rights S_filled A_letters A_lengths B_left B_right B_found B_least B_first Q_letterSurplus Q_weights Q_possible C_size C_variables C_relations C_numbers A2_letters A2_lengths N_size N_solved N_dropped N_lefts N_rights N_parents N_rules N_depths E2_left E2_right) (some (.int r)) (wX11 g aX aT aT_characters aE aH aH_lefts aH_rights aS aS_lefts aS_rights aS_filled aA aA_letters aA_lengths aK aB aB_first aQ aQ_weights aQ_possible aC aC_variables aC_relations aC_numbers aA2 aA2_letters aA2_lengths aN aN_lefts aN_rights aN_parents aN_rules aN_depths aE2 T_size T_characters E_left E_right H_size H_lefts H_rights S_lefts S_rights S_filled A_letters_o A_lengths_o B_left B_right B_found B_least B_first Q_letterSurplus Q_weights Q_possible C_size C_variables C_relations C_numbers A2_letters A2_lengths N_size N_solved N_dropped N_lefts N_rights N_parents N_rules N_depths E2_left E2_right) := by
  refine Ct.introI (by decide) (Nat.le_of_ble_eq_true rfl) ?_
  intro p e s m below meth c A QQ ls hyp hret
  obtain ⟨hx, hb, hml, hts, hown, hA, hE, hP, hD, hl⟩ := hyp
  have hK := hE.1
  have hS : va_S A s.heap s.heap [] := va_S.rf
  have X : Here g p s m c cX11_randomChecks 9 ([.ref aX, .long x1, .int x3] : List Value).toArray RX11 A := ⟨⟨hx, hb, hml, hown, hts⟩, hE, hA⟩
  have L24 : ∀ (n24 : Nat), ∀ (A_letters : Nat → Int64) (A_lengths : Nat → Int32) (v4 : Int64) (v6 : Int32) (v7 : Int32) (ls : Array Slot) (H : Heap) (locs : List Loc), lv_has ls 9 [(0, .ref aX), (3, .int x3), (4, .long v4), (6, .int v6), (7, .int v7)] → va_P g.1 vwCl (wX11 g aX aT aT_characters aE aH aH_lefts aH_rights aS aS_lefts aS_rights aS_filled aA aA_letters aA_lengths aK aB aB_first aQ aQ_weights aQ_possible aC aC_variables aC_relations aC_numbers aA2 aA2_letters aA2_lengths aN aN_lefts aN_rights aN_parents aN_rules aN_depths aE2 T_size T_characters E_left E_right H_size H_lefts H_rights S_lefts S_rights S_filled A_letters A_lengths B_left B_right B_found B_least B_first Q_letterSurplus Q_weights Q_possible C_size C_variables C_relations C_numbers A2_letters A2_lengths N_size N_solved N_dropped N_lefts N_rights N_parents N_rules N_depths E2_left E2_right) H → va_D A (wX11 g aX aT aT_characters aE aH aH_lefts aH_rights aS aS_lefts aS_rights aS_filled aA aA_letters aA_lengths aK aB aB_first aQ aQ_weights aQ_possible aC aC_variables aC_relations aC_numbers aA2 aA2_letters aA2_lengths aN aN_lefts aN_rights aN_parents aN_rules aN_depths aE2 T_size T_characters E_left E_right H_size H_lefts H_rights S_lefts S_rights S_filled A_letters A_lengths B_left B_right B_found B_least B_first Q_letterSurplus Q_weights Q_possible C_size C_variables C_relations C_numbers A2_letters A2_lengths N_size N_solved N_dropped N_lefts N_rights N_parents N_rules N_depths E2_left E2_right) → va_S A s.heap H locs → fx5 (fX_randomChecks_24 E_left E_right C_size C_variables C_relations C_numbers x3) n24 A_letters A_lengths v4 v6 v7 = some (r, A_letters_o, A_lengths_o) → W p l e rmX11_randomChecks s m ([.ref aX, .long x1, .int x3] : List Value).toArray below meth c H locs 0 0 QQ (F0 m 24 ls []) := by
    intro n24
    induction n24 with
    | zero => intro A_letters A_lengths v4 v6 v7 ls H locs hl hP hD hS h; exact fx5_0 h
    | succ n24 ih24 =>
      intro A_letters A_lengths v4 v6 v7 ls H locs hl hP hD hS h
      have h := (fx5_s (fX_randomChecks_24 E_left E_right C_size C_variables C_relations C_numbers x3) n24 A_letters A_lengths v4 v6 v7).symm.trans h
      refine lv_iload hx hb dX11_randomChecks_24 (lv_at hl 4 rfl) ?_
      refine lv_iload_n hx hb dX11_randomChecks_26 rfl (lv_at hl 1 rfl) ?_
      refine lv_icmp_ge (tgt := 97) hx hb dX11_randomChecks_27 (by decide) (fun q27 => ?_) (fun q27 => ?_)
      · have h := ifT h q27
        refine lv_iload hx hb dX11_randomChecks_97 (lv_at hl 3 rfl) ?_
        have h : some (v6, A_letters, A_lengths) = some (r, A_letters_o, A_lengths_o) := h
        cases h
        exact hret _ _ _ _ hP hD hS dX11_randomChecks_99
      have h := ifF h q27
      refine lv_lload hx hb dX11_randomChecks_30 (lv_at hl 2 rfl) ?_
      refine lv_ldc2 (v := (6364136223846793005 : Int64)) hx hb hown (hts _ wd4_163) dX11_randomChecks_32 ?_
      refine lv_lmul hx hb dX11_randomChecks_35 ?_
      refine lv_ldc2 (v := (1442695040888963407 : Int64)) hx hb hown (hts _ wd4_164) dX11_randomChecks_36 ?_
      refine lv_ladd hx hb dX11_randomChecks_39 ?_
      refine lv_topl (fun t40 et40 => ?_)
      have h := st_to h et40
      refine lv_lstore (lv' := [(4, .long t40), (0, .ref aX), (3, .int x3), (6, .int v6), (7, .int v7)]) hx hb dX11_randomChecks_40 hl (by decide) rfl (fun ls hl => ?_)
      refine lv_lload hx hb dX11_randomChecks_42 (lv_at hl 0 rfl) ?_
      refine lv_bipush (v := (33 : Int32)) hx hb dX11_randomChecks_44 (by decide) ?_
      refine lv_lushr (v := (ushrL t40 (33 : Int32))) hx hb dX11_randomChecks_46 rfl ?_
      refine lv_l2i (v := (Int64.toInt32 (ushrL t40 (33 : Int32)))) hx hb dX11_randomChecks_47 rfl ?_
      refine lv_topi (fun t48 et48 => ?_)
      have h := st_to h et48
      refine lv_istore (lv' := [(8, .int t48), (4, .long t40), (0, .ref aX), (3, .int x3), (6, .int v6), (7, .int v7)]) hx hb dX11_randomChecks_48 hl (by decide) rfl (fun ls hl => ?_)
      refine lv_aload_n hx hb dX11_randomChecks_50 rfl (lv_at hl 2 rfl) ?_
      refine lv_iload hx hb dX11_randomChecks_51 (lv_at hl 0 rfl) ?_
      refine lv_bipush (v := (15 : Int32)) hx hb dX11_randomChecks_53 (by decide) ?_
      refine lv_irem hx hb dX11_randomChecks_55 (by decide) ?_
      refine lv_iload hx hb dX11_randomChecks_56 (lv_at hl 0 rfl) ?_
      refine lv_bipush (v := (15 : Int32)) hx hb dX11_randomChecks_58 (by decide) ?_
      refine lv_idiv hx hb dX11_randomChecks_60 (by decide) ?_
      refine lv_bipush (v := (15 : Int32)) hx hb dX11_randomChecks_61 (by decide) ?_
      refine lv_irem hx hb dX11_randomChecks_63 (by decide) ?_
      refine lv_iload hx hb dX11_randomChecks_64 (lv_at hl 0 rfl) ?_
      refine lv_sipush (v := (225 : Int32)) hx hb dX11_randomChecks_66 (by decide) ?_
      refine lv_idiv hx hb dX11_randomChecks_69 (by decide) ?_
      refine lv_bipush (v := (15 : Int32)) hx hb dX11_randomChecks_70 (by decide) ?_
      refine lv_irem hx hb dX11_randomChecks_72 (by decide) ?_
      refine lv_iload hx hb dX11_randomChecks_73 (lv_at hl 0 rfl) ?_
      refine lv_sipush (v := (3375 : Int32)) hx hb dX11_randomChecks_75 (by decide) ?_
      refine lv_idiv hx hb dX11_randomChecks_78 (by decide) ?_
      refine lv_bipush (v := (15 : Int32)) hx hb dX11_randomChecks_79 (by decide) ?_
      refine lv_irem hx hb dX11_randomChecks_81 (by decide) ?_
      obtain ⟨t82, A_letters_82, A_lengths_82, hc82, h⟩ := bd3_to h
      refine go_A (st1 := [.int t82]) (run_V (As := [.int (rem t48 (15 : Int32)), .int (rem (t48 / (15 : Int32)) (15 : Int32)), .int (rem (t48 / (225 : Int32)) (15 : Int32)), .int (rem (t48 / (3375 : Int32)) (15 : Int32))]) (rest := []) X hS (mX11_holdsFor g l  aX aT aT_characters aE aH aH_lefts aH_rights aS aS_lefts aS_rights aS_filled aA aA_letters aA_lengths aK aB aB_first aQ aQ_weights aQ_possible aC aC_variables aC_relations aC_numbers aA2 aA2_letters aA2_lengths aN aN_lefts aN_rights aN_parents aN_rules aN_depths aE2 T_size T_characters E_left E_right H_size H_lefts H_rights S_lefts S_rights S_filled A_letters A_lengths B_left B_right B_found B_least B_first Q_letterSurplus Q_weights Q_possible C_size C_variables C_relations C_numbers A2_letters A2_lengths N_size N_solved N_dropped N_lefts N_rights N_parents N_rules N_depths E2_left E2_right (rem t48 (15 : Int32)) (rem (t48 / (15 : Int32)) (15 : Int32)) (rem (t48 / (225 : Int32)) (15 : Int32)) (rem (t48 / (3375 : Int32)) (15 : Int32)) t82 A_letters_82 A_lengths_82 hc82) okX11_holdsFor wd3_139 ⟨Nat.le_of_ble_eq_true rfl, Nat.le_of_ble_eq_true rfl⟩ ⟨rfl, rfl⟩ (va_recv hK hP (ci := 10) (q0 := 0) rfl rfl) hP hD (all_F hS hA hD) rfl hl.1 rfl (Nat.le_of_ble_eq_true rfl) dX11_randomChecks_82 ⟨Nat.zero_le _, Nat.zero_le _⟩) hS (all_F hS hA hD) rfl (fun H locs hP hD hS => ?_)
      refine lv_if_eq (tgt := 91) hx hb dX11_randomChecks_85 (by decide) (fun q85 => ?_) (fun q85 => ?_)
      · have h := ifT h q85
        obtain ⟨t91, et91⟩ : ∃ y : Int32, y = v7 + (1 : Int32) := ⟨_, rfl⟩
        refine lv_iinc (v := t91) (lv' := [(7, .int t91), (8, .int t48), (4, .long t40), (0, .ref aX), (3, .int x3), (6, .int v6)]) hx hb dX11_randomChecks_91 hl (k := 5) rfl (by rw [et91]; rfl) (by decide) rfl (fun ls hl => ?_)
        have h := st_to h et91
        refine lv_goto (tgt := 24) hx hb dX11_randomChecks_94 (by decide) ?_
        exact ih24 A_letters_82 A_lengths_82 t40 v6 t91 ls H locs (lv_sub hl [3, 4, 2, 5, 0] rfl) hP hD hS h
      have h := ifF h q85
      obtain ⟨t88, et88⟩ : ∃ y : Int32, y = v6 + (1 : Int32) := ⟨_, rfl⟩
      refine lv_iinc (v := t88) (lv' := [(6, .int t88), (8, .int t48), (4, .long t40), (0, .ref aX), (3, .int x3), (7, .int v7)]) hx hb dX11_randomChecks_88 hl (k := 4) rfl (by rw [et88]; rfl) (by decide) rfl (fun ls hl => ?_)
      have h := st_to h et88
      obtain ⟨t91, et91⟩ : ∃ y : Int32, y = v7 + (1 : Int32) := ⟨_, rfl⟩
      refine lv_iinc (v := t91) (lv' := [(7, .int t91), (6, .int t88), (8, .int t48), (4, .long t40), (0, .ref aX), (3, .int x3)]) hx hb dX11_randomChecks_91 hl (k := 5) rfl (by rw [et91]; rfl) (by decide) rfl (fun ls hl => ?_)
      have h := st_to h et91
      refine lv_goto (tgt := 24) hx hb dX11_randomChecks_94 (by decide) ?_
      exact ih24 A_letters_82 A_lengths_82 t40 t88 t91 ls H locs (lv_sub hl [4, 5, 3, 1, 0] rfl) hP hD hS h
  have hl : lv_has ls 9 [(0, .ref aX), (1, .long x1), (3, .int x3)] := hl
  obtain ⟨H, hH⟩ : ∃ H, H = s.heap := ⟨_, rfl⟩
  obtain ⟨locs, hlocs⟩ : ∃ l : List Loc, l = [] := ⟨_, rfl⟩
  rw [show W p l e rmX11_randomChecks s m ([.ref aX, .long x1, .int x3] : List Value).toArray below meth c s.heap [] 0 0 QQ (F0 m 0 ls []) = W p l e rmX11_randomChecks s m ([.ref aX, .long x1, .int x3] : List Value).toArray below meth c H locs 0 0 QQ (F0 m 0 ls []) by rw [hH, hlocs]]
  have hP : va_P g.1 vwCl (wX11 g aX aT aT_characters aE aH aH_lefts aH_rights aS aS_lefts aS_rights aS_filled aA aA_letters aA_lengths aK aB aB_first aQ aQ_weights aQ_possible aC aC_variables aC_relations aC_numbers aA2 aA2_letters aA2_lengths aN aN_lefts aN_rights aN_parents aN_rules aN_depths aE2 T_size T_characters E_left E_right H_size H_lefts H_rights S_lefts S_rights S_filled A_letters A_lengths B_left B_right B_found B_least B_first Q_letterSurplus Q_weights Q_possible C_size C_variables C_relations C_numbers A2_letters A2_lengths N_size N_solved N_dropped N_lefts N_rights N_parents N_rules N_depths E2_left E2_right) H := by rw [hH]; exact hP
  have hD : va_D A (wX11 g aX aT aT_characters aE aH aH_lefts aH_rights aS aS_lefts aS_rights aS_filled aA aA_letters aA_lengths aK aB aB_first aQ aQ_weights aQ_possible aC aC_variables aC_relations aC_numbers aA2 aA2_letters aA2_lengths aN aN_lefts aN_rights aN_parents aN_rules aN_depths aE2 T_size T_characters E_left E_right H_size H_lefts H_rights S_lefts S_rights S_filled A_letters A_lengths B_left B_right B_found B_least B_first Q_letterSurplus Q_weights Q_possible C_size C_variables C_relations C_numbers A2_letters A2_lengths N_size N_solved N_dropped N_lefts N_rights N_parents N_rules N_depths E2_left E2_right) := hD
  have hS : va_S A s.heap H locs := by rw [hH, hlocs]; exact hS
  clear hH hlocs
  refine lv_iload_n hx hb dX11_randomChecks_0 rfl (lv_at hl 2 rfl) ?_
  refine lv_iconst (v := (1 : Int32)) hx hb dX11_randomChecks_1 (by decide) ?_
  refine lv_icmp_lt (tgt := 12) hx hb dX11_randomChecks_2 (by decide) (fun q2 => ?_) (fun q2 => ?_)
  · have h := ifT h q2
    refine lv_bipush (v := ((-2) : Int32)) hx hb dX11_randomChecks_12 (by decide) ?_
    have h : some (((-2) : Int32), A_letters, A_lengths) = some (r, A_letters_o, A_lengths_o) := h
    cases h
    exact hret _ _ _ _ hP hD hS dX11_randomChecks_14
  have h := ifF h q2
  refine lv_iload_n hx hb dX11_randomChecks_5 rfl (lv_at hl 2 rfl) ?_
  refine lv_sipush (v := (200 : Int32)) hx hb dX11_randomChecks_6 (by decide) ?_
  refine lv_icmp_le (tgt := 15) hx hb dX11_randomChecks_9 (by decide) (fun q9 => ?_) (fun q9 => ?_)
  · have h := ifT h q9
    refine lv_lload_n hx hb dX11_randomChecks_15 rfl (lv_at hl 1 rfl) ?_
    refine lv_lstore (lv' := [(4, .long x1), (0, .ref aX), (1, .long x1), (3, .int x3)]) hx hb dX11_randomChecks_16 hl (by decide) rfl (fun ls hl => ?_)
    refine lv_iconst (v := (0 : Int32)) hx hb dX11_randomChecks_18 (by decide) ?_
    refine lv_istore (lv' := [(6, .int (0 : Int32)), (4, .long x1), (0, .ref aX), (1, .long x1), (3, .int x3)]) hx hb dX11_randomChecks_19 hl (by decide) rfl (fun ls hl => ?_)
    refine lv_iconst (v := (0 : Int32)) hx hb dX11_randomChecks_21 (by decide) ?_
    refine lv_istore (lv' := [(7, .int (0 : Int32)), (6, .int (0 : Int32)), (4, .long x1), (0, .ref aX), (1, .long x1), (3, .int x3)]) hx hb dX11_randomChecks_22 hl (by decide) rfl (fun ls hl => ?_)
    exact L24 FU A_letters A_lengths x1 (0 : Int32) (0 : Int32) ls H locs (lv_sub hl [3, 5, 2, 1, 0] rfl) hP hD hS h
  have h := ifF h q9
  refine lv_bipush (v := ((-2) : Int32)) hx hb dX11_randomChecks_12 (by decide) ?_
  have h : some (((-2) : Int32), A_letters, A_lengths) = some (r, A_letters_o, A_lengths_o) := h
  cases h
  exact hret _ _ _ _ hP hD hS dX11_randomChecks_14
set_option maxHeartbeats 4000000 in
set_option maxRecDepth 100000 in
theorem mX10_has (g : GP) (l : Launch)  (x0 : Int32) (r : Int32) (h : fS_has x0 = some r) : Ct g l yX10_has cX10_has 1 (some .boolean) rmX10_has [.int x0] [] (some (.int r)) [] := by
  refine Ct.introZ (by decide) (Nat.le_of_ble_eq_true rfl) ?_
  intro p e s m below meth c A QQ ls hyp hret
  obtain ⟨hx, hb, hml, hts, hown, hA, hE, hP, hD, hl⟩ := hyp
  have hK := hE.1
  have hS : va_S A s.heap s.heap [] := va_S.rf
  have X : Here g p s m c cX10_has 1 ([.int x0] : List Value).toArray RX10 A := ⟨⟨hx, hb, hml, hown, hts⟩, hE, hA⟩
  have hl : lv_has ls 1 [(0, .int x0)] := hl
  obtain ⟨H, hH⟩ : ∃ H, H = s.heap := ⟨_, rfl⟩
  obtain ⟨locs, hlocs⟩ : ∃ l : List Loc, l = [] := ⟨_, rfl⟩
  rw [show W p l e rmX10_has s m ([.int x0] : List Value).toArray below meth c s.heap [] 0 0 QQ (F0 m 0 ls []) = W p l e rmX10_has s m ([.int x0] : List Value).toArray below meth c H locs 0 0 QQ (F0 m 0 ls []) by rw [hH, hlocs]]
  have hP : va_P g.1 vwCl [] H := by rw [hH]; exact hP
  have hD : va_D A [] := hD
  have hS : va_S A s.heap H locs := by rw [hH, hlocs]; exact hS
  clear hH hlocs
  refine lv_iload_n hx hb dX10_has_0 rfl (lv_at hl 0 rfl) ?_
  refine lv_if_lt (tgt := 13) hx hb dX10_has_1 (by decide) (fun q1 => ?_) (fun q1 => ?_)
  · have h := ifT h q1
    refine lv_iconst (v := (0 : Int32)) hx hb dX10_has_13 (by decide) ?_
    have h : some (0 : Int32) = some r := h
    cases h
    exact hret _ _ _ _ rfl hP hD hS dX10_has_14
  have h := ifF h q1
  refine lv_iload_n hx hb dX10_has_4 rfl (lv_at hl 0 rfl) ?_
  refine lv_iconst (v := (2 : Int32)) hx hb dX10_has_5 (by decide) ?_
  refine lv_icmp_ge (tgt := 13) hx hb dX10_has_6 (by decide) (fun q6 => ?_) (fun q6 => ?_)
  · have h := ifT h q6
    refine lv_iconst (v := (0 : Int32)) hx hb dX10_has_13 (by decide) ?_
    have h : some (0 : Int32) = some r := h
    cases h
    exact hret _ _ _ _ rfl hP hD hS dX10_has_14
  have h := ifF h q6
  refine lv_iconst (v := (1 : Int32)) hx hb dX10_has_9 (by decide) ?_
  refine lv_goto (tgt := 14) hx hb dX10_has_10 (by decide) ?_
  have h : some (1 : Int32) = some r := h
  cases h
  exact hret _ _ _ _ rfl hP hD hS dX10_has_14
set_option maxHeartbeats 4000000 in
set_option maxRecDepth 100000 in
theorem mX10_store (g : GP) (l : Launch) (aS aS_lefts aS_rights aS_filled aE : Nat) (S_lefts : Nat → Int64) (S_rights : Nat → Int64) (S_filled : Nat → Int32) (E_left : Int64) (E_right : Int64) (x1 : Int32) (S_lefts_o : Nat → Int64) (S_rights_o : Nat → Int64) (S_filled_o : Nat → Int32) (h : fS_store S_lefts S_rights S_filled E_left E_right x1 = some (S_lefts_o, S_rights_o, S_filled_o)) : Ct g l yX10_store cX10_store 3 none rmX10_store [.ref aS, .int x1, .ref aE] ((wX10 g aS aS_lefts aS_rights aS_filled S_lefts S_rights S_filled) ++ (wX2 g aE E_left E_right)) none ((wX10 g aS aS_lefts aS_rights aS_filled S_lefts_o S_rights_o S_filled_o) ++ (wX2 g aE E_left E_right)) := by
  refine Ct.introV (by decide) (Nat.le_of_ble_eq_true rfl) ?_
  intro p e s m below meth c A QQ ls hyp hret
  obtain ⟨hx, hb, hml, hts, hown, hA, hE, hP, hD, hl⟩ := hyp
  have hK := hE.1
  have hS : va_S A s.heap s.heap [] := va_S.rf
  have X : Here g p s m c cX10_store 3 ([.ref aS, .int x1, .ref aE] : List Value).toArray RX10 A := ⟨⟨hx, hb, hml, hown, hts⟩, hE, hA⟩
  have hl : lv_has ls 3 [(0, .ref aS), (1, .int x1), (2, .ref aE)] := hl
  obtain ⟨H, hH⟩ : ∃ H, H = s.heap := ⟨_, rfl⟩
  obtain ⟨locs, hlocs⟩ : ∃ l : List Loc, l = [] := ⟨_, rfl⟩
  rw [show W p l e rmX10_store s m ([.ref aS, .int x1, .ref aE] : List Value).toArray below meth c s.heap [] 0 0 QQ (F0 m 0 ls []) = W p l e rmX10_store s m ([.ref aS, .int x1, .ref aE] : List Value).toArray below meth c H locs 0 0 QQ (F0 m 0 ls []) by rw [hH, hlocs]]
  have hP : va_P g.1 vwCl ((wX10 g aS aS_lefts aS_rights aS_filled S_lefts S_rights S_filled) ++ (wX2 g aE E_left E_right)) H := by rw [hH]; exact hP
  have hD : va_D A ((wX10 g aS aS_lefts aS_rights aS_filled S_lefts S_rights S_filled) ++ (wX2 g aE E_left E_right)) := hD
  have hS : va_S A s.heap H locs := by rw [hH, hlocs]; exact hS
  clear hH hlocs
  refine lv_iload_n hx hb dX10_store_0 rfl (lv_at hl 1 rfl) ?_
  obtain ⟨t1, hc1, h⟩ := bd1_to h
  refine go_0 (st1 := [.int t1]) (run_S (As := [.int x1]) (rest := []) X hS (mX10_has g l  x1 t1 hc1) okX10_has wd4_176 ⟨Nat.le_of_ble_eq_true rfl, Nat.le_of_ble_eq_true rfl⟩ ⟨rfl, rfl⟩ nil_P nil_D (nil_F hS hA) rfl hl.1 rfl (Nat.le_of_ble_eq_true rfl) dX10_store_1 ⟨Nat.zero_le _, Nat.zero_le _⟩) hS hA hP rfl (fun H locs hP hS => ?_)
  refine lv_if_eq (tgt := 34) hx hb dX10_store_4 (by decide) (fun q4 => ?_) (fun q4 => ?_)
  · have h := ifT h q4
    have h : some (S_lefts, S_rights, S_filled) = some (S_lefts_o, S_rights_o, S_filled_o) := h
    cases h
    exact hret _ _ _ _ hP hD hS dX10_store_34
  have h := ifF h q4
  refine lv_aload_n hx hb dX10_store_7 rfl (lv_at hl 0 rfl) ?_
  refine va_get (D := g.1) (ci := 9) (v := .ref aS_lefts) (C := RX10) (T := TX10) (N := 3) hx hb hts inBX10 hown hK hP 0 rfl rfl 0 (by decide) (hts _ wd1_110) (fun _ h9 => h9) rfl dX10_store_8 ?_
  refine lv_iload_n hx hb dX10_store_11 rfl (lv_at hl 1 rfl) ?_
  refine lv_aload_n hx hb dX10_store_12 rfl (lv_at hl 2 rfl) ?_
  refine va_get (D := g.1) (ci := 2) (v := .long E_left) (C := RX2) (T := TX2) (N := 2) hx hb hts inBX2 hown hK hP 4 rfl rfl 0 (by decide) (hts _ wd1_53) (fun _ h9 => h9) rfl dX10_store_13 ?_
  have hin := stl_in h
  refine va_last hx hb hK hP hD hS 1 1 rfl rfl hin dX10_store_16 (fun H locs hP hD hS => ?_)
  obtain ⟨S_lefts_16, eS_lefts_16⟩ : ∃ y : Nat → Int64, y = vp_updL S_lefts (Int32.toNatClampNeg x1) E_left := ⟨_, rfl⟩
  have h := stl_to h eS_lefts_16
  have hP : va_P g.1 vwCl ((wX10 g aS aS_lefts aS_rights aS_filled S_lefts_16 S_rights S_filled) ++ (wX2 g aE E_left E_right)) H := by rw [eS_lefts_16]; exact hP
  have hD : va_D A ((wX10 g aS aS_lefts aS_rights aS_filled S_lefts_16 S_rights S_filled) ++ (wX2 g aE E_left E_right)) := by rw [eS_lefts_16]; exact hD
  refine lv_aload_n hx hb dX10_store_17 rfl (lv_at hl 0 rfl) ?_
  refine va_get (D := g.1) (ci := 9) (v := .ref aS_rights) (C := RX10) (T := TX10) (N := 3) hx hb hts inBX10 hown hK hP 0 rfl rfl 1 (by decide) (hts _ wd1_111) (fun _ h9 => h9) rfl dX10_store_18 ?_
  refine lv_iload_n hx hb dX10_store_21 rfl (lv_at hl 1 rfl) ?_
  refine lv_aload_n hx hb dX10_store_22 rfl (lv_at hl 2 rfl) ?_
  refine va_get (D := g.1) (ci := 2) (v := .long E_right) (C := RX2) (T := TX2) (N := 2) hx hb hts inBX2 hown hK hP 4 rfl rfl 1 (by decide) (hts _ wd1_60) (fun _ h9 => h9) rfl dX10_store_23 ?_
  have hin := stl_in h
  refine va_last hx hb hK hP hD hS 2 1 rfl rfl hin dX10_store_26 (fun H locs hP hD hS => ?_)
  obtain ⟨S_rights_26, eS_rights_26⟩ : ∃ y : Nat → Int64, y = vp_updL S_rights (Int32.toNatClampNeg x1) E_right := ⟨_, rfl⟩
  have h := stl_to h eS_rights_26
  have hP : va_P g.1 vwCl ((wX10 g aS aS_lefts aS_rights aS_filled S_lefts_16 S_rights_26 S_filled) ++ (wX2 g aE E_left E_right)) H := by rw [eS_rights_26]; exact hP
  have hD : va_D A ((wX10 g aS aS_lefts aS_rights aS_filled S_lefts_16 S_rights_26 S_filled) ++ (wX2 g aE E_left E_right)) := by rw [eS_rights_26]; exact hD
  refine lv_aload_n hx hb dX10_store_27 rfl (lv_at hl 0 rfl) ?_
  refine va_get (D := g.1) (ci := 9) (v := .ref aS_filled) (C := RX10) (T := TX10) (N := 3) hx hb hts inBX10 hown hK hP 0 rfl rfl 2 (by decide) (hts _ wd1_112) (fun _ h9 => h9) rfl dX10_store_28 ?_
  refine lv_iload_n hx hb dX10_store_31 rfl (lv_at hl 1 rfl) ?_
  refine lv_iconst (v := (1 : Int32)) hx hb dX10_store_32 (by decide) ?_
  have hin := sti_in h
  refine va_zast hx hb hK hP hD hS 3 3 rfl rfl hin dX10_store_33 (fun H locs hP hD hS => ?_)
  obtain ⟨S_filled_33, eS_filled_33⟩ : ∃ y : Nat → Int32, y = upd S_filled (Int32.toNatClampNeg x1) (vp_nar .boolean (1 : Int32)) := ⟨_, rfl⟩
  have h := sti_to h eS_filled_33
  have hP : va_P g.1 vwCl ((wX10 g aS aS_lefts aS_rights aS_filled S_lefts_16 S_rights_26 S_filled_33) ++ (wX2 g aE E_left E_right)) H := by rw [eS_filled_33]; exact hP
  have hD : va_D A ((wX10 g aS aS_lefts aS_rights aS_filled S_lefts_16 S_rights_26 S_filled_33) ++ (wX2 g aE E_left E_right)) := by rw [eS_filled_33]; exact hD
  have h : some (S_lefts_16, S_rights_26, S_filled_33) = some (S_lefts_o, S_rights_o, S_filled_o) := h
  cases h
  exact hret _ _ _ _ hP hD hS dX10_store_34
set_option maxHeartbeats 4000000 in
set_option maxRecDepth 100000 in
theorem mX11_save (g : GP) (l : Launch) (aX aT aT_characters aE aH aH_lefts aH_rights aS aS_lefts aS_rights aS_filled aA aA_letters aA_lengths aK aB aB_first aQ aQ_weights aQ_possible aC aC_variables aC_relations aC_numbers aA2 aA2_letters aA2_lengths aN aN_lefts aN_rights aN_parents aN_rules aN_depths aE2 : Nat) (T_size : Int32) (T_characters : Nat → Int32) (E_left : Int64) (E_right : Int64) (H_size : Int32) (H_lefts : Nat → Int64) (H_rights : Nat → Int64) (S_lefts : Nat → Int64) (S_rights : Nat → Int64) (S_filled : Nat → Int32) (A_letters : Nat → Int64) (A_lengths : Nat → Int32) (B_left : Int64) (B_right : Int64) (B_found : Int32) (B_least : Int32) (B_first : Nat → Int32) (Q_letterSurplus : Int32) (Q_weights : Nat → Int32) (Q_possible : Nat → Int32) (C_size : Int32) (C_variables : Nat → Int32) (C_relations : Nat → Int32) (C_numbers : Nat → Int32) (A2_letters : Nat → Int64) (A2_lengths : Nat → Int32) (N_size : Int32) (N_solved : Int32) (N_dropped : Int32) (N_lefts : Nat → Int64) (N_rights : Nat → Int64) (N_parents : Nat → Int32) (N_rules : Nat → Int32) (N_depths : Nat → Int32) (E2_left : Int64) (E2_right : Int64) (x1 : Int32) (r : Int32) (S_lefts_o : Nat → Int64) (S_rights_o : Nat → Int64) (S_filled_o : Nat → Int32) (h : fX_save E_left E_right S_lefts S_rights S_filled x1 = some (r, S_lefts_o, S_rights_o, S_filled_o)) : Ct g l yX11_save cX11_save 2 (some .int) rmX11_save [.ref aX, .int x1] (wX11 g aX aT aT_characters aE aH aH_lefts aH_rights aS aS_lefts aS_rights aS_filled aA aA_letters aA_lengths aK aB aB_first aQ aQ_weights aQ_possible aC aC_variables aC_relations aC_numbers aA2 aA2_letters aA2_lengths aN aN_lefts aN_rights aN_parents aN_rules aN_depths aE2 T_size T_characters E_left E_right H_size H_lefts H_rights S_lefts S_rights S_filled A_letters A_lengths B_left B_right B_found B_least B_first Q_letterSurplus Q_weights Q_possible C_size C_variables C_relations C_numbers A2_letters A2_lengths N_size N_solved N_dropped N_lefts N_rights N_parents N_rules N_depths E2_left E2_right) (some (.int r)) (wX11 g aX aT aT_characters aE aH aH_lefts aH_rights aS aS_lefts aS_rights aS_filled aA aA_letters aA_lengths aK aB aB_first aQ aQ_weights aQ_possible aC aC_variables aC_relations aC_numbers aA2 aA2_letters aA2_lengths aN aN_lefts aN_rights aN_parents aN_rules aN_depths aE2 T_size T_characters E_left E_right H_size H_lefts H_rights S_lefts_o S_rights_o S_filled_o A_letters A_lengths B_left B_right B_found B_least B_first Q_letterSurplus Q_weights Q_possible C_size C_variables C_relations C_numbers A2_letters A2_lengths N_size N_solved N_dropped N_lefts N_rights N_parents N_rules N_depths E2_left E2_right) := by
  refine Ct.introI (by decide) (Nat.le_of_ble_eq_true rfl) ?_
  intro p e s m below meth c A QQ ls hyp hret
  obtain ⟨hx, hb, hml, hts, hown, hA, hE, hP, hD, hl⟩ := hyp
  have hK := hE.1
  have hS : va_S A s.heap s.heap [] := va_S.rf
  have X : Here g p s m c cX11_save 2 ([.ref aX, .int x1] : List Value).toArray RX11 A := ⟨⟨hx, hb, hml, hown, hts⟩, hE, hA⟩
  have hl : lv_has ls 2 [(0, .ref aX), (1, .int x1)] := hl
  obtain ⟨H, hH⟩ : ∃ H, H = s.heap := ⟨_, rfl⟩
  obtain ⟨locs, hlocs⟩ : ∃ l : List Loc, l = [] := ⟨_, rfl⟩
  rw [show W p l e rmX11_save s m ([.ref aX, .int x1] : List Value).toArray below meth c s.heap [] 0 0 QQ (F0 m 0 ls []) = W p l e rmX11_save s m ([.ref aX, .int x1] : List Value).toArray below meth c H locs 0 0 QQ (F0 m 0 ls []) by rw [hH, hlocs]]
  have hP : va_P g.1 vwCl (wX11 g aX aT aT_characters aE aH aH_lefts aH_rights aS aS_lefts aS_rights aS_filled aA aA_letters aA_lengths aK aB aB_first aQ aQ_weights aQ_possible aC aC_variables aC_relations aC_numbers aA2 aA2_letters aA2_lengths aN aN_lefts aN_rights aN_parents aN_rules aN_depths aE2 T_size T_characters E_left E_right H_size H_lefts H_rights S_lefts S_rights S_filled A_letters A_lengths B_left B_right B_found B_least B_first Q_letterSurplus Q_weights Q_possible C_size C_variables C_relations C_numbers A2_letters A2_lengths N_size N_solved N_dropped N_lefts N_rights N_parents N_rules N_depths E2_left E2_right) H := by rw [hH]; exact hP
  have hD : va_D A (wX11 g aX aT aT_characters aE aH aH_lefts aH_rights aS aS_lefts aS_rights aS_filled aA aA_letters aA_lengths aK aB aB_first aQ aQ_weights aQ_possible aC aC_variables aC_relations aC_numbers aA2 aA2_letters aA2_lengths aN aN_lefts aN_rights aN_parents aN_rules aN_depths aE2 T_size T_characters E_left E_right H_size H_lefts H_rights S_lefts S_rights S_filled A_letters A_lengths B_left B_right B_found B_least B_first Q_letterSurplus Q_weights Q_possible C_size C_variables C_relations C_numbers A2_letters A2_lengths N_size N_solved N_dropped N_lefts N_rights N_parents N_rules N_depths E2_left E2_right) := hD
  have hS : va_S A s.heap H locs := by rw [hH, hlocs]; exact hS
  clear hH hlocs
  refine lv_iload_n hx hb dX11_save_0 rfl (lv_at hl 1 rfl) ?_
  obtain ⟨t1, hc1, h⟩ := bd1_to h
  refine go_0 (st1 := [.int t1]) (run_S (As := [.int x1]) (rest := []) X hS (mX10_has g l  x1 t1 hc1) okX10_has wd4_169 ⟨Nat.le_of_ble_eq_true rfl, Nat.le_of_ble_eq_true rfl⟩ ⟨rfl, rfl⟩ nil_P nil_D (nil_F hS hA) rfl hl.1 rfl (Nat.le_of_ble_eq_true rfl) dX11_save_1 ⟨Nat.zero_le _, Nat.zero_le _⟩) hS hA hP rfl (fun H locs hP hS => ?_)
  refine lv_if_ne (tgt := 9) hx hb dX11_save_4 (by decide) (fun q4 => ?_) (fun q4 => ?_)
  · have h := ifF h q4
    refine lv_aload_n hx hb dX11_save_9 rfl (lv_at hl 0 rfl) ?_
    refine va_get (D := g.1) (ci := 10) (v := .ref aS) (C := RX11) (T := TX11) (N := 10) hx hb hts inBX11 hown hK hP 0 rfl rfl 4 (by decide) (hts _ wd1_236) (fun _ h9 => h9) rfl dX11_save_10 ?_
    refine lv_iload_n hx hb dX11_save_13 rfl (lv_at hl 1 rfl) ?_
    refine lv_aload_n hx hb dX11_save_14 rfl (lv_at hl 0 rfl) ?_
    refine va_get (D := g.1) (ci := 10) (v := .ref aE) (C := RX11) (T := TX11) (N := 10) hx hb hts inBX11 hown hK hP 0 rfl rfl 1 (by decide) (hts _ wd1_233) (fun _ h9 => h9) rfl dX11_save_15 ?_
    obtain ⟨S_lefts_18, S_rights_18, S_filled_18, hc18, h⟩ := bd3_to h
    refine go_P (st1 := []) (W1 := (wX11 g aX aT aT_characters aE aH aH_lefts aH_rights aS aS_lefts aS_rights aS_filled aA aA_letters aA_lengths aK aB aB_first aQ aQ_weights aQ_possible aC aC_variables aC_relations aC_numbers aA2 aA2_letters aA2_lengths aN aN_lefts aN_rights aN_parents aN_rules aN_depths aE2 T_size T_characters E_left E_right H_size H_lefts H_rights S_lefts_18 S_rights_18 S_filled_18 A_letters A_lengths B_left B_right B_found B_least B_first Q_letterSurplus Q_weights Q_possible C_size C_variables C_relations C_numbers A2_letters A2_lengths N_size N_solved N_dropped N_lefts N_rights N_parents N_rules N_depths E2_left E2_right)) (run_V (As := [.int x1, .ref aE]) (rest := []) X hS (mX10_store g l  aS aS_lefts aS_rights aS_filled aE S_lefts S_rights S_filled E_left E_right x1 S_lefts_18 S_rights_18 S_filled_18 hc18) okX10_store wd4_172 ⟨Nat.le_of_ble_eq_true rfl, Nat.le_of_ble_eq_true rfl⟩ ⟨rfl, rfl⟩ (va_recv hK hP (ci := 9) (q0 := 7) rfl rfl) (sub_P hP [7, 8, 9, 10, 3] rfl) (hD.sub [7, 8, 9, 10, 3] (by decide) rfl) (va_free hD hS hA [7, 8, 9, 10, 3] rfl) rfl hl.1 rfl (Nat.le_of_ble_eq_true rfl) dX11_save_18 ⟨Nat.zero_le _, Nat.zero_le _⟩) hS (va_free hD hS hA [7, 8, 9, 10, 3] rfl) hP hD [7, 8, 9, 10, 3] [0, 1, 2, 4, 5, 6, 11, 12, 13, 14, 15, 16, 17, 18, 19, 20, 21, 22, 23, 24, 25, 26, 27, 28, 29, 30, 31, 32, 33] [0, 1, 2, 33, 3, 4, 5, 29, 30, 31, 32, 6, 7, 8, 9, 10, 11, 12, 13, 14, 15, 16, 17, 18, 19, 20, 21, 22, 23, 24, 25, 26, 27, 28] rfl rfl (by decide) (by decide) rfl (by decide) rfl (fun H locs hP hD hS => ?_)
    refine lv_aload_n hx hb dX11_save_21 rfl (lv_at hl 0 rfl) ?_
    refine va_get (D := g.1) (ci := 10) (v := .ref aE) (C := RX11) (T := TX11) (N := 10) hx hb hts inBX11 hown hK hP 0 rfl rfl 1 (by decide) (hts _ wd1_233) (fun _ h9 => h9) rfl dX11_save_22 ?_
    obtain ⟨t25, hc25, h⟩ := bd1_to h
    refine go_P (st1 := [.int t25]) (W1 := (wX11 g aX aT aT_characters aE aH aH_lefts aH_rights aS aS_lefts aS_rights aS_filled aA aA_letters aA_lengths aK aB aB_first aQ aQ_weights aQ_possible aC aC_variables aC_relations aC_numbers aA2 aA2_letters aA2_lengths aN aN_lefts aN_rights aN_parents aN_rules aN_depths aE2 T_size T_characters E_left E_right H_size H_lefts H_rights S_lefts_18 S_rights_18 S_filled_18 A_letters A_lengths B_left B_right B_found B_least B_first Q_letterSurplus Q_weights Q_possible C_size C_variables C_relations C_numbers A2_letters A2_lengths N_size N_solved N_dropped N_lefts N_rights N_parents N_rules N_depths E2_left E2_right)) (run_V (As := []) (rest := []) X hS (mX2_size g l  aE E_left E_right t25 hc25) okX2_size wd3_48 ⟨Nat.le_of_ble_eq_true rfl, Nat.le_of_ble_eq_true rfl⟩ ⟨rfl, rfl⟩ (va_recv hK hP (ci := 2) (q0 := 3) rfl rfl) (sub_P hP [3] rfl) (hD.sub [3] (by decide) rfl) (va_free hD hS hA [3] rfl) rfl hl.1 rfl (Nat.le_of_ble_eq_true rfl) dX11_save_25 ⟨Nat.zero_le _, Nat.zero_le _⟩) hS (va_free hD hS hA [3] rfl) hP hD [3] [0, 1, 2, 4, 5, 6, 7, 8, 9, 10, 11, 12, 13, 14, 15, 16, 17, 18, 19, 20, 21, 22, 23, 24, 25, 26, 27, 28, 29, 30, 31, 32, 33] [0, 1, 2, 33, 3, 4, 5, 6, 7, 8, 9, 10, 11, 12, 13, 14, 15, 16, 17, 18, 19, 20, 21, 22, 23, 24, 25, 26, 27, 28, 29, 30, 31, 32] rfl rfl (by decide) (by decide) rfl (by decide) rfl (fun H locs hP hD hS => ?_)
    have h : some (t25, S_lefts_18, S_rights_18, S_filled_18) = some (r, S_lefts_o, S_rights_o, S_filled_o) := h
    cases h
    exact hret _ _ _ _ hP hD hS dX11_save_28
  have h := ifT h q4
  refine lv_iconst (v := ((-1) : Int32)) hx hb dX11_save_7 (by decide) ?_
  have h : some (((-1) : Int32), S_lefts, S_rights, S_filled) = some (r, S_lefts_o, S_rights_o, S_filled_o) := h
  cases h
  exact hret _ _ _ _ hP hD hS dX11_save_8
set_option maxHeartbeats 4000000 in
set_option maxRecDepth 100000 in
theorem mX10_isFilled (g : GP) (l : Launch) (aS aS_lefts aS_rights aS_filled : Nat) (S_lefts : Nat → Int64) (S_rights : Nat → Int64) (S_filled : Nat → Int32) (x1 : Int32) (r : Int32) (h : fS_isFilled S_filled x1 = some r) : Ct g l yX10_isFilled cX10_isFilled 2 (some .boolean) rmX10_isFilled [.ref aS, .int x1] (wX10 g aS aS_lefts aS_rights aS_filled S_lefts S_rights S_filled) (some (.int r)) (wX10 g aS aS_lefts aS_rights aS_filled S_lefts S_rights S_filled) := by
  refine Ct.introZ (by decide) (Nat.le_of_ble_eq_true rfl) ?_
  intro p e s m below meth c A QQ ls hyp hret
  obtain ⟨hx, hb, hml, hts, hown, hA, hE, hP, hD, hl⟩ := hyp
  have hK := hE.1
  have hS : va_S A s.heap s.heap [] := va_S.rf
  have X : Here g p s m c cX10_isFilled 2 ([.ref aS, .int x1] : List Value).toArray RX10 A := ⟨⟨hx, hb, hml, hown, hts⟩, hE, hA⟩
  have hl : lv_has ls 2 [(0, .ref aS), (1, .int x1)] := hl
  obtain ⟨H, hH⟩ : ∃ H, H = s.heap := ⟨_, rfl⟩
  obtain ⟨locs, hlocs⟩ : ∃ l : List Loc, l = [] := ⟨_, rfl⟩
  rw [show W p l e rmX10_isFilled s m ([.ref aS, .int x1] : List Value).toArray below meth c s.heap [] 0 0 QQ (F0 m 0 ls []) = W p l e rmX10_isFilled s m ([.ref aS, .int x1] : List Value).toArray below meth c H locs 0 0 QQ (F0 m 0 ls []) by rw [hH, hlocs]]
  have hP : va_P g.1 vwCl (wX10 g aS aS_lefts aS_rights aS_filled S_lefts S_rights S_filled) H := by rw [hH]; exact hP
  have hD : va_D A (wX10 g aS aS_lefts aS_rights aS_filled S_lefts S_rights S_filled) := hD
  have hS : va_S A s.heap H locs := by rw [hH, hlocs]; exact hS
  clear hH hlocs
  refine lv_iload_n hx hb dX10_isFilled_0 rfl (lv_at hl 1 rfl) ?_
  obtain ⟨t1, hc1, h⟩ := bd1_to h
  refine go_0 (st1 := [.int t1]) (run_S (As := [.int x1]) (rest := []) X hS (mX10_has g l  x1 t1 hc1) okX10_has wd4_176 ⟨Nat.le_of_ble_eq_true rfl, Nat.le_of_ble_eq_true rfl⟩ ⟨rfl, rfl⟩ nil_P nil_D (nil_F hS hA) rfl hl.1 rfl (Nat.le_of_ble_eq_true rfl) dX10_isFilled_1 ⟨Nat.zero_le _, Nat.zero_le _⟩) hS hA hP rfl (fun H locs hP hS => ?_)
  refine lv_if_eq (tgt := 20) hx hb dX10_isFilled_4 (by decide) (fun q4 => ?_) (fun q4 => ?_)
  · have h := ifT h q4
    refine lv_iconst (v := (0 : Int32)) hx hb dX10_isFilled_20 (by decide) ?_
    have h : some (0 : Int32) = some r := h
    cases h
    exact hret _ _ _ _ rfl hP hD hS dX10_isFilled_21
  have h := ifF h q4
  refine lv_aload_n hx hb dX10_isFilled_7 rfl (lv_at hl 0 rfl) ?_
  refine va_get (D := g.1) (ci := 9) (v := .ref aS_filled) (C := RX10) (T := TX10) (N := 3) hx hb hts inBX10 hown hK hP 0 rfl rfl 2 (by decide) (hts _ wd1_112) (fun _ h9 => h9) rfl dX10_isFilled_8 ?_
  refine lv_iload_n hx hb dX10_isFilled_11 rfl (lv_at hl 1 rfl) ?_
  have hin := ld_in h
  refine va_zald hx hb hK hP 3 3 rfl rfl hin dX10_isFilled_12 ?_
  refine lv_topi (fun t12 et12 => ?_)
  have h := ld_to h et12
  refine lv_if_eq (tgt := 20) hx hb dX10_isFilled_13 (by decide) (fun q13 => ?_) (fun q13 => ?_)
  · have h := ifT h q13
    refine lv_iconst (v := (0 : Int32)) hx hb dX10_isFilled_20 (by decide) ?_
    have h : some (0 : Int32) = some r := h
    cases h
    exact hret _ _ _ _ rfl hP hD hS dX10_isFilled_21
  have h := ifF h q13
  refine lv_iconst (v := (1 : Int32)) hx hb dX10_isFilled_16 (by decide) ?_
  refine lv_goto (tgt := 21) hx hb dX10_isFilled_17 (by decide) ?_
  have h : some (1 : Int32) = some r := h
  cases h
  exact hret _ _ _ _ rfl hP hD hS dX10_isFilled_21
set_option maxHeartbeats 4000000 in
set_option maxRecDepth 100000 in
theorem mX10_fetch (g : GP) (l : Launch) (aS aS_lefts aS_rights aS_filled aE : Nat) (S_lefts : Nat → Int64) (S_rights : Nat → Int64) (S_filled : Nat → Int32) (E_left : Int64) (E_right : Int64) (x1 : Int32) (E_left_o : Int64) (E_right_o : Int64) (h : fS_fetch S_lefts S_rights E_left E_right x1 = some (E_left_o, E_right_o)) : Ct g l yX10_fetch cX10_fetch 3 none rmX10_fetch [.ref aS, .int x1, .ref aE] ((wX10 g aS aS_lefts aS_rights aS_filled S_lefts S_rights S_filled) ++ (wX2 g aE E_left E_right)) none ((wX10 g aS aS_lefts aS_rights aS_filled S_lefts S_rights S_filled) ++ (wX2 g aE E_left_o E_right_o)) := by
  refine Ct.introV (by decide) (Nat.le_of_ble_eq_true rfl) ?_
  intro p e s m below meth c A QQ ls hyp hret
  obtain ⟨hx, hb, hml, hts, hown, hA, hE, hP, hD, hl⟩ := hyp
  have hK := hE.1
  have hS : va_S A s.heap s.heap [] := va_S.rf
  have X : Here g p s m c cX10_fetch 3 ([.ref aS, .int x1, .ref aE] : List Value).toArray RX10 A := ⟨⟨hx, hb, hml, hown, hts⟩, hE, hA⟩
  have hl : lv_has ls 3 [(0, .ref aS), (1, .int x1), (2, .ref aE)] := hl
  obtain ⟨H, hH⟩ : ∃ H, H = s.heap := ⟨_, rfl⟩
  obtain ⟨locs, hlocs⟩ : ∃ l : List Loc, l = [] := ⟨_, rfl⟩
  rw [show W p l e rmX10_fetch s m ([.ref aS, .int x1, .ref aE] : List Value).toArray below meth c s.heap [] 0 0 QQ (F0 m 0 ls []) = W p l e rmX10_fetch s m ([.ref aS, .int x1, .ref aE] : List Value).toArray below meth c H locs 0 0 QQ (F0 m 0 ls []) by rw [hH, hlocs]]
  have hP : va_P g.1 vwCl ((wX10 g aS aS_lefts aS_rights aS_filled S_lefts S_rights S_filled) ++ (wX2 g aE E_left E_right)) H := by rw [hH]; exact hP
  have hD : va_D A ((wX10 g aS aS_lefts aS_rights aS_filled S_lefts S_rights S_filled) ++ (wX2 g aE E_left E_right)) := hD
  have hS : va_S A s.heap H locs := by rw [hH, hlocs]; exact hS
  clear hH hlocs
  refine lv_iload_n hx hb dX10_fetch_0 rfl (lv_at hl 1 rfl) ?_
  obtain ⟨t1, hc1, h⟩ := bd1_to h
  refine go_0 (st1 := [.int t1]) (run_S (As := [.int x1]) (rest := []) X hS (mX10_has g l  x1 t1 hc1) okX10_has wd4_176 ⟨Nat.le_of_ble_eq_true rfl, Nat.le_of_ble_eq_true rfl⟩ ⟨rfl, rfl⟩ nil_P nil_D (nil_F hS hA) rfl hl.1 rfl (Nat.le_of_ble_eq_true rfl) dX10_fetch_1 ⟨Nat.zero_le _, Nat.zero_le _⟩) hS hA hP rfl (fun H locs hP hS => ?_)
  refine lv_if_eq (tgt := 23) hx hb dX10_fetch_4 (by decide) (fun q4 => ?_) (fun q4 => ?_)
  · have h := ifT h q4
    have h : some (E_left, E_right) = some (E_left_o, E_right_o) := h
    cases h
    exact hret _ _ _ _ hP hD hS dX10_fetch_23
  have h := ifF h q4
  refine lv_aload_n hx hb dX10_fetch_7 rfl (lv_at hl 2 rfl) ?_
  refine lv_aload_n hx hb dX10_fetch_8 rfl (lv_at hl 0 rfl) ?_
  refine va_get (D := g.1) (ci := 9) (v := .ref aS_lefts) (C := RX10) (T := TX10) (N := 3) hx hb hts inBX10 hown hK hP 0 rfl rfl 0 (by decide) (hts _ wd1_110) (fun _ h9 => h9) rfl dX10_fetch_9 ?_
  refine lv_iload_n hx hb dX10_fetch_12 rfl (lv_at hl 1 rfl) ?_
  have hin := ld_in h
  refine va_lald hx hb hK hP 1 1 rfl rfl hin dX10_fetch_13 ?_
  refine lv_topl (fun t13 et13 => ?_)
  have h := ld_to h et13
  refine lv_aload_n hx hb dX10_fetch_14 rfl (lv_at hl 0 rfl) ?_
  refine va_get (D := g.1) (ci := 9) (v := .ref aS_rights) (C := RX10) (T := TX10) (N := 3) hx hb hts inBX10 hown hK hP 0 rfl rfl 1 (by decide) (hts _ wd1_111) (fun _ h9 => h9) rfl dX10_fetch_15 ?_
  refine lv_iload_n hx hb dX10_fetch_18 rfl (lv_at hl 1 rfl) ?_
  have hin := ld_in h
  refine va_lald hx hb hK hP 2 1 rfl rfl hin dX10_fetch_19 ?_
  refine lv_topl (fun t19 et19 => ?_)
  have h := ld_to h et19
  obtain ⟨E_left_20, E_right_20, hc20, h⟩ := bd2_to h
  refine go_P (st1 := []) (W1 := ((wX10 g aS aS_lefts aS_rights aS_filled S_lefts S_rights S_filled) ++ (wX2 g aE E_left_20 E_right_20))) (run_V (As := [.long t13, .long t19]) (rest := []) X hS (mX2_set g l  aE E_left E_right t13 t19 E_left_20 E_right_20 hc20) okX2_set wd4_189 ⟨Nat.le_of_ble_eq_true rfl, Nat.le_of_ble_eq_true rfl⟩ ⟨rfl, rfl⟩ (va_recv hK hP (ci := 2) (q0 := 4) rfl rfl) (sub_P hP [4] rfl) (hD.sub [4] (by decide) rfl) (va_free hD hS hA [4] rfl) rfl hl.1 rfl (Nat.le_of_ble_eq_true rfl) dX10_fetch_20 ⟨Nat.zero_le _, Nat.zero_le _⟩) hS (va_free hD hS hA [4] rfl) hP hD [4] [0, 1, 2, 3] [0, 1, 2, 3, 4] rfl rfl (by decide) (by decide) rfl (by decide) rfl (fun H locs hP hD hS => ?_)
  have h : some (E_left_20, E_right_20) = some (E_left_o, E_right_o) := h
  cases h
  exact hret _ _ _ _ hP hD hS dX10_fetch_23
set_option maxHeartbeats 4000000 in
set_option maxRecDepth 100000 in
theorem mX11_restore (g : GP) (l : Launch) (aX aT aT_characters aE aH aH_lefts aH_rights aS aS_lefts aS_rights aS_filled aA aA_letters aA_lengths aK aB aB_first aQ aQ_weights aQ_possible aC aC_variables aC_relations aC_numbers aA2 aA2_letters aA2_lengths aN aN_lefts aN_rights aN_parents aN_rules aN_depths aE2 : Nat) (T_size : Int32) (T_characters : Nat → Int32) (E_left : Int64) (E_right : Int64) (H_size : Int32) (H_lefts : Nat → Int64) (H_rights : Nat → Int64) (S_lefts : Nat → Int64) (S_rights : Nat → Int64) (S_filled : Nat → Int32) (A_letters : Nat → Int64) (A_lengths : Nat → Int32) (B_left : Int64) (B_right : Int64) (B_found : Int32) (B_least : Int32) (B_first : Nat → Int32) (Q_letterSurplus : Int32) (Q_weights : Nat → Int32) (Q_possible : Nat → Int32) (C_size : Int32) (C_variables : Nat → Int32) (C_relations : Nat → Int32) (C_numbers : Nat → Int32) (A2_letters : Nat → Int64) (A2_lengths : Nat → Int32) (N_size : Int32) (N_solved : Int32) (N_dropped : Int32) (N_lefts : Nat → Int64) (N_rights : Nat → Int64) (N_parents : Nat → Int32) (N_rules : Nat → Int32) (N_depths : Nat → Int32) (E2_left : Int64) (E2_right : Int64) (x1 : Int32) (r : Int32) (E_left_o : Int64) (E_right_o : Int64) (H_size_o : Int32) (h : fX_restore E_left E_right H_size S_lefts S_rights S_filled x1 = some (r, E_left_o, E_right_o, H_size_o)) : Ct g l yX11_restore cX11_restore 2 (some .int) rmX11_restore [.ref aX, .int x1] (wX11 g aX aT aT_characters aE aH aH_lefts aH_rights aS aS_lefts aS_rights aS_filled aA aA_letters aA_lengths aK aB aB_first aQ aQ_weights aQ_possible aC aC_variables aC_relations aC_numbers aA2 aA2_letters aA2_lengths aN aN_lefts aN_rights aN_parents aN_rules aN_depths aE2 T_size T_characters E_left E_right H_size H_lefts H_rights S_lefts S_rights S_filled A_letters A_lengths B_left B_right B_found B_least B_first Q_letterSurplus Q_weights Q_possible C_size C_variables C_relations C_numbers A2_letters A2_lengths N_size N_solved N_dropped N_lefts N_rights N_parents N_rules N_depths E2_left E2_right) (some (.int r)) (wX11 g aX aT aT_characters aE aH aH_lefts aH_rights aS aS_lefts aS_rights aS_filled aA aA_letters aA_lengths aK aB aB_first aQ aQ_weights aQ_possible aC aC_variables aC_relations aC_numbers aA2 aA2_letters aA2_lengths aN aN_lefts aN_rights aN_parents aN_rules aN_depths aE2 T_size T_characters E_left_o E_right_o H_size_o H_lefts H_rights S_lefts S_rights S_filled A_letters A_lengths B_left B_right B_found B_least B_first Q_letterSurplus Q_weights Q_possible C_size C_variables C_relations C_numbers A2_letters A2_lengths N_size N_solved N_dropped N_lefts N_rights N_parents N_rules N_depths E2_left E2_right) := by
  refine Ct.introI (by decide) (Nat.le_of_ble_eq_true rfl) ?_
  intro p e s m below meth c A QQ ls hyp hret
  obtain ⟨hx, hb, hml, hts, hown, hA, hE, hP, hD, hl⟩ := hyp
  have hK := hE.1
  have hS : va_S A s.heap s.heap [] := va_S.rf
  have X : Here g p s m c cX11_restore 2 ([.ref aX, .int x1] : List Value).toArray RX11 A := ⟨⟨hx, hb, hml, hown, hts⟩, hE, hA⟩
  have hl : lv_has ls 2 [(0, .ref aX), (1, .int x1)] := hl
  obtain ⟨H, hH⟩ : ∃ H, H = s.heap := ⟨_, rfl⟩
  obtain ⟨locs, hlocs⟩ : ∃ l : List Loc, l = [] := ⟨_, rfl⟩
  rw [show W p l e rmX11_restore s m ([.ref aX, .int x1] : List Value).toArray below meth c s.heap [] 0 0 QQ (F0 m 0 ls []) = W p l e rmX11_restore s m ([.ref aX, .int x1] : List Value).toArray below meth c H locs 0 0 QQ (F0 m 0 ls []) by rw [hH, hlocs]]
  have hP : va_P g.1 vwCl (wX11 g aX aT aT_characters aE aH aH_lefts aH_rights aS aS_lefts aS_rights aS_filled aA aA_letters aA_lengths aK aB aB_first aQ aQ_weights aQ_possible aC aC_variables aC_relations aC_numbers aA2 aA2_letters aA2_lengths aN aN_lefts aN_rights aN_parents aN_rules aN_depths aE2 T_size T_characters E_left E_right H_size H_lefts H_rights S_lefts S_rights S_filled A_letters A_lengths B_left B_right B_found B_least B_first Q_letterSurplus Q_weights Q_possible C_size C_variables C_relations C_numbers A2_letters A2_lengths N_size N_solved N_dropped N_lefts N_rights N_parents N_rules N_depths E2_left E2_right) H := by rw [hH]; exact hP
  have hD : va_D A (wX11 g aX aT aT_characters aE aH aH_lefts aH_rights aS aS_lefts aS_rights aS_filled aA aA_letters aA_lengths aK aB aB_first aQ aQ_weights aQ_possible aC aC_variables aC_relations aC_numbers aA2 aA2_letters aA2_lengths aN aN_lefts aN_rights aN_parents aN_rules aN_depths aE2 T_size T_characters E_left E_right H_size H_lefts H_rights S_lefts S_rights S_filled A_letters A_lengths B_left B_right B_found B_least B_first Q_letterSurplus Q_weights Q_possible C_size C_variables C_relations C_numbers A2_letters A2_lengths N_size N_solved N_dropped N_lefts N_rights N_parents N_rules N_depths E2_left E2_right) := hD
  have hS : va_S A s.heap H locs := by rw [hH, hlocs]; exact hS
  clear hH hlocs
  refine lv_iload_n hx hb dX11_restore_0 rfl (lv_at hl 1 rfl) ?_
  obtain ⟨t1, hc1, h⟩ := bd1_to h
  refine go_0 (st1 := [.int t1]) (run_S (As := [.int x1]) (rest := []) X hS (mX10_has g l  x1 t1 hc1) okX10_has wd4_169 ⟨Nat.le_of_ble_eq_true rfl, Nat.le_of_ble_eq_true rfl⟩ ⟨rfl, rfl⟩ nil_P nil_D (nil_F hS hA) rfl hl.1 rfl (Nat.le_of_ble_eq_true rfl) dX11_restore_1 ⟨Nat.zero_le _, Nat.zero_le _⟩) hS hA hP rfl (fun H locs hP hS => ?_)
  refine lv_if_ne (tgt := 9) hx hb dX11_restore_4 (by decide) (fun q4 => ?_) (fun q4 => ?_)
  · have h := ifF h q4
    refine lv_aload_n hx hb dX11_restore_9 rfl (lv_at hl 0 rfl) ?_
    refine va_get (D := g.1) (ci := 10) (v := .ref aS) (C := RX11) (T := TX11) (N := 10) hx hb hts inBX11 hown hK hP 0 rfl rfl 4 (by decide) (hts _ wd1_236) (fun _ h9 => h9) rfl dX11_restore_10 ?_
    refine lv_iload_n hx hb dX11_restore_13 rfl (lv_at hl 1 rfl) ?_
    obtain ⟨t14, hc14, h⟩ := bd1_to h
    refine go_P (st1 := [.int t14]) (W1 := (wX11 g aX aT aT_characters aE aH aH_lefts aH_rights aS aS_lefts aS_rights aS_filled aA aA_letters aA_lengths aK aB aB_first aQ aQ_weights aQ_possible aC aC_variables aC_relations aC_numbers aA2 aA2_letters aA2_lengths aN aN_lefts aN_rights aN_parents aN_rules aN_depths aE2 T_size T_characters E_left E_right H_size H_lefts H_rights S_lefts S_rights S_filled A_letters A_lengths B_left B_right B_found B_least B_first Q_letterSurplus Q_weights Q_possible C_size C_variables C_relations C_numbers A2_letters A2_lengths N_size N_solved N_dropped N_lefts N_rights N_parents N_rules N_depths E2_left E2_right)) (run_V (As := [.int x1]) (rest := []) X hS (mX10_isFilled g l  aS aS_lefts aS_rights aS_filled S_lefts S_rights S_filled x1 t14 hc14) okX10_isFilled wd4_181 ⟨Nat.le_of_ble_eq_true rfl, Nat.le_of_ble_eq_true rfl⟩ ⟨rfl, rfl⟩ (va_recv hK hP (ci := 9) (q0 := 7) rfl rfl) (sub_P hP [7, 8, 9, 10] rfl) (hD.sub [7, 8, 9, 10] (by decide) rfl) (va_free hD hS hA [7, 8, 9, 10] rfl) rfl hl.1 rfl (Nat.le_of_ble_eq_true rfl) dX11_restore_14 ⟨Nat.zero_le _, Nat.zero_le _⟩) hS (va_free hD hS hA [7, 8, 9, 10] rfl) hP hD [7, 8, 9, 10] [0, 1, 2, 3, 4, 5, 6, 11, 12, 13, 14, 15, 16, 17, 18, 19, 20, 21, 22, 23, 24, 25, 26, 27, 28, 29, 30, 31, 32, 33] [0, 1, 2, 3, 4, 5, 6, 30, 31, 32, 33, 7, 8, 9, 10, 11, 12, 13, 14, 15, 16, 17, 18, 19, 20, 21, 22, 23, 24, 25, 26, 27, 28, 29] rfl rfl (by decide) (by decide) rfl (by decide) rfl (fun H locs hP hD hS => ?_)
    refine lv_if_ne (tgt := 23) hx hb dX11_restore_17 (by decide) (fun q17 => ?_) (fun q17 => ?_)
    · have h := ifF h q17
      refine lv_aload_n hx hb dX11_restore_23 rfl (lv_at hl 0 rfl) ?_
      refine va_get (D := g.1) (ci := 10) (v := .ref aS) (C := RX11) (T := TX11) (N := 10) hx hb hts inBX11 hown hK hP 0 rfl rfl 4 (by decide) (hts _ wd1_236) (fun _ h9 => h9) rfl dX11_restore_24 ?_
      refine lv_iload_n hx hb dX11_restore_27 rfl (lv_at hl 1 rfl) ?_
      refine lv_aload_n hx hb dX11_restore_28 rfl (lv_at hl 0 rfl) ?_
      refine va_get (D := g.1) (ci := 10) (v := .ref aE) (C := RX11) (T := TX11) (N := 10) hx hb hts inBX11 hown hK hP 0 rfl rfl 1 (by decide) (hts _ wd1_233) (fun _ h9 => h9) rfl dX11_restore_29 ?_
      obtain ⟨E_left_32, E_right_32, hc32, h⟩ := bd2_to h
      refine go_P (st1 := []) (W1 := (wX11 g aX aT aT_characters aE aH aH_lefts aH_rights aS aS_lefts aS_rights aS_filled aA aA_letters aA_lengths aK aB aB_first aQ aQ_weights aQ_possible aC aC_variables aC_relations aC_numbers aA2 aA2_letters aA2_lengths aN aN_lefts aN_rights aN_parents aN_rules aN_depths aE2 T_size T_characters E_left_32 E_right_32 H_size H_lefts H_rights S_lefts S_rights S_filled A_letters A_lengths B_left B_right B_found B_least B_first Q_letterSurplus Q_weights Q_possible C_size C_variables C_relations C_numbers A2_letters A2_lengths N_size N_solved N_dropped N_lefts N_rights N_parents N_rules N_depths E2_left E2_right)) (run_V (As := [.int x1, .ref aE]) (rest := []) X hS (mX10_fetch g l  aS aS_lefts aS_rights aS_filled aE S_lefts S_rights S_filled E_left E_right x1 E_left_32 E_right_32 hc32) okX10_fetch wd4_185 ⟨Nat.le_of_ble_eq_true rfl, Nat.le_of_ble_eq_true rfl⟩ ⟨rfl, rfl⟩ (va_recv hK hP (ci := 9) (q0 := 7) rfl rfl) (sub_P hP [7, 8, 9, 10, 3] rfl) (hD.sub [7, 8, 9, 10, 3] (by decide) rfl) (va_free hD hS hA [7, 8, 9, 10, 3] rfl) rfl hl.1 rfl (Nat.le_of_ble_eq_true rfl) dX11_restore_32 ⟨Nat.zero_le _, Nat.zero_le _⟩) hS (va_free hD hS hA [7, 8, 9, 10, 3] rfl) hP hD [7, 8, 9, 10, 3] [0, 1, 2, 4, 5, 6, 11, 12, 13, 14, 15, 16, 17, 18, 19, 20, 21, 22, 23, 24, 25, 26, 27, 28, 29, 30, 31, 32, 33] [0, 1, 2, 33, 3, 4, 5, 29, 30, 31, 32, 6, 7, 8, 9, 10, 11, 12, 13, 14, 15, 16, 17, 18, 19, 20, 21, 22, 23, 24, 25, 26, 27, 28] rfl rfl (by decide) (by decide) rfl (by decide) rfl (fun H locs hP hD hS => ?_)
      refine lv_aload_n hx hb dX11_restore_35 rfl (lv_at hl 0 rfl) ?_
      refine va_get (D := g.1) (ci := 10) (v := .ref aH) (C := RX11) (T := TX11) (N := 10) hx hb hts inBX11 hown hK hP 0 rfl rfl 3 (by decide) (hts _ wd1_235) (fun _ h9 => h9) rfl dX11_restore_36 ?_
      obtain ⟨H_size_39, hc39, h⟩ := bd1_to h
      refine go_P (st1 := []) (W1 := (wX11 g aX aT aT_characters aE aH aH_lefts aH_rights aS aS_lefts aS_rights aS_filled aA aA_letters aA_lengths aK aB aB_first aQ aQ_weights aQ_possible aC aC_variables aC_relations aC_numbers aA2 aA2_letters aA2_lengths aN aN_lefts aN_rights aN_parents aN_rules aN_depths aE2 T_size T_characters E_left_32 E_right_32 H_size_39 H_lefts H_rights S_lefts S_rights S_filled A_letters A_lengths B_left B_right B_found B_least B_first Q_letterSurplus Q_weights Q_possible C_size C_variables C_relations C_numbers A2_letters A2_lengths N_size N_solved N_dropped N_lefts N_rights N_parents N_rules N_depths E2_left E2_right)) (run_V (As := []) (rest := []) X hS (mX4_forget g l  aH aH_lefts aH_rights H_size H_lefts H_rights H_size_39 hc39) okX4_forget wd2_187 ⟨Nat.le_of_ble_eq_true rfl, Nat.le_of_ble_eq_true rfl⟩ ⟨rfl, rfl⟩ (va_recv hK hP (ci := 4) (q0 := 4) rfl rfl) (sub_P hP [4, 5, 6] rfl) (hD.sub [4, 5, 6] (by decide) rfl) (va_free hD hS hA [4, 5, 6] rfl) rfl hl.1 rfl (Nat.le_of_ble_eq_true rfl) dX11_restore_39 ⟨Nat.zero_le _, Nat.zero_le _⟩) hS (va_free hD hS hA [4, 5, 6] rfl) hP hD [4, 5, 6] [0, 1, 2, 3, 7, 8, 9, 10, 11, 12, 13, 14, 15, 16, 17, 18, 19, 20, 21, 22, 23, 24, 25, 26, 27, 28, 29, 30, 31, 32, 33] [0, 1, 2, 3, 31, 32, 33, 4, 5, 6, 7, 8, 9, 10, 11, 12, 13, 14, 15, 16, 17, 18, 19, 20, 21, 22, 23, 24, 25, 26, 27, 28, 29, 30] rfl rfl (by decide) (by decide) rfl (by decide) rfl (fun H locs hP hD hS => ?_)
      refine lv_aload_n hx hb dX11_restore_42 rfl (lv_at hl 0 rfl) ?_
      refine va_get (D := g.1) (ci := 10) (v := .ref aE) (C := RX11) (T := TX11) (N := 10) hx hb hts inBX11 hown hK hP 0 rfl rfl 1 (by decide) (hts _ wd1_233) (fun _ h9 => h9) rfl dX11_restore_43 ?_
      obtain ⟨t46, hc46, h⟩ := bd1_to h
      refine go_P (st1 := [.int t46]) (W1 := (wX11 g aX aT aT_characters aE aH aH_lefts aH_rights aS aS_lefts aS_rights aS_filled aA aA_letters aA_lengths aK aB aB_first aQ aQ_weights aQ_possible aC aC_variables aC_relations aC_numbers aA2 aA2_letters aA2_lengths aN aN_lefts aN_rights aN_parents aN_rules aN_depths aE2 T_size T_characters E_left_32 E_right_32 H_size_39 H_lefts H_rights S_lefts S_rights S_filled A_letters A_lengths B_left B_right B_found B_least B_first Q_letterSurplus Q_weights Q_possible C_size C_variables C_relations C_numbers A2_letters A2_lengths N_size N_solved N_dropped N_lefts N_rights N_parents N_rules N_depths E2_left E2_right)) (run_V (As := []) (rest := []) X hS (mX2_size g l  aE E_left_32 E_right_32 t46 hc46) okX2_size wd3_48 ⟨Nat.le_of_ble_eq_true rfl, Nat.le_of_ble_eq_true rfl⟩ ⟨rfl, rfl⟩ (va_recv hK hP (ci := 2) (q0 := 3) rfl rfl) (sub_P hP [3] rfl) (hD.sub [3] (by decide) rfl) (va_free hD hS hA [3] rfl) rfl hl.1 rfl (Nat.le_of_ble_eq_true rfl) dX11_restore_46 ⟨Nat.zero_le _, Nat.zero_le _⟩) hS (va_free hD hS hA [3] rfl) hP hD [3] [0, 1, 2, 4, 5, 6, 7, 8, 9, 10, 11, 12, 13, 14, 15, 16, 17, 18, 19, 20, 21, 22, 23, 24, 25, 26, 27, 28, 29, 30, 31, 32, 33] [0, 1, 2, 33, 3, 4, 5, 6, 7, 8, 9, 10, 11, 12, 13, 14, 15, 16, 17, 18, 19, 20, 21, 22, 23, 24, 25, 26, 27, 28, 29, 30, 31, 32] rfl rfl (by decide) (by decide) rfl (by decide) rfl (fun H locs hP hD hS => ?_)
      have h : some (t46, E_left_32, E_right_32, H_size_39) = some (r, E_left_o, E_right_o, H_size_o) := h
      cases h
      exact hret _ _ _ _ hP hD hS dX11_restore_49
    have h := ifT h q17
    refine lv_bipush (v := ((-3) : Int32)) hx hb dX11_restore_20 (by decide) ?_
    have h : some (((-3) : Int32), E_left, E_right, H_size) = some (r, E_left_o, E_right_o, H_size_o) := h
    cases h
    exact hret _ _ _ _ hP hD hS dX11_restore_22
  have h := ifT h q4
  refine lv_iconst (v := ((-1) : Int32)) hx hb dX11_restore_7 (by decide) ?_
  have h : some (((-1) : Int32), E_left, E_right, H_size) = some (r, E_left_o, E_right_o, H_size_o) := h
  cases h
  exact hret _ _ _ _ hP hD hS dX11_restore_8
set_option maxHeartbeats 4000000 in
set_option maxRecDepth 100000 in
theorem mX12_in (g : GP) (l : Launch)  (x0 : Int64) (x2 : Int64) (x4 : Int64) (r : Int32) (h : fM_in x0 x2 x4 = some r) : Ct g l yX12_in cX12_in 6 (some .boolean) rmX12_in [.long x0, .long x2, .long x4] [] (some (.int r)) [] := by
  refine Ct.introZ (by decide) (Nat.le_of_ble_eq_true rfl) ?_
  intro p e s m below meth c A QQ ls hyp hret
  obtain ⟨hx, hb, hml, hts, hown, hA, hE, hP, hD, hl⟩ := hyp
  have hK := hE.1
  have hS : va_S A s.heap s.heap [] := va_S.rf
  have X : Here g p s m c cX12_in 6 ([.long x0, .long x2, .long x4] : List Value).toArray RX12 A := ⟨⟨hx, hb, hml, hown, hts⟩, hE, hA⟩
  have hl : lv_has ls 6 [(0, .long x0), (2, .long x2), (4, .long x4)] := hl
  obtain ⟨H, hH⟩ : ∃ H, H = s.heap := ⟨_, rfl⟩
  obtain ⟨locs, hlocs⟩ : ∃ l : List Loc, l = [] := ⟨_, rfl⟩
  rw [show W p l e rmX12_in s m ([.long x0, .long x2, .long x4] : List Value).toArray below meth c s.heap [] 0 0 QQ (F0 m 0 ls []) = W p l e rmX12_in s m ([.long x0, .long x2, .long x4] : List Value).toArray below meth c H locs 0 0 QQ (F0 m 0 ls []) by rw [hH, hlocs]]
  have hP : va_P g.1 vwCl [] H := by rw [hH]; exact hP
  have hD : va_D A [] := hD
  have hS : va_S A s.heap H locs := by rw [hH, hlocs]; exact hS
  clear hH hlocs
  refine lv_lload_n hx hb dX12_in_0 rfl (lv_at hl 0 rfl) ?_
  refine lv_lload_n hx hb dX12_in_1 rfl (lv_at hl 1 rfl) ?_
  refine W.lcmp hx hb dX12_in_2 ?_
  refine lv_if_lt (tgt := 17) hx hb dX12_in_3 (by decide) (fun q3 => ?_) (fun q3 => ?_)
  · have h := ifT h q3
    refine lv_iconst (v := (0 : Int32)) hx hb dX12_in_17 (by decide) ?_
    have h : some (0 : Int32) = some r := h
    cases h
    exact hret _ _ _ _ rfl hP hD hS dX12_in_18
  have h := ifF h q3
  refine lv_lload_n hx hb dX12_in_6 rfl (lv_at hl 0 rfl) ?_
  refine lv_lload hx hb dX12_in_7 (lv_at hl 2 rfl) ?_
  refine W.lcmp hx hb dX12_in_9 ?_
  refine lv_if_gt (tgt := 17) hx hb dX12_in_10 (by decide) (fun q10 => ?_) (fun q10 => ?_)
  · have h := ifT h q10
    refine lv_iconst (v := (0 : Int32)) hx hb dX12_in_17 (by decide) ?_
    have h : some (0 : Int32) = some r := h
    cases h
    exact hret _ _ _ _ rfl hP hD hS dX12_in_18
  have h := ifF h q10
  refine lv_iconst (v := (1 : Int32)) hx hb dX12_in_13 (by decide) ?_
  refine lv_goto (tgt := 18) hx hb dX12_in_14 (by decide) ?_
  have h : some (1 : Int32) = some r := h
  cases h
  exact hret _ _ _ _ rfl hP hD hS dX12_in_18
set_option maxHeartbeats 4000000 in
set_option maxRecDepth 100000 in
theorem mX12_append (g : GP) (l : Launch) (aM aM_text aM_now aM_trial aM_read aM_diary aM_kept aM_isKept aM_constraint aM_readConstraint aM_word aM_size aM_number aM_firstOne aM_node aM_parent aM_rule aM_child aM_proof aM_witness aM_witnessSize aM_built aM_copyRow : Nat) (M_length : Int32) (M_acts : Int32) (M_next : Int32) (M_many : Int32) (M_readMany : Int32) (M_found : Int32) (M_shortest : Int32) (M_nodes : Int32) (M_solved : Int32) (M_dropped : Int32) (M_fits : Int32) (M_proofSize : Int32) (M_tooLong : Int32) (M_text : Nat → Int32) (M_now : Nat → Int32) (M_trial : Nat → Int32) (M_read : Nat → Int32) (M_diary : Nat → Int32) (M_kept : Nat → Int32) (M_isKept : Nat → Int32) (M_constraint : Nat → Int32) (M_readConstraint : Nat → Int32) (M_word : Nat → Int32) (M_size : Nat → Int32) (M_number : Nat → Int32) (M_firstOne : Nat → Int32) (M_node : Nat → Int32) (M_parent : Nat → Int32) (M_rule : Nat → Int32) (M_child : Nat → Int32) (M_proof : Nat → Int32) (M_witness : Nat → Int32) (M_witnessSize : Nat → Int32) (M_built : Nat → Int32) (M_copyRow : Nat → Int32) (x1 : Int32) (r : Int32) (M_length_o : Int32) (M_text_o : Nat → Int32) (h : fM_append M_length M_text x1 = some (r, M_length_o, M_text_o)) : Ct g l yX12_append cX12_append 2 (some .int) rmX12_append [.ref aM, .int x1] (wX12 g aM aM_text aM_now aM_trial aM_read aM_diary aM_kept aM_isKept aM_constraint aM_readConstraint aM_word aM_size aM_number aM_firstOne aM_node aM_parent aM_rule aM_child aM_proof aM_witness aM_witnessSize aM_built aM_copyRow M_length M_acts M_next M_many M_readMany M_found M_shortest M_nodes M_solved M_dropped M_fits M_proofSize M_tooLong M_text M_now M_trial M_read M_diary M_kept M_isKept M_constraint M_readConstraint M_word M_size M_number M_firstOne M_node M_parent M_rule M_child M_proof M_witness M_witnessSize M_built M_copyRow) (some (.int r)) (wX12 g aM aM_text aM_now aM_trial aM_read aM_diary aM_kept aM_isKept aM_constraint aM_readConstraint aM_word aM_size aM_number aM_firstOne aM_node aM_parent aM_rule aM_child aM_proof aM_witness aM_witnessSize aM_built aM_copyRow M_length_o M_acts M_next M_many M_readMany M_found M_shortest M_nodes M_solved M_dropped M_fits M_proofSize M_tooLong M_text_o M_now M_trial M_read M_diary M_kept M_isKept M_constraint M_readConstraint M_word M_size M_number M_firstOne M_node M_parent M_rule M_child M_proof M_witness M_witnessSize M_built M_copyRow) := by
  refine Ct.introI (by decide) (Nat.le_of_ble_eq_true rfl) ?_
  intro p e s m below meth c A QQ ls hyp hret
  obtain ⟨hx, hb, hml, hts, hown, hA, hE, hP, hD, hl⟩ := hyp
  have hK := hE.1
  have hS : va_S A s.heap s.heap [] := va_S.rf
  have X : Here g p s m c cX12_append 2 ([.ref aM, .int x1] : List Value).toArray RX12 A := ⟨⟨hx, hb, hml, hown, hts⟩, hE, hA⟩
  have hl : lv_has ls 2 [(0, .ref aM), (1, .int x1)] := hl
  obtain ⟨H, hH⟩ : ∃ H, H = s.heap := ⟨_, rfl⟩
  obtain ⟨locs, hlocs⟩ : ∃ l : List Loc, l = [] := ⟨_, rfl⟩
  rw [show W p l e rmX12_append s m ([.ref aM, .int x1] : List Value).toArray below meth c s.heap [] 0 0 QQ (F0 m 0 ls []) = W p l e rmX12_append s m ([.ref aM, .int x1] : List Value).toArray below meth c H locs 0 0 QQ (F0 m 0 ls []) by rw [hH, hlocs]]
  have hP : va_P g.1 vwCl (wX12 g aM aM_text aM_now aM_trial aM_read aM_diary aM_kept aM_isKept aM_constraint aM_readConstraint aM_word aM_size aM_number aM_firstOne aM_node aM_parent aM_rule aM_child aM_proof aM_witness aM_witnessSize aM_built aM_copyRow M_length M_acts M_next M_many M_readMany M_found M_shortest M_nodes M_solved M_dropped M_fits M_proofSize M_tooLong M_text M_now M_trial M_read M_diary M_kept M_isKept M_constraint M_readConstraint M_word M_size M_number M_firstOne M_node M_parent M_rule M_child M_proof M_witness M_witnessSize M_built M_copyRow) H := by rw [hH]; exact hP
  have hD : va_D A (wX12 g aM aM_text aM_now aM_trial aM_read aM_diary aM_kept aM_isKept aM_constraint aM_readConstraint aM_word aM_size aM_number aM_firstOne aM_node aM_parent aM_rule aM_child aM_proof aM_witness aM_witnessSize aM_built aM_copyRow M_length M_acts M_next M_many M_readMany M_found M_shortest M_nodes M_solved M_dropped M_fits M_proofSize M_tooLong M_text M_now M_trial M_read M_diary M_kept M_isKept M_constraint M_readConstraint M_word M_size M_number M_firstOne M_node M_parent M_rule M_child M_proof M_witness M_witnessSize M_built M_copyRow) := hD
  have hS : va_S A s.heap H locs := by rw [hH, hlocs]; exact hS
  clear hH hlocs
  refine lv_iload_n hx hb dX12_append_0 rfl (lv_at hl 1 rfl) ?_
  refine lv_i2l (v := (Int32.toInt64 x1)) hx hb dX12_append_1 rfl ?_
  refine lv_lconst (v := (0 : Int64)) hx hb dX12_append_2 (by decide) ?_
  refine lv_ldc2 (v := (255 : Int64)) hx hb hown (hts _ wd5_66) dX12_append_3 ?_
  obtain ⟨t6, hc6, h⟩ := bd1_to h
  refine go_0 (st1 := [.int t6]) (run_S (As := [.long (Int32.toInt64 x1), .long (0 : Int64), .long (255 : Int64)]) (rest := []) X hS (mX12_in g l  (Int32.toInt64 x1) (0 : Int64) (255 : Int64) t6 hc6) okX12_in wd5_67 ⟨Nat.le_of_ble_eq_true rfl, Nat.le_of_ble_eq_true rfl⟩ ⟨rfl, rfl⟩ nil_P nil_D (nil_F hS hA) rfl hl.1 rfl (Nat.le_of_ble_eq_true rfl) dX12_append_6 ⟨Nat.zero_le _, Nat.zero_le _⟩) hS hA hP rfl (fun H locs hP hS => ?_)
  refine lv_if_ne (tgt := 15) hx hb dX12_append_9 (by decide) (fun q9 => ?_) (fun q9 => ?_)
  · have h := ifF h q9
    refine lv_aload_n hx hb dX12_append_15 rfl (lv_at hl 0 rfl) ?_
    refine va_get (D := g.1) (ci := 11) (v := .int M_length) (C := RX12) (T := TX12) (N := 35) hx hb hts inBX12 hown hK hP 0 rfl rfl 1 (by decide) (hts _ wd4_197) (fun _ h9 => h9) rfl dX12_append_16 ?_
    refine lv_bipush (v := (40 : Int32)) hx hb dX12_append_19 (by decide) ?_
    refine lv_icmp_ne (tgt := 27) hx hb dX12_append_21 (by decide) (fun q21 => ?_) (fun q21 => ?_)
    · have h := ifF h q21
      refine lv_aload_n hx hb dX12_append_27 rfl (lv_at hl 0 rfl) ?_
      refine va_get (D := g.1) (ci := 11) (v := .ref aM_text) (C := RX12) (T := TX12) (N := 35) hx hb hts inBX12 hown hK hP 0 rfl rfl 0 (by decide) (hts _ wd4_196) (fun _ h9 => h9) rfl dX12_append_28 ?_
      refine lv_aload_n hx hb dX12_append_31 rfl (lv_at hl 0 rfl) ?_
      refine va_get (D := g.1) (ci := 11) (v := .int M_length) (C := RX12) (T := TX12) (N := 35) hx hb hts inBX12 hown hK hP 0 rfl rfl 1 (by decide) (hts _ wd4_197) (fun _ h9 => h9) rfl dX12_append_32 ?_
      refine lv_iload_n hx hb dX12_append_35 rfl (lv_at hl 1 rfl) ?_
      have hin := sti_in h
      refine va_iast hx hb hK hP hD hS 1 0 rfl rfl hin dX12_append_36 (fun H locs hP hD hS => ?_)
      obtain ⟨M_text_36, eM_text_36⟩ : ∃ y : Nat → Int32, y = upd M_text (Int32.toNatClampNeg M_length) x1 := ⟨_, rfl⟩
      have h := sti_to h eM_text_36
      have hP : va_P g.1 vwCl (wX12 g aM aM_text aM_now aM_trial aM_read aM_diary aM_kept aM_isKept aM_constraint aM_readConstraint aM_word aM_size aM_number aM_firstOne aM_node aM_parent aM_rule aM_child aM_proof aM_witness aM_witnessSize aM_built aM_copyRow M_length M_acts M_next M_many M_readMany M_found M_shortest M_nodes M_solved M_dropped M_fits M_proofSize M_tooLong M_text_36 M_now M_trial M_read M_diary M_kept M_isKept M_constraint M_readConstraint M_word M_size M_number M_firstOne M_node M_parent M_rule M_child M_proof M_witness M_witnessSize M_built M_copyRow) H := by rw [eM_text_36]; exact hP
      have hD : va_D A (wX12 g aM aM_text aM_now aM_trial aM_read aM_diary aM_kept aM_isKept aM_constraint aM_readConstraint aM_word aM_size aM_number aM_firstOne aM_node aM_parent aM_rule aM_child aM_proof aM_witness aM_witnessSize aM_built aM_copyRow M_length M_acts M_next M_many M_readMany M_found M_shortest M_nodes M_solved M_dropped M_fits M_proofSize M_tooLong M_text_36 M_now M_trial M_read M_diary M_kept M_isKept M_constraint M_readConstraint M_word M_size M_number M_firstOne M_node M_parent M_rule M_child M_proof M_witness M_witnessSize M_built M_copyRow) := by rw [eM_text_36]; exact hD
      refine lv_aload_n hx hb dX12_append_37 rfl (lv_at hl 0 rfl) ?_
      refine lv_dup hx hb dX12_append_38 rfl ?_
      refine va_get (D := g.1) (ci := 11) (v := .int M_length) (C := RX12) (T := TX12) (N := 35) hx hb hts inBX12 hown hK hP 0 rfl rfl 1 (by decide) (hts _ wd4_197) (fun _ h9 => h9) rfl dX12_append_39 ?_
      refine lv_iconst (v := (1 : Int32)) hx hb dX12_append_42 (by decide) ?_
      refine lv_iadd hx hb dX12_append_43 ?_
      refine lv_topi (fun t44 et44 => ?_)
      have h := st_to h et44
      refine va_put (D := g.1) (ci := 11) (v := .int t44) (ty := .int) (C := RX12) (T := TX12) (N := 35) hx hb hts inBX12 tyX12 tyX12_ok nmX12 hown hK hP hD hS 0 rfl rfl 1 (by decide) (hts _ wd4_197) (fun _ h9 => h9) rfl (tyX12_ok 1 (by decide)) rfl rfl (Nat.le_of_ble_eq_true rfl) dX12_append_44 (fun H locs hP hD hS => ?_)
      have hP : va_P g.1 vwCl (wX12 g aM aM_text aM_now aM_trial aM_read aM_diary aM_kept aM_isKept aM_constraint aM_readConstraint aM_word aM_size aM_number aM_firstOne aM_node aM_parent aM_rule aM_child aM_proof aM_witness aM_witnessSize aM_built aM_copyRow t44 M_acts M_next M_many M_readMany M_found M_shortest M_nodes M_solved M_dropped M_fits M_proofSize M_tooLong M_text_36 M_now M_trial M_read M_diary M_kept M_isKept M_constraint M_readConstraint M_word M_size M_number M_firstOne M_node M_parent M_rule M_child M_proof M_witness M_witnessSize M_built M_copyRow) H := hP
      have hD : va_D A (wX12 g aM aM_text aM_now aM_trial aM_read aM_diary aM_kept aM_isKept aM_constraint aM_readConstraint aM_word aM_size aM_number aM_firstOne aM_node aM_parent aM_rule aM_child aM_proof aM_witness aM_witnessSize aM_built aM_copyRow t44 M_acts M_next M_many M_readMany M_found M_shortest M_nodes M_solved M_dropped M_fits M_proofSize M_tooLong M_text_36 M_now M_trial M_read M_diary M_kept M_isKept M_constraint M_readConstraint M_word M_size M_number M_firstOne M_node M_parent M_rule M_child M_proof M_witness M_witnessSize M_built M_copyRow) := hD
      refine lv_aload_n hx hb dX12_append_47 rfl (lv_at hl 0 rfl) ?_
      refine va_get (D := g.1) (ci := 11) (v := .int t44) (C := RX12) (T := TX12) (N := 35) hx hb hts inBX12 hown hK hP 0 rfl rfl 1 (by decide) (hts _ wd4_197) (fun _ h9 => h9) rfl dX12_append_48 ?_
      have h : some (t44, t44, M_text_36) = some (r, M_length_o, M_text_o) := h
      cases h
      exact hret _ _ _ _ hP hD hS dX12_append_51
    have h := ifT h q21
    refine lv_bipush (v := ((-4) : Int32)) hx hb dX12_append_24 (by decide) ?_
    have h : some (((-4) : Int32), M_length, M_text) = some (r, M_length_o, M_text_o) := h
    cases h
    exact hret _ _ _ _ hP hD hS dX12_append_26
  have h := ifT h q9
  refine lv_bipush (v := ((-2) : Int32)) hx hb dX12_append_12 (by decide) ?_
  have h : some (((-2) : Int32), M_length, M_text) = some (r, M_length_o, M_text_o) := h
  cases h
  exact hret _ _ _ _ hP hD hS dX12_append_14
set_option maxHeartbeats 4000000 in
set_option maxRecDepth 100000 in
theorem mX12_clearText (g : GP) (l : Launch) (aM aM_text aM_now aM_trial aM_read aM_diary aM_kept aM_isKept aM_constraint aM_readConstraint aM_word aM_size aM_number aM_firstOne aM_node aM_parent aM_rule aM_child aM_proof aM_witness aM_witnessSize aM_built aM_copyRow : Nat) (M_length : Int32) (M_acts : Int32) (M_next : Int32) (M_many : Int32) (M_readMany : Int32) (M_found : Int32) (M_shortest : Int32) (M_nodes : Int32) (M_solved : Int32) (M_dropped : Int32) (M_fits : Int32) (M_proofSize : Int32) (M_tooLong : Int32) (M_text : Nat → Int32) (M_now : Nat → Int32) (M_trial : Nat → Int32) (M_read : Nat → Int32) (M_diary : Nat → Int32) (M_kept : Nat → Int32) (M_isKept : Nat → Int32) (M_constraint : Nat → Int32) (M_readConstraint : Nat → Int32) (M_word : Nat → Int32) (M_size : Nat → Int32) (M_number : Nat → Int32) (M_firstOne : Nat → Int32) (M_node : Nat → Int32) (M_parent : Nat → Int32) (M_rule : Nat → Int32) (M_child : Nat → Int32) (M_proof : Nat → Int32) (M_witness : Nat → Int32) (M_witnessSize : Nat → Int32) (M_built : Nat → Int32) (M_copyRow : Nat → Int32)  (r : Int32) (M_length_o : Int32) (h : fM_clearText M_length = some (r, M_length_o)) : Ct g l yX12_clearText cX12_clearText 2 (some .int) rmX12_clearText [.ref aM] (wX12 g aM aM_text aM_now aM_trial aM_read aM_diary aM_kept aM_isKept aM_constraint aM_readConstraint aM_word aM_size aM_number aM_firstOne aM_node aM_parent aM_rule aM_child aM_proof aM_witness aM_witnessSize aM_built aM_copyRow M_length M_acts M_next M_many M_readMany M_found M_shortest M_nodes M_solved M_dropped M_fits M_proofSize M_tooLong M_text M_now M_trial M_read M_diary M_kept M_isKept M_constraint M_readConstraint M_word M_size M_number M_firstOne M_node M_parent M_rule M_child M_proof M_witness M_witnessSize M_built M_copyRow) (some (.int r)) (wX12 g aM aM_text aM_now aM_trial aM_read aM_diary aM_kept aM_isKept aM_constraint aM_readConstraint aM_word aM_size aM_number aM_firstOne aM_node aM_parent aM_rule aM_child aM_proof aM_witness aM_witnessSize aM_built aM_copyRow M_length_o M_acts M_next M_many M_readMany M_found M_shortest M_nodes M_solved M_dropped M_fits M_proofSize M_tooLong M_text M_now M_trial M_read M_diary M_kept M_isKept M_constraint M_readConstraint M_word M_size M_number M_firstOne M_node M_parent M_rule M_child M_proof M_witness M_witnessSize M_built M_copyRow) := by
  refine Ct.introI (by decide) (Nat.le_of_ble_eq_true rfl) ?_
  intro p e s m below meth c A QQ ls hyp hret
  obtain ⟨hx, hb, hml, hts, hown, hA, hE, hP, hD, hl⟩ := hyp
  have hK := hE.1
  have hS : va_S A s.heap s.heap [] := va_S.rf
  have X : Here g p s m c cX12_clearText 2 ([.ref aM] : List Value).toArray RX12 A := ⟨⟨hx, hb, hml, hown, hts⟩, hE, hA⟩
  have hl : lv_has ls 2 [(0, .ref aM)] := hl
  obtain ⟨H, hH⟩ : ∃ H, H = s.heap := ⟨_, rfl⟩
  obtain ⟨locs, hlocs⟩ : ∃ l : List Loc, l = [] := ⟨_, rfl⟩
  rw [show W p l e rmX12_clearText s m ([.ref aM] : List Value).toArray below meth c s.heap [] 0 0 QQ (F0 m 0 ls []) = W p l e rmX12_clearText s m ([.ref aM] : List Value).toArray below meth c H locs 0 0 QQ (F0 m 0 ls []) by rw [hH, hlocs]]
  have hP : va_P g.1 vwCl (wX12 g aM aM_text aM_now aM_trial aM_read aM_diary aM_kept aM_isKept aM_constraint aM_readConstraint aM_word aM_size aM_number aM_firstOne aM_node aM_parent aM_rule aM_child aM_proof aM_witness aM_witnessSize aM_built aM_copyRow M_length M_acts M_next M_many M_readMany M_found M_shortest M_nodes M_solved M_dropped M_fits M_proofSize M_tooLong M_text M_now M_trial M_read M_diary M_kept M_isKept M_constraint M_readConstraint M_word M_size M_number M_firstOne M_node M_parent M_rule M_child M_proof M_witness M_witnessSize M_built M_copyRow) H := by rw [hH]; exact hP
  have hD : va_D A (wX12 g aM aM_text aM_now aM_trial aM_read aM_diary aM_kept aM_isKept aM_constraint aM_readConstraint aM_word aM_size aM_number aM_firstOne aM_node aM_parent aM_rule aM_child aM_proof aM_witness aM_witnessSize aM_built aM_copyRow M_length M_acts M_next M_many M_readMany M_found M_shortest M_nodes M_solved M_dropped M_fits M_proofSize M_tooLong M_text M_now M_trial M_read M_diary M_kept M_isKept M_constraint M_readConstraint M_word M_size M_number M_firstOne M_node M_parent M_rule M_child M_proof M_witness M_witnessSize M_built M_copyRow) := hD
  have hS : va_S A s.heap H locs := by rw [hH, hlocs]; exact hS
  clear hH hlocs
  refine lv_aload_n hx hb dX12_clearText_0 rfl (lv_at hl 0 rfl) ?_
  refine va_get (D := g.1) (ci := 11) (v := .int M_length) (C := RX12) (T := TX12) (N := 35) hx hb hts inBX12 hown hK hP 0 rfl rfl 1 (by decide) (hts _ wd4_197) (fun _ h9 => h9) rfl dX12_clearText_1 ?_
  refine lv_istore_n (lv' := [(1, .int M_length), (0, .ref aM)]) hx hb dX12_clearText_4 rfl hl (by decide) rfl (fun ls hl => ?_)
  refine lv_aload_n hx hb dX12_clearText_5 rfl (lv_at hl 1 rfl) ?_
  refine lv_iconst (v := (0 : Int32)) hx hb dX12_clearText_6 (by decide) ?_
  refine va_put (D := g.1) (ci := 11) (v := .int (0 : Int32)) (ty := .int) (C := RX12) (T := TX12) (N := 35) hx hb hts inBX12 tyX12 tyX12_ok nmX12 hown hK hP hD hS 0 rfl rfl 1 (by decide) (hts _ wd4_197) (fun _ h9 => h9) rfl (tyX12_ok 1 (by decide)) rfl rfl (Nat.le_of_ble_eq_true rfl) dX12_clearText_7 (fun H locs hP hD hS => ?_)
  have hP : va_P g.1 vwCl (wX12 g aM aM_text aM_now aM_trial aM_read aM_diary aM_kept aM_isKept aM_constraint aM_readConstraint aM_word aM_size aM_number aM_firstOne aM_node aM_parent aM_rule aM_child aM_proof aM_witness aM_witnessSize aM_built aM_copyRow (0 : Int32) M_acts M_next M_many M_readMany M_found M_shortest M_nodes M_solved M_dropped M_fits M_proofSize M_tooLong M_text M_now M_trial M_read M_diary M_kept M_isKept M_constraint M_readConstraint M_word M_size M_number M_firstOne M_node M_parent M_rule M_child M_proof M_witness M_witnessSize M_built M_copyRow) H := hP
  have hD : va_D A (wX12 g aM aM_text aM_now aM_trial aM_read aM_diary aM_kept aM_isKept aM_constraint aM_readConstraint aM_word aM_size aM_number aM_firstOne aM_node aM_parent aM_rule aM_child aM_proof aM_witness aM_witnessSize aM_built aM_copyRow (0 : Int32) M_acts M_next M_many M_readMany M_found M_shortest M_nodes M_solved M_dropped M_fits M_proofSize M_tooLong M_text M_now M_trial M_read M_diary M_kept M_isKept M_constraint M_readConstraint M_word M_size M_number M_firstOne M_node M_parent M_rule M_child M_proof M_witness M_witnessSize M_built M_copyRow) := hD
  refine lv_iload_n hx hb dX12_clearText_10 rfl (lv_at hl 0 rfl) ?_
  have h : some (M_length, (0 : Int32)) = some (r, M_length_o) := h
  cases h
  exact hret _ _ _ _ hP hD hS dX12_clearText_11
set_option maxHeartbeats 4000000 in
set_option maxRecDepth 100000 in
theorem mX12_symbolOf (g : GP) (l : Launch)  (x0 : Int32) (r : Int32) (h : fM_symbolOf x0 = some r) : Ct g l yX12_symbolOf cX12_symbolOf 1 (some .int) rmX12_symbolOf [.int x0] [] (some (.int r)) [] := by
  refine Ct.introI (by decide) (Nat.le_of_ble_eq_true rfl) ?_
  intro p e s m below meth c A QQ ls hyp hret
  obtain ⟨hx, hb, hml, hts, hown, hA, hE, hP, hD, hl⟩ := hyp
  have hK := hE.1
  have hS : va_S A s.heap s.heap [] := va_S.rf
  have X : Here g p s m c cX12_symbolOf 1 ([.int x0] : List Value).toArray RX12 A := ⟨⟨hx, hb, hml, hown, hts⟩, hE, hA⟩
  have hl : lv_has ls 1 [(0, .int x0)] := hl
  obtain ⟨H, hH⟩ : ∃ H, H = s.heap := ⟨_, rfl⟩
  obtain ⟨locs, hlocs⟩ : ∃ l : List Loc, l = [] := ⟨_, rfl⟩
  rw [show W p l e rmX12_symbolOf s m ([.int x0] : List Value).toArray below meth c s.heap [] 0 0 QQ (F0 m 0 ls []) = W p l e rmX12_symbolOf s m ([.int x0] : List Value).toArray below meth c H locs 0 0 QQ (F0 m 0 ls []) by rw [hH, hlocs]]
  have hP : va_P g.1 vwCl [] H := by rw [hH]; exact hP
  have hD : va_D A [] := hD
  have hS : va_S A s.heap H locs := by rw [hH, hlocs]; exact hS
  clear hH hlocs
  refine lv_iload_n hx hb dX12_symbolOf_0 rfl (lv_at hl 0 rfl) ?_
  refine lv_bipush (v := (97 : Int32)) hx hb dX12_symbolOf_1 (by decide) ?_
  refine lv_icmp_eq (tgt := 12) hx hb dX12_symbolOf_3 (by decide) (fun q3 => ?_) (fun q3 => ?_)
  · have h := ifT h q3
    refine lv_iload_n hx hb dX12_symbolOf_12 rfl (lv_at hl 0 rfl) ?_
    refine lv_bipush (v := (97 : Int32)) hx hb dX12_symbolOf_13 (by decide) ?_
    refine lv_isub hx hb dX12_symbolOf_15 ?_
    refine lv_goto (tgt := 42) hx hb dX12_symbolOf_16 (by decide) ?_
    have h : some (x0 - (97 : Int32)) = some r := h
    cases h
    exact hret _ _ _ _ hP hD hS dX12_symbolOf_42
  have h := ifF h q3
  refine lv_iload_n hx hb dX12_symbolOf_6 rfl (lv_at hl 0 rfl) ?_
  refine lv_bipush (v := (98 : Int32)) hx hb dX12_symbolOf_7 (by decide) ?_
  refine lv_icmp_ne (tgt := 19) hx hb dX12_symbolOf_9 (by decide) (fun q9 => ?_) (fun q9 => ?_)
  · have h := ifF h q9
    refine lv_iload_n hx hb dX12_symbolOf_19 rfl (lv_at hl 0 rfl) ?_
    refine lv_i2l (v := (Int32.toInt64 x0)) hx hb dX12_symbolOf_20 rfl ?_
    refine lv_ldc2 (v := (87 : Int64)) hx hb hown (hts _ wd5_85) dX12_symbolOf_21 ?_
    refine lv_ldc2 (v := (90 : Int64)) hx hb hown (hts _ wd5_86) dX12_symbolOf_24 ?_
    obtain ⟨t27, hc27, h⟩ := bd1_to h
    refine go_0 (st1 := [.int t27]) (run_S (As := [.long (Int32.toInt64 x0), .long (87 : Int64), .long (90 : Int64)]) (rest := []) X hS (mX12_in g l  (Int32.toInt64 x0) (87 : Int64) (90 : Int64) t27 hc27) okX12_in wd5_67 ⟨Nat.le_of_ble_eq_true rfl, Nat.le_of_ble_eq_true rfl⟩ ⟨rfl, rfl⟩ nil_P nil_D (nil_F hS hA) rfl hl.1 rfl (Nat.le_of_ble_eq_true rfl) dX12_symbolOf_27 ⟨Nat.zero_le _, Nat.zero_le _⟩) hS hA hP rfl (fun H locs hP hS => ?_)
    refine lv_if_eq (tgt := 40) hx hb dX12_symbolOf_30 (by decide) (fun q30 => ?_) (fun q30 => ?_)
    · have h := ifT h q30
      refine lv_bipush (v := ((-9) : Int32)) hx hb dX12_symbolOf_40 (by decide) ?_
      have h : some ((-9) : Int32) = some r := h
      cases h
      exact hret _ _ _ _ hP hD hS dX12_symbolOf_42
    have h := ifF h q30
    refine lv_iload_n hx hb dX12_symbolOf_33 rfl (lv_at hl 0 rfl) ?_
    refine lv_bipush (v := (85 : Int32)) hx hb dX12_symbolOf_34 (by decide) ?_
    refine lv_isub hx hb dX12_symbolOf_36 ?_
    refine lv_goto (tgt := 42) hx hb dX12_symbolOf_37 (by decide) ?_
    have h : some (x0 - (85 : Int32)) = some r := h
    cases h
    exact hret _ _ _ _ hP hD hS dX12_symbolOf_42
  have h := ifT h q9
  refine lv_iload_n hx hb dX12_symbolOf_12 rfl (lv_at hl 0 rfl) ?_
  refine lv_bipush (v := (97 : Int32)) hx hb dX12_symbolOf_13 (by decide) ?_
  refine lv_isub hx hb dX12_symbolOf_15 ?_
  refine lv_goto (tgt := 42) hx hb dX12_symbolOf_16 (by decide) ?_
  have h : some (x0 - (97 : Int32)) = some r := h
  cases h
  exact hret _ _ _ _ hP hD hS dX12_symbolOf_42
set_option maxHeartbeats 4000000 in
set_option maxRecDepth 100000 in
theorem mX12_at (g : GP) (l : Launch)  (x0 : Int32) (x1 : Int32) (r : Int32) (h : fM_at x0 x1 = some r) : Ct g l yX12_at cX12_at 2 (some .int) rmX12_at [.int x0, .int x1] [] (some (.int r)) [] := by
  refine Ct.introI (by decide) (Nat.le_of_ble_eq_true rfl) ?_
  intro p e s m below meth c A QQ ls hyp hret
  obtain ⟨hx, hb, hml, hts, hown, hA, hE, hP, hD, hl⟩ := hyp
  have hK := hE.1
  have hS : va_S A s.heap s.heap [] := va_S.rf
  have X : Here g p s m c cX12_at 2 ([.int x0, .int x1] : List Value).toArray RX12 A := ⟨⟨hx, hb, hml, hown, hts⟩, hE, hA⟩
  have hl : lv_has ls 2 [(0, .int x0), (1, .int x1)] := hl
  obtain ⟨H, hH⟩ : ∃ H, H = s.heap := ⟨_, rfl⟩
  obtain ⟨locs, hlocs⟩ : ∃ l : List Loc, l = [] := ⟨_, rfl⟩
  rw [show W p l e rmX12_at s m ([.int x0, .int x1] : List Value).toArray below meth c s.heap [] 0 0 QQ (F0 m 0 ls []) = W p l e rmX12_at s m ([.int x0, .int x1] : List Value).toArray below meth c H locs 0 0 QQ (F0 m 0 ls []) by rw [hH, hlocs]]
  have hP : va_P g.1 vwCl [] H := by rw [hH]; exact hP
  have hD : va_D A [] := hD
  have hS : va_S A s.heap H locs := by rw [hH, hlocs]; exact hS
  clear hH hlocs
  refine lv_iconst (v := (2 : Int32)) hx hb dX12_at_0 (by decide) ?_
  refine lv_bipush (v := (12 : Int32)) hx hb dX12_at_1 (by decide) ?_
  refine lv_iload_n hx hb dX12_at_3 rfl (lv_at hl 0 rfl) ?_
  refine lv_imul hx hb dX12_at_4 ?_
  refine lv_iadd hx hb dX12_at_5 ?_
  refine lv_iload_n hx hb dX12_at_6 rfl (lv_at hl 1 rfl) ?_
  refine lv_iadd hx hb dX12_at_7 ?_
  have h : some (((2 : Int32) + ((12 : Int32) * x0)) + x1) = some r := h
  cases h
  exact hret _ _ _ _ hP hD hS dX12_at_8
set_option maxHeartbeats 4000000 in
set_option maxRecDepth 100000 in
theorem mX12_takeOfConstraint (g : GP) (l : Launch) (aM aM_text aM_now aM_trial aM_read aM_diary aM_kept aM_isKept aM_constraint aM_readConstraint aM_word aM_size aM_number aM_firstOne aM_node aM_parent aM_rule aM_child aM_proof aM_witness aM_witnessSize aM_built aM_copyRow : Nat) (M_length : Int32) (M_acts : Int32) (M_next : Int32) (M_many : Int32) (M_readMany : Int32) (M_found : Int32) (M_shortest : Int32) (M_nodes : Int32) (M_solved : Int32) (M_dropped : Int32) (M_fits : Int32) (M_proofSize : Int32) (M_tooLong : Int32) (M_text : Nat → Int32) (M_now : Nat → Int32) (M_trial : Nat → Int32) (M_read : Nat → Int32) (M_diary : Nat → Int32) (M_kept : Nat → Int32) (M_isKept : Nat → Int32) (M_constraint : Nat → Int32) (M_readConstraint : Nat → Int32) (M_word : Nat → Int32) (M_size : Nat → Int32) (M_number : Nat → Int32) (M_firstOne : Nat → Int32) (M_node : Nat → Int32) (M_parent : Nat → Int32) (M_rule : Nat → Int32) (M_child : Nat → Int32) (M_proof : Nat → Int32) (M_witness : Nat → Int32) (M_witnessSize : Nat → Int32) (M_built : Nat → Int32) (M_copyRow : Nat → Int32) (x1 : Int32) (x2 : Int32) (r : Int32) (M_readMany_o : Int32) (M_readConstraint_o : Nat → Int32) (h : fM_takeOfConstraint M_readMany M_readConstraint x1 x2 = some (r, M_readMany_o, M_readConstraint_o)) : Ct g l yX12_takeOfConstraint cX12_takeOfConstraint 4 (some .boolean) rmX12_takeOfConstraint [.ref aM, .int x1, .int x2] (wX12 g aM aM_text aM_now aM_trial aM_read aM_diary aM_kept aM_isKept aM_constraint aM_readConstraint aM_word aM_size aM_number aM_firstOne aM_node aM_parent aM_rule aM_child aM_proof aM_witness aM_witnessSize aM_built aM_copyRow M_length M_acts M_next M_many M_readMany M_found M_shortest M_nodes M_solved M_dropped M_fits M_proofSize M_tooLong M_text M_now M_trial M_read M_diary M_kept M_isKept M_constraint M_readConstraint M_word M_size M_number M_firstOne M_node M_parent M_rule M_child M_proof M_witness M_witnessSize M_built M_copyRow) (some (.int r)) (wX12 g aM aM_text aM_now aM_trial aM_read aM_diary aM_kept aM_isKept aM_constraint aM_readConstraint aM_word aM_size aM_number aM_firstOne aM_node aM_parent aM_rule aM_child aM_proof aM_witness aM_witnessSize aM_built aM_copyRow M_length M_acts M_next M_many M_readMany_o M_found M_shortest M_nodes M_solved M_dropped M_fits M_proofSize M_tooLong M_text M_now M_trial M_read M_diary M_kept M_isKept M_constraint M_readConstraint_o M_word M_size M_number M_firstOne M_node M_parent M_rule M_child M_proof M_witness M_witnessSize M_built M_copyRow) := by
  refine Ct.introZ (by decide) (Nat.le_of_ble_eq_true rfl) ?_
  intro p e s m below meth c A QQ ls hyp hret
  obtain ⟨hx, hb, hml, hts, hown, hA, hE, hP, hD, hl⟩ := hyp
  have hK := hE.1
  have hS : va_S A s.heap s.heap [] := va_S.rf
  have X : Here g p s m c cX12_takeOfConstraint 4 ([.ref aM, .int x1, .int x2] : List Value).toArray RX12 A := ⟨⟨hx, hb, hml, hown, hts⟩, hE, hA⟩
  have hl : lv_has ls 4 [(0, .ref aM), (1, .int x1), (2, .int x2)] := hl
  obtain ⟨H, hH⟩ : ∃ H, H = s.heap := ⟨_, rfl⟩
  obtain ⟨locs, hlocs⟩ : ∃ l : List Loc, l = [] := ⟨_, rfl⟩
  rw [show W p l e rmX12_takeOfConstraint s m ([.ref aM, .int x1, .int x2] : List Value).toArray below meth c s.heap [] 0 0 QQ (F0 m 0 ls []) = W p l e rmX12_takeOfConstraint s m ([.ref aM, .int x1, .int x2] : List Value).toArray below meth c H locs 0 0 QQ (F0 m 0 ls []) by rw [hH, hlocs]]
  have hP : va_P g.1 vwCl (wX12 g aM aM_text aM_now aM_trial aM_read aM_diary aM_kept aM_isKept aM_constraint aM_readConstraint aM_word aM_size aM_number aM_firstOne aM_node aM_parent aM_rule aM_child aM_proof aM_witness aM_witnessSize aM_built aM_copyRow M_length M_acts M_next M_many M_readMany M_found M_shortest M_nodes M_solved M_dropped M_fits M_proofSize M_tooLong M_text M_now M_trial M_read M_diary M_kept M_isKept M_constraint M_readConstraint M_word M_size M_number M_firstOne M_node M_parent M_rule M_child M_proof M_witness M_witnessSize M_built M_copyRow) H := by rw [hH]; exact hP
  have hD : va_D A (wX12 g aM aM_text aM_now aM_trial aM_read aM_diary aM_kept aM_isKept aM_constraint aM_readConstraint aM_word aM_size aM_number aM_firstOne aM_node aM_parent aM_rule aM_child aM_proof aM_witness aM_witnessSize aM_built aM_copyRow M_length M_acts M_next M_many M_readMany M_found M_shortest M_nodes M_solved M_dropped M_fits M_proofSize M_tooLong M_text M_now M_trial M_read M_diary M_kept M_isKept M_constraint M_readConstraint M_word M_size M_number M_firstOne M_node M_parent M_rule M_child M_proof M_witness M_witnessSize M_built M_copyRow) := hD
  have hS : va_S A s.heap H locs := by rw [hH, hlocs]; exact hS
  clear hH hlocs
  refine lv_iconst (v := (3 : Int32)) hx hb dX12_takeOfConstraint_0 (by decide) ?_
  refine lv_aload_n hx hb dX12_takeOfConstraint_1 rfl (lv_at hl 0 rfl) ?_
  refine va_get (D := g.1) (ci := 11) (v := .int M_readMany) (C := RX12) (T := TX12) (N := 35) hx hb hts inBX12 hown hK hP 0 rfl rfl 12 (by decide) (hts _ wd4_208) (fun _ h9 => h9) rfl dX12_takeOfConstraint_2 ?_
  refine lv_imul hx hb dX12_takeOfConstraint_5 ?_
  refine lv_iload_n hx hb dX12_takeOfConstraint_6 rfl (lv_at hl 1 rfl) ?_
  refine lv_iadd hx hb dX12_takeOfConstraint_7 ?_
  refine lv_iconst (v := (1 : Int32)) hx hb dX12_takeOfConstraint_8 (by decide) ?_
  refine lv_isub hx hb dX12_takeOfConstraint_9 ?_
  refine lv_topi (fun t10 et10 => ?_)
  have h := st_to h et10
  refine lv_istore_n (lv' := [(3, .int t10), (0, .ref aM), (1, .int x1), (2, .int x2)]) hx hb dX12_takeOfConstraint_10 rfl hl (by decide) rfl (fun ls hl => ?_)
  refine lv_iload_n hx hb dX12_takeOfConstraint_11 rfl (lv_at hl 2 rfl) ?_
  refine lv_if_ne (tgt := 35) hx hb dX12_takeOfConstraint_12 (by decide) (fun q12 => ?_) (fun q12 => ?_)
  · have h := ifF h q12
    refine lv_iload_n hx hb dX12_takeOfConstraint_35 rfl (lv_at hl 2 rfl) ?_
    refine lv_iconst (v := (1 : Int32)) hx hb dX12_takeOfConstraint_36 (by decide) ?_
    refine lv_icmp_ne (tgt := 62) hx hb dX12_takeOfConstraint_37 (by decide) (fun q37 => ?_) (fun q37 => ?_)
    · have h := ifF h q37
      refine lv_iload_n hx hb dX12_takeOfConstraint_62 rfl (lv_at hl 2 rfl) ?_
      refine lv_iconst (v := (2 : Int32)) hx hb dX12_takeOfConstraint_63 (by decide) ?_
      refine lv_icmp_ne (tgt := 89) hx hb dX12_takeOfConstraint_64 (by decide) (fun q64 => ?_) (fun q64 => ?_)
      · have h := ifF h q64
        refine lv_aload_n hx hb dX12_takeOfConstraint_89 rfl (lv_at hl 1 rfl) ?_
        refine va_get (D := g.1) (ci := 11) (v := .ref aM_readConstraint) (C := RX12) (T := TX12) (N := 35) hx hb hts inBX12 hown hK hP 0 rfl rfl 13 (by decide) (hts _ wd4_209) (fun _ h9 => h9) rfl dX12_takeOfConstraint_90 ?_
        refine lv_iload_n hx hb dX12_takeOfConstraint_93 rfl (lv_at hl 0 rfl) ?_
        refine lv_iload_n hx hb dX12_takeOfConstraint_94 rfl (lv_at hl 3 rfl) ?_
        refine lv_bipush (v := (48 : Int32)) hx hb dX12_takeOfConstraint_95 (by decide) ?_
        refine lv_isub hx hb dX12_takeOfConstraint_97 ?_
        have hin := sti_in h
        refine va_iast hx hb hK hP hD hS 9 0 rfl rfl hin dX12_takeOfConstraint_98 (fun H locs hP hD hS => ?_)
        obtain ⟨M_readConstraint_98, eM_readConstraint_98⟩ : ∃ y : Nat → Int32, y = upd M_readConstraint (Int32.toNatClampNeg t10) (x2 - (48 : Int32)) := ⟨_, rfl⟩
        have h := sti_to h eM_readConstraint_98
        have hP : va_P g.1 vwCl (wX12 g aM aM_text aM_now aM_trial aM_read aM_diary aM_kept aM_isKept aM_constraint aM_readConstraint aM_word aM_size aM_number aM_firstOne aM_node aM_parent aM_rule aM_child aM_proof aM_witness aM_witnessSize aM_built aM_copyRow M_length M_acts M_next M_many M_readMany M_found M_shortest M_nodes M_solved M_dropped M_fits M_proofSize M_tooLong M_text M_now M_trial M_read M_diary M_kept M_isKept M_constraint M_readConstraint_98 M_word M_size M_number M_firstOne M_node M_parent M_rule M_child M_proof M_witness M_witnessSize M_built M_copyRow) H := by rw [eM_readConstraint_98]; exact hP
        have hD : va_D A (wX12 g aM aM_text aM_now aM_trial aM_read aM_diary aM_kept aM_isKept aM_constraint aM_readConstraint aM_word aM_size aM_number aM_firstOne aM_node aM_parent aM_rule aM_child aM_proof aM_witness aM_witnessSize aM_built aM_copyRow M_length M_acts M_next M_many M_readMany M_found M_shortest M_nodes M_solved M_dropped M_fits M_proofSize M_tooLong M_text M_now M_trial M_read M_diary M_kept M_isKept M_constraint M_readConstraint_98 M_word M_size M_number M_firstOne M_node M_parent M_rule M_child M_proof M_witness M_witnessSize M_built M_copyRow) := by rw [eM_readConstraint_98]; exact hD
        refine lv_aload_n hx hb dX12_takeOfConstraint_99 rfl (lv_at hl 1 rfl) ?_
        refine lv_dup hx hb dX12_takeOfConstraint_100 rfl ?_
        refine va_get (D := g.1) (ci := 11) (v := .int M_readMany) (C := RX12) (T := TX12) (N := 35) hx hb hts inBX12 hown hK hP 0 rfl rfl 12 (by decide) (hts _ wd4_208) (fun _ h9 => h9) rfl dX12_takeOfConstraint_101 ?_
        refine lv_iconst (v := (1 : Int32)) hx hb dX12_takeOfConstraint_104 (by decide) ?_
        refine lv_iadd hx hb dX12_takeOfConstraint_105 ?_
        refine lv_topi (fun t106 et106 => ?_)
        have h := st_to h et106
        refine va_put (D := g.1) (ci := 11) (v := .int t106) (ty := .int) (C := RX12) (T := TX12) (N := 35) hx hb hts inBX12 tyX12 tyX12_ok nmX12 hown hK hP hD hS 0 rfl rfl 12 (by decide) (hts _ wd4_208) (fun _ h9 => h9) rfl (tyX12_ok 12 (by decide)) rfl rfl (Nat.le_of_ble_eq_true rfl) dX12_takeOfConstraint_106 (fun H locs hP hD hS => ?_)
        have hP : va_P g.1 vwCl (wX12 g aM aM_text aM_now aM_trial aM_read aM_diary aM_kept aM_isKept aM_constraint aM_readConstraint aM_word aM_size aM_number aM_firstOne aM_node aM_parent aM_rule aM_child aM_proof aM_witness aM_witnessSize aM_built aM_copyRow M_length M_acts M_next M_many t106 M_found M_shortest M_nodes M_solved M_dropped M_fits M_proofSize M_tooLong M_text M_now M_trial M_read M_diary M_kept M_isKept M_constraint M_readConstraint_98 M_word M_size M_number M_firstOne M_node M_parent M_rule M_child M_proof M_witness M_witnessSize M_built M_copyRow) H := hP
        have hD : va_D A (wX12 g aM aM_text aM_now aM_trial aM_read aM_diary aM_kept aM_isKept aM_constraint aM_readConstraint aM_word aM_size aM_number aM_firstOne aM_node aM_parent aM_rule aM_child aM_proof aM_witness aM_witnessSize aM_built aM_copyRow M_length M_acts M_next M_many t106 M_found M_shortest M_nodes M_solved M_dropped M_fits M_proofSize M_tooLong M_text M_now M_trial M_read M_diary M_kept M_isKept M_constraint M_readConstraint_98 M_word M_size M_number M_firstOne M_node M_parent M_rule M_child M_proof M_witness M_witnessSize M_built M_copyRow) := hD
        refine lv_iload_n hx hb dX12_takeOfConstraint_109 rfl (lv_at hl 3 rfl) ?_
        refine lv_i2l (v := (Int32.toInt64 x2)) hx hb dX12_takeOfConstraint_110 rfl ?_
        refine lv_ldc2 (v := (48 : Int64)) hx hb hown (hts _ wd5_96) dX12_takeOfConstraint_111 ?_
        refine lv_ldc2 (v := (57 : Int64)) hx hb hown (hts _ wd5_97) dX12_takeOfConstraint_114 ?_
        obtain ⟨t117, hc117, h⟩ := bd1_to h
        refine go_0 (st1 := [.int t117]) (run_S (As := [.long (Int32.toInt64 x2), .long (48 : Int64), .long (57 : Int64)]) (rest := []) X hS (mX12_in g l  (Int32.toInt64 x2) (48 : Int64) (57 : Int64) t117 hc117) okX12_in wd5_67 ⟨Nat.le_of_ble_eq_true rfl, Nat.le_of_ble_eq_true rfl⟩ ⟨rfl, rfl⟩ nil_P nil_D (nil_F hS hA) rfl hl.1 rfl (Nat.le_of_ble_eq_true rfl) dX12_takeOfConstraint_117 ⟨Nat.zero_le _, Nat.zero_le _⟩) hS hA hP rfl (fun H locs hP hS => ?_)
        have z120 := ckz_is h
        have h := ckz_to h
        have h : some (t117, t106, M_readConstraint_98) = some (r, M_readMany_o, M_readConstraint_o) := h
        cases h
        exact hret _ _ _ _ (nz_nar z120) hP hD hS dX12_takeOfConstraint_120
      have h := ifT h q64
      refine lv_aload_n hx hb dX12_takeOfConstraint_67 rfl (lv_at hl 1 rfl) ?_
      refine va_get (D := g.1) (ci := 11) (v := .ref aM_readConstraint) (C := RX12) (T := TX12) (N := 35) hx hb hts inBX12 hown hK hP 0 rfl rfl 13 (by decide) (hts _ wd4_209) (fun _ h9 => h9) rfl dX12_takeOfConstraint_68 ?_
      refine lv_iload_n hx hb dX12_takeOfConstraint_71 rfl (lv_at hl 0 rfl) ?_
      refine lv_iload_n hx hb dX12_takeOfConstraint_72 rfl (lv_at hl 3 rfl) ?_
      refine lv_bipush (v := (60 : Int32)) hx hb dX12_takeOfConstraint_73 (by decide) ?_
      refine lv_isub hx hb dX12_takeOfConstraint_75 ?_
      have hin := sti_in h
      refine va_iast hx hb hK hP hD hS 9 0 rfl rfl hin dX12_takeOfConstraint_76 (fun H locs hP hD hS => ?_)
      obtain ⟨M_readConstraint_76, eM_readConstraint_76⟩ : ∃ y : Nat → Int32, y = upd M_readConstraint (Int32.toNatClampNeg t10) (x2 - (60 : Int32)) := ⟨_, rfl⟩
      have h := sti_to h eM_readConstraint_76
      have hP : va_P g.1 vwCl (wX12 g aM aM_text aM_now aM_trial aM_read aM_diary aM_kept aM_isKept aM_constraint aM_readConstraint aM_word aM_size aM_number aM_firstOne aM_node aM_parent aM_rule aM_child aM_proof aM_witness aM_witnessSize aM_built aM_copyRow M_length M_acts M_next M_many M_readMany M_found M_shortest M_nodes M_solved M_dropped M_fits M_proofSize M_tooLong M_text M_now M_trial M_read M_diary M_kept M_isKept M_constraint M_readConstraint_76 M_word M_size M_number M_firstOne M_node M_parent M_rule M_child M_proof M_witness M_witnessSize M_built M_copyRow) H := by rw [eM_readConstraint_76]; exact hP
      have hD : va_D A (wX12 g aM aM_text aM_now aM_trial aM_read aM_diary aM_kept aM_isKept aM_constraint aM_readConstraint aM_word aM_size aM_number aM_firstOne aM_node aM_parent aM_rule aM_child aM_proof aM_witness aM_witnessSize aM_built aM_copyRow M_length M_acts M_next M_many M_readMany M_found M_shortest M_nodes M_solved M_dropped M_fits M_proofSize M_tooLong M_text M_now M_trial M_read M_diary M_kept M_isKept M_constraint M_readConstraint_76 M_word M_size M_number M_firstOne M_node M_parent M_rule M_child M_proof M_witness M_witnessSize M_built M_copyRow) := by rw [eM_readConstraint_76]; exact hD
      refine lv_iload_n hx hb dX12_takeOfConstraint_77 rfl (lv_at hl 3 rfl) ?_
      refine lv_i2l (v := (Int32.toInt64 x2)) hx hb dX12_takeOfConstraint_78 rfl ?_
      refine lv_ldc2 (v := (60 : Int64)) hx hb hown (hts _ wd5_94) dX12_takeOfConstraint_79 ?_
      refine lv_ldc2 (v := (62 : Int64)) hx hb hown (hts _ wd5_95) dX12_takeOfConstraint_82 ?_
      obtain ⟨t85, hc85, h⟩ := bd1_to h
      refine go_0 (st1 := [.int t85]) (run_S (As := [.long (Int32.toInt64 x2), .long (60 : Int64), .long (62 : Int64)]) (rest := []) X hS (mX12_in g l  (Int32.toInt64 x2) (60 : Int64) (62 : Int64) t85 hc85) okX12_in wd5_67 ⟨Nat.le_of_ble_eq_true rfl, Nat.le_of_ble_eq_true rfl⟩ ⟨rfl, rfl⟩ nil_P nil_D (nil_F hS hA) rfl hl.1 rfl (Nat.le_of_ble_eq_true rfl) dX12_takeOfConstraint_85 ⟨Nat.zero_le _, Nat.zero_le _⟩) hS hA hP rfl (fun H locs hP hS => ?_)
      have z88 := ckz_is h
      have h := ckz_to h
      have h : some (t85, M_readMany, M_readConstraint_76) = some (r, M_readMany_o, M_readConstraint_o) := h
      cases h
      exact hret _ _ _ _ (nz_nar z88) hP hD hS dX12_takeOfConstraint_88
    have h := ifT h q37
    refine lv_aload_n hx hb dX12_takeOfConstraint_40 rfl (lv_at hl 1 rfl) ?_
    refine va_get (D := g.1) (ci := 11) (v := .ref aM_readConstraint) (C := RX12) (T := TX12) (N := 35) hx hb hts inBX12 hown hK hP 0 rfl rfl 13 (by decide) (hts _ wd4_209) (fun _ h9 => h9) rfl dX12_takeOfConstraint_41 ?_
    refine lv_iload_n hx hb dX12_takeOfConstraint_44 rfl (lv_at hl 0 rfl) ?_
    refine lv_iload_n hx hb dX12_takeOfConstraint_45 rfl (lv_at hl 3 rfl) ?_
    refine lv_bipush (v := (87 : Int32)) hx hb dX12_takeOfConstraint_46 (by decide) ?_
    refine lv_isub hx hb dX12_takeOfConstraint_48 ?_
    have hin := sti_in h
    refine va_iast hx hb hK hP hD hS 9 0 rfl rfl hin dX12_takeOfConstraint_49 (fun H locs hP hD hS => ?_)
    obtain ⟨M_readConstraint_49, eM_readConstraint_49⟩ : ∃ y : Nat → Int32, y = upd M_readConstraint (Int32.toNatClampNeg t10) (x2 - (87 : Int32)) := ⟨_, rfl⟩
    have h := sti_to h eM_readConstraint_49
    have hP : va_P g.1 vwCl (wX12 g aM aM_text aM_now aM_trial aM_read aM_diary aM_kept aM_isKept aM_constraint aM_readConstraint aM_word aM_size aM_number aM_firstOne aM_node aM_parent aM_rule aM_child aM_proof aM_witness aM_witnessSize aM_built aM_copyRow M_length M_acts M_next M_many M_readMany M_found M_shortest M_nodes M_solved M_dropped M_fits M_proofSize M_tooLong M_text M_now M_trial M_read M_diary M_kept M_isKept M_constraint M_readConstraint_49 M_word M_size M_number M_firstOne M_node M_parent M_rule M_child M_proof M_witness M_witnessSize M_built M_copyRow) H := by rw [eM_readConstraint_49]; exact hP
    have hD : va_D A (wX12 g aM aM_text aM_now aM_trial aM_read aM_diary aM_kept aM_isKept aM_constraint aM_readConstraint aM_word aM_size aM_number aM_firstOne aM_node aM_parent aM_rule aM_child aM_proof aM_witness aM_witnessSize aM_built aM_copyRow M_length M_acts M_next M_many M_readMany M_found M_shortest M_nodes M_solved M_dropped M_fits M_proofSize M_tooLong M_text M_now M_trial M_read M_diary M_kept M_isKept M_constraint M_readConstraint_49 M_word M_size M_number M_firstOne M_node M_parent M_rule M_child M_proof M_witness M_witnessSize M_built M_copyRow) := by rw [eM_readConstraint_49]; exact hD
    refine lv_iload_n hx hb dX12_takeOfConstraint_50 rfl (lv_at hl 3 rfl) ?_
    refine lv_i2l (v := (Int32.toInt64 x2)) hx hb dX12_takeOfConstraint_51 rfl ?_
    refine lv_ldc2 (v := (87 : Int64)) hx hb hown (hts _ wd5_85) dX12_takeOfConstraint_52 ?_
    refine lv_ldc2 (v := (90 : Int64)) hx hb hown (hts _ wd5_86) dX12_takeOfConstraint_55 ?_
    obtain ⟨t58, hc58, h⟩ := bd1_to h
    refine go_0 (st1 := [.int t58]) (run_S (As := [.long (Int32.toInt64 x2), .long (87 : Int64), .long (90 : Int64)]) (rest := []) X hS (mX12_in g l  (Int32.toInt64 x2) (87 : Int64) (90 : Int64) t58 hc58) okX12_in wd5_67 ⟨Nat.le_of_ble_eq_true rfl, Nat.le_of_ble_eq_true rfl⟩ ⟨rfl, rfl⟩ nil_P nil_D (nil_F hS hA) rfl hl.1 rfl (Nat.le_of_ble_eq_true rfl) dX12_takeOfConstraint_58 ⟨Nat.zero_le _, Nat.zero_le _⟩) hS hA hP rfl (fun H locs hP hS => ?_)
    have z61 := ckz_is h
    have h := ckz_to h
    have h : some (t58, M_readMany, M_readConstraint_49) = some (r, M_readMany_o, M_readConstraint_o) := h
    cases h
    exact hret _ _ _ _ (nz_nar z61) hP hD hS dX12_takeOfConstraint_61
  have h := ifT h q12
  refine lv_iload_n hx hb dX12_takeOfConstraint_15 rfl (lv_at hl 3 rfl) ?_
  refine lv_bipush (v := (59 : Int32)) hx hb dX12_takeOfConstraint_16 (by decide) ?_
  refine lv_icmp_ne (tgt := 33) hx hb dX12_takeOfConstraint_18 (by decide) (fun q18 => ?_) (fun q18 => ?_)
  · have h := ifF h q18
    refine lv_iconst (v := (0 : Int32)) hx hb dX12_takeOfConstraint_33 (by decide) ?_
    have h : some ((0 : Int32), M_readMany, M_readConstraint) = some (r, M_readMany_o, M_readConstraint_o) := h
    cases h
    exact hret _ _ _ _ rfl hP hD hS dX12_takeOfConstraint_34
  have h := ifT h q18
  refine lv_aload_n hx hb dX12_takeOfConstraint_21 rfl (lv_at hl 1 rfl) ?_
  refine va_get (D := g.1) (ci := 11) (v := .int M_readMany) (C := RX12) (T := TX12) (N := 35) hx hb hts inBX12 hown hK hP 0 rfl rfl 12 (by decide) (hts _ wd4_208) (fun _ h9 => h9) rfl dX12_takeOfConstraint_22 ?_
  refine lv_iconst (v := (4 : Int32)) hx hb dX12_takeOfConstraint_25 (by decide) ?_
  refine lv_icmp_ge (tgt := 33) hx hb dX12_takeOfConstraint_26 (by decide) (fun q26 => ?_) (fun q26 => ?_)
  · have h := ifT h q26
    refine lv_iconst (v := (0 : Int32)) hx hb dX12_takeOfConstraint_33 (by decide) ?_
    have h : some ((0 : Int32), M_readMany, M_readConstraint) = some (r, M_readMany_o, M_readConstraint_o) := h
    cases h
    exact hret _ _ _ _ rfl hP hD hS dX12_takeOfConstraint_34
  have h := ifF h q26
  refine lv_iconst (v := (1 : Int32)) hx hb dX12_takeOfConstraint_29 (by decide) ?_
  refine lv_goto (tgt := 34) hx hb dX12_takeOfConstraint_30 (by decide) ?_
  have h : some ((1 : Int32), M_readMany, M_readConstraint) = some (r, M_readMany_o, M_readConstraint_o) := h
  cases h
  exact hret _ _ _ _ rfl hP hD hS dX12_takeOfConstraint_34
set_option maxHeartbeats 4000000 in
set_option maxRecDepth 100000 in
theorem mX12_readText (g : GP) (l : Launch) (aM aM_text aM_now aM_trial aM_read aM_diary aM_kept aM_isKept aM_constraint aM_readConstraint aM_word aM_size aM_number aM_firstOne aM_node aM_parent aM_rule aM_child aM_proof aM_witness aM_witnessSize aM_built aM_copyRow : Nat) (M_length : Int32) (M_acts : Int32) (M_next : Int32) (M_many : Int32) (M_readMany : Int32) (M_found : Int32) (M_shortest : Int32) (M_nodes : Int32) (M_solved : Int32) (M_dropped : Int32) (M_fits : Int32) (M_proofSize : Int32) (M_tooLong : Int32) (M_text : Nat → Int32) (M_now : Nat → Int32) (M_trial : Nat → Int32) (M_read : Nat → Int32) (M_diary : Nat → Int32) (M_kept : Nat → Int32) (M_isKept : Nat → Int32) (M_constraint : Nat → Int32) (M_readConstraint : Nat → Int32) (M_word : Nat → Int32) (M_size : Nat → Int32) (M_number : Nat → Int32) (M_firstOne : Nat → Int32) (M_node : Nat → Int32) (M_parent : Nat → Int32) (M_rule : Nat → Int32) (M_child : Nat → Int32) (M_proof : Nat → Int32) (M_witness : Nat → Int32) (M_witnessSize : Nat → Int32) (M_built : Nat → Int32) (M_copyRow : Nat → Int32)  (r : Int32) (M_readMany_o : Int32) (M_read_o : Nat → Int32) (M_readConstraint_o : Nat → Int32) (h : fM_readText M_length M_text M_read M_readConstraint = some (r, M_readMany_o, M_read_o, M_readConstraint_o)) : Ct g l yX12_readText cX12_readText 7 (some .int) rmX12_readText [.ref aM] (wX12 g aM aM_text aM_now aM_trial aM_read aM_diary aM_kept aM_isKept aM_constraint aM_readConstraint aM_word aM_size aM_number aM_firstOne aM_node aM_parent aM_rule aM_child aM_proof aM_witness aM_witnessSize aM_built aM_copyRow M_length M_acts M_next M_many M_readMany M_found M_shortest M_nodes M_solved M_dropped M_fits M_proofSize M_tooLong M_text M_now M_trial M_read M_diary M_kept M_isKept M_constraint M_readConstraint M_word M_size M_number M_firstOne M_node M_parent M_rule M_child M_proof M_witness M_witnessSize M_built M_copyRow) (some (.int r)) (wX12 g aM aM_text aM_now aM_trial aM_read aM_diary aM_kept aM_isKept aM_constraint aM_readConstraint aM_word aM_size aM_number aM_firstOne aM_node aM_parent aM_rule aM_child aM_proof aM_witness aM_witnessSize aM_built aM_copyRow M_length M_acts M_next M_many M_readMany_o M_found M_shortest M_nodes M_solved M_dropped M_fits M_proofSize M_tooLong M_text M_now M_trial M_read_o M_diary M_kept M_isKept M_constraint M_readConstraint_o M_word M_size M_number M_firstOne M_node M_parent M_rule M_child M_proof M_witness M_witnessSize M_built M_copyRow) := by
  refine Ct.introI (by decide) (Nat.le_of_ble_eq_true rfl) ?_
  intro p e s m below meth c A QQ ls hyp hret
  obtain ⟨hx, hb, hml, hts, hown, hA, hE, hP, hD, hl⟩ := hyp
  have hK := hE.1
  have hS : va_S A s.heap s.heap [] := va_S.rf
  have X : Here g p s m c cX12_readText 7 ([.ref aM] : List Value).toArray RX12 A := ⟨⟨hx, hb, hml, hown, hts⟩, hE, hA⟩
  have L32 : ∀ (n32 : Nat), ∀ (M_readMany : Int32) (M_read : Nat → Int32) (M_readConstraint : Nat → Int32) (v1 : Int32) (v2 : Int32) (v3 : Int32) (ls : Array Slot) (H : Heap) (locs : List Loc), lv_has ls 7 [(0, .ref aM), (1, .int v1), (2, .int v2), (3, .int v3)] → va_P g.1 vwCl (wX12 g aM aM_text aM_now aM_trial aM_read aM_diary aM_kept aM_isKept aM_constraint aM_readConstraint aM_word aM_size aM_number aM_firstOne aM_node aM_parent aM_rule aM_child aM_proof aM_witness aM_witnessSize aM_built aM_copyRow M_length M_acts M_next M_many M_readMany M_found M_shortest M_nodes M_solved M_dropped M_fits M_proofSize M_tooLong M_text M_now M_trial M_read M_diary M_kept M_isKept M_constraint M_readConstraint M_word M_size M_number M_firstOne M_node M_parent M_rule M_child M_proof M_witness M_witnessSize M_built M_copyRow) H → va_D A (wX12 g aM aM_text aM_now aM_trial aM_read aM_diary aM_kept aM_isKept aM_constraint aM_readConstraint aM_word aM_size aM_number aM_firstOne aM_node aM_parent aM_rule aM_child aM_proof aM_witness aM_witnessSize aM_built aM_copyRow M_length M_acts M_next M_many M_readMany M_found M_shortest M_nodes M_solved M_dropped M_fits M_proofSize M_tooLong M_text M_now M_trial M_read M_diary M_kept M_isKept M_constraint M_readConstraint M_word M_size M_number M_firstOne M_node M_parent M_rule M_child M_proof M_witness M_witnessSize M_built M_copyRow) → va_S A s.heap H locs → fx6 (fM_readText_32 M_length M_text) n32 M_readMany M_read M_readConstraint v1 v2 v3 = some (r, M_readMany_o, M_read_o, M_readConstraint_o) → W p l e rmX12_readText s m ([.ref aM] : List Value).toArray below meth c H locs 0 0 QQ (F0 m 32 ls []) := by
    intro n32
    induction n32 with
    | zero => intro M_readMany M_read M_readConstraint v1 v2 v3 ls H locs hl hP hD hS h; exact fx6_0 h
    | succ n32 ih32 =>
      intro M_readMany M_read M_readConstraint v1 v2 v3 ls H locs hl hP hD hS h
      have h := (fx6_s (fM_readText_32 M_length M_text) n32 M_readMany M_read M_readConstraint v1 v2 v3).symm.trans h
      have B163 : ∀ (M_readMany : Int32) (M_read : Nat → Int32) (M_readConstraint : Nat → Int32) (v1 : Int32) (v2 : Int32) (v3 : Int32) (v6 : Int32) (ls : Array Slot) (H : Heap) (locs : List Loc), lv_has ls 7 [(0, .ref aM), (1, .int v1), (2, .int v2), (3, .int v3), (6, .int v6)] → va_P g.1 vwCl (wX12 g aM aM_text aM_now aM_trial aM_read aM_diary aM_kept aM_isKept aM_constraint aM_readConstraint aM_word aM_size aM_number aM_firstOne aM_node aM_parent aM_rule aM_child aM_proof aM_witness aM_witnessSize aM_built aM_copyRow M_length M_acts M_next M_many M_readMany M_found M_shortest M_nodes M_solved M_dropped M_fits M_proofSize M_tooLong M_text M_now M_trial M_read M_diary M_kept M_isKept M_constraint M_readConstraint M_word M_size M_number M_firstOne M_node M_parent M_rule M_child M_proof M_witness M_witnessSize M_built M_copyRow) H → va_D A (wX12 g aM aM_text aM_now aM_trial aM_read aM_diary aM_kept aM_isKept aM_constraint aM_readConstraint aM_word aM_size aM_number aM_firstOne aM_node aM_parent aM_rule aM_child aM_proof aM_witness aM_witnessSize aM_built aM_copyRow M_length M_acts M_next M_many M_readMany M_found M_shortest M_nodes M_solved M_dropped M_fits M_proofSize M_tooLong M_text M_now M_trial M_read M_diary M_kept M_isKept M_constraint M_readConstraint M_word M_size M_number M_firstOne M_node M_parent M_rule M_child M_proof M_witness M_witnessSize M_built M_copyRow) → va_S A s.heap H locs → fM_readText_163 (fx6 (fM_readText_32 M_length M_text) n32) M_length M_readMany M_text M_read M_readConstraint v1 v2 v3 v6 = some (r, M_readMany_o, M_read_o, M_readConstraint_o) → W p l e rmX12_readText s m ([.ref aM] : List Value).toArray below meth c H locs 0 0 QQ (F0 m 163 ls []) := by
        intro M_readMany M_read M_readConstraint v1 v2 v3 v6 ls H locs hl hP hD hS h
        refine lv_iload hx hb dX12_readText_163 (lv_at hl 4 rfl) ?_
        refine lv_if_ne (tgt := 170) hx hb dX12_readText_165 (by decide) (fun q165 => ?_) (fun q165 => ?_)
        · have h := ifF h q165
          obtain ⟨t170, et170⟩ : ∃ y : Int32, y = v3 + (1 : Int32) := ⟨_, rfl⟩
          refine lv_iinc (v := t170) (lv' := [(3, .int t170), (0, .ref aM), (1, .int v1), (2, .int v2), (6, .int v6)]) hx hb dX12_readText_170 hl (k := 3) rfl (by rw [et170]; rfl) (by decide) rfl (fun ls hl => ?_)
          have h := st_to h et170
          refine lv_goto (tgt := 32) hx hb dX12_readText_173 (by decide) ?_
          exact ih32 M_readMany M_read M_readConstraint v1 v2 t170 ls H locs (lv_sub hl [1, 2, 3, 0] rfl) hP hD hS h
        have h := ifT h q165
        refine lv_iload_n hx hb dX12_readText_168 rfl (lv_at hl 3 rfl) ?_
        have h : some (v3, M_readMany, M_read, M_readConstraint) = some (r, M_readMany_o, M_read_o, M_readConstraint_o) := h
        cases h
        exact hret _ _ _ _ hP hD hS dX12_readText_169
      have B86 : ∀ (M_readMany : Int32) (M_read : Nat → Int32) (M_readConstraint : Nat → Int32) (v1 : Int32) (v2 : Int32) (v3 : Int32) (v5 : Int32) (s0 : Int32) (ls : Array Slot) (H : Heap) (locs : List Loc), lv_has ls 7 [(0, .ref aM), (1, .int v1), (2, .int v2), (3, .int v3), (5, .int v5)] → va_P g.1 vwCl (wX12 g aM aM_text aM_now aM_trial aM_read aM_diary aM_kept aM_isKept aM_constraint aM_readConstraint aM_word aM_size aM_number aM_firstOne aM_node aM_parent aM_rule aM_child aM_proof aM_witness aM_witnessSize aM_built aM_copyRow M_length M_acts M_next M_many M_readMany M_found M_shortest M_nodes M_solved M_dropped M_fits M_proofSize M_tooLong M_text M_now M_trial M_read M_diary M_kept M_isKept M_constraint M_readConstraint M_word M_size M_number M_firstOne M_node M_parent M_rule M_child M_proof M_witness M_witnessSize M_built M_copyRow) H → va_D A (wX12 g aM aM_text aM_now aM_trial aM_read aM_diary aM_kept aM_isKept aM_constraint aM_readConstraint aM_word aM_size aM_number aM_firstOne aM_node aM_parent aM_rule aM_child aM_proof aM_witness aM_witnessSize aM_built aM_copyRow M_length M_acts M_next M_many M_readMany M_found M_shortest M_nodes M_solved M_dropped M_fits M_proofSize M_tooLong M_text M_now M_trial M_read M_diary M_kept M_isKept M_constraint M_readConstraint M_word M_size M_number M_firstOne M_node M_parent M_rule M_child M_proof M_witness M_witnessSize M_built M_copyRow) → va_S A s.heap H locs → fM_readText_86 (fx6 (fM_readText_32 M_length M_text) n32) M_length M_readMany M_text M_read M_readConstraint v1 v2 v3 v5 s0 = some (r, M_readMany_o, M_read_o, M_readConstraint_o) → W p l e rmX12_readText s m ([.ref aM] : List Value).toArray below meth c H locs 0 0 QQ (F0 m 86 ls [.int s0]) := by
        intro M_readMany M_read M_readConstraint v1 v2 v3 v5 s0 ls H locs hl hP hD hS h
        refine lv_istore (lv' := [(6, .int s0), (0, .ref aM), (1, .int v1), (2, .int v2), (3, .int v3), (5, .int v5)]) hx hb dX12_readText_86 hl (by decide) rfl (fun ls hl => ?_)
        refine lv_iload hx hb dX12_readText_88 (lv_at hl 0 rfl) ?_
        refine lv_if_eq (tgt := 163) hx hb dX12_readText_90 (by decide) (fun q90 => ?_) (fun q90 => ?_)
        · have h := ifT h q90
          exact B163 M_readMany M_read M_readConstraint v1 v2 v3 s0 ls H locs (lv_sub hl [1, 2, 3, 4, 0] rfl) hP hD hS h
        have h := ifF h q90
        refine lv_aload_n hx hb dX12_readText_93 rfl (lv_at hl 1 rfl) ?_
        refine va_get (D := g.1) (ci := 11) (v := .ref aM_read) (C := RX12) (T := TX12) (N := 35) hx hb hts inBX12 hown hK hP 0 rfl rfl 4 (by decide) (hts _ wd4_200) (fun _ h9 => h9) rfl dX12_readText_94 ?_
        refine lv_iload_n hx hb dX12_readText_97 rfl (lv_at hl 2 rfl) ?_
        refine lv_aload_n hx hb dX12_readText_98 rfl (lv_at hl 1 rfl) ?_
        refine va_get (D := g.1) (ci := 11) (v := .ref aM_read) (C := RX12) (T := TX12) (N := 35) hx hb hts inBX12 hown hK hP 0 rfl rfl 4 (by decide) (hts _ wd4_200) (fun _ h9 => h9) rfl dX12_readText_99 ?_
        refine lv_iload_n hx hb dX12_readText_102 rfl (lv_at hl 2 rfl) ?_
        have hin := ld_in h
        refine va_iald hx hb hK hP 4 0 rfl rfl hin dX12_readText_103 ?_
        refine lv_topi (fun t103 et103 => ?_)
        have h := ld_to h et103
        obtain ⟨t104, hc104, h⟩ := bd1_to h
        refine go_0 (st1 := [.int t104, .ref aM_read]) (run_S (As := [.int v1, .int t103]) (rest := [.ref aM_read]) X hS (mX12_at g l  v1 t103 t104 hc104) okX12_at wd5_87 ⟨Nat.le_of_ble_eq_true rfl, Nat.le_of_ble_eq_true rfl⟩ ⟨rfl, rfl⟩ nil_P nil_D (nil_F hS hA) rfl hl.1 rfl (Nat.le_of_ble_eq_true rfl) dX12_readText_104 ⟨Nat.zero_le _, Nat.zero_le _⟩) hS hA hP rfl (fun H locs hP hS => ?_)
        refine lv_iload hx hb dX12_readText_107 (lv_at hl 5 rfl) ?_
        have hin := sti_in h
        refine va_iast hx hb hK hP hD hS 4 0 rfl rfl hin dX12_readText_109 (fun H locs hP hD hS => ?_)
        obtain ⟨M_read_109, eM_read_109⟩ : ∃ y : Nat → Int32, y = upd M_read (Int32.toNatClampNeg t104) v5 := ⟨_, rfl⟩
        have h := sti_to h eM_read_109
        have hP : va_P g.1 vwCl (wX12 g aM aM_text aM_now aM_trial aM_read aM_diary aM_kept aM_isKept aM_constraint aM_readConstraint aM_word aM_size aM_number aM_firstOne aM_node aM_parent aM_rule aM_child aM_proof aM_witness aM_witnessSize aM_built aM_copyRow M_length M_acts M_next M_many M_readMany M_found M_shortest M_nodes M_solved M_dropped M_fits M_proofSize M_tooLong M_text M_now M_trial M_read_109 M_diary M_kept M_isKept M_constraint M_readConstraint M_word M_size M_number M_firstOne M_node M_parent M_rule M_child M_proof M_witness M_witnessSize M_built M_copyRow) H := by rw [eM_read_109]; exact hP
        have hD : va_D A (wX12 g aM aM_text aM_now aM_trial aM_read aM_diary aM_kept aM_isKept aM_constraint aM_readConstraint aM_word aM_size aM_number aM_firstOne aM_node aM_parent aM_rule aM_child aM_proof aM_witness aM_witnessSize aM_built aM_copyRow M_length M_acts M_next M_many M_readMany M_found M_shortest M_nodes M_solved M_dropped M_fits M_proofSize M_tooLong M_text M_now M_trial M_read_109 M_diary M_kept M_isKept M_constraint M_readConstraint M_word M_size M_number M_firstOne M_node M_parent M_rule M_child M_proof M_witness M_witnessSize M_built M_copyRow) := by rw [eM_read_109]; exact hD
        refine lv_aload_n hx hb dX12_readText_110 rfl (lv_at hl 1 rfl) ?_
        refine va_get (D := g.1) (ci := 11) (v := .ref aM_read) (C := RX12) (T := TX12) (N := 35) hx hb hts inBX12 hown hK hP 0 rfl rfl 4 (by decide) (hts _ wd4_200) (fun _ h9 => h9) rfl dX12_readText_111 ?_
        refine lv_iload_n hx hb dX12_readText_114 rfl (lv_at hl 2 rfl) ?_
        refine lv_dup2_11 hx hb dX12_readText_115 rfl rfl ?_
        have hin := ld_in h
        refine va_iald hx hb hK hP 4 0 rfl rfl hin dX12_readText_116 ?_
        refine lv_topi (fun t116 et116 => ?_)
        have h := ld_to h et116
        refine lv_iconst (v := (1 : Int32)) hx hb dX12_readText_117 (by decide) ?_
        refine lv_iadd hx hb dX12_readText_118 ?_
        have hin := sti_in h
        refine va_iast hx hb hK hP hD hS 4 0 rfl rfl hin dX12_readText_119 (fun H locs hP hD hS => ?_)
        obtain ⟨M_read_119, eM_read_119⟩ : ∃ y : Nat → Int32, y = upd M_read_109 (Int32.toNatClampNeg v1) (t116 + (1 : Int32)) := ⟨_, rfl⟩
        have h := sti_to h eM_read_119
        have hP : va_P g.1 vwCl (wX12 g aM aM_text aM_now aM_trial aM_read aM_diary aM_kept aM_isKept aM_constraint aM_readConstraint aM_word aM_size aM_number aM_firstOne aM_node aM_parent aM_rule aM_child aM_proof aM_witness aM_witnessSize aM_built aM_copyRow M_length M_acts M_next M_many M_readMany M_found M_shortest M_nodes M_solved M_dropped M_fits M_proofSize M_tooLong M_text M_now M_trial M_read_119 M_diary M_kept M_isKept M_constraint M_readConstraint M_word M_size M_number M_firstOne M_node M_parent M_rule M_child M_proof M_witness M_witnessSize M_built M_copyRow) H := by rw [eM_read_119]; exact hP
        have hD : va_D A (wX12 g aM aM_text aM_now aM_trial aM_read aM_diary aM_kept aM_isKept aM_constraint aM_readConstraint aM_word aM_size aM_number aM_firstOne aM_node aM_parent aM_rule aM_child aM_proof aM_witness aM_witnessSize aM_built aM_copyRow M_length M_acts M_next M_many M_readMany M_found M_shortest M_nodes M_solved M_dropped M_fits M_proofSize M_tooLong M_text M_now M_trial M_read_119 M_diary M_kept M_isKept M_constraint M_readConstraint M_word M_size M_number M_firstOne M_node M_parent M_rule M_child M_proof M_witness M_witnessSize M_built M_copyRow) := by rw [eM_read_119]; exact hD
        refine lv_goto (tgt := 163) hx hb dX12_readText_120 (by decide) ?_
        exact B163 M_readMany M_read_119 M_readConstraint v1 v2 v3 s0 ls H locs (lv_sub hl [1, 2, 3, 4, 0] rfl) hP hD hS h
      have B123 : ∀ (M_readMany : Int32) (M_read : Nat → Int32) (M_readConstraint : Nat → Int32) (v1 : Int32) (v2 : Int32) (v3 : Int32) (v4 : Int32) (ls : Array Slot) (H : Heap) (locs : List Loc), lv_has ls 7 [(0, .ref aM), (1, .int v1), (2, .int v2), (3, .int v3), (4, .int v4)] → va_P g.1 vwCl (wX12 g aM aM_text aM_now aM_trial aM_read aM_diary aM_kept aM_isKept aM_constraint aM_readConstraint aM_word aM_size aM_number aM_firstOne aM_node aM_parent aM_rule aM_child aM_proof aM_witness aM_witnessSize aM_built aM_copyRow M_length M_acts M_next M_many M_readMany M_found M_shortest M_nodes M_solved M_dropped M_fits M_proofSize M_tooLong M_text M_now M_trial M_read M_diary M_kept M_isKept M_constraint M_readConstraint M_word M_size M_number M_firstOne M_node M_parent M_rule M_child M_proof M_witness M_witnessSize M_built M_copyRow) H → va_D A (wX12 g aM aM_text aM_now aM_trial aM_read aM_diary aM_kept aM_isKept aM_constraint aM_readConstraint aM_word aM_size aM_number aM_firstOne aM_node aM_parent aM_rule aM_child aM_proof aM_witness aM_witnessSize aM_built aM_copyRow M_length M_acts M_next M_many M_readMany M_found M_shortest M_nodes M_solved M_dropped M_fits M_proofSize M_tooLong M_text M_now M_trial M_read M_diary M_kept M_isKept M_constraint M_readConstraint M_word M_size M_number M_firstOne M_node M_parent M_rule M_child M_proof M_witness M_witnessSize M_built M_copyRow) → va_S A s.heap H locs → fM_readText_123 (fx6 (fM_readText_32 M_length M_text) n32) M_length M_readMany M_text M_read M_readConstraint v1 v2 v3 v4 = some (r, M_readMany_o, M_read_o, M_readConstraint_o) → W p l e rmX12_readText s m ([.ref aM] : List Value).toArray below meth c H locs 0 0 QQ (F0 m 123 ls []) := by
        intro M_readMany M_read M_readConstraint v1 v2 v3 v4 ls H locs hl hP hD hS h
        refine lv_iload_n hx hb dX12_readText_123 rfl (lv_at hl 1 rfl) ?_
        refine lv_if_ne (tgt := 146) hx hb dX12_readText_124 (by decide) (fun q124 => ?_) (fun q124 => ?_)
        · have h := ifF h q124
          refine lv_iconst (v := (2 : Int32)) hx hb dX12_readText_146 (by decide) ?_
          refine lv_istore_n (lv' := [(1, .int (2 : Int32)), (0, .ref aM), (2, .int v2), (3, .int v3), (4, .int v4)]) hx hb dX12_readText_147 rfl hl (by decide) rfl (fun ls hl => ?_)
          refine lv_aload_n hx hb dX12_readText_148 rfl (lv_at hl 1 rfl) ?_
          refine lv_iload_n hx hb dX12_readText_149 rfl (lv_at hl 2 rfl) ?_
          refine lv_iload hx hb dX12_readText_150 (lv_at hl 4 rfl) ?_
          obtain ⟨t152, M_readMany_152, M_readConstraint_152, hc152, h⟩ := bd3_to h
          refine go_A (st1 := [.int t152]) (run_V (As := [.int v2, .int v4]) (rest := []) X hS (mX12_takeOfConstraint g l  aM aM_text aM_now aM_trial aM_read aM_diary aM_kept aM_isKept aM_constraint aM_readConstraint aM_word aM_size aM_number aM_firstOne aM_node aM_parent aM_rule aM_child aM_proof aM_witness aM_witnessSize aM_built aM_copyRow M_length M_acts M_next M_many M_readMany M_found M_shortest M_nodes M_solved M_dropped M_fits M_proofSize M_tooLong M_text M_now M_trial M_read M_diary M_kept M_isKept M_constraint M_readConstraint M_word M_size M_number M_firstOne M_node M_parent M_rule M_child M_proof M_witness M_witnessSize M_built M_copyRow v2 v4 t152 M_readMany_152 M_readConstraint_152 hc152) okX12_takeOfConstraint wd5_90 ⟨Nat.le_of_ble_eq_true rfl, Nat.le_of_ble_eq_true rfl⟩ ⟨rfl, rfl⟩ (va_recv hK hP (ci := 11) (q0 := 0) rfl rfl) hP hD (all_F hS hA hD) rfl hl.1 rfl (Nat.le_of_ble_eq_true rfl) dX12_readText_152 ⟨Nat.zero_le _, Nat.zero_le _⟩) hS (all_F hS hA hD) rfl (fun H locs hP hD hS => ?_)
          refine lv_istore (lv' := [(6, .int t152), (1, .int (2 : Int32)), (0, .ref aM), (2, .int v2), (3, .int v3), (4, .int v4)]) hx hb dX12_readText_155 hl (by decide) rfl (fun ls hl => ?_)
          refine lv_iload_n hx hb dX12_readText_157 rfl (lv_at hl 3 rfl) ?_
          refine lv_iconst (v := (1 : Int32)) hx hb dX12_readText_158 (by decide) ?_
          refine lv_iadd hx hb dX12_readText_159 ?_
          refine lv_iconst (v := (4 : Int32)) hx hb dX12_readText_160 (by decide) ?_
          refine lv_irem hx hb dX12_readText_161 (by decide) ?_
          refine lv_topi (fun t162 et162 => ?_)
          have h := st_to h et162
          refine lv_istore_n (lv' := [(2, .int t162), (6, .int t152), (1, .int (2 : Int32)), (0, .ref aM), (3, .int v3), (4, .int v4)]) hx hb dX12_readText_162 rfl hl (by decide) rfl (fun ls hl => ?_)
          exact B163 M_readMany_152 M_read M_readConstraint_152 (2 : Int32) t162 v3 t152 ls H locs (lv_sub hl [3, 2, 0, 4, 1] rfl) hP hD hS h
        have h := ifT h q124
        refine lv_iload hx hb dX12_readText_127 (lv_at hl 4 rfl) ?_
        refine lv_bipush (v := (61 : Int32)) hx hb dX12_readText_129 (by decide) ?_
        refine lv_icmp_ne (tgt := 138) hx hb dX12_readText_131 (by decide) (fun q131 => ?_) (fun q131 => ?_)
        · have h := ifF h q131
          refine lv_iconst (v := (0 : Int32)) hx hb dX12_readText_138 (by decide) ?_
          refine lv_istore (lv' := [(6, .int (0 : Int32)), (0, .ref aM), (1, .int v1), (2, .int v2), (3, .int v3), (4, .int v4)]) hx hb dX12_readText_139 hl (by decide) rfl (fun ls hl => ?_)
          refine lv_iconst (v := (1 : Int32)) hx hb dX12_readText_141 (by decide) ?_
          refine lv_istore_n (lv' := [(1, .int (1 : Int32)), (6, .int (0 : Int32)), (0, .ref aM), (2, .int v2), (3, .int v3), (4, .int v4)]) hx hb dX12_readText_142 rfl hl (by decide) rfl (fun ls hl => ?_)
          refine lv_goto (tgt := 163) hx hb dX12_readText_143 (by decide) ?_
          exact B163 M_readMany M_read M_readConstraint (1 : Int32) v2 v3 (0 : Int32) ls H locs (lv_sub hl [2, 0, 3, 4, 1] rfl) hP hD hS h
        have h := ifT h q131
        refine lv_iconst (v := (1 : Int32)) hx hb dX12_readText_134 (by decide) ?_
        refine lv_goto (tgt := 139) hx hb dX12_readText_135 (by decide) ?_
        refine lv_istore (lv' := [(6, .int (1 : Int32)), (0, .ref aM), (1, .int v1), (2, .int v2), (3, .int v3), (4, .int v4)]) hx hb dX12_readText_139 hl (by decide) rfl (fun ls hl => ?_)
        refine lv_iconst (v := (1 : Int32)) hx hb dX12_readText_141 (by decide) ?_
        refine lv_istore_n (lv' := [(1, .int (1 : Int32)), (6, .int (1 : Int32)), (0, .ref aM), (2, .int v2), (3, .int v3), (4, .int v4)]) hx hb dX12_readText_142 rfl hl (by decide) rfl (fun ls hl => ?_)
        refine lv_goto (tgt := 163) hx hb dX12_readText_143 (by decide) ?_
        exact B163 M_readMany M_read M_readConstraint (1 : Int32) v2 v3 (1 : Int32) ls H locs (lv_sub hl [2, 0, 3, 4, 1] rfl) hP hD hS h
      refine lv_iload_n hx hb dX12_readText_32 rfl (lv_at hl 3 rfl) ?_
      refine lv_aload_n hx hb dX12_readText_33 rfl (lv_at hl 0 rfl) ?_
      refine va_get (D := g.1) (ci := 11) (v := .int M_length) (C := RX12) (T := TX12) (N := 35) hx hb hts inBX12 hown hK hP 0 rfl rfl 1 (by decide) (hts _ wd4_197) (fun _ h9 => h9) rfl dX12_readText_34 ?_
      refine lv_icmp_ge (tgt := 176) hx hb dX12_readText_37 (by decide) (fun q37 => ?_) (fun q37 => ?_)
      · have h := ifT h q37
        refine lv_iload_n hx hb dX12_readText_176 rfl (lv_at hl 1 rfl) ?_
        refine lv_if_le (tgt := 189) hx hb dX12_readText_177 (by decide) (fun q177 => ?_) (fun q177 => ?_)
        · have h := ifT h q177
          refine lv_aload_n hx hb dX12_readText_189 rfl (lv_at hl 0 rfl) ?_
          refine va_get (D := g.1) (ci := 11) (v := .int M_length) (C := RX12) (T := TX12) (N := 35) hx hb hts inBX12 hown hK hP 0 rfl rfl 1 (by decide) (hts _ wd4_197) (fun _ h9 => h9) rfl dX12_readText_190 ?_
          have h : some (M_length, M_readMany, M_read, M_readConstraint) = some (r, M_readMany_o, M_read_o, M_readConstraint_o) := h
          cases h
          exact hret _ _ _ _ hP hD hS dX12_readText_193
        have h := ifF h q177
        refine lv_iload_n hx hb dX12_readText_180 rfl (lv_at hl 2 rfl) ?_
        refine lv_if_ne (tgt := 189) hx hb dX12_readText_181 (by decide) (fun q181 => ?_) (fun q181 => ?_)
        · have h := ifF h q181
          refine lv_aload_n hx hb dX12_readText_189 rfl (lv_at hl 0 rfl) ?_
          refine va_get (D := g.1) (ci := 11) (v := .int M_length) (C := RX12) (T := TX12) (N := 35) hx hb hts inBX12 hown hK hP 0 rfl rfl 1 (by decide) (hts _ wd4_197) (fun _ h9 => h9) rfl dX12_readText_190 ?_
          have h : some (M_length, M_readMany, M_read, M_readConstraint) = some (r, M_readMany_o, M_read_o, M_readConstraint_o) := h
          cases h
          exact hret _ _ _ _ hP hD hS dX12_readText_193
        have h := ifT h q181
        refine lv_bipush (v := ((-9) : Int32)) hx hb dX12_readText_184 (by decide) ?_
        refine lv_goto (tgt := 193) hx hb dX12_readText_186 (by decide) ?_
        have h : some (((-9) : Int32), M_readMany, M_read, M_readConstraint) = some (r, M_readMany_o, M_read_o, M_readConstraint_o) := h
        cases h
        exact hret _ _ _ _ hP hD hS dX12_readText_193
      have h := ifF h q37
      refine lv_aload_n hx hb dX12_readText_40 rfl (lv_at hl 0 rfl) ?_
      refine va_get (D := g.1) (ci := 11) (v := .ref aM_text) (C := RX12) (T := TX12) (N := 35) hx hb hts inBX12 hown hK hP 0 rfl rfl 0 (by decide) (hts _ wd4_196) (fun _ h9 => h9) rfl dX12_readText_41 ?_
      refine lv_iload_n hx hb dX12_readText_44 rfl (lv_at hl 3 rfl) ?_
      have hin := ld_in h
      refine va_iald hx hb hK hP 1 0 rfl rfl hin dX12_readText_45 ?_
      refine lv_topi (fun t45 et45 => ?_)
      have h := ld_to h et45
      refine lv_istore (lv' := [(4, .int t45), (0, .ref aM), (1, .int v1), (2, .int v2), (3, .int v3)]) hx hb dX12_readText_46 hl (by decide) rfl (fun ls hl => ?_)
      refine lv_iload hx hb dX12_readText_48 (lv_at hl 0 rfl) ?_
      obtain ⟨t50, hc50, h⟩ := bd1_to h
      refine go_0 (st1 := [.int t50]) (run_S (As := [.int t45]) (rest := []) X hS (mX12_symbolOf g l  t45 t50 hc50) okX12_symbolOf wd5_82 ⟨Nat.le_of_ble_eq_true rfl, Nat.le_of_ble_eq_true rfl⟩ ⟨rfl, rfl⟩ nil_P nil_D (nil_F hS hA) rfl hl.1 rfl (Nat.le_of_ble_eq_true rfl) dX12_readText_50 ⟨Nat.zero_le _, Nat.zero_le _⟩) hS hA hP rfl (fun H locs hP hS => ?_)
      refine lv_istore (lv' := [(5, .int t50), (4, .int t45), (0, .ref aM), (1, .int v1), (2, .int v2), (3, .int v3)]) hx hb dX12_readText_53 hl (by decide) rfl (fun ls hl => ?_)
      refine lv_iconst (v := (1 : Int32)) hx hb dX12_readText_55 (by decide) ?_
      refine lv_istore (lv' := [(6, .int (1 : Int32)), (5, .int t50), (4, .int t45), (0, .ref aM), (1, .int v1), (2, .int v2), (3, .int v3)]) hx hb dX12_readText_56 hl (by decide) rfl (fun ls hl => ?_)
      refine lv_iload_n hx hb dX12_readText_58 rfl (lv_at hl 4 rfl) ?_
      refine lv_iconst (v := (2 : Int32)) hx hb dX12_readText_59 (by decide) ?_
      refine lv_icmp_ge (tgt := 123) hx hb dX12_readText_60 (by decide) (fun q60 => ?_) (fun q60 => ?_)
      · have h := ifT h q60
        exact B123 M_readMany M_read M_readConstraint v1 v2 v3 t45 ls H locs (lv_sub hl [3, 4, 5, 6, 2] rfl) hP hD hS h
      have h := ifF h q60
      refine lv_iload hx hb dX12_readText_63 (lv_at hl 1 rfl) ?_
      refine lv_bipush (v := ((-9) : Int32)) hx hb dX12_readText_65 (by decide) ?_
      refine lv_icmp_eq (tgt := 123) hx hb dX12_readText_67 (by decide) (fun q67 => ?_) (fun q67 => ?_)
      · have h := ifT h q67
        exact B123 M_readMany M_read M_readConstraint v1 v2 v3 t45 ls H locs (lv_sub hl [3, 4, 5, 6, 2] rfl) hP hD hS h
      have h := ifF h q67
      refine lv_aload_n hx hb dX12_readText_70 rfl (lv_at hl 3 rfl) ?_
      refine va_get (D := g.1) (ci := 11) (v := .ref aM_read) (C := RX12) (T := TX12) (N := 35) hx hb hts inBX12 hown hK hP 0 rfl rfl 4 (by decide) (hts _ wd4_200) (fun _ h9 => h9) rfl dX12_readText_71 ?_
      refine lv_iload_n hx hb dX12_readText_74 rfl (lv_at hl 4 rfl) ?_
      have hin := ld_in h
      refine va_iald hx hb hK hP 4 0 rfl rfl hin dX12_readText_75 ?_
      refine lv_topi (fun t75 et75 => ?_)
      have h := ld_to h et75
      refine lv_bipush (v := (8 : Int32)) hx hb dX12_readText_76 (by decide) ?_
      refine lv_icmp_ge (tgt := 85) hx hb dX12_readText_78 (by decide) (fun q78 => ?_) (fun q78 => ?_)
      · have h := ifT h q78
        refine lv_iconst (v := (0 : Int32)) hx hb dX12_readText_85 (by decide) ?_
        exact B86 M_readMany M_read M_readConstraint v1 v2 v3 t50 (0 : Int32) ls H locs (lv_sub hl [3, 4, 5, 6, 1] rfl) hP hD hS h
      have h := ifF h q78
      refine lv_iconst (v := (1 : Int32)) hx hb dX12_readText_81 (by decide) ?_
      refine lv_goto (tgt := 86) hx hb dX12_readText_82 (by decide) ?_
      exact B86 M_readMany M_read M_readConstraint v1 v2 v3 t50 (1 : Int32) ls H locs (lv_sub hl [3, 4, 5, 6, 1] rfl) hP hD hS h
  have L2 : ∀ (n2 : Nat), ∀ (M_readMany : Int32) (M_read : Nat → Int32) (M_readConstraint : Nat → Int32) (v1 : Int32) (ls : Array Slot) (H : Heap) (locs : List Loc), lv_has ls 7 [(0, .ref aM), (1, .int v1)] → va_P g.1 vwCl (wX12 g aM aM_text aM_now aM_trial aM_read aM_diary aM_kept aM_isKept aM_constraint aM_readConstraint aM_word aM_size aM_number aM_firstOne aM_node aM_parent aM_rule aM_child aM_proof aM_witness aM_witnessSize aM_built aM_copyRow M_length M_acts M_next M_many M_readMany M_found M_shortest M_nodes M_solved M_dropped M_fits M_proofSize M_tooLong M_text M_now M_trial M_read M_diary M_kept M_isKept M_constraint M_readConstraint M_word M_size M_number M_firstOne M_node M_parent M_rule M_child M_proof M_witness M_witnessSize M_built M_copyRow) H → va_D A (wX12 g aM aM_text aM_now aM_trial aM_read aM_diary aM_kept aM_isKept aM_constraint aM_readConstraint aM_word aM_size aM_number aM_firstOne aM_node aM_parent aM_rule aM_child aM_proof aM_witness aM_witnessSize aM_built aM_copyRow M_length M_acts M_next M_many M_readMany M_found M_shortest M_nodes M_solved M_dropped M_fits M_proofSize M_tooLong M_text M_now M_trial M_read M_diary M_kept M_isKept M_constraint M_readConstraint M_word M_size M_number M_firstOne M_node M_parent M_rule M_child M_proof M_witness M_witnessSize M_built M_copyRow) → va_S A s.heap H locs → fx2 (fM_readText_2 M_length M_text M_readConstraint) n2 M_read v1 = some (r, M_readMany_o, M_read_o, M_readConstraint_o) → W p l e rmX12_readText s m ([.ref aM] : List Value).toArray below meth c H locs 0 0 QQ (F0 m 2 ls []) := by
    intro n2
    induction n2 with
    | zero => intro M_readMany M_read M_readConstraint v1 ls H locs hl hP hD hS h; exact fx2_0 h
    | succ n2 ih2 =>
      intro M_readMany M_read M_readConstraint v1 ls H locs hl hP hD hS h
      have h := (fx2_s (fM_readText_2 M_length M_text M_readConstraint) n2 M_read v1).symm.trans h
      refine lv_iload_n hx hb dX12_readText_2 rfl (lv_at hl 1 rfl) ?_
      refine lv_bipush (v := (26 : Int32)) hx hb dX12_readText_3 (by decide) ?_
      refine lv_icmp_ge (tgt := 21) hx hb dX12_readText_5 (by decide) (fun q5 => ?_) (fun q5 => ?_)
      · have h := ifT h q5
        refine lv_aload_n hx hb dX12_readText_21 rfl (lv_at hl 0 rfl) ?_
        refine lv_iconst (v := (0 : Int32)) hx hb dX12_readText_22 (by decide) ?_
        refine va_put (D := g.1) (ci := 11) (v := .int (0 : Int32)) (ty := .int) (C := RX12) (T := TX12) (N := 35) hx hb hts inBX12 tyX12 tyX12_ok nmX12 hown hK hP hD hS 0 rfl rfl 12 (by decide) (hts _ wd4_208) (fun _ h9 => h9) rfl (tyX12_ok 12 (by decide)) rfl rfl (Nat.le_of_ble_eq_true rfl) dX12_readText_23 (fun H locs hP hD hS => ?_)
        have hP : va_P g.1 vwCl (wX12 g aM aM_text aM_now aM_trial aM_read aM_diary aM_kept aM_isKept aM_constraint aM_readConstraint aM_word aM_size aM_number aM_firstOne aM_node aM_parent aM_rule aM_child aM_proof aM_witness aM_witnessSize aM_built aM_copyRow M_length M_acts M_next M_many (0 : Int32) M_found M_shortest M_nodes M_solved M_dropped M_fits M_proofSize M_tooLong M_text M_now M_trial M_read M_diary M_kept M_isKept M_constraint M_readConstraint M_word M_size M_number M_firstOne M_node M_parent M_rule M_child M_proof M_witness M_witnessSize M_built M_copyRow) H := hP
        have hD : va_D A (wX12 g aM aM_text aM_now aM_trial aM_read aM_diary aM_kept aM_isKept aM_constraint aM_readConstraint aM_word aM_size aM_number aM_firstOne aM_node aM_parent aM_rule aM_child aM_proof aM_witness aM_witnessSize aM_built aM_copyRow M_length M_acts M_next M_many (0 : Int32) M_found M_shortest M_nodes M_solved M_dropped M_fits M_proofSize M_tooLong M_text M_now M_trial M_read M_diary M_kept M_isKept M_constraint M_readConstraint M_word M_size M_number M_firstOne M_node M_parent M_rule M_child M_proof M_witness M_witnessSize M_built M_copyRow) := hD
        refine lv_iconst (v := (0 : Int32)) hx hb dX12_readText_26 (by decide) ?_
        refine lv_istore_n (lv' := [(1, .int (0 : Int32)), (0, .ref aM)]) hx hb dX12_readText_27 rfl hl (by decide) rfl (fun ls hl => ?_)
        refine lv_iconst (v := (0 : Int32)) hx hb dX12_readText_28 (by decide) ?_
        refine lv_istore_n (lv' := [(2, .int (0 : Int32)), (1, .int (0 : Int32)), (0, .ref aM)]) hx hb dX12_readText_29 rfl hl (by decide) rfl (fun ls hl => ?_)
        refine lv_iconst (v := (0 : Int32)) hx hb dX12_readText_30 (by decide) ?_
        refine lv_istore_n (lv' := [(3, .int (0 : Int32)), (2, .int (0 : Int32)), (1, .int (0 : Int32)), (0, .ref aM)]) hx hb dX12_readText_31 rfl hl (by decide) rfl (fun ls hl => ?_)
        exact L32 FU (0 : Int32) M_read M_readConstraint (0 : Int32) (0 : Int32) (0 : Int32) ls H locs (lv_sub hl [3, 2, 1, 0] rfl) hP hD hS h
      have h := ifF h q5
      refine lv_aload_n hx hb dX12_readText_8 rfl (lv_at hl 0 rfl) ?_
      refine va_get (D := g.1) (ci := 11) (v := .ref aM_read) (C := RX12) (T := TX12) (N := 35) hx hb hts inBX12 hown hK hP 0 rfl rfl 4 (by decide) (hts _ wd4_200) (fun _ h9 => h9) rfl dX12_readText_9 ?_
      refine lv_iload_n hx hb dX12_readText_12 rfl (lv_at hl 1 rfl) ?_
      refine lv_iconst (v := (0 : Int32)) hx hb dX12_readText_13 (by decide) ?_
      have hin := sti_in h
      refine va_iast hx hb hK hP hD hS 4 0 rfl rfl hin dX12_readText_14 (fun H locs hP hD hS => ?_)
      obtain ⟨M_read_14, eM_read_14⟩ : ∃ y : Nat → Int32, y = upd M_read (Int32.toNatClampNeg v1) (0 : Int32) := ⟨_, rfl⟩
      have h := sti_to h eM_read_14
      have hP : va_P g.1 vwCl (wX12 g aM aM_text aM_now aM_trial aM_read aM_diary aM_kept aM_isKept aM_constraint aM_readConstraint aM_word aM_size aM_number aM_firstOne aM_node aM_parent aM_rule aM_child aM_proof aM_witness aM_witnessSize aM_built aM_copyRow M_length M_acts M_next M_many M_readMany M_found M_shortest M_nodes M_solved M_dropped M_fits M_proofSize M_tooLong M_text M_now M_trial M_read_14 M_diary M_kept M_isKept M_constraint M_readConstraint M_word M_size M_number M_firstOne M_node M_parent M_rule M_child M_proof M_witness M_witnessSize M_built M_copyRow) H := by rw [eM_read_14]; exact hP
      have hD : va_D A (wX12 g aM aM_text aM_now aM_trial aM_read aM_diary aM_kept aM_isKept aM_constraint aM_readConstraint aM_word aM_size aM_number aM_firstOne aM_node aM_parent aM_rule aM_child aM_proof aM_witness aM_witnessSize aM_built aM_copyRow M_length M_acts M_next M_many M_readMany M_found M_shortest M_nodes M_solved M_dropped M_fits M_proofSize M_tooLong M_text M_now M_trial M_read_14 M_diary M_kept M_isKept M_constraint M_readConstraint M_word M_size M_number M_firstOne M_node M_parent M_rule M_child M_proof M_witness M_witnessSize M_built M_copyRow) := by rw [eM_read_14]; exact hD
      obtain ⟨t15, et15⟩ : ∃ y : Int32, y = v1 + (1 : Int32) := ⟨_, rfl⟩
      refine lv_iinc (v := t15) (lv' := [(1, .int t15), (0, .ref aM)]) hx hb dX12_readText_15 hl (k := 1) rfl (by rw [et15]; rfl) (by decide) rfl (fun ls hl => ?_)
      have h := st_to h et15
      refine lv_goto (tgt := 2) hx hb dX12_readText_18 (by decide) ?_
      exact ih2 M_readMany M_read_14 M_readConstraint t15 ls H locs (lv_sub hl [1, 0] rfl) hP hD hS h
  have hl : lv_has ls 7 [(0, .ref aM)] := hl
  obtain ⟨H, hH⟩ : ∃ H, H = s.heap := ⟨_, rfl⟩
  obtain ⟨locs, hlocs⟩ : ∃ l : List Loc, l = [] := ⟨_, rfl⟩
  rw [show W p l e rmX12_readText s m ([.ref aM] : List Value).toArray below meth c s.heap [] 0 0 QQ (F0 m 0 ls []) = W p l e rmX12_readText s m ([.ref aM] : List Value).toArray below meth c H locs 0 0 QQ (F0 m 0 ls []) by rw [hH, hlocs]]
  have hP : va_P g.1 vwCl (wX12 g aM aM_text aM_now aM_trial aM_read aM_diary aM_kept aM_isKept aM_constraint aM_readConstraint aM_word aM_size aM_number aM_firstOne aM_node aM_parent aM_rule aM_child aM_proof aM_witness aM_witnessSize aM_built aM_copyRow M_length M_acts M_next M_many M_readMany M_found M_shortest M_nodes M_solved M_dropped M_fits M_proofSize M_tooLong M_text M_now M_trial M_read M_diary M_kept M_isKept M_constraint M_readConstraint M_word M_size M_number M_firstOne M_node M_parent M_rule M_child M_proof M_witness M_witnessSize M_built M_copyRow) H := by rw [hH]; exact hP
  have hD : va_D A (wX12 g aM aM_text aM_now aM_trial aM_read aM_diary aM_kept aM_isKept aM_constraint aM_readConstraint aM_word aM_size aM_number aM_firstOne aM_node aM_parent aM_rule aM_child aM_proof aM_witness aM_witnessSize aM_built aM_copyRow M_length M_acts M_next M_many M_readMany M_found M_shortest M_nodes M_solved M_dropped M_fits M_proofSize M_tooLong M_text M_now M_trial M_read M_diary M_kept M_isKept M_constraint M_readConstraint M_word M_size M_number M_firstOne M_node M_parent M_rule M_child M_proof M_witness M_witnessSize M_built M_copyRow) := hD
  have hS : va_S A s.heap H locs := by rw [hH, hlocs]; exact hS
  clear hH hlocs
  refine lv_iconst (v := (0 : Int32)) hx hb dX12_readText_0 (by decide) ?_
  refine lv_istore_n (lv' := [(1, .int (0 : Int32)), (0, .ref aM)]) hx hb dX12_readText_1 rfl hl (by decide) rfl (fun ls hl => ?_)
  exact L2 FU M_readMany M_read M_readConstraint (0 : Int32) ls H locs (lv_sub hl [1, 0] rfl) hP hD hS h
set_option maxHeartbeats 4000000 in
set_option maxRecDepth 100000 in
theorem mX12_errorPosition (g : GP) (l : Launch) (aM aM_text aM_now aM_trial aM_read aM_diary aM_kept aM_isKept aM_constraint aM_readConstraint aM_word aM_size aM_number aM_firstOne aM_node aM_parent aM_rule aM_child aM_proof aM_witness aM_witnessSize aM_built aM_copyRow : Nat) (M_length : Int32) (M_acts : Int32) (M_next : Int32) (M_many : Int32) (M_readMany : Int32) (M_found : Int32) (M_shortest : Int32) (M_nodes : Int32) (M_solved : Int32) (M_dropped : Int32) (M_fits : Int32) (M_proofSize : Int32) (M_tooLong : Int32) (M_text : Nat → Int32) (M_now : Nat → Int32) (M_trial : Nat → Int32) (M_read : Nat → Int32) (M_diary : Nat → Int32) (M_kept : Nat → Int32) (M_isKept : Nat → Int32) (M_constraint : Nat → Int32) (M_readConstraint : Nat → Int32) (M_word : Nat → Int32) (M_size : Nat → Int32) (M_number : Nat → Int32) (M_firstOne : Nat → Int32) (M_node : Nat → Int32) (M_parent : Nat → Int32) (M_rule : Nat → Int32) (M_child : Nat → Int32) (M_proof : Nat → Int32) (M_witness : Nat → Int32) (M_witnessSize : Nat → Int32) (M_built : Nat → Int32) (M_copyRow : Nat → Int32)  (r : Int32) (M_readMany_o : Int32) (M_read_o : Nat → Int32) (M_readConstraint_o : Nat → Int32) (h : fM_errorPosition M_length M_text M_read M_readConstraint = some (r, M_readMany_o, M_read_o, M_readConstraint_o)) : Ct g l yX12_errorPosition cX12_errorPosition 1 (some .int) rmX12_errorPosition [.ref aM] (wX12 g aM aM_text aM_now aM_trial aM_read aM_diary aM_kept aM_isKept aM_constraint aM_readConstraint aM_word aM_size aM_number aM_firstOne aM_node aM_parent aM_rule aM_child aM_proof aM_witness aM_witnessSize aM_built aM_copyRow M_length M_acts M_next M_many M_readMany M_found M_shortest M_nodes M_solved M_dropped M_fits M_proofSize M_tooLong M_text M_now M_trial M_read M_diary M_kept M_isKept M_constraint M_readConstraint M_word M_size M_number M_firstOne M_node M_parent M_rule M_child M_proof M_witness M_witnessSize M_built M_copyRow) (some (.int r)) (wX12 g aM aM_text aM_now aM_trial aM_read aM_diary aM_kept aM_isKept aM_constraint aM_readConstraint aM_word aM_size aM_number aM_firstOne aM_node aM_parent aM_rule aM_child aM_proof aM_witness aM_witnessSize aM_built aM_copyRow M_length M_acts M_next M_many M_readMany_o M_found M_shortest M_nodes M_solved M_dropped M_fits M_proofSize M_tooLong M_text M_now M_trial M_read_o M_diary M_kept M_isKept M_constraint M_readConstraint_o M_word M_size M_number M_firstOne M_node M_parent M_rule M_child M_proof M_witness M_witnessSize M_built M_copyRow) := by
  refine Ct.introI (by decide) (Nat.le_of_ble_eq_true rfl) ?_
  intro p e s m below meth c A QQ ls hyp hret
  obtain ⟨hx, hb, hml, hts, hown, hA, hE, hP, hD, hl⟩ := hyp
  have hK := hE.1
  have hS : va_S A s.heap s.heap [] := va_S.rf
  have X : Here g p s m c cX12_errorPosition 1 ([.ref aM] : List Value).toArray RX12 A := ⟨⟨hx, hb, hml, hown, hts⟩, hE, hA⟩
  have hl : lv_has ls 1 [(0, .ref aM)] := hl
  obtain ⟨H, hH⟩ : ∃ H, H = s.heap := ⟨_, rfl⟩
  obtain ⟨locs, hlocs⟩ : ∃ l : List Loc, l = [] := ⟨_, rfl⟩
  rw [show W p l e rmX12_errorPosition s m ([.ref aM] : List Value).toArray below meth c s.heap [] 0 0 QQ (F0 m 0 ls []) = W p l e rmX12_errorPosition s m ([.ref aM] : List Value).toArray below meth c H locs 0 0 QQ (F0 m 0 ls []) by rw [hH, hlocs]]
  have hP : va_P g.1 vwCl (wX12 g aM aM_text aM_now aM_trial aM_read aM_diary aM_kept aM_isKept aM_constraint aM_readConstraint aM_word aM_size aM_number aM_firstOne aM_node aM_parent aM_rule aM_child aM_proof aM_witness aM_witnessSize aM_built aM_copyRow M_length M_acts M_next M_many M_readMany M_found M_shortest M_nodes M_solved M_dropped M_fits M_proofSize M_tooLong M_text M_now M_trial M_read M_diary M_kept M_isKept M_constraint M_readConstraint M_word M_size M_number M_firstOne M_node M_parent M_rule M_child M_proof M_witness M_witnessSize M_built M_copyRow) H := by rw [hH]; exact hP
  have hD : va_D A (wX12 g aM aM_text aM_now aM_trial aM_read aM_diary aM_kept aM_isKept aM_constraint aM_readConstraint aM_word aM_size aM_number aM_firstOne aM_node aM_parent aM_rule aM_child aM_proof aM_witness aM_witnessSize aM_built aM_copyRow M_length M_acts M_next M_many M_readMany M_found M_shortest M_nodes M_solved M_dropped M_fits M_proofSize M_tooLong M_text M_now M_trial M_read M_diary M_kept M_isKept M_constraint M_readConstraint M_word M_size M_number M_firstOne M_node M_parent M_rule M_child M_proof M_witness M_witnessSize M_built M_copyRow) := hD
  have hS : va_S A s.heap H locs := by rw [hH, hlocs]; exact hS
  clear hH hlocs
  refine lv_aload_n hx hb dX12_errorPosition_0 rfl (lv_at hl 0 rfl) ?_
  obtain ⟨t1, M_readMany_1, M_read_1, M_readConstraint_1, hc1, h⟩ := bd4_to h
  refine go_A (st1 := [.int t1]) (run_V (As := []) (rest := []) X hS (mX12_readText g l  aM aM_text aM_now aM_trial aM_read aM_diary aM_kept aM_isKept aM_constraint aM_readConstraint aM_word aM_size aM_number aM_firstOne aM_node aM_parent aM_rule aM_child aM_proof aM_witness aM_witnessSize aM_built aM_copyRow M_length M_acts M_next M_many M_readMany M_found M_shortest M_nodes M_solved M_dropped M_fits M_proofSize M_tooLong M_text M_now M_trial M_read M_diary M_kept M_isKept M_constraint M_readConstraint M_word M_size M_number M_firstOne M_node M_parent M_rule M_child M_proof M_witness M_witnessSize M_built M_copyRow t1 M_readMany_1 M_read_1 M_readConstraint_1 hc1) okX12_readText wd5_78 ⟨Nat.le_of_ble_eq_true rfl, Nat.le_of_ble_eq_true rfl⟩ ⟨rfl, rfl⟩ (va_recv hK hP (ci := 11) (q0 := 0) rfl rfl) hP hD (all_F hS hA hD) rfl hl.1 rfl (Nat.le_of_ble_eq_true rfl) dX12_errorPosition_1 ⟨Nat.zero_le _, Nat.zero_le _⟩) hS (all_F hS hA hD) rfl (fun H locs hP hD hS => ?_)
  have h : some (t1, M_readMany_1, M_read_1, M_readConstraint_1) = some (r, M_readMany_o, M_read_o, M_readConstraint_o) := h
  cases h
  exact hret _ _ _ _ hP hD hS dX12_errorPosition_4
set_option maxHeartbeats 4000000 in
set_option maxRecDepth 100000 in
theorem mX12_copy (g : GP) (l : Launch) (aR0 aR1 : Nat) (R0 : Nat → Int32) (R1 : Nat → Int32)  (R1_o : Nat → Int32) (h : fM_copy R0 R1 = some R1_o) : Ct g l yX12_copy cX12_copy 3 none rmX12_copy [.ref aR0, .ref aR1] ([(aR0, .inl (g.2.1 0, 26, .inl R0))] ++ [(aR1, .inl (g.2.1 0, 26, .inl R1))]) none ([(aR0, .inl (g.2.1 0, 26, .inl R0))] ++ [(aR1, .inl (g.2.1 0, 26, .inl R1_o))]) := by
  refine Ct.introV (by decide) (Nat.le_of_ble_eq_true rfl) ?_
  intro p e s m below meth c A QQ ls hyp hret
  obtain ⟨hx, hb, hml, hts, hown, hA, hE, hP, hD, hl⟩ := hyp
  have hK := hE.1
  have hS : va_S A s.heap s.heap [] := va_S.rf
  have X : Here g p s m c cX12_copy 3 ([.ref aR0, .ref aR1] : List Value).toArray RX12 A := ⟨⟨hx, hb, hml, hown, hts⟩, hE, hA⟩
  have L2 : ∀ (n2 : Nat), ∀ (R1 : Nat → Int32) (v2 : Int32) (ls : Array Slot) (H : Heap) (locs : List Loc), lv_has ls 3 [(0, .ref aR0), (1, .ref aR1), (2, .int v2)] → va_P g.1 vwCl ([(aR0, .inl (g.2.1 0, 26, .inl R0))] ++ [(aR1, .inl (g.2.1 0, 26, .inl R1))]) H → va_D A ([(aR0, .inl (g.2.1 0, 26, .inl R0))] ++ [(aR1, .inl (g.2.1 0, 26, .inl R1))]) → va_S A s.heap H locs → fx2 (fM_copy_2 R0) n2 R1 v2 = some R1_o → W p l e rmX12_copy s m ([.ref aR0, .ref aR1] : List Value).toArray below meth c H locs 0 0 QQ (F0 m 2 ls []) := by
    intro n2
    induction n2 with
    | zero => intro R1 v2 ls H locs hl hP hD hS h; exact fx2_0 h
    | succ n2 ih2 =>
      intro R1 v2 ls H locs hl hP hD hS h
      have h := (fx2_s (fM_copy_2 R0) n2 R1 v2).symm.trans h
      refine lv_iload_n hx hb dX12_copy_2 rfl (lv_at hl 2 rfl) ?_
      refine lv_bipush (v := (26 : Int32)) hx hb dX12_copy_3 (by decide) ?_
      refine lv_icmp_ge (tgt := 20) hx hb dX12_copy_5 (by decide) (fun q5 => ?_) (fun q5 => ?_)
      · have h := ifT h q5
        have h : some R1 = some R1_o := h
        cases h
        exact hret _ _ _ _ hP hD hS dX12_copy_20
      have h := ifF h q5
      refine lv_aload_n hx hb dX12_copy_8 rfl (lv_at hl 1 rfl) ?_
      refine lv_iload_n hx hb dX12_copy_9 rfl (lv_at hl 2 rfl) ?_
      refine lv_aload_n hx hb dX12_copy_10 rfl (lv_at hl 0 rfl) ?_
      refine lv_iload_n hx hb dX12_copy_11 rfl (lv_at hl 2 rfl) ?_
      have hin := ld_in h
      refine va_iald hx hb hK hP 0 0 rfl rfl hin dX12_copy_12 ?_
      refine lv_topi (fun t12 et12 => ?_)
      have h := ld_to h et12
      have hin := sti_in h
      refine va_iast hx hb hK hP hD hS 1 0 rfl rfl hin dX12_copy_13 (fun H locs hP hD hS => ?_)
      obtain ⟨R1_13, eR1_13⟩ : ∃ y : Nat → Int32, y = upd R1 (Int32.toNatClampNeg v2) t12 := ⟨_, rfl⟩
      have h := sti_to h eR1_13
      have hP : va_P g.1 vwCl ([(aR0, .inl (g.2.1 0, 26, .inl R0))] ++ [(aR1, .inl (g.2.1 0, 26, .inl R1_13))]) H := by rw [eR1_13]; exact hP
      have hD : va_D A ([(aR0, .inl (g.2.1 0, 26, .inl R0))] ++ [(aR1, .inl (g.2.1 0, 26, .inl R1_13))]) := by rw [eR1_13]; exact hD
      obtain ⟨t14, et14⟩ : ∃ y : Int32, y = v2 + (1 : Int32) := ⟨_, rfl⟩
      refine lv_iinc (v := t14) (lv' := [(2, .int t14), (0, .ref aR0), (1, .ref aR1)]) hx hb dX12_copy_14 hl (k := 2) rfl (by rw [et14]; rfl) (by decide) rfl (fun ls hl => ?_)
      have h := st_to h et14
      refine lv_goto (tgt := 2) hx hb dX12_copy_17 (by decide) ?_
      exact ih2 R1_13 t14 ls H locs (lv_sub hl [1, 2, 0] rfl) hP hD hS h
  have hl : lv_has ls 3 [(0, .ref aR0), (1, .ref aR1)] := hl
  obtain ⟨H, hH⟩ : ∃ H, H = s.heap := ⟨_, rfl⟩
  obtain ⟨locs, hlocs⟩ : ∃ l : List Loc, l = [] := ⟨_, rfl⟩
  rw [show W p l e rmX12_copy s m ([.ref aR0, .ref aR1] : List Value).toArray below meth c s.heap [] 0 0 QQ (F0 m 0 ls []) = W p l e rmX12_copy s m ([.ref aR0, .ref aR1] : List Value).toArray below meth c H locs 0 0 QQ (F0 m 0 ls []) by rw [hH, hlocs]]
  have hP : va_P g.1 vwCl ([(aR0, .inl (g.2.1 0, 26, .inl R0))] ++ [(aR1, .inl (g.2.1 0, 26, .inl R1))]) H := by rw [hH]; exact hP
  have hD : va_D A ([(aR0, .inl (g.2.1 0, 26, .inl R0))] ++ [(aR1, .inl (g.2.1 0, 26, .inl R1))]) := hD
  have hS : va_S A s.heap H locs := by rw [hH, hlocs]; exact hS
  clear hH hlocs
  refine lv_iconst (v := (0 : Int32)) hx hb dX12_copy_0 (by decide) ?_
  refine lv_istore_n (lv' := [(2, .int (0 : Int32)), (0, .ref aR0), (1, .ref aR1)]) hx hb dX12_copy_1 rfl hl (by decide) rfl (fun ls hl => ?_)
  exact L2 FU R1 (0 : Int32) ls H locs (lv_sub hl [1, 2, 0] rfl) hP hD hS h
set_option maxHeartbeats 4000000 in
set_option maxRecDepth 100000 in
theorem mX12_load (g : GP) (l : Launch) (aM aM_text aM_now aM_trial aM_read aM_diary aM_kept aM_isKept aM_constraint aM_readConstraint aM_word aM_size aM_number aM_firstOne aM_node aM_parent aM_rule aM_child aM_proof aM_witness aM_witnessSize aM_built aM_copyRow : Nat) (M_length : Int32) (M_acts : Int32) (M_next : Int32) (M_many : Int32) (M_readMany : Int32) (M_found : Int32) (M_shortest : Int32) (M_nodes : Int32) (M_solved : Int32) (M_dropped : Int32) (M_fits : Int32) (M_proofSize : Int32) (M_tooLong : Int32) (M_text : Nat → Int32) (M_now : Nat → Int32) (M_trial : Nat → Int32) (M_read : Nat → Int32) (M_diary : Nat → Int32) (M_kept : Nat → Int32) (M_isKept : Nat → Int32) (M_constraint : Nat → Int32) (M_readConstraint : Nat → Int32) (M_word : Nat → Int32) (M_size : Nat → Int32) (M_number : Nat → Int32) (M_firstOne : Nat → Int32) (M_node : Nat → Int32) (M_parent : Nat → Int32) (M_rule : Nat → Int32) (M_child : Nat → Int32) (M_proof : Nat → Int32) (M_witness : Nat → Int32) (M_witnessSize : Nat → Int32) (M_built : Nat → Int32) (M_copyRow : Nat → Int32)  (r : Int32) (M_acts_o : Int32) (M_many_o : Int32) (M_readMany_o : Int32) (M_now_o : Nat → Int32) (M_read_o : Nat → Int32) (M_isKept_o : Nat → Int32) (M_constraint_o : Nat → Int32) (M_readConstraint_o : Nat → Int32) (h : fM_load M_length M_acts M_many M_text M_now M_read M_isKept M_constraint M_readConstraint = some (r, M_acts_o, M_many_o, M_readMany_o, M_now_o, M_read_o, M_isKept_o, M_constraint_o, M_readConstraint_o)) : Ct g l yX12_load cX12_load 2 (some .int) rmX12_load [.ref aM] (wX12 g aM aM_text aM_now aM_trial aM_read aM_diary aM_kept aM_isKept aM_constraint aM_readConstraint aM_word aM_size aM_number aM_firstOne aM_node aM_parent aM_rule aM_child aM_proof aM_witness aM_witnessSize aM_built aM_copyRow M_length M_acts M_next M_many M_readMany M_found M_shortest M_nodes M_solved M_dropped M_fits M_proofSize M_tooLong M_text M_now M_trial M_read M_diary M_kept M_isKept M_constraint M_readConstraint M_word M_size M_number M_firstOne M_node M_parent M_rule M_child M_proof M_witness M_witnessSize M_built M_copyRow) (some (.int r)) (wX12 g aM aM_text aM_now aM_trial aM_read aM_diary aM_kept aM_isKept aM_constraint aM_readConstraint aM_word aM_size aM_number aM_firstOne aM_node aM_parent aM_rule aM_child aM_proof aM_witness aM_witnessSize aM_built aM_copyRow M_length M_acts_o M_next M_many_o M_readMany_o M_found M_shortest M_nodes M_solved M_dropped M_fits M_proofSize M_tooLong M_text M_now_o M_trial M_read_o M_diary M_kept M_isKept_o M_constraint_o M_readConstraint_o M_word M_size M_number M_firstOne M_node M_parent M_rule M_child M_proof M_witness M_witnessSize M_built M_copyRow) := by
  refine Ct.introI (by decide) (Nat.le_of_ble_eq_true rfl) ?_
  intro p e s m below meth c A QQ ls hyp hret
  obtain ⟨hx, hb, hml, hts, hown, hA, hE, hP, hD, hl⟩ := hyp
  have hK := hE.1
  have hS : va_S A s.heap s.heap [] := va_S.rf
  have X : Here g p s m c cX12_load 2 ([.ref aM] : List Value).toArray RX12 A := ⟨⟨hx, hb, hml, hown, hts⟩, hE, hA⟩
  have L33 : ∀ (n33 : Nat), ∀ (M_acts : Int32) (M_many : Int32) (M_readMany : Int32) (M_now : Nat → Int32) (M_read : Nat → Int32) (M_isKept : Nat → Int32) (M_constraint : Nat → Int32) (M_readConstraint : Nat → Int32) (v1 : Int32) (ls : Array Slot) (H : Heap) (locs : List Loc), lv_has ls 2 [(0, .ref aM), (1, .int v1)] → va_P g.1 vwCl (wX12 g aM aM_text aM_now aM_trial aM_read aM_diary aM_kept aM_isKept aM_constraint aM_readConstraint aM_word aM_size aM_number aM_firstOne aM_node aM_parent aM_rule aM_child aM_proof aM_witness aM_witnessSize aM_built aM_copyRow M_length M_acts M_next M_many M_readMany M_found M_shortest M_nodes M_solved M_dropped M_fits M_proofSize M_tooLong M_text M_now M_trial M_read M_diary M_kept M_isKept M_constraint M_readConstraint M_word M_size M_number M_firstOne M_node M_parent M_rule M_child M_proof M_witness M_witnessSize M_built M_copyRow) H → va_D A (wX12 g aM aM_text aM_now aM_trial aM_read aM_diary aM_kept aM_isKept aM_constraint aM_readConstraint aM_word aM_size aM_number aM_firstOne aM_node aM_parent aM_rule aM_child aM_proof aM_witness aM_witnessSize aM_built aM_copyRow M_length M_acts M_next M_many M_readMany M_found M_shortest M_nodes M_solved M_dropped M_fits M_proofSize M_tooLong M_text M_now M_trial M_read M_diary M_kept M_isKept M_constraint M_readConstraint M_word M_size M_number M_firstOne M_node M_parent M_rule M_child M_proof M_witness M_witnessSize M_built M_copyRow) → va_S A s.heap H locs → fx2 (fM_load_33 M_many M_readMany M_now M_read M_isKept M_readConstraint) n33 M_constraint v1 = some (r, M_acts_o, M_many_o, M_readMany_o, M_now_o, M_read_o, M_isKept_o, M_constraint_o, M_readConstraint_o) → W p l e rmX12_load s m ([.ref aM] : List Value).toArray below meth c H locs 0 0 QQ (F0 m 33 ls []) := by
    intro n33
    induction n33 with
    | zero => intro M_acts M_many M_readMany M_now M_read M_isKept M_constraint M_readConstraint v1 ls H locs hl hP hD hS h; exact fx2_0 h
    | succ n33 ih33 =>
      intro M_acts M_many M_readMany M_now M_read M_isKept M_constraint M_readConstraint v1 ls H locs hl hP hD hS h
      have h := (fx2_s (fM_load_33 M_many M_readMany M_now M_read M_isKept M_readConstraint) n33 M_constraint v1).symm.trans h
      refine lv_iload_n hx hb dX12_load_33 rfl (lv_at hl 1 rfl) ?_
      refine lv_iconst (v := (3 : Int32)) hx hb dX12_load_34 (by decide) ?_
      refine lv_aload_n hx hb dX12_load_35 rfl (lv_at hl 0 rfl) ?_
      refine va_get (D := g.1) (ci := 11) (v := .int M_many) (C := RX12) (T := TX12) (N := 35) hx hb hts inBX12 hown hK hP 0 rfl rfl 10 (by decide) (hts _ wd4_206) (fun _ h9 => h9) rfl dX12_load_36 ?_
      refine lv_imul hx hb dX12_load_39 ?_
      refine lv_icmp_ge (tgt := 61) hx hb dX12_load_40 (by decide) (fun q40 => ?_) (fun q40 => ?_)
      · have h := ifT h q40
        refine lv_aload_n hx hb dX12_load_61 rfl (lv_at hl 0 rfl) ?_
        refine lv_iconst (v := (0 : Int32)) hx hb dX12_load_62 (by decide) ?_
        refine va_put (D := g.1) (ci := 11) (v := .int (0 : Int32)) (ty := .int) (C := RX12) (T := TX12) (N := 35) hx hb hts inBX12 tyX12 tyX12_ok nmX12 hown hK hP hD hS 0 rfl rfl 6 (by decide) (hts _ wd4_202) (fun _ h9 => h9) rfl (tyX12_ok 6 (by decide)) rfl rfl (Nat.le_of_ble_eq_true rfl) dX12_load_63 (fun H locs hP hD hS => ?_)
        have hP : va_P g.1 vwCl (wX12 g aM aM_text aM_now aM_trial aM_read aM_diary aM_kept aM_isKept aM_constraint aM_readConstraint aM_word aM_size aM_number aM_firstOne aM_node aM_parent aM_rule aM_child aM_proof aM_witness aM_witnessSize aM_built aM_copyRow M_length (0 : Int32) M_next M_many M_readMany M_found M_shortest M_nodes M_solved M_dropped M_fits M_proofSize M_tooLong M_text M_now M_trial M_read M_diary M_kept M_isKept M_constraint M_readConstraint M_word M_size M_number M_firstOne M_node M_parent M_rule M_child M_proof M_witness M_witnessSize M_built M_copyRow) H := hP
        have hD : va_D A (wX12 g aM aM_text aM_now aM_trial aM_read aM_diary aM_kept aM_isKept aM_constraint aM_readConstraint aM_word aM_size aM_number aM_firstOne aM_node aM_parent aM_rule aM_child aM_proof aM_witness aM_witnessSize aM_built aM_copyRow M_length (0 : Int32) M_next M_many M_readMany M_found M_shortest M_nodes M_solved M_dropped M_fits M_proofSize M_tooLong M_text M_now M_trial M_read M_diary M_kept M_isKept M_constraint M_readConstraint M_word M_size M_number M_firstOne M_node M_parent M_rule M_child M_proof M_witness M_witnessSize M_built M_copyRow) := hD
        refine lv_aload_n hx hb dX12_load_66 rfl (lv_at hl 0 rfl) ?_
        refine va_get (D := g.1) (ci := 11) (v := .ref aM_isKept) (C := RX12) (T := TX12) (N := 35) hx hb hts inBX12 hown hK hP 0 rfl rfl 9 (by decide) (hts _ wd4_205) (fun _ h9 => h9) rfl dX12_load_67 ?_
        refine lv_iconst (v := (0 : Int32)) hx hb dX12_load_70 (by decide) ?_
        refine lv_iconst (v := (0 : Int32)) hx hb dX12_load_71 (by decide) ?_
        have hin := sti_in h
        refine va_zast hx hb hK hP hD hS 7 3 rfl rfl hin dX12_load_72 (fun H locs hP hD hS => ?_)
        obtain ⟨M_isKept_72, eM_isKept_72⟩ : ∃ y : Nat → Int32, y = upd M_isKept (Int32.toNatClampNeg (0 : Int32)) (vp_nar .boolean (0 : Int32)) := ⟨_, rfl⟩
        have h := sti_to h eM_isKept_72
        have hP : va_P g.1 vwCl (wX12 g aM aM_text aM_now aM_trial aM_read aM_diary aM_kept aM_isKept aM_constraint aM_readConstraint aM_word aM_size aM_number aM_firstOne aM_node aM_parent aM_rule aM_child aM_proof aM_witness aM_witnessSize aM_built aM_copyRow M_length (0 : Int32) M_next M_many M_readMany M_found M_shortest M_nodes M_solved M_dropped M_fits M_proofSize M_tooLong M_text M_now M_trial M_read M_diary M_kept M_isKept_72 M_constraint M_readConstraint M_word M_size M_number M_firstOne M_node M_parent M_rule M_child M_proof M_witness M_witnessSize M_built M_copyRow) H := by rw [eM_isKept_72]; exact hP
        have hD : va_D A (wX12 g aM aM_text aM_now aM_trial aM_read aM_diary aM_kept aM_isKept aM_constraint aM_readConstraint aM_word aM_size aM_number aM_firstOne aM_node aM_parent aM_rule aM_child aM_proof aM_witness aM_witnessSize aM_built aM_copyRow M_length (0 : Int32) M_next M_many M_readMany M_found M_shortest M_nodes M_solved M_dropped M_fits M_proofSize M_tooLong M_text M_now M_trial M_read M_diary M_kept M_isKept_72 M_constraint M_readConstraint M_word M_size M_number M_firstOne M_node M_parent M_rule M_child M_proof M_witness M_witnessSize M_built M_copyRow) := by rw [eM_isKept_72]; exact hD
        refine lv_aload_n hx hb dX12_load_73 rfl (lv_at hl 0 rfl) ?_
        refine va_get (D := g.1) (ci := 11) (v := .ref aM_isKept) (C := RX12) (T := TX12) (N := 35) hx hb hts inBX12 hown hK hP 0 rfl rfl 9 (by decide) (hts _ wd4_205) (fun _ h9 => h9) rfl dX12_load_74 ?_
        refine lv_iconst (v := (1 : Int32)) hx hb dX12_load_77 (by decide) ?_
        refine lv_iconst (v := (0 : Int32)) hx hb dX12_load_78 (by decide) ?_
        have hin := sti_in h
        refine va_zast hx hb hK hP hD hS 7 3 rfl rfl hin dX12_load_79 (fun H locs hP hD hS => ?_)
        obtain ⟨M_isKept_79, eM_isKept_79⟩ : ∃ y : Nat → Int32, y = upd M_isKept_72 (Int32.toNatClampNeg (1 : Int32)) (vp_nar .boolean (0 : Int32)) := ⟨_, rfl⟩
        have h := sti_to h eM_isKept_79
        have hP : va_P g.1 vwCl (wX12 g aM aM_text aM_now aM_trial aM_read aM_diary aM_kept aM_isKept aM_constraint aM_readConstraint aM_word aM_size aM_number aM_firstOne aM_node aM_parent aM_rule aM_child aM_proof aM_witness aM_witnessSize aM_built aM_copyRow M_length (0 : Int32) M_next M_many M_readMany M_found M_shortest M_nodes M_solved M_dropped M_fits M_proofSize M_tooLong M_text M_now M_trial M_read M_diary M_kept M_isKept_79 M_constraint M_readConstraint M_word M_size M_number M_firstOne M_node M_parent M_rule M_child M_proof M_witness M_witnessSize M_built M_copyRow) H := by rw [eM_isKept_79]; exact hP
        have hD : va_D A (wX12 g aM aM_text aM_now aM_trial aM_read aM_diary aM_kept aM_isKept aM_constraint aM_readConstraint aM_word aM_size aM_number aM_firstOne aM_node aM_parent aM_rule aM_child aM_proof aM_witness aM_witnessSize aM_built aM_copyRow M_length (0 : Int32) M_next M_many M_readMany M_found M_shortest M_nodes M_solved M_dropped M_fits M_proofSize M_tooLong M_text M_now M_trial M_read M_diary M_kept M_isKept_79 M_constraint M_readConstraint M_word M_size M_number M_firstOne M_node M_parent M_rule M_child M_proof M_witness M_witnessSize M_built M_copyRow) := by rw [eM_isKept_79]; exact hD
        refine lv_aload_n hx hb dX12_load_80 rfl (lv_at hl 0 rfl) ?_
        refine va_get (D := g.1) (ci := 11) (v := .int M_many) (C := RX12) (T := TX12) (N := 35) hx hb hts inBX12 hown hK hP 0 rfl rfl 10 (by decide) (hts _ wd4_206) (fun _ h9 => h9) rfl dX12_load_81 ?_
        have h : some (M_many, (0 : Int32), M_many, M_readMany, M_now, M_read, M_isKept_79, M_constraint, M_readConstraint) = some (r, M_acts_o, M_many_o, M_readMany_o, M_now_o, M_read_o, M_isKept_o, M_constraint_o, M_readConstraint_o) := h
        cases h
        exact hret _ _ _ _ hP hD hS dX12_load_84
      have h := ifF h q40
      refine lv_aload_n hx hb dX12_load_43 rfl (lv_at hl 0 rfl) ?_
      refine va_get (D := g.1) (ci := 11) (v := .ref aM_constraint) (C := RX12) (T := TX12) (N := 35) hx hb hts inBX12 hown hK hP 0 rfl rfl 11 (by decide) (hts _ wd4_207) (fun _ h9 => h9) rfl dX12_load_44 ?_
      refine lv_iload_n hx hb dX12_load_47 rfl (lv_at hl 1 rfl) ?_
      refine lv_aload_n hx hb dX12_load_48 rfl (lv_at hl 0 rfl) ?_
      refine va_get (D := g.1) (ci := 11) (v := .ref aM_readConstraint) (C := RX12) (T := TX12) (N := 35) hx hb hts inBX12 hown hK hP 0 rfl rfl 13 (by decide) (hts _ wd4_209) (fun _ h9 => h9) rfl dX12_load_49 ?_
      refine lv_iload_n hx hb dX12_load_52 rfl (lv_at hl 1 rfl) ?_
      have hin := ld_in h
      refine va_iald hx hb hK hP 9 0 rfl rfl hin dX12_load_53 ?_
      refine lv_topi (fun t53 et53 => ?_)
      have h := ld_to h et53
      have hin := sti_in h
      refine va_iast hx hb hK hP hD hS 8 0 rfl rfl hin dX12_load_54 (fun H locs hP hD hS => ?_)
      obtain ⟨M_constraint_54, eM_constraint_54⟩ : ∃ y : Nat → Int32, y = upd M_constraint (Int32.toNatClampNeg v1) t53 := ⟨_, rfl⟩
      have h := sti_to h eM_constraint_54
      have hP : va_P g.1 vwCl (wX12 g aM aM_text aM_now aM_trial aM_read aM_diary aM_kept aM_isKept aM_constraint aM_readConstraint aM_word aM_size aM_number aM_firstOne aM_node aM_parent aM_rule aM_child aM_proof aM_witness aM_witnessSize aM_built aM_copyRow M_length M_acts M_next M_many M_readMany M_found M_shortest M_nodes M_solved M_dropped M_fits M_proofSize M_tooLong M_text M_now M_trial M_read M_diary M_kept M_isKept M_constraint_54 M_readConstraint M_word M_size M_number M_firstOne M_node M_parent M_rule M_child M_proof M_witness M_witnessSize M_built M_copyRow) H := by rw [eM_constraint_54]; exact hP
      have hD : va_D A (wX12 g aM aM_text aM_now aM_trial aM_read aM_diary aM_kept aM_isKept aM_constraint aM_readConstraint aM_word aM_size aM_number aM_firstOne aM_node aM_parent aM_rule aM_child aM_proof aM_witness aM_witnessSize aM_built aM_copyRow M_length M_acts M_next M_many M_readMany M_found M_shortest M_nodes M_solved M_dropped M_fits M_proofSize M_tooLong M_text M_now M_trial M_read M_diary M_kept M_isKept M_constraint_54 M_readConstraint M_word M_size M_number M_firstOne M_node M_parent M_rule M_child M_proof M_witness M_witnessSize M_built M_copyRow) := by rw [eM_constraint_54]; exact hD
      obtain ⟨t55, et55⟩ : ∃ y : Int32, y = v1 + (1 : Int32) := ⟨_, rfl⟩
      refine lv_iinc (v := t55) (lv' := [(1, .int t55), (0, .ref aM)]) hx hb dX12_load_55 hl (k := 1) rfl (by rw [et55]; rfl) (by decide) rfl (fun ls hl => ?_)
      have h := st_to h et55
      refine lv_goto (tgt := 33) hx hb dX12_load_58 (by decide) ?_
      exact ih33 M_acts M_many M_readMany M_now M_read M_isKept M_constraint_54 M_readConstraint t55 ls H locs (lv_sub hl [1, 0] rfl) hP hD hS h
  have hl : lv_has ls 2 [(0, .ref aM)] := hl
  obtain ⟨H, hH⟩ : ∃ H, H = s.heap := ⟨_, rfl⟩
  obtain ⟨locs, hlocs⟩ : ∃ l : List Loc, l = [] := ⟨_, rfl⟩
  rw [show W p l e rmX12_load s m ([.ref aM] : List Value).toArray below meth c s.heap [] 0 0 QQ (F0 m 0 ls []) = W p l e rmX12_load s m ([.ref aM] : List Value).toArray below meth c H locs 0 0 QQ (F0 m 0 ls []) by rw [hH, hlocs]]
  have hP : va_P g.1 vwCl (wX12 g aM aM_text aM_now aM_trial aM_read aM_diary aM_kept aM_isKept aM_constraint aM_readConstraint aM_word aM_size aM_number aM_firstOne aM_node aM_parent aM_rule aM_child aM_proof aM_witness aM_witnessSize aM_built aM_copyRow M_length M_acts M_next M_many M_readMany M_found M_shortest M_nodes M_solved M_dropped M_fits M_proofSize M_tooLong M_text M_now M_trial M_read M_diary M_kept M_isKept M_constraint M_readConstraint M_word M_size M_number M_firstOne M_node M_parent M_rule M_child M_proof M_witness M_witnessSize M_built M_copyRow) H := by rw [hH]; exact hP
  have hD : va_D A (wX12 g aM aM_text aM_now aM_trial aM_read aM_diary aM_kept aM_isKept aM_constraint aM_readConstraint aM_word aM_size aM_number aM_firstOne aM_node aM_parent aM_rule aM_child aM_proof aM_witness aM_witnessSize aM_built aM_copyRow M_length M_acts M_next M_many M_readMany M_found M_shortest M_nodes M_solved M_dropped M_fits M_proofSize M_tooLong M_text M_now M_trial M_read M_diary M_kept M_isKept M_constraint M_readConstraint M_word M_size M_number M_firstOne M_node M_parent M_rule M_child M_proof M_witness M_witnessSize M_built M_copyRow) := hD
  have hS : va_S A s.heap H locs := by rw [hH, hlocs]; exact hS
  clear hH hlocs
  refine lv_aload_n hx hb dX12_load_0 rfl (lv_at hl 0 rfl) ?_
  obtain ⟨t1, M_readMany_1, M_read_1, M_readConstraint_1, hc1, h⟩ := bd4_to h
  refine go_A (st1 := [.int t1]) (run_V (As := []) (rest := []) X hS (mX12_readText g l  aM aM_text aM_now aM_trial aM_read aM_diary aM_kept aM_isKept aM_constraint aM_readConstraint aM_word aM_size aM_number aM_firstOne aM_node aM_parent aM_rule aM_child aM_proof aM_witness aM_witnessSize aM_built aM_copyRow M_length M_acts M_next M_many M_readMany M_found M_shortest M_nodes M_solved M_dropped M_fits M_proofSize M_tooLong M_text M_now M_trial M_read M_diary M_kept M_isKept M_constraint M_readConstraint M_word M_size M_number M_firstOne M_node M_parent M_rule M_child M_proof M_witness M_witnessSize M_built M_copyRow t1 M_readMany_1 M_read_1 M_readConstraint_1 hc1) okX12_readText wd5_78 ⟨Nat.le_of_ble_eq_true rfl, Nat.le_of_ble_eq_true rfl⟩ ⟨rfl, rfl⟩ (va_recv hK hP (ci := 11) (q0 := 0) rfl rfl) hP hD (all_F hS hA hD) rfl hl.1 rfl (Nat.le_of_ble_eq_true rfl) dX12_load_1 ⟨Nat.zero_le _, Nat.zero_le _⟩) hS (all_F hS hA hD) rfl (fun H locs hP hD hS => ?_)
  refine lv_bipush (v := ((-9) : Int32)) hx hb dX12_load_4 (by decide) ?_
  refine lv_icmp_eq (tgt := 12) hx hb dX12_load_6 (by decide) (fun q6 => ?_) (fun q6 => ?_)
  · have h := ifT h q6
    refine lv_aload_n hx hb dX12_load_12 rfl (lv_at hl 0 rfl) ?_
    refine va_get (D := g.1) (ci := 11) (v := .ref aM_read) (C := RX12) (T := TX12) (N := 35) hx hb hts inBX12 hown hK hP 0 rfl rfl 4 (by decide) (hts _ wd4_200) (fun _ h9 => h9) rfl dX12_load_13 ?_
    refine lv_aload_n hx hb dX12_load_16 rfl (lv_at hl 0 rfl) ?_
    refine va_get (D := g.1) (ci := 11) (v := .ref aM_now) (C := RX12) (T := TX12) (N := 35) hx hb hts inBX12 hown hK hP 0 rfl rfl 2 (by decide) (hts _ wd4_198) (fun _ h9 => h9) rfl dX12_load_17 ?_
    obtain ⟨M_now_20, hc20, h⟩ := bd1_to h
    refine go_P (st1 := []) (W1 := (wX12 g aM aM_text aM_now aM_trial aM_read aM_diary aM_kept aM_isKept aM_constraint aM_readConstraint aM_word aM_size aM_number aM_firstOne aM_node aM_parent aM_rule aM_child aM_proof aM_witness aM_witnessSize aM_built aM_copyRow M_length M_acts M_next M_many M_readMany_1 M_found M_shortest M_nodes M_solved M_dropped M_fits M_proofSize M_tooLong M_text M_now_20 M_trial M_read_1 M_diary M_kept M_isKept M_constraint M_readConstraint_1 M_word M_size M_number M_firstOne M_node M_parent M_rule M_child M_proof M_witness M_witnessSize M_built M_copyRow)) (run_S (As := [.ref aM_read, .ref aM_now]) (rest := []) X hS (mX12_copy g l  aM_read aM_now M_read_1 M_now M_now_20 hc20) okX12_copy wd5_102 ⟨Nat.le_of_ble_eq_true rfl, Nat.le_of_ble_eq_true rfl⟩ ⟨rfl, rfl⟩ (sub_P hP [4, 2] rfl) (hD.sub [4, 2] (by decide) rfl) (va_free hD hS hA [4, 2] rfl) rfl hl.1 rfl (Nat.le_of_ble_eq_true rfl) dX12_load_20 ⟨Nat.zero_le _, Nat.zero_le _⟩) hS (va_free hD hS hA [4, 2] rfl) hP hD [4, 2] [0, 1, 3, 5, 6, 7, 8, 9, 10, 11, 12, 13, 14, 15, 16, 17, 18, 19, 20, 21, 22] [0, 1, 22, 2, 21, 3, 4, 5, 6, 7, 8, 9, 10, 11, 12, 13, 14, 15, 16, 17, 18, 19, 20] rfl rfl (by decide) (by decide) rfl (by decide) rfl (fun H locs hP hD hS => ?_)
    refine lv_aload_n hx hb dX12_load_23 rfl (lv_at hl 0 rfl) ?_
    refine lv_aload_n hx hb dX12_load_24 rfl (lv_at hl 0 rfl) ?_
    refine va_get (D := g.1) (ci := 11) (v := .int M_readMany_1) (C := RX12) (T := TX12) (N := 35) hx hb hts inBX12 hown hK hP 0 rfl rfl 12 (by decide) (hts _ wd4_208) (fun _ h9 => h9) rfl dX12_load_25 ?_
    refine va_put (D := g.1) (ci := 11) (v := .int M_readMany_1) (ty := .int) (C := RX12) (T := TX12) (N := 35) hx hb hts inBX12 tyX12 tyX12_ok nmX12 hown hK hP hD hS 0 rfl rfl 10 (by decide) (hts _ wd4_206) (fun _ h9 => h9) rfl (tyX12_ok 10 (by decide)) rfl rfl (Nat.le_of_ble_eq_true rfl) dX12_load_28 (fun H locs hP hD hS => ?_)
    have hP : va_P g.1 vwCl (wX12 g aM aM_text aM_now aM_trial aM_read aM_diary aM_kept aM_isKept aM_constraint aM_readConstraint aM_word aM_size aM_number aM_firstOne aM_node aM_parent aM_rule aM_child aM_proof aM_witness aM_witnessSize aM_built aM_copyRow M_length M_acts M_next M_readMany_1 M_readMany_1 M_found M_shortest M_nodes M_solved M_dropped M_fits M_proofSize M_tooLong M_text M_now_20 M_trial M_read_1 M_diary M_kept M_isKept M_constraint M_readConstraint_1 M_word M_size M_number M_firstOne M_node M_parent M_rule M_child M_proof M_witness M_witnessSize M_built M_copyRow) H := hP
    have hD : va_D A (wX12 g aM aM_text aM_now aM_trial aM_read aM_diary aM_kept aM_isKept aM_constraint aM_readConstraint aM_word aM_size aM_number aM_firstOne aM_node aM_parent aM_rule aM_child aM_proof aM_witness aM_witnessSize aM_built aM_copyRow M_length M_acts M_next M_readMany_1 M_readMany_1 M_found M_shortest M_nodes M_solved M_dropped M_fits M_proofSize M_tooLong M_text M_now_20 M_trial M_read_1 M_diary M_kept M_isKept M_constraint M_readConstraint_1 M_word M_size M_number M_firstOne M_node M_parent M_rule M_child M_proof M_witness M_witnessSize M_built M_copyRow) := hD
    refine lv_iconst (v := (0 : Int32)) hx hb dX12_load_31 (by decide) ?_
    refine lv_istore_n (lv' := [(1, .int (0 : Int32)), (0, .ref aM)]) hx hb dX12_load_32 rfl hl (by decide) rfl (fun ls hl => ?_)
    exact L33 FU M_acts M_readMany_1 M_readMany_1 M_now_20 M_read_1 M_isKept M_constraint M_readConstraint_1 (0 : Int32) ls H locs (lv_sub hl [1, 0] rfl) hP hD hS h
  have h := ifF h q6
  refine lv_bipush (v := ((-3) : Int32)) hx hb dX12_load_9 (by decide) ?_
  have h : some (((-3) : Int32), M_acts, M_many, M_readMany_1, M_now, M_read_1, M_isKept, M_constraint, M_readConstraint_1) = some (r, M_acts_o, M_many_o, M_readMany_o, M_now_o, M_read_o, M_isKept_o, M_constraint_o, M_readConstraint_o) := h
  cases h
  exact hret _ _ _ _ hP hD hS dX12_load_11
set_option maxHeartbeats 4000000 in
set_option maxRecDepth 100000 in
theorem mX12_sideLength (g : GP) (l : Launch) (aM aM_text aM_now aM_trial aM_read aM_diary aM_kept aM_isKept aM_constraint aM_readConstraint aM_word aM_size aM_number aM_firstOne aM_node aM_parent aM_rule aM_child aM_proof aM_witness aM_witnessSize aM_built aM_copyRow : Nat) (M_length : Int32) (M_acts : Int32) (M_next : Int32) (M_many : Int32) (M_readMany : Int32) (M_found : Int32) (M_shortest : Int32) (M_nodes : Int32) (M_solved : Int32) (M_dropped : Int32) (M_fits : Int32) (M_proofSize : Int32) (M_tooLong : Int32) (M_text : Nat → Int32) (M_now : Nat → Int32) (M_trial : Nat → Int32) (M_read : Nat → Int32) (M_diary : Nat → Int32) (M_kept : Nat → Int32) (M_isKept : Nat → Int32) (M_constraint : Nat → Int32) (M_readConstraint : Nat → Int32) (M_word : Nat → Int32) (M_size : Nat → Int32) (M_number : Nat → Int32) (M_firstOne : Nat → Int32) (M_node : Nat → Int32) (M_parent : Nat → Int32) (M_rule : Nat → Int32) (M_child : Nat → Int32) (M_proof : Nat → Int32) (M_witness : Nat → Int32) (M_witnessSize : Nat → Int32) (M_built : Nat → Int32) (M_copyRow : Nat → Int32) (x1 : Int32) (r : Int32) (h : fM_sideLength M_now x1 = some r) : Ct g l yX12_sideLength cX12_sideLength 2 (some .int) rmX12_sideLength [.ref aM, .int x1] (wX12 g aM aM_text aM_now aM_trial aM_read aM_diary aM_kept aM_isKept aM_constraint aM_readConstraint aM_word aM_size aM_number aM_firstOne aM_node aM_parent aM_rule aM_child aM_proof aM_witness aM_witnessSize aM_built aM_copyRow M_length M_acts M_next M_many M_readMany M_found M_shortest M_nodes M_solved M_dropped M_fits M_proofSize M_tooLong M_text M_now M_trial M_read M_diary M_kept M_isKept M_constraint M_readConstraint M_word M_size M_number M_firstOne M_node M_parent M_rule M_child M_proof M_witness M_witnessSize M_built M_copyRow) (some (.int r)) (wX12 g aM aM_text aM_now aM_trial aM_read aM_diary aM_kept aM_isKept aM_constraint aM_readConstraint aM_word aM_size aM_number aM_firstOne aM_node aM_parent aM_rule aM_child aM_proof aM_witness aM_witnessSize aM_built aM_copyRow M_length M_acts M_next M_many M_readMany M_found M_shortest M_nodes M_solved M_dropped M_fits M_proofSize M_tooLong M_text M_now M_trial M_read M_diary M_kept M_isKept M_constraint M_readConstraint M_word M_size M_number M_firstOne M_node M_parent M_rule M_child M_proof M_witness M_witnessSize M_built M_copyRow) := by
  refine Ct.introI (by decide) (Nat.le_of_ble_eq_true rfl) ?_
  intro p e s m below meth c A QQ ls hyp hret
  obtain ⟨hx, hb, hml, hts, hown, hA, hE, hP, hD, hl⟩ := hyp
  have hK := hE.1
  have hS : va_S A s.heap s.heap [] := va_S.rf
  have X : Here g p s m c cX12_sideLength 2 ([.ref aM, .int x1] : List Value).toArray RX12 A := ⟨⟨hx, hb, hml, hown, hts⟩, hE, hA⟩
  have hl : lv_has ls 2 [(0, .ref aM), (1, .int x1)] := hl
  obtain ⟨H, hH⟩ : ∃ H, H = s.heap := ⟨_, rfl⟩
  obtain ⟨locs, hlocs⟩ : ∃ l : List Loc, l = [] := ⟨_, rfl⟩
  rw [show W p l e rmX12_sideLength s m ([.ref aM, .int x1] : List Value).toArray below meth c s.heap [] 0 0 QQ (F0 m 0 ls []) = W p l e rmX12_sideLength s m ([.ref aM, .int x1] : List Value).toArray below meth c H locs 0 0 QQ (F0 m 0 ls []) by rw [hH, hlocs]]
  have hP : va_P g.1 vwCl (wX12 g aM aM_text aM_now aM_trial aM_read aM_diary aM_kept aM_isKept aM_constraint aM_readConstraint aM_word aM_size aM_number aM_firstOne aM_node aM_parent aM_rule aM_child aM_proof aM_witness aM_witnessSize aM_built aM_copyRow M_length M_acts M_next M_many M_readMany M_found M_shortest M_nodes M_solved M_dropped M_fits M_proofSize M_tooLong M_text M_now M_trial M_read M_diary M_kept M_isKept M_constraint M_readConstraint M_word M_size M_number M_firstOne M_node M_parent M_rule M_child M_proof M_witness M_witnessSize M_built M_copyRow) H := by rw [hH]; exact hP
  have hD : va_D A (wX12 g aM aM_text aM_now aM_trial aM_read aM_diary aM_kept aM_isKept aM_constraint aM_readConstraint aM_word aM_size aM_number aM_firstOne aM_node aM_parent aM_rule aM_child aM_proof aM_witness aM_witnessSize aM_built aM_copyRow M_length M_acts M_next M_many M_readMany M_found M_shortest M_nodes M_solved M_dropped M_fits M_proofSize M_tooLong M_text M_now M_trial M_read M_diary M_kept M_isKept M_constraint M_readConstraint M_word M_size M_number M_firstOne M_node M_parent M_rule M_child M_proof M_witness M_witnessSize M_built M_copyRow) := hD
  have hS : va_S A s.heap H locs := by rw [hH, hlocs]; exact hS
  clear hH hlocs
  refine lv_iload_n hx hb dX12_sideLength_0 rfl (lv_at hl 1 rfl) ?_
  refine lv_i2l (v := (Int32.toInt64 x1)) hx hb dX12_sideLength_1 rfl ?_
  refine lv_lconst (v := (0 : Int64)) hx hb dX12_sideLength_2 (by decide) ?_
  refine lv_lconst (v := (1 : Int64)) hx hb dX12_sideLength_3 (by decide) ?_
  obtain ⟨t4, hc4, h⟩ := bd1_to h
  refine go_0 (st1 := [.int t4]) (run_S (As := [.long (Int32.toInt64 x1), .long (0 : Int64), .long (1 : Int64)]) (rest := []) X hS (mX12_in g l  (Int32.toInt64 x1) (0 : Int64) (1 : Int64) t4 hc4) okX12_in wd5_67 ⟨Nat.le_of_ble_eq_true rfl, Nat.le_of_ble_eq_true rfl⟩ ⟨rfl, rfl⟩ nil_P nil_D (nil_F hS hA) rfl hl.1 rfl (Nat.le_of_ble_eq_true rfl) dX12_sideLength_4 ⟨Nat.zero_le _, Nat.zero_le _⟩) hS hA hP rfl (fun H locs hP hS => ?_)
  refine lv_if_eq (tgt := 19) hx hb dX12_sideLength_7 (by decide) (fun q7 => ?_) (fun q7 => ?_)
  · have h := ifT h q7
    refine lv_iconst (v := ((-1) : Int32)) hx hb dX12_sideLength_19 (by decide) ?_
    have h : some ((-1) : Int32) = some r := h
    cases h
    exact hret _ _ _ _ hP hD hS dX12_sideLength_20
  have h := ifF h q7
  refine lv_aload_n hx hb dX12_sideLength_10 rfl (lv_at hl 0 rfl) ?_
  refine va_get (D := g.1) (ci := 11) (v := .ref aM_now) (C := RX12) (T := TX12) (N := 35) hx hb hts inBX12 hown hK hP 0 rfl rfl 2 (by decide) (hts _ wd4_198) (fun _ h9 => h9) rfl dX12_sideLength_11 ?_
  refine lv_iload_n hx hb dX12_sideLength_14 rfl (lv_at hl 1 rfl) ?_
  have hin := ld_in h
  refine va_iald hx hb hK hP 2 0 rfl rfl hin dX12_sideLength_15 ?_
  refine lv_topi (fun t15 et15 => ?_)
  have h := ld_to h et15
  refine lv_goto (tgt := 20) hx hb dX12_sideLength_16 (by decide) ?_
  have h : some t15 = some r := h
  cases h
  exact hret _ _ _ _ hP hD hS dX12_sideLength_20
set_option maxHeartbeats 4000000 in
set_option maxRecDepth 100000 in
theorem mX12_charOf (g : GP) (l : Launch)  (x0 : Int32) (r : Int32) (h : fM_charOf x0 = some r) : Ct g l yX12_charOf cX12_charOf 1 (some .int) rmX12_charOf [.int x0] [] (some (.int r)) [] := by
  refine Ct.introI (by decide) (Nat.le_of_ble_eq_true rfl) ?_
  intro p e s m below meth c A QQ ls hyp hret
  obtain ⟨hx, hb, hml, hts, hown, hA, hE, hP, hD, hl⟩ := hyp
  have hK := hE.1
  have hS : va_S A s.heap s.heap [] := va_S.rf
  have X : Here g p s m c cX12_charOf 1 ([.int x0] : List Value).toArray RX12 A := ⟨⟨hx, hb, hml, hown, hts⟩, hE, hA⟩
  have hl : lv_has ls 1 [(0, .int x0)] := hl
  obtain ⟨H, hH⟩ : ∃ H, H = s.heap := ⟨_, rfl⟩
  obtain ⟨locs, hlocs⟩ : ∃ l : List Loc, l = [] := ⟨_, rfl⟩
  rw [show W p l e rmX12_charOf s m ([.int x0] : List Value).toArray below meth c s.heap [] 0 0 QQ (F0 m 0 ls []) = W p l e rmX12_charOf s m ([.int x0] : List Value).toArray below meth c H locs 0 0 QQ (F0 m 0 ls []) by rw [hH, hlocs]]
  have hP : va_P g.1 vwCl [] H := by rw [hH]; exact hP
  have hD : va_D A [] := hD
  have hS : va_S A s.heap H locs := by rw [hH, hlocs]; exact hS
  clear hH hlocs
  refine lv_iload_n hx hb dX12_charOf_0 rfl (lv_at hl 0 rfl) ?_
  refine lv_iconst (v := (2 : Int32)) hx hb dX12_charOf_1 (by decide) ?_
  refine lv_icmp_ge (tgt := 12) hx hb dX12_charOf_2 (by decide) (fun q2 => ?_) (fun q2 => ?_)
  · have h := ifT h q2
    refine lv_bipush (v := (85 : Int32)) hx hb dX12_charOf_12 (by decide) ?_
    refine lv_iload_n hx hb dX12_charOf_14 rfl (lv_at hl 0 rfl) ?_
    refine lv_iadd hx hb dX12_charOf_15 ?_
    have h : some ((85 : Int32) + x0) = some r := h
    cases h
    exact hret _ _ _ _ hP hD hS dX12_charOf_16
  have h := ifF h q2
  refine lv_bipush (v := (97 : Int32)) hx hb dX12_charOf_5 (by decide) ?_
  refine lv_iload_n hx hb dX12_charOf_7 rfl (lv_at hl 0 rfl) ?_
  refine lv_iadd hx hb dX12_charOf_8 ?_
  refine lv_goto (tgt := 16) hx hb dX12_charOf_9 (by decide) ?_
  have h : some ((97 : Int32) + x0) = some r := h
  cases h
  exact hret _ _ _ _ hP hD hS dX12_charOf_16
set_option maxHeartbeats 4000000 in
set_option maxRecDepth 100000 in
theorem mX12_symbolAt (g : GP) (l : Launch) (aM aM_text aM_now aM_trial aM_read aM_diary aM_kept aM_isKept aM_constraint aM_readConstraint aM_word aM_size aM_number aM_firstOne aM_node aM_parent aM_rule aM_child aM_proof aM_witness aM_witnessSize aM_built aM_copyRow : Nat) (M_length : Int32) (M_acts : Int32) (M_next : Int32) (M_many : Int32) (M_readMany : Int32) (M_found : Int32) (M_shortest : Int32) (M_nodes : Int32) (M_solved : Int32) (M_dropped : Int32) (M_fits : Int32) (M_proofSize : Int32) (M_tooLong : Int32) (M_text : Nat → Int32) (M_now : Nat → Int32) (M_trial : Nat → Int32) (M_read : Nat → Int32) (M_diary : Nat → Int32) (M_kept : Nat → Int32) (M_isKept : Nat → Int32) (M_constraint : Nat → Int32) (M_readConstraint : Nat → Int32) (M_word : Nat → Int32) (M_size : Nat → Int32) (M_number : Nat → Int32) (M_firstOne : Nat → Int32) (M_node : Nat → Int32) (M_parent : Nat → Int32) (M_rule : Nat → Int32) (M_child : Nat → Int32) (M_proof : Nat → Int32) (M_witness : Nat → Int32) (M_witnessSize : Nat → Int32) (M_built : Nat → Int32) (M_copyRow : Nat → Int32) (x1 : Int32) (x2 : Int32) (r : Int32) (h : fM_symbolAt M_now x1 x2 = some r) : Ct g l yX12_symbolAt cX12_symbolAt 3 (some .int) rmX12_symbolAt [.ref aM, .int x1, .int x2] (wX12 g aM aM_text aM_now aM_trial aM_read aM_diary aM_kept aM_isKept aM_constraint aM_readConstraint aM_word aM_size aM_number aM_firstOne aM_node aM_parent aM_rule aM_child aM_proof aM_witness aM_witnessSize aM_built aM_copyRow M_length M_acts M_next M_many M_readMany M_found M_shortest M_nodes M_solved M_dropped M_fits M_proofSize M_tooLong M_text M_now M_trial M_read M_diary M_kept M_isKept M_constraint M_readConstraint M_word M_size M_number M_firstOne M_node M_parent M_rule M_child M_proof M_witness M_witnessSize M_built M_copyRow) (some (.int r)) (wX12 g aM aM_text aM_now aM_trial aM_read aM_diary aM_kept aM_isKept aM_constraint aM_readConstraint aM_word aM_size aM_number aM_firstOne aM_node aM_parent aM_rule aM_child aM_proof aM_witness aM_witnessSize aM_built aM_copyRow M_length M_acts M_next M_many M_readMany M_found M_shortest M_nodes M_solved M_dropped M_fits M_proofSize M_tooLong M_text M_now M_trial M_read M_diary M_kept M_isKept M_constraint M_readConstraint M_word M_size M_number M_firstOne M_node M_parent M_rule M_child M_proof M_witness M_witnessSize M_built M_copyRow) := by
  refine Ct.introI (by decide) (Nat.le_of_ble_eq_true rfl) ?_
  intro p e s m below meth c A QQ ls hyp hret
  obtain ⟨hx, hb, hml, hts, hown, hA, hE, hP, hD, hl⟩ := hyp
  have hK := hE.1
  have hS : va_S A s.heap s.heap [] := va_S.rf
  have X : Here g p s m c cX12_symbolAt 3 ([.ref aM, .int x1, .int x2] : List Value).toArray RX12 A := ⟨⟨hx, hb, hml, hown, hts⟩, hE, hA⟩
  have hl : lv_has ls 3 [(0, .ref aM), (1, .int x1), (2, .int x2)] := hl
  obtain ⟨H, hH⟩ : ∃ H, H = s.heap := ⟨_, rfl⟩
  obtain ⟨locs, hlocs⟩ : ∃ l : List Loc, l = [] := ⟨_, rfl⟩
  rw [show W p l e rmX12_symbolAt s m ([.ref aM, .int x1, .int x2] : List Value).toArray below meth c s.heap [] 0 0 QQ (F0 m 0 ls []) = W p l e rmX12_symbolAt s m ([.ref aM, .int x1, .int x2] : List Value).toArray below meth c H locs 0 0 QQ (F0 m 0 ls []) by rw [hH, hlocs]]
  have hP : va_P g.1 vwCl (wX12 g aM aM_text aM_now aM_trial aM_read aM_diary aM_kept aM_isKept aM_constraint aM_readConstraint aM_word aM_size aM_number aM_firstOne aM_node aM_parent aM_rule aM_child aM_proof aM_witness aM_witnessSize aM_built aM_copyRow M_length M_acts M_next M_many M_readMany M_found M_shortest M_nodes M_solved M_dropped M_fits M_proofSize M_tooLong M_text M_now M_trial M_read M_diary M_kept M_isKept M_constraint M_readConstraint M_word M_size M_number M_firstOne M_node M_parent M_rule M_child M_proof M_witness M_witnessSize M_built M_copyRow) H := by rw [hH]; exact hP
  have hD : va_D A (wX12 g aM aM_text aM_now aM_trial aM_read aM_diary aM_kept aM_isKept aM_constraint aM_readConstraint aM_word aM_size aM_number aM_firstOne aM_node aM_parent aM_rule aM_child aM_proof aM_witness aM_witnessSize aM_built aM_copyRow M_length M_acts M_next M_many M_readMany M_found M_shortest M_nodes M_solved M_dropped M_fits M_proofSize M_tooLong M_text M_now M_trial M_read M_diary M_kept M_isKept M_constraint M_readConstraint M_word M_size M_number M_firstOne M_node M_parent M_rule M_child M_proof M_witness M_witnessSize M_built M_copyRow) := hD
  have hS : va_S A s.heap H locs := by rw [hH, hlocs]; exact hS
  clear hH hlocs
  refine lv_iload_n hx hb dX12_symbolAt_0 rfl (lv_at hl 1 rfl) ?_
  refine lv_i2l (v := (Int32.toInt64 x1)) hx hb dX12_symbolAt_1 rfl ?_
  refine lv_lconst (v := (0 : Int64)) hx hb dX12_symbolAt_2 (by decide) ?_
  refine lv_lconst (v := (1 : Int64)) hx hb dX12_symbolAt_3 (by decide) ?_
  obtain ⟨t4, hc4, h⟩ := bd1_to h
  refine go_0 (st1 := [.int t4]) (run_S (As := [.long (Int32.toInt64 x1), .long (0 : Int64), .long (1 : Int64)]) (rest := []) X hS (mX12_in g l  (Int32.toInt64 x1) (0 : Int64) (1 : Int64) t4 hc4) okX12_in wd5_67 ⟨Nat.le_of_ble_eq_true rfl, Nat.le_of_ble_eq_true rfl⟩ ⟨rfl, rfl⟩ nil_P nil_D (nil_F hS hA) rfl hl.1 rfl (Nat.le_of_ble_eq_true rfl) dX12_symbolAt_4 ⟨Nat.zero_le _, Nat.zero_le _⟩) hS hA hP rfl (fun H locs hP hS => ?_)
  refine lv_if_eq (tgt := 44) hx hb dX12_symbolAt_7 (by decide) (fun q7 => ?_) (fun q7 => ?_)
  · have h := ifT h q7
    refine lv_iconst (v := ((-1) : Int32)) hx hb dX12_symbolAt_44 (by decide) ?_
    have h : some ((-1) : Int32) = some r := h
    cases h
    exact hret _ _ _ _ hP hD hS dX12_symbolAt_45
  have h := ifF h q7
  refine lv_iload_n hx hb dX12_symbolAt_10 rfl (lv_at hl 2 rfl) ?_
  refine lv_i2l (v := (Int32.toInt64 x2)) hx hb dX12_symbolAt_11 rfl ?_
  refine lv_lconst (v := (0 : Int64)) hx hb dX12_symbolAt_12 (by decide) ?_
  refine lv_aload_n hx hb dX12_symbolAt_13 rfl (lv_at hl 0 rfl) ?_
  refine va_get (D := g.1) (ci := 11) (v := .ref aM_now) (C := RX12) (T := TX12) (N := 35) hx hb hts inBX12 hown hK hP 0 rfl rfl 2 (by decide) (hts _ wd4_198) (fun _ h9 => h9) rfl dX12_symbolAt_14 ?_
  refine lv_iload_n hx hb dX12_symbolAt_17 rfl (lv_at hl 1 rfl) ?_
  have hin := ld_in h
  refine va_iald hx hb hK hP 2 0 rfl rfl hin dX12_symbolAt_18 ?_
  refine lv_topi (fun t18 et18 => ?_)
  have h := ld_to h et18
  refine lv_iconst (v := (1 : Int32)) hx hb dX12_symbolAt_19 (by decide) ?_
  refine lv_isub hx hb dX12_symbolAt_20 ?_
  refine lv_i2l (v := (Int32.toInt64 (t18 - (1 : Int32)))) hx hb dX12_symbolAt_21 rfl ?_
  obtain ⟨t22, hc22, h⟩ := bd1_to h
  refine go_0 (st1 := [.int t22]) (run_S (As := [.long (Int32.toInt64 x2), .long (0 : Int64), .long (Int32.toInt64 (t18 - (1 : Int32)))]) (rest := []) X hS (mX12_in g l  (Int32.toInt64 x2) (0 : Int64) (Int32.toInt64 (t18 - (1 : Int32))) t22 hc22) okX12_in wd5_67 ⟨Nat.le_of_ble_eq_true rfl, Nat.le_of_ble_eq_true rfl⟩ ⟨rfl, rfl⟩ nil_P nil_D (nil_F hS hA) rfl hl.1 rfl (Nat.le_of_ble_eq_true rfl) dX12_symbolAt_22 ⟨Nat.zero_le _, Nat.zero_le _⟩) hS hA hP rfl (fun H locs hP hS => ?_)
  refine lv_if_eq (tgt := 44) hx hb dX12_symbolAt_25 (by decide) (fun q25 => ?_) (fun q25 => ?_)
  · have h := ifT h q25
    refine lv_iconst (v := ((-1) : Int32)) hx hb dX12_symbolAt_44 (by decide) ?_
    have h : some ((-1) : Int32) = some r := h
    cases h
    exact hret _ _ _ _ hP hD hS dX12_symbolAt_45
  have h := ifF h q25
  refine lv_aload_n hx hb dX12_symbolAt_28 rfl (lv_at hl 0 rfl) ?_
  refine va_get (D := g.1) (ci := 11) (v := .ref aM_now) (C := RX12) (T := TX12) (N := 35) hx hb hts inBX12 hown hK hP 0 rfl rfl 2 (by decide) (hts _ wd4_198) (fun _ h9 => h9) rfl dX12_symbolAt_29 ?_
  refine lv_iload_n hx hb dX12_symbolAt_32 rfl (lv_at hl 1 rfl) ?_
  refine lv_iload_n hx hb dX12_symbolAt_33 rfl (lv_at hl 2 rfl) ?_
  obtain ⟨t34, hc34, h⟩ := bd1_to h
  refine go_0 (st1 := [.int t34, .ref aM_now]) (run_S (As := [.int x1, .int x2]) (rest := [.ref aM_now]) X hS (mX12_at g l  x1 x2 t34 hc34) okX12_at wd5_87 ⟨Nat.le_of_ble_eq_true rfl, Nat.le_of_ble_eq_true rfl⟩ ⟨rfl, rfl⟩ nil_P nil_D (nil_F hS hA) rfl hl.1 rfl (Nat.le_of_ble_eq_true rfl) dX12_symbolAt_34 ⟨Nat.zero_le _, Nat.zero_le _⟩) hS hA hP rfl (fun H locs hP hS => ?_)
  have hin := ld_in h
  refine va_iald hx hb hK hP 2 0 rfl rfl hin dX12_symbolAt_37 ?_
  refine lv_topi (fun t37 et37 => ?_)
  have h := ld_to h et37
  obtain ⟨t38, hc38, h⟩ := bd1_to h
  refine go_0 (st1 := [.int t38]) (run_S (As := [.int t37]) (rest := []) X hS (mX12_charOf g l  t37 t38 hc38) okX12_charOf wd5_113 ⟨Nat.le_of_ble_eq_true rfl, Nat.le_of_ble_eq_true rfl⟩ ⟨rfl, rfl⟩ nil_P nil_D (nil_F hS hA) rfl hl.1 rfl (Nat.le_of_ble_eq_true rfl) dX12_symbolAt_38 ⟨Nat.zero_le _, Nat.zero_le _⟩) hS hA hP rfl (fun H locs hP hS => ?_)
  refine lv_goto (tgt := 45) hx hb dX12_symbolAt_41 (by decide) ?_
  have h : some t38 = some r := h
  cases h
  exact hret _ _ _ _ hP hD hS dX12_symbolAt_45
set_option maxHeartbeats 4000000 in
set_option maxRecDepth 100000 in
theorem mX12_isVariable (g : GP) (l : Launch)  (x0 : Int32) (r : Int32) (h : fM_isVariable x0 = some r) : Ct g l yX12_isVariable cX12_isVariable 1 (some .boolean) rmX12_isVariable [.int x0] [] (some (.int r)) [] := by
  refine Ct.introZ (by decide) (Nat.le_of_ble_eq_true rfl) ?_
  intro p e s m below meth c A QQ ls hyp hret
  obtain ⟨hx, hb, hml, hts, hown, hA, hE, hP, hD, hl⟩ := hyp
  have hK := hE.1
  have hS : va_S A s.heap s.heap [] := va_S.rf
  have X : Here g p s m c cX12_isVariable 1 ([.int x0] : List Value).toArray RX12 A := ⟨⟨hx, hb, hml, hown, hts⟩, hE, hA⟩
  have hl : lv_has ls 1 [(0, .int x0)] := hl
  obtain ⟨H, hH⟩ : ∃ H, H = s.heap := ⟨_, rfl⟩
  obtain ⟨locs, hlocs⟩ : ∃ l : List Loc, l = [] := ⟨_, rfl⟩
  rw [show W p l e rmX12_isVariable s m ([.int x0] : List Value).toArray below meth c s.heap [] 0 0 QQ (F0 m 0 ls []) = W p l e rmX12_isVariable s m ([.int x0] : List Value).toArray below meth c H locs 0 0 QQ (F0 m 0 ls []) by rw [hH, hlocs]]
  have hP : va_P g.1 vwCl [] H := by rw [hH]; exact hP
  have hD : va_D A [] := hD
  have hS : va_S A s.heap H locs := by rw [hH, hlocs]; exact hS
  clear hH hlocs
  refine lv_iload_n hx hb dX12_isVariable_0 rfl (lv_at hl 0 rfl) ?_
  refine lv_i2l (v := (Int32.toInt64 x0)) hx hb dX12_isVariable_1 rfl ?_
  refine lv_lconst (v := (0 : Int64)) hx hb dX12_isVariable_2 (by decide) ?_
  refine lv_ldc2 (v := (3 : Int64)) hx hb hown (hts _ wd5_123) dX12_isVariable_3 ?_
  obtain ⟨t6, hc6, h⟩ := bd1_to h
  refine go_0 (st1 := [.int t6]) (run_S (As := [.long (Int32.toInt64 x0), .long (0 : Int64), .long (3 : Int64)]) (rest := []) X hS (mX12_in g l  (Int32.toInt64 x0) (0 : Int64) (3 : Int64) t6 hc6) okX12_in wd5_67 ⟨Nat.le_of_ble_eq_true rfl, Nat.le_of_ble_eq_true rfl⟩ ⟨rfl, rfl⟩ nil_P nil_D (nil_F hS hA) rfl hl.1 rfl (Nat.le_of_ble_eq_true rfl) dX12_isVariable_6 ⟨Nat.zero_le _, Nat.zero_le _⟩) hS hA hP rfl (fun H locs hP hS => ?_)
  have z9 := ckz_is h
  have h := ckz_to h
  have h : some t6 = some r := h
  cases h
  exact hret _ _ _ _ (nz_nar z9) hP hD hS dX12_isVariable_9
