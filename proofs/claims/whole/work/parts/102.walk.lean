set_option maxHeartbeats 4000000 in
set_option maxRecDepth 100000 in
theorem mX11_exchangeLetters (g : GP) (l : Launch) (aX aT aT_characters aE aH aH_lefts aH_rights aS aS_lefts aS_rights aS_filled aA aA_letters aA_lengths aK aB aB_first aQ aQ_weights aQ_possible aC aC_variables aC_relations aC_numbers aA2 aA2_letters aA2_lengths aN aN_lefts aN_rights aN_parents aN_rules aN_depths aE2 : Nat) (T_size : Int32) (T_characters : Nat → Int32) (E_left : Int64) (E_right : Int64) (H_size : Int32) (H_lefts : Nat → Int64) (H_rights : Nat → Int64) (S_lefts : Nat → Int64) (S_rights : Nat → Int64) (S_filled : Nat → Int32) (A_letters : Nat → Int64) (A_lengths : Nat → Int32) (B_left : Int64) (B_right : Int64) (B_found : Int32) (B_least : Int32) (B_first : Nat → Int32) (Q_letterSurplus : Int32) (Q_weights : Nat → Int32) (Q_possible : Nat → Int32) (C_size : Int32) (C_variables : Nat → Int32) (C_relations : Nat → Int32) (C_numbers : Nat → Int32) (A2_letters : Nat → Int64) (A2_lengths : Nat → Int32) (N_size : Int32) (N_solved : Int32) (N_dropped : Int32) (N_lefts : Nat → Int64) (N_rights : Nat → Int64) (N_parents : Nat → Int32) (N_rules : Nat → Int32) (N_depths : Nat → Int32) (E2_left : Int64) (E2_right : Int64)  (r : Int32) (E_left_o : Int64) (E_right_o : Int64) (H_size_o : Int32) (H_lefts_o : Nat → Int64) (H_rights_o : Nat → Int64) (h : fX_exchangeLetters E_left E_right H_size H_lefts H_rights = some (r, E_left_o, E_right_o, H_size_o, H_lefts_o, H_rights_o)) : Ct g l yX11_exchangeLetters cX11_exchangeLetters 1 (some .int) rmX11_exchangeLetters [.ref aX] (wX11 g aX aT aT_characters aE aH aH_lefts aH_rights aS aS_lefts aS_rights aS_filled aA aA_letters aA_lengths aK aB aB_first aQ aQ_weights aQ_possible aC aC_variables aC_relations aC_numbers aA2 aA2_letters aA2_lengths aN aN_lefts aN_rights aN_parents aN_rules aN_depths aE2 T_size T_characters E_left E_right H_size H_lefts H_rights S_lefts S_rights S_filled A_letters A_lengths B_left B_right B_found B_least B_first Q_letterSurplus Q_weights Q_possible C_size C_variables C_relations C_numbers A2_letters A2_lengths N_size N_solved N_dropped N_lefts N_rights N_parents N_rules N_depths E2_left E2_right) (some (.int r)) (wX11 g aX aT aT_characters aE aH aH_lefts aH_rights aS aS_lefts aS_rights aS_filled aA aA_letters aA_lengths aK aB aB_first aQ aQ_weights aQ_possible aC aC_variables aC_relations aC_numbers aA2 aA2_letters aA2_lengths aN aN_lefts aN_rights aN_parents aN_rules aN_depths aE2 T_size T_characters E_left_o E_right_o H_size_o H_lefts_o H_rights_o S_lefts S_rights S_filled A_letters A_lengths B_left B_right B_found B_least B_first Q_letterSurplus Q_weights Q_possible C_size C_variables C_relations C_numbers A2_letters A2_lengths N_size N_solved N_dropped N_lefts N_rights N_parents N_rules N_depths E2_left E2_right) := by
  refine Ct.introI (by decide) (Nat.le_of_ble_eq_true rfl) ?_
  intro p e s m below meth c A QQ ls hyp hret
  obtain ⟨hx, hb, hml, hts, hown, hA, hE, hP, hD, hl⟩ := hyp
  have hK := hE.1
  have hS : va_S A s.heap s.heap [] := va_S.rf
  have X : Here g p s m c cX11_exchangeLetters 1 ([.ref aX] : List Value).toArray RX11 A := ⟨⟨hx, hb, hml, hown, hts⟩, hE, hA⟩
  have hl : lv_has ls 1 [(0, .ref aX)] := hl
  obtain ⟨H, hH⟩ : ∃ H, H = s.heap := ⟨_, rfl⟩
  obtain ⟨locs, hlocs⟩ : ∃ l : List Loc, l = [] := ⟨_, rfl⟩
  rw [show W p l e rmX11_exchangeLetters s m ([.ref aX] : List Value).toArray below meth c s.heap [] 0 0 QQ (F0 m 0 ls []) = W p l e rmX11_exchangeLetters s m ([.ref aX] : List Value).toArray below meth c H locs 0 0 QQ (F0 m 0 ls []) by rw [hH, hlocs]]
  have hP : va_P g.1 vwCl (wX11 g aX aT aT_characters aE aH aH_lefts aH_rights aS aS_lefts aS_rights aS_filled aA aA_letters aA_lengths aK aB aB_first aQ aQ_weights aQ_possible aC aC_variables aC_relations aC_numbers aA2 aA2_letters aA2_lengths aN aN_lefts aN_rights aN_parents aN_rules aN_depths aE2 T_size T_characters E_left E_right H_size H_lefts H_rights S_lefts S_rights S_filled A_letters A_lengths B_left B_right B_found B_least B_first Q_letterSurplus Q_weights Q_possible C_size C_variables C_relations C_numbers A2_letters A2_lengths N_size N_solved N_dropped N_lefts N_rights N_parents N_rules N_depths E2_left E2_right) H := by rw [hH]; exact hP
  have hD : va_D A (wX11 g aX aT aT_characters aE aH aH_lefts aH_rights aS aS_lefts aS_rights aS_filled aA aA_letters aA_lengths aK aB aB_first aQ aQ_weights aQ_possible aC aC_variables aC_relations aC_numbers aA2 aA2_letters aA2_lengths aN aN_lefts aN_rights aN_parents aN_rules aN_depths aE2 T_size T_characters E_left E_right H_size H_lefts H_rights S_lefts S_rights S_filled A_letters A_lengths B_left B_right B_found B_least B_first Q_letterSurplus Q_weights Q_possible C_size C_variables C_relations C_numbers A2_letters A2_lengths N_size N_solved N_dropped N_lefts N_rights N_parents N_rules N_depths E2_left E2_right) := hD
  have hS : va_S A s.heap H locs := by rw [hH, hlocs]; exact hS
  clear hH hlocs
  refine lv_aload_n hx hb dX11_exchangeLetters_0 rfl (lv_at hl 0 rfl) ?_
  refine va_get (D := g.1) (ci := 10) (v := .ref aH) (C := RX11) (T := TX11) (N := 10) hx hb hts inBX11 hown hK hP 0 rfl rfl 3 (by decide) (hts _ wd1_235) (fun _ h9 => h9) rfl dX11_exchangeLetters_1 ?_
  refine lv_aload_n hx hb dX11_exchangeLetters_4 rfl (lv_at hl 0 rfl) ?_
  refine va_get (D := g.1) (ci := 10) (v := .ref aE) (C := RX11) (T := TX11) (N := 10) hx hb hts inBX11 hown hK hP 0 rfl rfl 1 (by decide) (hts _ wd1_233) (fun _ h9 => h9) rfl dX11_exchangeLetters_5 ?_
  obtain ⟨H_size_8, H_lefts_8, H_rights_8, hc8, h⟩ := bd3_to h
  refine go_P (st1 := []) (W1 := (wX11 g aX aT aT_characters aE aH aH_lefts aH_rights aS aS_lefts aS_rights aS_filled aA aA_letters aA_lengths aK aB aB_first aQ aQ_weights aQ_possible aC aC_variables aC_relations aC_numbers aA2 aA2_letters aA2_lengths aN aN_lefts aN_rights aN_parents aN_rules aN_depths aE2 T_size T_characters E_left E_right H_size_8 H_lefts_8 H_rights_8 S_lefts S_rights S_filled A_letters A_lengths B_left B_right B_found B_least B_first Q_letterSurplus Q_weights Q_possible C_size C_variables C_relations C_numbers A2_letters A2_lengths N_size N_solved N_dropped N_lefts N_rights N_parents N_rules N_depths E2_left E2_right)) (run_V (As := [.ref aE]) (rest := []) X hS (mX4_remember g l  aH aH_lefts aH_rights aE H_size H_lefts H_rights E_left E_right H_size_8 H_lefts_8 H_rights_8 hc8) okX4_remember wd3_22 ⟨Nat.le_of_ble_eq_true rfl, Nat.le_of_ble_eq_true rfl⟩ ⟨rfl, rfl⟩ (va_recv hK hP (ci := 4) (q0 := 4) rfl rfl) (sub_P hP [4, 5, 6, 3] rfl) (hD.sub [4, 5, 6, 3] (by decide) rfl) (va_free hD hS hA [4, 5, 6, 3] rfl) rfl hl.1 rfl (Nat.le_of_ble_eq_true rfl) dX11_exchangeLetters_8 ⟨Nat.zero_le _, Nat.zero_le _⟩) hS (va_free hD hS hA [4, 5, 6, 3] rfl) hP hD [4, 5, 6, 3] [0, 1, 2, 7, 8, 9, 10, 11, 12, 13, 14, 15, 16, 17, 18, 19, 20, 21, 22, 23, 24, 25, 26, 27, 28, 29, 30, 31, 32, 33] [0, 1, 2, 33, 30, 31, 32, 3, 4, 5, 6, 7, 8, 9, 10, 11, 12, 13, 14, 15, 16, 17, 18, 19, 20, 21, 22, 23, 24, 25, 26, 27, 28, 29] rfl rfl (by decide) (by decide) rfl (by decide) rfl (fun H locs hP hD hS => ?_)
  refine lv_aload_n hx hb dX11_exchangeLetters_11 rfl (lv_at hl 0 rfl) ?_
  refine va_get (D := g.1) (ci := 10) (v := .ref aE) (C := RX11) (T := TX11) (N := 10) hx hb hts inBX11 hown hK hP 0 rfl rfl 1 (by decide) (hts _ wd1_233) (fun _ h9 => h9) rfl dX11_exchangeLetters_12 ?_
  obtain ⟨E_left_15, E_right_15, hc15, h⟩ := bd2_to h
  refine go_P (st1 := []) (W1 := (wX11 g aX aT aT_characters aE aH aH_lefts aH_rights aS aS_lefts aS_rights aS_filled aA aA_letters aA_lengths aK aB aB_first aQ aQ_weights aQ_possible aC aC_variables aC_relations aC_numbers aA2 aA2_letters aA2_lengths aN aN_lefts aN_rights aN_parents aN_rules aN_depths aE2 T_size T_characters E_left_15 E_right_15 H_size_8 H_lefts_8 H_rights_8 S_lefts S_rights S_filled A_letters A_lengths B_left B_right B_found B_least B_first Q_letterSurplus Q_weights Q_possible C_size C_variables C_relations C_numbers A2_letters A2_lengths N_size N_solved N_dropped N_lefts N_rights N_parents N_rules N_depths E2_left E2_right)) (run_V (As := []) (rest := []) X hS (mX2_exchange g l  aE E_left E_right E_left_15 E_right_15 hc15) okX2_exchange wd3_76 ⟨Nat.le_of_ble_eq_true rfl, Nat.le_of_ble_eq_true rfl⟩ ⟨rfl, rfl⟩ (va_recv hK hP (ci := 2) (q0 := 3) rfl rfl) (sub_P hP [3] rfl) (hD.sub [3] (by decide) rfl) (va_free hD hS hA [3] rfl) rfl hl.1 rfl (Nat.le_of_ble_eq_true rfl) dX11_exchangeLetters_15 ⟨Nat.zero_le _, Nat.zero_le _⟩) hS (va_free hD hS hA [3] rfl) hP hD [3] [0, 1, 2, 4, 5, 6, 7, 8, 9, 10, 11, 12, 13, 14, 15, 16, 17, 18, 19, 20, 21, 22, 23, 24, 25, 26, 27, 28, 29, 30, 31, 32, 33] [0, 1, 2, 33, 3, 4, 5, 6, 7, 8, 9, 10, 11, 12, 13, 14, 15, 16, 17, 18, 19, 20, 21, 22, 23, 24, 25, 26, 27, 28, 29, 30, 31, 32] rfl rfl (by decide) (by decide) rfl (by decide) rfl (fun H locs hP hD hS => ?_)
  refine lv_aload_n hx hb dX11_exchangeLetters_18 rfl (lv_at hl 0 rfl) ?_
  refine va_get (D := g.1) (ci := 10) (v := .ref aE) (C := RX11) (T := TX11) (N := 10) hx hb hts inBX11 hown hK hP 0 rfl rfl 1 (by decide) (hts _ wd1_233) (fun _ h9 => h9) rfl dX11_exchangeLetters_19 ?_
  refine lv_iconst (v := (1 : Int32)) hx hb dX11_exchangeLetters_22 (by decide) ?_
  obtain ⟨t23, hc23, h⟩ := bd1_to h
  refine go_P (st1 := [.int t23]) (W1 := (wX11 g aX aT aT_characters aE aH aH_lefts aH_rights aS aS_lefts aS_rights aS_filled aA aA_letters aA_lengths aK aB aB_first aQ aQ_weights aQ_possible aC aC_variables aC_relations aC_numbers aA2 aA2_letters aA2_lengths aN aN_lefts aN_rights aN_parents aN_rules aN_depths aE2 T_size T_characters E_left_15 E_right_15 H_size_8 H_lefts_8 H_rights_8 S_lefts S_rights S_filled A_letters A_lengths B_left B_right B_found B_least B_first Q_letterSurplus Q_weights Q_possible C_size C_variables C_relations C_numbers A2_letters A2_lengths N_size N_solved N_dropped N_lefts N_rights N_parents N_rules N_depths E2_left E2_right)) (run_V (As := [.int (1 : Int32)]) (rest := []) X hS (mX2_total g l  aE E_left_15 E_right_15 (1 : Int32) t23 hc23) okX2_total wd3_84 ⟨Nat.le_of_ble_eq_true rfl, Nat.le_of_ble_eq_true rfl⟩ ⟨rfl, rfl⟩ (va_recv hK hP (ci := 2) (q0 := 3) rfl rfl) (sub_P hP [3] rfl) (hD.sub [3] (by decide) rfl) (va_free hD hS hA [3] rfl) rfl hl.1 rfl (Nat.le_of_ble_eq_true rfl) dX11_exchangeLetters_23 ⟨Nat.zero_le _, Nat.zero_le _⟩) hS (va_free hD hS hA [3] rfl) hP hD [3] [0, 1, 2, 4, 5, 6, 7, 8, 9, 10, 11, 12, 13, 14, 15, 16, 17, 18, 19, 20, 21, 22, 23, 24, 25, 26, 27, 28, 29, 30, 31, 32, 33] [0, 1, 2, 33, 3, 4, 5, 6, 7, 8, 9, 10, 11, 12, 13, 14, 15, 16, 17, 18, 19, 20, 21, 22, 23, 24, 25, 26, 27, 28, 29, 30, 31, 32] rfl rfl (by decide) (by decide) rfl (by decide) rfl (fun H locs hP hD hS => ?_)
  refine lv_aload_n hx hb dX11_exchangeLetters_26 rfl (lv_at hl 0 rfl) ?_
  refine va_get (D := g.1) (ci := 10) (v := .ref aE) (C := RX11) (T := TX11) (N := 10) hx hb hts inBX11 hown hK hP 0 rfl rfl 1 (by decide) (hts _ wd1_233) (fun _ h9 => h9) rfl dX11_exchangeLetters_27 ?_
  refine lv_iconst (v := (2 : Int32)) hx hb dX11_exchangeLetters_30 (by decide) ?_
  obtain ⟨t31, hc31, h⟩ := bd1_to h
  refine go_P (st1 := [.int t31, .int t23]) (W1 := (wX11 g aX aT aT_characters aE aH aH_lefts aH_rights aS aS_lefts aS_rights aS_filled aA aA_letters aA_lengths aK aB aB_first aQ aQ_weights aQ_possible aC aC_variables aC_relations aC_numbers aA2 aA2_letters aA2_lengths aN aN_lefts aN_rights aN_parents aN_rules aN_depths aE2 T_size T_characters E_left_15 E_right_15 H_size_8 H_lefts_8 H_rights_8 S_lefts S_rights S_filled A_letters A_lengths B_left B_right B_found B_least B_first Q_letterSurplus Q_weights Q_possible C_size C_variables C_relations C_numbers A2_letters A2_lengths N_size N_solved N_dropped N_lefts N_rights N_parents N_rules N_depths E2_left E2_right)) (run_V (As := [.int (2 : Int32)]) (rest := [.int t23]) X hS (mX2_total g l  aE E_left_15 E_right_15 (2 : Int32) t31 hc31) okX2_total wd3_84 ⟨Nat.le_of_ble_eq_true rfl, Nat.le_of_ble_eq_true rfl⟩ ⟨rfl, rfl⟩ (va_recv hK hP (ci := 2) (q0 := 3) rfl rfl) (sub_P hP [3] rfl) (hD.sub [3] (by decide) rfl) (va_free hD hS hA [3] rfl) rfl hl.1 rfl (Nat.le_of_ble_eq_true rfl) dX11_exchangeLetters_31 ⟨Nat.zero_le _, Nat.zero_le _⟩) hS (va_free hD hS hA [3] rfl) hP hD [3] [0, 1, 2, 4, 5, 6, 7, 8, 9, 10, 11, 12, 13, 14, 15, 16, 17, 18, 19, 20, 21, 22, 23, 24, 25, 26, 27, 28, 29, 30, 31, 32, 33] [0, 1, 2, 33, 3, 4, 5, 6, 7, 8, 9, 10, 11, 12, 13, 14, 15, 16, 17, 18, 19, 20, 21, 22, 23, 24, 25, 26, 27, 28, 29, 30, 31, 32] rfl rfl (by decide) (by decide) rfl (by decide) rfl (fun H locs hP hD hS => ?_)
  refine lv_iadd hx hb dX11_exchangeLetters_34 ?_
  have h : some ((t23 + t31), E_left_15, E_right_15, H_size_8, H_lefts_8, H_rights_8) = some (r, E_left_o, E_right_o, H_size_o, H_lefts_o, H_rights_o) := h
  cases h
  exact hret _ _ _ _ hP hD hS dX11_exchangeLetters_35
set_option maxHeartbeats 4000000 in
set_option maxRecDepth 100000 in
theorem mX9_replaced (g : GP) (l : Launch)  (x0 : Int64) (x2 : Int32) (x3 : Int64) (r : Int64) (h : fZ_replaced x0 x2 x3 = some r) : Ct g l yX9_replaced cX9_replaced 12 (some .long) rmX9_replaced [.long x0, .int x2, .long x3] [] (some (.long r)) [] := by
  refine Ct.introL (by decide) (Nat.le_of_ble_eq_true rfl) ?_
  intro p e s m below meth c A QQ ls hyp hret
  obtain ⟨hx, hb, hml, hts, hown, hA, hE, hP, hD, hl⟩ := hyp
  have hK := hE.1
  have hS : va_S A s.heap s.heap [] := va_S.rf
  have X : Here g p s m c cX9_replaced 12 ([.long x0, .int x2, .long x3] : List Value).toArray RX9 A := ⟨⟨hx, hb, hml, hown, hts⟩, hE, hA⟩
  have L21 : ∀ (n21 : Nat), ∀ (v5 : Int32) (v6 : Int32) (v7 : Int64) (v9 : Int32) (v10 : Int32) (ls : Array Slot) (H : Heap) (locs : List Loc), lv_has ls 12 [(0, .long x0), (2, .int x2), (3, .long x3), (5, .int v5), (6, .int v6), (7, .long v7), (9, .int v9), (10, .int v10)] → va_P g.1 vwCl [] H → va_D A [] → va_S A s.heap H locs → fx3 (fZ_replaced_21 x0 x2 x3 v5 v6) n21 v7 v9 v10 = some r → W p l e rmX9_replaced s m ([.long x0, .int x2, .long x3] : List Value).toArray below meth c H locs 0 0 QQ (F0 m 21 ls []) := by
    intro n21
    induction n21 with
    | zero => intro v5 v6 v7 v9 v10 ls H locs hl hP hD hS h; exact fx3_0 h
    | succ n21 ih21 =>
      intro v5 v6 v7 v9 v10 ls H locs hl hP hD hS h
      have h := (fx3_s (fZ_replaced_21 x0 x2 x3 v5 v6) n21 v7 v9 v10).symm.trans h
      have B51 : ∀ (v9 : Int32) (v10 : Int32) (v11 : Int32) (s0 : Int64) (s1 : Int64) (ls : Array Slot) (H : Heap) (locs : List Loc), lv_has ls 12 [(0, .long x0), (2, .int x2), (3, .long x3), (5, .int v5), (6, .int v6), (9, .int v9), (10, .int v10), (11, .int v11)] → va_P g.1 vwCl [] H → va_D A [] → va_S A s.heap H locs → fZ_replaced_51 (fx3 (fZ_replaced_21 x0 x2 x3 v5 v6) n21) x0 x2 x3 v5 v6 v9 v10 v11 s0 s1 = some r → W p l e rmX9_replaced s m ([.long x0, .int x2, .long x3] : List Value).toArray below meth c H locs 0 0 QQ (F0 m 51 ls [.long s1, .long s0]) := by
        intro v9 v10 v11 s0 s1 ls H locs hl hP hD hS h
        refine lv_iconst (v := (3 : Int32)) hx hb dX9_replaced_51 (by decide) ?_
        refine lv_iload hx hb dX9_replaced_52 (lv_at hl 5 rfl) ?_
        refine lv_imul hx hb dX9_replaced_54 ?_
        refine lv_lshl (v := (shlL s1 ((3 : Int32) * v9))) hx hb dX9_replaced_55 rfl ?_
        refine lv_lor hx hb dX9_replaced_56 ?_
        refine lv_topl (fun t57 et57 => ?_)
        have h := st_to h et57
        refine lv_lstore (lv' := [(7, .long t57), (0, .long x0), (2, .int x2), (3, .long x3), (5, .int v5), (6, .int v6), (9, .int v9), (10, .int v10), (11, .int v11)]) hx hb dX9_replaced_57 hl (by decide) rfl (fun ls hl => ?_)
        refine lv_iload hx hb dX9_replaced_59 (lv_at hl 6 rfl) ?_
        refine lv_iload hx hb dX9_replaced_61 (lv_at hl 8 rfl) ?_
        refine lv_iload_n hx hb dX9_replaced_63 rfl (lv_at hl 2 rfl) ?_
        refine lv_icmp_ne (tgt := 72) hx hb dX9_replaced_64 (by decide) (fun q64 => ?_) (fun q64 => ?_)
        · have h := ifF h q64
          refine lv_iconst (v := (1 : Int32)) hx hb dX9_replaced_72 (by decide) ?_
          refine lv_iadd hx hb dX9_replaced_73 ?_
          refine lv_topi (fun t74 et74 => ?_)
          have h := st_to h et74
          refine lv_istore (lv' := [(9, .int t74), (7, .long t57), (0, .long x0), (2, .int x2), (3, .long x3), (5, .int v5), (6, .int v6), (10, .int v10), (11, .int v11)]) hx hb dX9_replaced_74 hl (by decide) rfl (fun ls hl => ?_)
          obtain ⟨t76, et76⟩ : ∃ y : Int32, y = v10 + (1 : Int32) := ⟨_, rfl⟩
          refine lv_iinc (v := t76) (lv' := [(10, .int t76), (9, .int t74), (7, .long t57), (0, .long x0), (2, .int x2), (3, .long x3), (5, .int v5), (6, .int v6), (11, .int v11)]) hx hb dX9_replaced_76 hl (k := 7) rfl (by rw [et76]; rfl) (by decide) rfl (fun ls hl => ?_)
          have h := st_to h et76
          refine lv_goto (tgt := 21) hx hb dX9_replaced_79 (by decide) ?_
          exact ih21 v5 v6 t57 t74 t76 ls H locs (lv_sub hl [3, 4, 5, 6, 7, 2, 1, 0] rfl) hP hD hS h
        have h := ifT h q64
        refine lv_iload hx hb dX9_replaced_67 (lv_at hl 5 rfl) ?_
        refine lv_goto (tgt := 73) hx hb dX9_replaced_69 (by decide) ?_
        refine lv_iadd hx hb dX9_replaced_73 ?_
        refine lv_topi (fun t74 et74 => ?_)
        have h := st_to h et74
        refine lv_istore (lv' := [(9, .int t74), (7, .long t57), (0, .long x0), (2, .int x2), (3, .long x3), (5, .int v5), (6, .int v6), (10, .int v10), (11, .int v11)]) hx hb dX9_replaced_74 hl (by decide) rfl (fun ls hl => ?_)
        obtain ⟨t76, et76⟩ : ∃ y : Int32, y = v10 + (1 : Int32) := ⟨_, rfl⟩
        refine lv_iinc (v := t76) (lv' := [(10, .int t76), (9, .int t74), (7, .long t57), (0, .long x0), (2, .int x2), (3, .long x3), (5, .int v5), (6, .int v6), (11, .int v11)]) hx hb dX9_replaced_76 hl (k := 7) rfl (by rw [et76]; rfl) (by decide) rfl (fun ls hl => ?_)
        have h := st_to h et76
        refine lv_goto (tgt := 21) hx hb dX9_replaced_79 (by decide) ?_
        exact ih21 v5 v6 t57 t74 t76 ls H locs (lv_sub hl [3, 4, 5, 6, 7, 2, 1, 0] rfl) hP hD hS h
      refine lv_iload hx hb dX9_replaced_21 (lv_at hl 7 rfl) ?_
      refine lv_iload hx hb dX9_replaced_23 (lv_at hl 3 rfl) ?_
      refine lv_icmp_ge (tgt := 82) hx hb dX9_replaced_25 (by decide) (fun q25 => ?_) (fun q25 => ?_)
      · have h := ifT h q25
        refine lv_lload hx hb dX9_replaced_82 (lv_at hl 5 rfl) ?_
        have h : some v7 = some r := h
        cases h
        exact hret _ _ _ _ hP hD hS dX9_replaced_84
      have h := ifF h q25
      refine lv_lload_n hx hb dX9_replaced_28 rfl (lv_at hl 0 rfl) ?_
      refine lv_iload hx hb dX9_replaced_29 (lv_at hl 7 rfl) ?_
      obtain ⟨t31, hc31, h⟩ := bd1_to h
      refine go_0 (st1 := [.int t31]) (run_S (As := [.long x0, .int v10]) (rest := []) X hS (mX9_symbol g l  x0 v10 t31 hc31) okX9_symbol wd3_47 ⟨Nat.le_of_ble_eq_true rfl, Nat.le_of_ble_eq_true rfl⟩ ⟨rfl, rfl⟩ nil_P nil_D (nil_F hS hA) rfl hl.1 rfl (Nat.le_of_ble_eq_true rfl) dX9_replaced_31 ⟨Nat.zero_le _, Nat.zero_le _⟩) hS hA hP rfl (fun H locs hP hS => ?_)
      refine lv_istore (lv' := [(11, .int t31), (0, .long x0), (2, .int x2), (3, .long x3), (5, .int v5), (6, .int v6), (7, .long v7), (9, .int v9), (10, .int v10)]) hx hb dX9_replaced_34 hl (by decide) rfl (fun ls hl => ?_)
      refine lv_lload hx hb dX9_replaced_36 (lv_at hl 6 rfl) ?_
      refine lv_iload hx hb dX9_replaced_38 (lv_at hl 0 rfl) ?_
      refine lv_iload_n hx hb dX9_replaced_40 rfl (lv_at hl 2 rfl) ?_
      refine lv_icmp_ne (tgt := 48) hx hb dX9_replaced_41 (by decide) (fun q41 => ?_) (fun q41 => ?_)
      · have h := ifF h q41
        refine lv_iload hx hb dX9_replaced_48 (lv_at hl 0 rfl) ?_
        refine lv_i2l (v := (Int32.toInt64 t31)) hx hb dX9_replaced_50 rfl ?_
        exact B51 v9 v10 t31 v7 ((Int32.toInt64 t31)) ls H locs (lv_sub hl [1, 2, 3, 4, 5, 7, 8, 0] rfl) hP hD hS h
      have h := ifT h q41
      refine lv_lload_n hx hb dX9_replaced_44 rfl (lv_at hl 3 rfl) ?_
      refine lv_goto (tgt := 51) hx hb dX9_replaced_45 (by decide) ?_
      exact B51 v9 v10 t31 v7 x3 ls H locs (lv_sub hl [1, 2, 3, 4, 5, 7, 8, 0] rfl) hP hD hS h
  have hl : lv_has ls 12 [(0, .long x0), (2, .int x2), (3, .long x3)] := hl
  obtain ⟨H, hH⟩ : ∃ H, H = s.heap := ⟨_, rfl⟩
  obtain ⟨locs, hlocs⟩ : ∃ l : List Loc, l = [] := ⟨_, rfl⟩
  rw [show W p l e rmX9_replaced s m ([.long x0, .int x2, .long x3] : List Value).toArray below meth c s.heap [] 0 0 QQ (F0 m 0 ls []) = W p l e rmX9_replaced s m ([.long x0, .int x2, .long x3] : List Value).toArray below meth c H locs 0 0 QQ (F0 m 0 ls []) by rw [hH, hlocs]]
  have hP : va_P g.1 vwCl [] H := by rw [hH]; exact hP
  have hD : va_D A [] := hD
  have hS : va_S A s.heap H locs := by rw [hH, hlocs]; exact hS
  clear hH hlocs
  refine lv_lload_n hx hb dX9_replaced_0 rfl (lv_at hl 0 rfl) ?_
  obtain ⟨t1, hc1, h⟩ := bd1_to h
  refine go_0 (st1 := [.int t1]) (run_S (As := [.long x0]) (rest := []) X hS (mX9_size g l  x0 t1 hc1) okX9_size wd3_46 ⟨Nat.le_of_ble_eq_true rfl, Nat.le_of_ble_eq_true rfl⟩ ⟨rfl, rfl⟩ nil_P nil_D (nil_F hS hA) rfl hl.1 rfl (Nat.le_of_ble_eq_true rfl) dX9_replaced_1 ⟨Nat.zero_le _, Nat.zero_le _⟩) hS hA hP rfl (fun H locs hP hS => ?_)
  refine lv_istore (lv' := [(5, .int t1), (0, .long x0), (2, .int x2), (3, .long x3)]) hx hb dX9_replaced_4 hl (by decide) rfl (fun ls hl => ?_)
  refine lv_lload_n hx hb dX9_replaced_6 rfl (lv_at hl 3 rfl) ?_
  obtain ⟨t7, hc7, h⟩ := bd1_to h
  refine go_0 (st1 := [.int t7]) (run_S (As := [.long x3]) (rest := []) X hS (mX9_size g l  x3 t7 hc7) okX9_size wd3_46 ⟨Nat.le_of_ble_eq_true rfl, Nat.le_of_ble_eq_true rfl⟩ ⟨rfl, rfl⟩ nil_P nil_D (nil_F hS hA) rfl hl.1 rfl (Nat.le_of_ble_eq_true rfl) dX9_replaced_7 ⟨Nat.zero_le _, Nat.zero_le _⟩) hS hA hP rfl (fun H locs hP hS => ?_)
  refine lv_istore (lv' := [(6, .int t7), (5, .int t1), (0, .long x0), (2, .int x2), (3, .long x3)]) hx hb dX9_replaced_10 hl (by decide) rfl (fun ls hl => ?_)
  refine lv_lconst (v := (0 : Int64)) hx hb dX9_replaced_12 (by decide) ?_
  refine lv_lstore (lv' := [(7, .long (0 : Int64)), (6, .int t7), (5, .int t1), (0, .long x0), (2, .int x2), (3, .long x3)]) hx hb dX9_replaced_13 hl (by decide) rfl (fun ls hl => ?_)
  refine lv_iconst (v := (0 : Int32)) hx hb dX9_replaced_15 (by decide) ?_
  refine lv_istore (lv' := [(9, .int (0 : Int32)), (7, .long (0 : Int64)), (6, .int t7), (5, .int t1), (0, .long x0), (2, .int x2), (3, .long x3)]) hx hb dX9_replaced_16 hl (by decide) rfl (fun ls hl => ?_)
  refine lv_iconst (v := (0 : Int32)) hx hb dX9_replaced_18 (by decide) ?_
  refine lv_istore (lv' := [(10, .int (0 : Int32)), (9, .int (0 : Int32)), (7, .long (0 : Int64)), (6, .int t7), (5, .int t1), (0, .long x0), (2, .int x2), (3, .long x3)]) hx hb dX9_replaced_19 hl (by decide) rfl (fun ls hl => ?_)
  exact L21 FU t1 t7 (0 : Int64) (0 : Int32) (0 : Int32) ls H locs (lv_sub hl [5, 6, 7, 4, 3, 2, 1, 0] rfl) hP hD hS h
set_option maxHeartbeats 4000000 in
set_option maxRecDepth 100000 in
theorem mX2_replace (g : GP) (l : Launch) (aE : Nat) (E_left : Int64) (E_right : Int64) (x1 : Int32) (x2 : Int64) (r : Int32) (E_left_o : Int64) (E_right_o : Int64) (h : fE_replace E_left E_right x1 x2 = some (r, E_left_o, E_right_o)) : Ct g l yX2_replace cX2_replace 5 (some .int) rmX2_replace [.ref aE, .int x1, .long x2] (wX2 g aE E_left E_right) (some (.int r)) (wX2 g aE E_left_o E_right_o) := by
  refine Ct.introI (by decide) (Nat.le_of_ble_eq_true rfl) ?_
  intro p e s m below meth c A QQ ls hyp hret
  obtain ⟨hx, hb, hml, hts, hown, hA, hE, hP, hD, hl⟩ := hyp
  have hK := hE.1
  have hS : va_S A s.heap s.heap [] := va_S.rf
  have X : Here g p s m c cX2_replace 5 ([.ref aE, .int x1, .long x2] : List Value).toArray RX2 A := ⟨⟨hx, hb, hml, hown, hts⟩, hE, hA⟩
  have hl : lv_has ls 5 [(0, .ref aE), (1, .int x1), (2, .long x2)] := hl
  obtain ⟨H, hH⟩ : ∃ H, H = s.heap := ⟨_, rfl⟩
  obtain ⟨locs, hlocs⟩ : ∃ l : List Loc, l = [] := ⟨_, rfl⟩
  rw [show W p l e rmX2_replace s m ([.ref aE, .int x1, .long x2] : List Value).toArray below meth c s.heap [] 0 0 QQ (F0 m 0 ls []) = W p l e rmX2_replace s m ([.ref aE, .int x1, .long x2] : List Value).toArray below meth c H locs 0 0 QQ (F0 m 0 ls []) by rw [hH, hlocs]]
  have hP : va_P g.1 vwCl (wX2 g aE E_left E_right) H := by rw [hH]; exact hP
  have hD : va_D A (wX2 g aE E_left E_right) := hD
  have hS : va_S A s.heap H locs := by rw [hH, hlocs]; exact hS
  clear hH hlocs
  refine lv_aload_n hx hb dX2_replace_0 rfl (lv_at hl 0 rfl) ?_
  refine lv_iload_n hx hb dX2_replace_1 rfl (lv_at hl 1 rfl) ?_
  obtain ⟨t2, hc2, h⟩ := bd1_to h
  refine go_A (st1 := [.int t2]) (run_V (As := [.int x1]) (rest := []) X hS (mX2_total g l  aE E_left E_right x1 t2 hc2) okX2_total wd3_97 ⟨Nat.le_of_ble_eq_true rfl, Nat.le_of_ble_eq_true rfl⟩ ⟨rfl, rfl⟩ (va_recv hK hP (ci := 2) (q0 := 0) rfl rfl) hP hD (all_F hS hA hD) rfl hl.1 rfl (Nat.le_of_ble_eq_true rfl) dX2_replace_2 ⟨Nat.zero_le _, Nat.zero_le _⟩) hS (all_F hS hA hD) rfl (fun H locs hP hD hS => ?_)
  refine lv_istore (lv' := [(4, .int t2), (0, .ref aE), (1, .int x1), (2, .long x2)]) hx hb dX2_replace_5 hl (by decide) rfl (fun ls hl => ?_)
  refine lv_aload_n hx hb dX2_replace_7 rfl (lv_at hl 1 rfl) ?_
  refine lv_aload_n hx hb dX2_replace_8 rfl (lv_at hl 1 rfl) ?_
  refine va_get (D := g.1) (ci := 2) (v := .long E_left) (C := RX2) (T := TX2) (N := 2) hx hb hts inBX2 hown hK hP 0 rfl rfl 0 (by decide) (hts _ wd1_48) (fun _ h9 => h9) rfl dX2_replace_9 ?_
  refine lv_iload_n hx hb dX2_replace_12 rfl (lv_at hl 2 rfl) ?_
  refine lv_lload_n hx hb dX2_replace_13 rfl (lv_at hl 3 rfl) ?_
  obtain ⟨t14, hc14, h⟩ := bd1_to h
  refine go_0 (st1 := [.long t14, .ref aE]) (run_S (As := [.long E_left, .int x1, .long x2]) (rest := [.ref aE]) X hS (mX9_replaced g l  E_left x1 x2 t14 hc14) okX9_replaced wd3_98 ⟨Nat.le_of_ble_eq_true rfl, Nat.le_of_ble_eq_true rfl⟩ ⟨rfl, rfl⟩ nil_P nil_D (nil_F hS hA) rfl hl.1 rfl (Nat.le_of_ble_eq_true rfl) dX2_replace_14 ⟨Nat.zero_le _, Nat.zero_le _⟩) hS hA hP rfl (fun H locs hP hS => ?_)
  refine lv_aload_n hx hb dX2_replace_17 rfl (lv_at hl 1 rfl) ?_
  refine va_get (D := g.1) (ci := 2) (v := .long E_right) (C := RX2) (T := TX2) (N := 2) hx hb hts inBX2 hown hK hP 0 rfl rfl 1 (by decide) (hts _ wd1_55) (fun _ h9 => h9) rfl dX2_replace_18 ?_
  refine lv_iload_n hx hb dX2_replace_21 rfl (lv_at hl 2 rfl) ?_
  refine lv_lload_n hx hb dX2_replace_22 rfl (lv_at hl 3 rfl) ?_
  obtain ⟨t23, hc23, h⟩ := bd1_to h
  refine go_0 (st1 := [.long t23, .long t14, .ref aE]) (run_S (As := [.long E_right, .int x1, .long x2]) (rest := [.long t14, .ref aE]) X hS (mX9_replaced g l  E_right x1 x2 t23 hc23) okX9_replaced wd3_98 ⟨Nat.le_of_ble_eq_true rfl, Nat.le_of_ble_eq_true rfl⟩ ⟨rfl, rfl⟩ nil_P nil_D (nil_F hS hA) rfl hl.1 rfl (Nat.le_of_ble_eq_true rfl) dX2_replace_23 ⟨Nat.zero_le _, Nat.zero_le _⟩) hS hA hP rfl (fun H locs hP hS => ?_)
  obtain ⟨E_left_26, E_right_26, hc26, h⟩ := bd2_to h
  refine go_A (st1 := []) (run_V (As := [.long t14, .long t23]) (rest := []) X hS (mX2_set g l  aE E_left E_right t14 t23 E_left_26 E_right_26 hc26) okX2_set wd3_34 ⟨Nat.le_of_ble_eq_true rfl, Nat.le_of_ble_eq_true rfl⟩ ⟨rfl, rfl⟩ (va_recv hK hP (ci := 2) (q0 := 0) rfl rfl) hP hD (all_F hS hA hD) rfl hl.1 rfl (Nat.le_of_ble_eq_true rfl) dX2_replace_26 ⟨Nat.zero_le _, Nat.zero_le _⟩) hS (all_F hS hA hD) rfl (fun H locs hP hD hS => ?_)
  refine lv_iload hx hb dX2_replace_29 (lv_at hl 0 rfl) ?_
  have h : some (t2, E_left_26, E_right_26) = some (r, E_left_o, E_right_o) := h
  cases h
  exact hret _ _ _ _ hP hD hS dX2_replace_31
set_option maxHeartbeats 4000000 in
set_option maxRecDepth 100000 in
theorem mX11_eliminate (g : GP) (l : Launch) (aX aT aT_characters aE aH aH_lefts aH_rights aS aS_lefts aS_rights aS_filled aA aA_letters aA_lengths aK aB aB_first aQ aQ_weights aQ_possible aC aC_variables aC_relations aC_numbers aA2 aA2_letters aA2_lengths aN aN_lefts aN_rights aN_parents aN_rules aN_depths aE2 : Nat) (T_size : Int32) (T_characters : Nat → Int32) (E_left : Int64) (E_right : Int64) (H_size : Int32) (H_lefts : Nat → Int64) (H_rights : Nat → Int64) (S_lefts : Nat → Int64) (S_rights : Nat → Int64) (S_filled : Nat → Int32) (A_letters : Nat → Int64) (A_lengths : Nat → Int32) (B_left : Int64) (B_right : Int64) (B_found : Int32) (B_least : Int32) (B_first : Nat → Int32) (Q_letterSurplus : Int32) (Q_weights : Nat → Int32) (Q_possible : Nat → Int32) (C_size : Int32) (C_variables : Nat → Int32) (C_relations : Nat → Int32) (C_numbers : Nat → Int32) (A2_letters : Nat → Int64) (A2_lengths : Nat → Int32) (N_size : Int32) (N_solved : Int32) (N_dropped : Int32) (N_lefts : Nat → Int64) (N_rights : Nat → Int64) (N_parents : Nat → Int32) (N_rules : Nat → Int32) (N_depths : Nat → Int32) (E2_left : Int64) (E2_right : Int64) (x1 : Int32) (r : Int32) (E_left_o : Int64) (E_right_o : Int64) (H_size_o : Int32) (H_lefts_o : Nat → Int64) (H_rights_o : Nat → Int64) (h : fX_eliminate E_left E_right H_size H_lefts H_rights x1 = some (r, E_left_o, E_right_o, H_size_o, H_lefts_o, H_rights_o)) : Ct g l yX11_eliminate cX11_eliminate 2 (some .int) rmX11_eliminate [.ref aX, .int x1] (wX11 g aX aT aT_characters aE aH aH_lefts aH_rights aS aS_lefts aS_rights aS_filled aA aA_letters aA_lengths aK aB aB_first aQ aQ_weights aQ_possible aC aC_variables aC_relations aC_numbers aA2 aA2_letters aA2_lengths aN aN_lefts aN_rights aN_parents aN_rules aN_depths aE2 T_size T_characters E_left E_right H_size H_lefts H_rights S_lefts S_rights S_filled A_letters A_lengths B_left B_right B_found B_least B_first Q_letterSurplus Q_weights Q_possible C_size C_variables C_relations C_numbers A2_letters A2_lengths N_size N_solved N_dropped N_lefts N_rights N_parents N_rules N_depths E2_left E2_right) (some (.int r)) (wX11 g aX aT aT_characters aE aH aH_lefts aH_rights aS aS_lefts aS_rights aS_filled aA aA_letters aA_lengths aK aB aB_first aQ aQ_weights aQ_possible aC aC_variables aC_relations aC_numbers aA2 aA2_letters aA2_lengths aN aN_lefts aN_rights aN_parents aN_rules aN_depths aE2 T_size T_characters E_left_o E_right_o H_size_o H_lefts_o H_rights_o S_lefts S_rights S_filled A_letters A_lengths B_left B_right B_found B_least B_first Q_letterSurplus Q_weights Q_possible C_size C_variables C_relations C_numbers A2_letters A2_lengths N_size N_solved N_dropped N_lefts N_rights N_parents N_rules N_depths E2_left E2_right) := by
  refine Ct.introI (by decide) (Nat.le_of_ble_eq_true rfl) ?_
  intro p e s m below meth c A QQ ls hyp hret
  obtain ⟨hx, hb, hml, hts, hown, hA, hE, hP, hD, hl⟩ := hyp
  have hK := hE.1
  have hS : va_S A s.heap s.heap [] := va_S.rf
  have X : Here g p s m c cX11_eliminate 2 ([.ref aX, .int x1] : List Value).toArray RX11 A := ⟨⟨hx, hb, hml, hown, hts⟩, hE, hA⟩
  have hl : lv_has ls 2 [(0, .ref aX), (1, .int x1)] := hl
  obtain ⟨H, hH⟩ : ∃ H, H = s.heap := ⟨_, rfl⟩
  obtain ⟨locs, hlocs⟩ : ∃ l : List Loc, l = [] := ⟨_, rfl⟩
  rw [show W p l e rmX11_eliminate s m ([.ref aX, .int x1] : List Value).toArray below meth c s.heap [] 0 0 QQ (F0 m 0 ls []) = W p l e rmX11_eliminate s m ([.ref aX, .int x1] : List Value).toArray below meth c H locs 0 0 QQ (F0 m 0 ls []) by rw [hH, hlocs]]
  have hP : va_P g.1 vwCl (wX11 g aX aT aT_characters aE aH aH_lefts aH_rights aS aS_lefts aS_rights aS_filled aA aA_letters aA_lengths aK aB aB_first aQ aQ_weights aQ_possible aC aC_variables aC_relations aC_numbers aA2 aA2_letters aA2_lengths aN aN_lefts aN_rights aN_parents aN_rules aN_depths aE2 T_size T_characters E_left E_right H_size H_lefts H_rights S_lefts S_rights S_filled A_letters A_lengths B_left B_right B_found B_least B_first Q_letterSurplus Q_weights Q_possible C_size C_variables C_relations C_numbers A2_letters A2_lengths N_size N_solved N_dropped N_lefts N_rights N_parents N_rules N_depths E2_left E2_right) H := by rw [hH]; exact hP
  have hD : va_D A (wX11 g aX aT aT_characters aE aH aH_lefts aH_rights aS aS_lefts aS_rights aS_filled aA aA_letters aA_lengths aK aB aB_first aQ aQ_weights aQ_possible aC aC_variables aC_relations aC_numbers aA2 aA2_letters aA2_lengths aN aN_lefts aN_rights aN_parents aN_rules aN_depths aE2 T_size T_characters E_left E_right H_size H_lefts H_rights S_lefts S_rights S_filled A_letters A_lengths B_left B_right B_found B_least B_first Q_letterSurplus Q_weights Q_possible C_size C_variables C_relations C_numbers A2_letters A2_lengths N_size N_solved N_dropped N_lefts N_rights N_parents N_rules N_depths E2_left E2_right) := hD
  have hS : va_S A s.heap H locs := by rw [hH, hlocs]; exact hS
  clear hH hlocs
  refine lv_iload_n hx hb dX11_eliminate_0 rfl (lv_at hl 1 rfl) ?_
  obtain ⟨t1, hc1, h⟩ := bd1_to h
  refine go_0 (st1 := [.int t1]) (run_S (As := [.int x1]) (rest := []) X hS (mX11_isVariable g l  x1 t1 hc1) okX11_isVariable wd3_8 ⟨Nat.le_of_ble_eq_true rfl, Nat.le_of_ble_eq_true rfl⟩ ⟨rfl, rfl⟩ nil_P nil_D (nil_F hS hA) rfl hl.1 rfl (Nat.le_of_ble_eq_true rfl) dX11_eliminate_1 ⟨Nat.zero_le _, Nat.zero_le _⟩) hS hA hP rfl (fun H locs hP hS => ?_)
  refine lv_if_ne (tgt := 9) hx hb dX11_eliminate_4 (by decide) (fun q4 => ?_) (fun q4 => ?_)
  · have h := ifF h q4
    refine lv_aload_n hx hb dX11_eliminate_9 rfl (lv_at hl 0 rfl) ?_
    refine va_get (D := g.1) (ci := 10) (v := .ref aH) (C := RX11) (T := TX11) (N := 10) hx hb hts inBX11 hown hK hP 0 rfl rfl 3 (by decide) (hts _ wd1_235) (fun _ h9 => h9) rfl dX11_eliminate_10 ?_
    refine lv_aload_n hx hb dX11_eliminate_13 rfl (lv_at hl 0 rfl) ?_
    refine va_get (D := g.1) (ci := 10) (v := .ref aE) (C := RX11) (T := TX11) (N := 10) hx hb hts inBX11 hown hK hP 0 rfl rfl 1 (by decide) (hts _ wd1_233) (fun _ h9 => h9) rfl dX11_eliminate_14 ?_
    obtain ⟨H_size_17, H_lefts_17, H_rights_17, hc17, h⟩ := bd3_to h
    refine go_P (st1 := []) (W1 := (wX11 g aX aT aT_characters aE aH aH_lefts aH_rights aS aS_lefts aS_rights aS_filled aA aA_letters aA_lengths aK aB aB_first aQ aQ_weights aQ_possible aC aC_variables aC_relations aC_numbers aA2 aA2_letters aA2_lengths aN aN_lefts aN_rights aN_parents aN_rules aN_depths aE2 T_size T_characters E_left E_right H_size_17 H_lefts_17 H_rights_17 S_lefts S_rights S_filled A_letters A_lengths B_left B_right B_found B_least B_first Q_letterSurplus Q_weights Q_possible C_size C_variables C_relations C_numbers A2_letters A2_lengths N_size N_solved N_dropped N_lefts N_rights N_parents N_rules N_depths E2_left E2_right)) (run_V (As := [.ref aE]) (rest := []) X hS (mX4_remember g l  aH aH_lefts aH_rights aE H_size H_lefts H_rights E_left E_right H_size_17 H_lefts_17 H_rights_17 hc17) okX4_remember wd3_22 ⟨Nat.le_of_ble_eq_true rfl, Nat.le_of_ble_eq_true rfl⟩ ⟨rfl, rfl⟩ (va_recv hK hP (ci := 4) (q0 := 4) rfl rfl) (sub_P hP [4, 5, 6, 3] rfl) (hD.sub [4, 5, 6, 3] (by decide) rfl) (va_free hD hS hA [4, 5, 6, 3] rfl) rfl hl.1 rfl (Nat.le_of_ble_eq_true rfl) dX11_eliminate_17 ⟨Nat.zero_le _, Nat.zero_le _⟩) hS (va_free hD hS hA [4, 5, 6, 3] rfl) hP hD [4, 5, 6, 3] [0, 1, 2, 7, 8, 9, 10, 11, 12, 13, 14, 15, 16, 17, 18, 19, 20, 21, 22, 23, 24, 25, 26, 27, 28, 29, 30, 31, 32, 33] [0, 1, 2, 33, 30, 31, 32, 3, 4, 5, 6, 7, 8, 9, 10, 11, 12, 13, 14, 15, 16, 17, 18, 19, 20, 21, 22, 23, 24, 25, 26, 27, 28, 29] rfl rfl (by decide) (by decide) rfl (by decide) rfl (fun H locs hP hD hS => ?_)
    refine lv_aload_n hx hb dX11_eliminate_20 rfl (lv_at hl 0 rfl) ?_
    refine va_get (D := g.1) (ci := 10) (v := .ref aE) (C := RX11) (T := TX11) (N := 10) hx hb hts inBX11 hown hK hP 0 rfl rfl 1 (by decide) (hts _ wd1_233) (fun _ h9 => h9) rfl dX11_eliminate_21 ?_
    refine lv_iload_n hx hb dX11_eliminate_24 rfl (lv_at hl 1 rfl) ?_
    obtain ⟨t25, hc25, h⟩ := bd1_to h
    refine go_0 (st1 := [.int t25, .ref aE]) (run_S (As := [.int x1]) (rest := [.ref aE]) X hS (mX9_variable g l  x1 t25 hc25) okX9_variable wd3_11 ⟨Nat.le_of_ble_eq_true rfl, Nat.le_of_ble_eq_true rfl⟩ ⟨rfl, rfl⟩ nil_P nil_D (nil_F hS hA) rfl hl.1 rfl (Nat.le_of_ble_eq_true rfl) dX11_eliminate_25 ⟨Nat.zero_le _, Nat.zero_le _⟩) hS hA hP rfl (fun H locs hP hS => ?_)
    refine lv_lconst (v := (0 : Int64)) hx hb dX11_eliminate_28 (by decide) ?_
    obtain ⟨t29, E_left_29, E_right_29, hc29, h⟩ := bd3_to h
    refine go_P (st1 := [.int t29]) (W1 := (wX11 g aX aT aT_characters aE aH aH_lefts aH_rights aS aS_lefts aS_rights aS_filled aA aA_letters aA_lengths aK aB aB_first aQ aQ_weights aQ_possible aC aC_variables aC_relations aC_numbers aA2 aA2_letters aA2_lengths aN aN_lefts aN_rights aN_parents aN_rules aN_depths aE2 T_size T_characters E_left_29 E_right_29 H_size_17 H_lefts_17 H_rights_17 S_lefts S_rights S_filled A_letters A_lengths B_left B_right B_found B_least B_first Q_letterSurplus Q_weights Q_possible C_size C_variables C_relations C_numbers A2_letters A2_lengths N_size N_solved N_dropped N_lefts N_rights N_parents N_rules N_depths E2_left E2_right)) (run_V (As := [.int t25, .long (0 : Int64)]) (rest := []) X hS (mX2_replace g l  aE E_left E_right t25 (0 : Int64) t29 E_left_29 E_right_29 hc29) okX2_replace wd3_93 ⟨Nat.le_of_ble_eq_true rfl, Nat.le_of_ble_eq_true rfl⟩ ⟨rfl, rfl⟩ (va_recv hK hP (ci := 2) (q0 := 3) rfl rfl) (sub_P hP [3] rfl) (hD.sub [3] (by decide) rfl) (va_free hD hS hA [3] rfl) rfl hl.1 rfl (Nat.le_of_ble_eq_true rfl) dX11_eliminate_29 ⟨Nat.zero_le _, Nat.zero_le _⟩) hS (va_free hD hS hA [3] rfl) hP hD [3] [0, 1, 2, 4, 5, 6, 7, 8, 9, 10, 11, 12, 13, 14, 15, 16, 17, 18, 19, 20, 21, 22, 23, 24, 25, 26, 27, 28, 29, 30, 31, 32, 33] [0, 1, 2, 33, 3, 4, 5, 6, 7, 8, 9, 10, 11, 12, 13, 14, 15, 16, 17, 18, 19, 20, 21, 22, 23, 24, 25, 26, 27, 28, 29, 30, 31, 32] rfl rfl (by decide) (by decide) rfl (by decide) rfl (fun H locs hP hD hS => ?_)
    have h : some (t29, E_left_29, E_right_29, H_size_17, H_lefts_17, H_rights_17) = some (r, E_left_o, E_right_o, H_size_o, H_lefts_o, H_rights_o) := h
    cases h
    exact hret _ _ _ _ hP hD hS dX11_eliminate_32
  have h := ifT h q4
  refine lv_iconst (v := ((-1) : Int32)) hx hb dX11_eliminate_7 (by decide) ?_
  have h : some (((-1) : Int32), E_left, E_right, H_size, H_lefts, H_rights) = some (r, E_left_o, E_right_o, H_size_o, H_lefts_o, H_rights_o) := h
  cases h
  exact hret _ _ _ _ hP hD hS dX11_eliminate_8
set_option maxHeartbeats 4000000 in
set_option maxRecDepth 100000 in
theorem mX3_hasOnlySymbols (g : GP) (l : Launch) (aT aT_characters : Nat) (T_size : Int32) (T_characters : Nat → Int32)  (r : Int32) (h : fT_hasOnlySymbols T_size T_characters = some r) : Ct g l yX3_hasOnlySymbols cX3_hasOnlySymbols 2 (some .boolean) rmX3_hasOnlySymbols [.ref aT] (wX3 g aT aT_characters T_size T_characters) (some (.int r)) (wX3 g aT aT_characters T_size T_characters) := by
  refine Ct.introZ (by decide) (Nat.le_of_ble_eq_true rfl) ?_
  intro p e s m below meth c A QQ ls hyp hret
  obtain ⟨hx, hb, hml, hts, hown, hA, hE, hP, hD, hl⟩ := hyp
  have hK := hE.1
  have hS : va_S A s.heap s.heap [] := va_S.rf
  have X : Here g p s m c cX3_hasOnlySymbols 2 ([.ref aT] : List Value).toArray RX3 A := ⟨⟨hx, hb, hml, hown, hts⟩, hE, hA⟩
  have L2 : ∀ (n2 : Nat), ∀ (v1 : Int32) (ls : Array Slot) (H : Heap) (locs : List Loc), lv_has ls 2 [(0, .ref aT), (1, .int v1)] → va_P g.1 vwCl (wX3 g aT aT_characters T_size T_characters) H → va_D A (wX3 g aT aT_characters T_size T_characters) → va_S A s.heap H locs → fx1 (fT_hasOnlySymbols_2 T_size T_characters) n2 v1 = some r → W p l e rmX3_hasOnlySymbols s m ([.ref aT] : List Value).toArray below meth c H locs 0 0 QQ (F0 m 2 ls []) := by
    intro n2
    induction n2 with
    | zero => intro v1 ls H locs hl hP hD hS h; exact fx1_0 h
    | succ n2 ih2 =>
      intro v1 ls H locs hl hP hD hS h
      have h := (fx1_s (fT_hasOnlySymbols_2 T_size T_characters) n2 v1).symm.trans h
      refine lv_iload_n hx hb dX3_hasOnlySymbols_2 rfl (lv_at hl 1 rfl) ?_
      refine lv_aload_n hx hb dX3_hasOnlySymbols_3 rfl (lv_at hl 0 rfl) ?_
      refine va_get (D := g.1) (ci := 3) (v := .int T_size) (C := RX3) (T := TX3) (N := 2) hx hb hts inBX3 hown hK hP 0 rfl rfl 1 (by decide) (hts _ wd1_35) (fun _ h9 => h9) rfl dX3_hasOnlySymbols_4 ?_
      refine lv_icmp_ge (tgt := 29) hx hb dX3_hasOnlySymbols_7 (by decide) (fun q7 => ?_) (fun q7 => ?_)
      · have h := ifT h q7
        refine lv_iconst (v := (1 : Int32)) hx hb dX3_hasOnlySymbols_29 (by decide) ?_
        have h : some (1 : Int32) = some r := h
        cases h
        exact hret _ _ _ _ rfl hP hD hS dX3_hasOnlySymbols_30
      have h := ifF h q7
      refine lv_aload_n hx hb dX3_hasOnlySymbols_10 rfl (lv_at hl 0 rfl) ?_
      refine lv_iload_n hx hb dX3_hasOnlySymbols_11 rfl (lv_at hl 1 rfl) ?_
      obtain ⟨t12, hc12, h⟩ := bd1_to h
      refine go_A (st1 := [.int t12]) (run_V (As := [.int v1]) (rest := []) X hS (mX3_at g l  aT aT_characters T_size T_characters v1 t12 hc12) okX3_at wd2_55 ⟨Nat.le_of_ble_eq_true rfl, Nat.le_of_ble_eq_true rfl⟩ ⟨rfl, rfl⟩ (va_recv hK hP (ci := 3) (q0 := 0) rfl rfl) hP hD (all_F hS hA hD) rfl hl.1 rfl (Nat.le_of_ble_eq_true rfl) dX3_hasOnlySymbols_12 ⟨Nat.zero_le _, Nat.zero_le _⟩) hS (all_F hS hA hD) rfl (fun H locs hP hD hS => ?_)
      obtain ⟨t15, hc15, h⟩ := bd1_to h
      refine go_0 (st1 := [.int t15]) (run_S (As := [.int t12]) (rest := []) X hS (mX9_symbolOf g l  t12 t15 hc15) okX9_symbolOf wd2_59 ⟨Nat.le_of_ble_eq_true rfl, Nat.le_of_ble_eq_true rfl⟩ ⟨rfl, rfl⟩ nil_P nil_D (nil_F hS hA) rfl hl.1 rfl (Nat.le_of_ble_eq_true rfl) dX3_hasOnlySymbols_15 ⟨Nat.zero_le _, Nat.zero_le _⟩) hS hA hP rfl (fun H locs hP hS => ?_)
      refine lv_if_ne (tgt := 23) hx hb dX3_hasOnlySymbols_18 (by decide) (fun q18 => ?_) (fun q18 => ?_)
      · have h := ifF h q18
        obtain ⟨t23, et23⟩ : ∃ y : Int32, y = v1 + (1 : Int32) := ⟨_, rfl⟩
        refine lv_iinc (v := t23) (lv' := [(1, .int t23), (0, .ref aT)]) hx hb dX3_hasOnlySymbols_23 hl (k := 1) rfl (by rw [et23]; rfl) (by decide) rfl (fun ls hl => ?_)
        have h := st_to h et23
        refine lv_goto (tgt := 2) hx hb dX3_hasOnlySymbols_26 (by decide) ?_
        exact ih2 t23 ls H locs (lv_sub hl [1, 0] rfl) hP hD hS h
      have h := ifT h q18
      refine lv_iconst (v := (0 : Int32)) hx hb dX3_hasOnlySymbols_21 (by decide) ?_
      have h : some (0 : Int32) = some r := h
      cases h
      exact hret _ _ _ _ rfl hP hD hS dX3_hasOnlySymbols_22
  have hl : lv_has ls 2 [(0, .ref aT)] := hl
  obtain ⟨H, hH⟩ : ∃ H, H = s.heap := ⟨_, rfl⟩
  obtain ⟨locs, hlocs⟩ : ∃ l : List Loc, l = [] := ⟨_, rfl⟩
  rw [show W p l e rmX3_hasOnlySymbols s m ([.ref aT] : List Value).toArray below meth c s.heap [] 0 0 QQ (F0 m 0 ls []) = W p l e rmX3_hasOnlySymbols s m ([.ref aT] : List Value).toArray below meth c H locs 0 0 QQ (F0 m 0 ls []) by rw [hH, hlocs]]
  have hP : va_P g.1 vwCl (wX3 g aT aT_characters T_size T_characters) H := by rw [hH]; exact hP
  have hD : va_D A (wX3 g aT aT_characters T_size T_characters) := hD
  have hS : va_S A s.heap H locs := by rw [hH, hlocs]; exact hS
  clear hH hlocs
  refine lv_iconst (v := (0 : Int32)) hx hb dX3_hasOnlySymbols_0 (by decide) ?_
  refine lv_istore_n (lv' := [(1, .int (0 : Int32)), (0, .ref aT)]) hx hb dX3_hasOnlySymbols_1 rfl hl (by decide) rfl (fun ls hl => ?_)
  exact L2 FU (0 : Int32) ls H locs (lv_sub hl [1, 0] rfl) hP hD hS h
set_option maxHeartbeats 4000000 in
set_option maxRecDepth 100000 in
theorem mX9_sizeAfter (g : GP) (l : Launch)  (x0 : Int64) (x2 : Int32) (x3 : Int32) (r : Int32) (h : fZ_sizeAfter x0 x2 x3 = some r) : Ct g l yX9_sizeAfter cX9_sizeAfter 4 (some .int) rmX9_sizeAfter [.long x0, .int x2, .int x3] [] (some (.int r)) [] := by
  refine Ct.introI (by decide) (Nat.le_of_ble_eq_true rfl) ?_
  intro p e s m below meth c A QQ ls hyp hret
  obtain ⟨hx, hb, hml, hts, hown, hA, hE, hP, hD, hl⟩ := hyp
  have hK := hE.1
  have hS : va_S A s.heap s.heap [] := va_S.rf
  have X : Here g p s m c cX9_sizeAfter 4 ([.long x0, .int x2, .int x3] : List Value).toArray RX9 A := ⟨⟨hx, hb, hml, hown, hts⟩, hE, hA⟩
  have hl : lv_has ls 4 [(0, .long x0), (2, .int x2), (3, .int x3)] := hl
  obtain ⟨H, hH⟩ : ∃ H, H = s.heap := ⟨_, rfl⟩
  obtain ⟨locs, hlocs⟩ : ∃ l : List Loc, l = [] := ⟨_, rfl⟩
  rw [show W p l e rmX9_sizeAfter s m ([.long x0, .int x2, .int x3] : List Value).toArray below meth c s.heap [] 0 0 QQ (F0 m 0 ls []) = W p l e rmX9_sizeAfter s m ([.long x0, .int x2, .int x3] : List Value).toArray below meth c H locs 0 0 QQ (F0 m 0 ls []) by rw [hH, hlocs]]
  have hP : va_P g.1 vwCl [] H := by rw [hH]; exact hP
  have hD : va_D A [] := hD
  have hS : va_S A s.heap H locs := by rw [hH, hlocs]; exact hS
  clear hH hlocs
  refine lv_lload_n hx hb dX9_sizeAfter_0 rfl (lv_at hl 0 rfl) ?_
  obtain ⟨t1, hc1, h⟩ := bd1_to h
  refine go_0 (st1 := [.int t1]) (run_S (As := [.long x0]) (rest := []) X hS (mX9_size g l  x0 t1 hc1) okX9_size wd3_46 ⟨Nat.le_of_ble_eq_true rfl, Nat.le_of_ble_eq_true rfl⟩ ⟨rfl, rfl⟩ nil_P nil_D (nil_F hS hA) rfl hl.1 rfl (Nat.le_of_ble_eq_true rfl) dX9_sizeAfter_1 ⟨Nat.zero_le _, Nat.zero_le _⟩) hS hA hP rfl (fun H locs hP hS => ?_)
  refine lv_lload_n hx hb dX9_sizeAfter_4 rfl (lv_at hl 0 rfl) ?_
  refine lv_iload_n hx hb dX9_sizeAfter_5 rfl (lv_at hl 1 rfl) ?_
  obtain ⟨t6, hc6, h⟩ := bd1_to h
  refine go_0 (st1 := [.int t6, .int t1]) (run_S (As := [.long x0, .int x2]) (rest := [.int t1]) X hS (mX9_countOf g l  x0 x2 t6 hc6) okX9_countOf wd3_116 ⟨Nat.le_of_ble_eq_true rfl, Nat.le_of_ble_eq_true rfl⟩ ⟨rfl, rfl⟩ nil_P nil_D (nil_F hS hA) rfl hl.1 rfl (Nat.le_of_ble_eq_true rfl) dX9_sizeAfter_6 ⟨Nat.zero_le _, Nat.zero_le _⟩) hS hA hP rfl (fun H locs hP hS => ?_)
  refine lv_iload_n hx hb dX9_sizeAfter_9 rfl (lv_at hl 2 rfl) ?_
  refine lv_iconst (v := (1 : Int32)) hx hb dX9_sizeAfter_10 (by decide) ?_
  refine lv_isub hx hb dX9_sizeAfter_11 ?_
  refine lv_imul hx hb dX9_sizeAfter_12 ?_
  refine lv_iadd hx hb dX9_sizeAfter_13 ?_
  have h : some (t1 + (t6 * (x3 - (1 : Int32)))) = some r := h
  cases h
  exact hret _ _ _ _ hP hD hS dX9_sizeAfter_14
set_option maxHeartbeats 4000000 in
set_option maxRecDepth 100000 in
theorem mX2_longestAfter (g : GP) (l : Launch) (aE : Nat) (E_left : Int64) (E_right : Int64) (x1 : Int32) (x2 : Int32) (r : Int32) (h : fE_longestAfter E_left E_right x1 x2 = some r) : Ct g l yX2_longestAfter cX2_longestAfter 3 (some .int) rmX2_longestAfter [.ref aE, .int x1, .int x2] (wX2 g aE E_left E_right) (some (.int r)) (wX2 g aE E_left E_right) := by
  refine Ct.introI (by decide) (Nat.le_of_ble_eq_true rfl) ?_
  intro p e s m below meth c A QQ ls hyp hret
  obtain ⟨hx, hb, hml, hts, hown, hA, hE, hP, hD, hl⟩ := hyp
  have hK := hE.1
  have hS : va_S A s.heap s.heap [] := va_S.rf
  have X : Here g p s m c cX2_longestAfter 3 ([.ref aE, .int x1, .int x2] : List Value).toArray RX2 A := ⟨⟨hx, hb, hml, hown, hts⟩, hE, hA⟩
  have hl : lv_has ls 3 [(0, .ref aE), (1, .int x1), (2, .int x2)] := hl
  obtain ⟨H, hH⟩ : ∃ H, H = s.heap := ⟨_, rfl⟩
  obtain ⟨locs, hlocs⟩ : ∃ l : List Loc, l = [] := ⟨_, rfl⟩
  rw [show W p l e rmX2_longestAfter s m ([.ref aE, .int x1, .int x2] : List Value).toArray below meth c s.heap [] 0 0 QQ (F0 m 0 ls []) = W p l e rmX2_longestAfter s m ([.ref aE, .int x1, .int x2] : List Value).toArray below meth c H locs 0 0 QQ (F0 m 0 ls []) by rw [hH, hlocs]]
  have hP : va_P g.1 vwCl (wX2 g aE E_left E_right) H := by rw [hH]; exact hP
  have hD : va_D A (wX2 g aE E_left E_right) := hD
  have hS : va_S A s.heap H locs := by rw [hH, hlocs]; exact hS
  clear hH hlocs
  refine lv_aload_n hx hb dX2_longestAfter_0 rfl (lv_at hl 0 rfl) ?_
  refine va_get (D := g.1) (ci := 2) (v := .long E_left) (C := RX2) (T := TX2) (N := 2) hx hb hts inBX2 hown hK hP 0 rfl rfl 0 (by decide) (hts _ wd1_48) (fun _ h9 => h9) rfl dX2_longestAfter_1 ?_
  refine lv_iload_n hx hb dX2_longestAfter_4 rfl (lv_at hl 1 rfl) ?_
  refine lv_iload_n hx hb dX2_longestAfter_5 rfl (lv_at hl 2 rfl) ?_
  obtain ⟨t6, hc6, h⟩ := bd1_to h
  refine go_0 (st1 := [.int t6]) (run_S (As := [.long E_left, .int x1, .int x2]) (rest := []) X hS (mX9_sizeAfter g l  E_left x1 x2 t6 hc6) okX9_sizeAfter wd3_113 ⟨Nat.le_of_ble_eq_true rfl, Nat.le_of_ble_eq_true rfl⟩ ⟨rfl, rfl⟩ nil_P nil_D (nil_F hS hA) rfl hl.1 rfl (Nat.le_of_ble_eq_true rfl) dX2_longestAfter_6 ⟨Nat.zero_le _, Nat.zero_le _⟩) hS hA hP rfl (fun H locs hP hS => ?_)
  refine lv_aload_n hx hb dX2_longestAfter_9 rfl (lv_at hl 0 rfl) ?_
  refine va_get (D := g.1) (ci := 2) (v := .long E_right) (C := RX2) (T := TX2) (N := 2) hx hb hts inBX2 hown hK hP 0 rfl rfl 1 (by decide) (hts _ wd1_55) (fun _ h9 => h9) rfl dX2_longestAfter_10 ?_
  refine lv_iload_n hx hb dX2_longestAfter_13 rfl (lv_at hl 1 rfl) ?_
  refine lv_iload_n hx hb dX2_longestAfter_14 rfl (lv_at hl 2 rfl) ?_
  obtain ⟨t15, hc15, h⟩ := bd1_to h
  refine go_0 (st1 := [.int t15, .int t6]) (run_S (As := [.long E_right, .int x1, .int x2]) (rest := [.int t6]) X hS (mX9_sizeAfter g l  E_right x1 x2 t15 hc15) okX9_sizeAfter wd3_113 ⟨Nat.le_of_ble_eq_true rfl, Nat.le_of_ble_eq_true rfl⟩ ⟨rfl, rfl⟩ nil_P nil_D (nil_F hS hA) rfl hl.1 rfl (Nat.le_of_ble_eq_true rfl) dX2_longestAfter_15 ⟨Nat.zero_le _, Nat.zero_le _⟩) hS hA hP rfl (fun H locs hP hS => ?_)
  refine va_mmax hx hb (by rw [hml]; exact hl.1.symm) hown (hts _ wd3_117) (hts _ wd2_92) (hts _ wd1_16) (hts _ wd2_93) (Nat.le_of_ble_eq_true rfl) (Nat.le_of_ble_eq_true rfl) (Nat.zero_le _) (Nat.zero_le _) dX2_longestAfter_18 ?_
  have h : some (if t6 < t15 then t15 else t6) = some r := h
  cases h
  exact hret _ _ _ _ hP hD hS dX2_longestAfter_21
set_option maxHeartbeats 4000000 in
set_option maxRecDepth 100000 in
theorem mX11_substitute (g : GP) (l : Launch) (aX aT aT_characters aE aH aH_lefts aH_rights aS aS_lefts aS_rights aS_filled aA aA_letters aA_lengths aK aB aB_first aQ aQ_weights aQ_possible aC aC_variables aC_relations aC_numbers aA2 aA2_letters aA2_lengths aN aN_lefts aN_rights aN_parents aN_rules aN_depths aE2 : Nat) (T_size : Int32) (T_characters : Nat → Int32) (E_left : Int64) (E_right : Int64) (H_size : Int32) (H_lefts : Nat → Int64) (H_rights : Nat → Int64) (S_lefts : Nat → Int64) (S_rights : Nat → Int64) (S_filled : Nat → Int32) (A_letters : Nat → Int64) (A_lengths : Nat → Int32) (B_left : Int64) (B_right : Int64) (B_found : Int32) (B_least : Int32) (B_first : Nat → Int32) (Q_letterSurplus : Int32) (Q_weights : Nat → Int32) (Q_possible : Nat → Int32) (C_size : Int32) (C_variables : Nat → Int32) (C_relations : Nat → Int32) (C_numbers : Nat → Int32) (A2_letters : Nat → Int64) (A2_lengths : Nat → Int32) (N_size : Int32) (N_solved : Int32) (N_dropped : Int32) (N_lefts : Nat → Int64) (N_rights : Nat → Int64) (N_parents : Nat → Int32) (N_rules : Nat → Int32) (N_depths : Nat → Int32) (E2_left : Int64) (E2_right : Int64) (x1 : Int32) (r : Int32) (E_left_o : Int64) (E_right_o : Int64) (H_size_o : Int32) (H_lefts_o : Nat → Int64) (H_rights_o : Nat → Int64) (h : fX_substitute T_size T_characters E_left E_right H_size H_lefts H_rights x1 = some (r, E_left_o, E_right_o, H_size_o, H_lefts_o, H_rights_o)) : Ct g l yX11_substitute cX11_substitute 3 (some .int) rmX11_substitute [.ref aX, .int x1] (wX11 g aX aT aT_characters aE aH aH_lefts aH_rights aS aS_lefts aS_rights aS_filled aA aA_letters aA_lengths aK aB aB_first aQ aQ_weights aQ_possible aC aC_variables aC_relations aC_numbers aA2 aA2_letters aA2_lengths aN aN_lefts aN_rights aN_parents aN_rules aN_depths aE2 T_size T_characters E_left E_right H_size H_lefts H_rights S_lefts S_rights S_filled A_letters A_lengths B_left B_right B_found B_least B_first Q_letterSurplus Q_weights Q_possible C_size C_variables C_relations C_numbers A2_letters A2_lengths N_size N_solved N_dropped N_lefts N_rights N_parents N_rules N_depths E2_left E2_right) (some (.int r)) (wX11 g aX aT aT_characters aE aH aH_lefts aH_rights aS aS_lefts aS_rights aS_filled aA aA_letters aA_lengths aK aB aB_first aQ aQ_weights aQ_possible aC aC_variables aC_relations aC_numbers aA2 aA2_letters aA2_lengths aN aN_lefts aN_rights aN_parents aN_rules aN_depths aE2 T_size T_characters E_left_o E_right_o H_size_o H_lefts_o H_rights_o S_lefts S_rights S_filled A_letters A_lengths B_left B_right B_found B_least B_first Q_letterSurplus Q_weights Q_possible C_size C_variables C_relations C_numbers A2_letters A2_lengths N_size N_solved N_dropped N_lefts N_rights N_parents N_rules N_depths E2_left E2_right) := by
  refine Ct.introI (by decide) (Nat.le_of_ble_eq_true rfl) ?_
  intro p e s m below meth c A QQ ls hyp hret
  obtain ⟨hx, hb, hml, hts, hown, hA, hE, hP, hD, hl⟩ := hyp
  have hK := hE.1
  have hS : va_S A s.heap s.heap [] := va_S.rf
  have X : Here g p s m c cX11_substitute 3 ([.ref aX, .int x1] : List Value).toArray RX11 A := ⟨⟨hx, hb, hml, hown, hts⟩, hE, hA⟩
  have hl : lv_has ls 3 [(0, .ref aX), (1, .int x1)] := hl
  obtain ⟨H, hH⟩ : ∃ H, H = s.heap := ⟨_, rfl⟩
  obtain ⟨locs, hlocs⟩ : ∃ l : List Loc, l = [] := ⟨_, rfl⟩
  rw [show W p l e rmX11_substitute s m ([.ref aX, .int x1] : List Value).toArray below meth c s.heap [] 0 0 QQ (F0 m 0 ls []) = W p l e rmX11_substitute s m ([.ref aX, .int x1] : List Value).toArray below meth c H locs 0 0 QQ (F0 m 0 ls []) by rw [hH, hlocs]]
  have hP : va_P g.1 vwCl (wX11 g aX aT aT_characters aE aH aH_lefts aH_rights aS aS_lefts aS_rights aS_filled aA aA_letters aA_lengths aK aB aB_first aQ aQ_weights aQ_possible aC aC_variables aC_relations aC_numbers aA2 aA2_letters aA2_lengths aN aN_lefts aN_rights aN_parents aN_rules aN_depths aE2 T_size T_characters E_left E_right H_size H_lefts H_rights S_lefts S_rights S_filled A_letters A_lengths B_left B_right B_found B_least B_first Q_letterSurplus Q_weights Q_possible C_size C_variables C_relations C_numbers A2_letters A2_lengths N_size N_solved N_dropped N_lefts N_rights N_parents N_rules N_depths E2_left E2_right) H := by rw [hH]; exact hP
  have hD : va_D A (wX11 g aX aT aT_characters aE aH aH_lefts aH_rights aS aS_lefts aS_rights aS_filled aA aA_letters aA_lengths aK aB aB_first aQ aQ_weights aQ_possible aC aC_variables aC_relations aC_numbers aA2 aA2_letters aA2_lengths aN aN_lefts aN_rights aN_parents aN_rules aN_depths aE2 T_size T_characters E_left E_right H_size H_lefts H_rights S_lefts S_rights S_filled A_letters A_lengths B_left B_right B_found B_least B_first Q_letterSurplus Q_weights Q_possible C_size C_variables C_relations C_numbers A2_letters A2_lengths N_size N_solved N_dropped N_lefts N_rights N_parents N_rules N_depths E2_left E2_right) := hD
  have hS : va_S A s.heap H locs := by rw [hH, hlocs]; exact hS
  clear hH hlocs
  refine lv_iload_n hx hb dX11_substitute_0 rfl (lv_at hl 1 rfl) ?_
  obtain ⟨t1, hc1, h⟩ := bd1_to h
  refine go_0 (st1 := [.int t1]) (run_S (As := [.int x1]) (rest := []) X hS (mX11_isVariable g l  x1 t1 hc1) okX11_isVariable wd3_8 ⟨Nat.le_of_ble_eq_true rfl, Nat.le_of_ble_eq_true rfl⟩ ⟨rfl, rfl⟩ nil_P nil_D (nil_F hS hA) rfl hl.1 rfl (Nat.le_of_ble_eq_true rfl) dX11_substitute_1 ⟨Nat.zero_le _, Nat.zero_le _⟩) hS hA hP rfl (fun H locs hP hS => ?_)
  refine lv_if_ne (tgt := 9) hx hb dX11_substitute_4 (by decide) (fun q4 => ?_) (fun q4 => ?_)
  · have h := ifF h q4
    refine lv_aload_n hx hb dX11_substitute_9 rfl (lv_at hl 0 rfl) ?_
    refine va_get (D := g.1) (ci := 10) (v := .ref aT) (C := RX11) (T := TX11) (N := 10) hx hb hts inBX11 hown hK hP 0 rfl rfl 0 (by decide) (hts _ wd1_232) (fun _ h9 => h9) rfl dX11_substitute_10 ?_
    obtain ⟨t13, hc13, h⟩ := bd1_to h
    refine go_P (st1 := [.int t13]) (W1 := (wX11 g aX aT aT_characters aE aH aH_lefts aH_rights aS aS_lefts aS_rights aS_filled aA aA_letters aA_lengths aK aB aB_first aQ aQ_weights aQ_possible aC aC_variables aC_relations aC_numbers aA2 aA2_letters aA2_lengths aN aN_lefts aN_rights aN_parents aN_rules aN_depths aE2 T_size T_characters E_left E_right H_size H_lefts H_rights S_lefts S_rights S_filled A_letters A_lengths B_left B_right B_found B_least B_first Q_letterSurplus Q_weights Q_possible C_size C_variables C_relations C_numbers A2_letters A2_lengths N_size N_solved N_dropped N_lefts N_rights N_parents N_rules N_depths E2_left E2_right)) (run_V (As := []) (rest := []) X hS (mX3_hasOnlySymbols g l  aT aT_characters T_size T_characters t13 hc13) okX3_hasOnlySymbols wd3_105 ⟨Nat.le_of_ble_eq_true rfl, Nat.le_of_ble_eq_true rfl⟩ ⟨rfl, rfl⟩ (va_recv hK hP (ci := 3) (q0 := 1) rfl rfl) (sub_P hP [1, 2] rfl) (hD.sub [1, 2] (by decide) rfl) (va_free hD hS hA [1, 2] rfl) rfl hl.1 rfl (Nat.le_of_ble_eq_true rfl) dX11_substitute_13 ⟨Nat.zero_le _, Nat.zero_le _⟩) hS (va_free hD hS hA [1, 2] rfl) hP hD [1, 2] [0, 3, 4, 5, 6, 7, 8, 9, 10, 11, 12, 13, 14, 15, 16, 17, 18, 19, 20, 21, 22, 23, 24, 25, 26, 27, 28, 29, 30, 31, 32, 33] [0, 32, 33, 1, 2, 3, 4, 5, 6, 7, 8, 9, 10, 11, 12, 13, 14, 15, 16, 17, 18, 19, 20, 21, 22, 23, 24, 25, 26, 27, 28, 29, 30, 31] rfl rfl (by decide) (by decide) rfl (by decide) rfl (fun H locs hP hD hS => ?_)
    refine lv_if_ne (tgt := 22) hx hb dX11_substitute_16 (by decide) (fun q16 => ?_) (fun q16 => ?_)
    · have h := ifF h q16
      refine lv_iload_n hx hb dX11_substitute_22 rfl (lv_at hl 1 rfl) ?_
      obtain ⟨t23, hc23, h⟩ := bd1_to h
      refine go_0 (st1 := [.int t23]) (run_S (As := [.int x1]) (rest := []) X hS (mX9_variable g l  x1 t23 hc23) okX9_variable wd3_11 ⟨Nat.le_of_ble_eq_true rfl, Nat.le_of_ble_eq_true rfl⟩ ⟨rfl, rfl⟩ nil_P nil_D (nil_F hS hA) rfl hl.1 rfl (Nat.le_of_ble_eq_true rfl) dX11_substitute_23 ⟨Nat.zero_le _, Nat.zero_le _⟩) hS hA hP rfl (fun H locs hP hS => ?_)
      refine lv_istore_n (lv' := [(2, .int t23), (0, .ref aX), (1, .int x1)]) hx hb dX11_substitute_26 rfl hl (by decide) rfl (fun ls hl => ?_)
      refine lv_aload_n hx hb dX11_substitute_27 rfl (lv_at hl 1 rfl) ?_
      refine va_get (D := g.1) (ci := 10) (v := .ref aE) (C := RX11) (T := TX11) (N := 10) hx hb hts inBX11 hown hK hP 0 rfl rfl 1 (by decide) (hts _ wd1_233) (fun _ h9 => h9) rfl dX11_substitute_28 ?_
      refine lv_iload_n hx hb dX11_substitute_31 rfl (lv_at hl 0 rfl) ?_
      refine lv_aload_n hx hb dX11_substitute_32 rfl (lv_at hl 1 rfl) ?_
      refine va_get (D := g.1) (ci := 10) (v := .ref aT) (C := RX11) (T := TX11) (N := 10) hx hb hts inBX11 hown hK hP 0 rfl rfl 0 (by decide) (hts _ wd1_232) (fun _ h9 => h9) rfl dX11_substitute_33 ?_
      obtain ⟨t36, hc36, h⟩ := bd1_to h
      refine go_P (st1 := [.int t36, .int t23, .ref aE]) (W1 := (wX11 g aX aT aT_characters aE aH aH_lefts aH_rights aS aS_lefts aS_rights aS_filled aA aA_letters aA_lengths aK aB aB_first aQ aQ_weights aQ_possible aC aC_variables aC_relations aC_numbers aA2 aA2_letters aA2_lengths aN aN_lefts aN_rights aN_parents aN_rules aN_depths aE2 T_size T_characters E_left E_right H_size H_lefts H_rights S_lefts S_rights S_filled A_letters A_lengths B_left B_right B_found B_least B_first Q_letterSurplus Q_weights Q_possible C_size C_variables C_relations C_numbers A2_letters A2_lengths N_size N_solved N_dropped N_lefts N_rights N_parents N_rules N_depths E2_left E2_right)) (run_V (As := []) (rest := [.int t23, .ref aE]) X hS (mX3_size g l  aT aT_characters T_size T_characters t36 hc36) okX3_size wd2_31 ⟨Nat.le_of_ble_eq_true rfl, Nat.le_of_ble_eq_true rfl⟩ ⟨rfl, rfl⟩ (va_recv hK hP (ci := 3) (q0 := 1) rfl rfl) (sub_P hP [1, 2] rfl) (hD.sub [1, 2] (by decide) rfl) (va_free hD hS hA [1, 2] rfl) rfl hl.1 rfl (Nat.le_of_ble_eq_true rfl) dX11_substitute_36 ⟨Nat.zero_le _, Nat.zero_le _⟩) hS (va_free hD hS hA [1, 2] rfl) hP hD [1, 2] [0, 3, 4, 5, 6, 7, 8, 9, 10, 11, 12, 13, 14, 15, 16, 17, 18, 19, 20, 21, 22, 23, 24, 25, 26, 27, 28, 29, 30, 31, 32, 33] [0, 32, 33, 1, 2, 3, 4, 5, 6, 7, 8, 9, 10, 11, 12, 13, 14, 15, 16, 17, 18, 19, 20, 21, 22, 23, 24, 25, 26, 27, 28, 29, 30, 31] rfl rfl (by decide) (by decide) rfl (by decide) rfl (fun H locs hP hD hS => ?_)
      obtain ⟨t39, hc39, h⟩ := bd1_to h
      refine go_P (st1 := [.int t39]) (W1 := (wX11 g aX aT aT_characters aE aH aH_lefts aH_rights aS aS_lefts aS_rights aS_filled aA aA_letters aA_lengths aK aB aB_first aQ aQ_weights aQ_possible aC aC_variables aC_relations aC_numbers aA2 aA2_letters aA2_lengths aN aN_lefts aN_rights aN_parents aN_rules aN_depths aE2 T_size T_characters E_left E_right H_size H_lefts H_rights S_lefts S_rights S_filled A_letters A_lengths B_left B_right B_found B_least B_first Q_letterSurplus Q_weights Q_possible C_size C_variables C_relations C_numbers A2_letters A2_lengths N_size N_solved N_dropped N_lefts N_rights N_parents N_rules N_depths E2_left E2_right)) (run_V (As := [.int t23, .int t36]) (rest := []) X hS (mX2_longestAfter g l  aE E_left E_right t23 t36 t39 hc39) okX2_longestAfter wd3_109 ⟨Nat.le_of_ble_eq_true rfl, Nat.le_of_ble_eq_true rfl⟩ ⟨rfl, rfl⟩ (va_recv hK hP (ci := 2) (q0 := 3) rfl rfl) (sub_P hP [3] rfl) (hD.sub [3] (by decide) rfl) (va_free hD hS hA [3] rfl) rfl hl.1 rfl (Nat.le_of_ble_eq_true rfl) dX11_substitute_39 ⟨Nat.zero_le _, Nat.zero_le _⟩) hS (va_free hD hS hA [3] rfl) hP hD [3] [0, 1, 2, 4, 5, 6, 7, 8, 9, 10, 11, 12, 13, 14, 15, 16, 17, 18, 19, 20, 21, 22, 23, 24, 25, 26, 27, 28, 29, 30, 31, 32, 33] [0, 1, 2, 33, 3, 4, 5, 6, 7, 8, 9, 10, 11, 12, 13, 14, 15, 16, 17, 18, 19, 20, 21, 22, 23, 24, 25, 26, 27, 28, 29, 30, 31, 32] rfl rfl (by decide) (by decide) rfl (by decide) rfl (fun H locs hP hD hS => ?_)
      refine lv_bipush (v := (12 : Int32)) hx hb dX11_substitute_42 (by decide) ?_
      refine lv_icmp_le (tgt := 50) hx hb dX11_substitute_44 (by decide) (fun q44 => ?_) (fun q44 => ?_)
      · have h := ifT h q44
        refine lv_aload_n hx hb dX11_substitute_50 rfl (lv_at hl 1 rfl) ?_
        refine va_get (D := g.1) (ci := 10) (v := .ref aH) (C := RX11) (T := TX11) (N := 10) hx hb hts inBX11 hown hK hP 0 rfl rfl 3 (by decide) (hts _ wd1_235) (fun _ h9 => h9) rfl dX11_substitute_51 ?_
        refine lv_aload_n hx hb dX11_substitute_54 rfl (lv_at hl 1 rfl) ?_
        refine va_get (D := g.1) (ci := 10) (v := .ref aE) (C := RX11) (T := TX11) (N := 10) hx hb hts inBX11 hown hK hP 0 rfl rfl 1 (by decide) (hts _ wd1_233) (fun _ h9 => h9) rfl dX11_substitute_55 ?_
        obtain ⟨H_size_58, H_lefts_58, H_rights_58, hc58, h⟩ := bd3_to h
        refine go_P (st1 := []) (W1 := (wX11 g aX aT aT_characters aE aH aH_lefts aH_rights aS aS_lefts aS_rights aS_filled aA aA_letters aA_lengths aK aB aB_first aQ aQ_weights aQ_possible aC aC_variables aC_relations aC_numbers aA2 aA2_letters aA2_lengths aN aN_lefts aN_rights aN_parents aN_rules aN_depths aE2 T_size T_characters E_left E_right H_size_58 H_lefts_58 H_rights_58 S_lefts S_rights S_filled A_letters A_lengths B_left B_right B_found B_least B_first Q_letterSurplus Q_weights Q_possible C_size C_variables C_relations C_numbers A2_letters A2_lengths N_size N_solved N_dropped N_lefts N_rights N_parents N_rules N_depths E2_left E2_right)) (run_V (As := [.ref aE]) (rest := []) X hS (mX4_remember g l  aH aH_lefts aH_rights aE H_size H_lefts H_rights E_left E_right H_size_58 H_lefts_58 H_rights_58 hc58) okX4_remember wd3_22 ⟨Nat.le_of_ble_eq_true rfl, Nat.le_of_ble_eq_true rfl⟩ ⟨rfl, rfl⟩ (va_recv hK hP (ci := 4) (q0 := 4) rfl rfl) (sub_P hP [4, 5, 6, 3] rfl) (hD.sub [4, 5, 6, 3] (by decide) rfl) (va_free hD hS hA [4, 5, 6, 3] rfl) rfl hl.1 rfl (Nat.le_of_ble_eq_true rfl) dX11_substitute_58 ⟨Nat.zero_le _, Nat.zero_le _⟩) hS (va_free hD hS hA [4, 5, 6, 3] rfl) hP hD [4, 5, 6, 3] [0, 1, 2, 7, 8, 9, 10, 11, 12, 13, 14, 15, 16, 17, 18, 19, 20, 21, 22, 23, 24, 25, 26, 27, 28, 29, 30, 31, 32, 33] [0, 1, 2, 33, 30, 31, 32, 3, 4, 5, 6, 7, 8, 9, 10, 11, 12, 13, 14, 15, 16, 17, 18, 19, 20, 21, 22, 23, 24, 25, 26, 27, 28, 29] rfl rfl (by decide) (by decide) rfl (by decide) rfl (fun H locs hP hD hS => ?_)
        refine lv_aload_n hx hb dX11_substitute_61 rfl (lv_at hl 1 rfl) ?_
        refine va_get (D := g.1) (ci := 10) (v := .ref aE) (C := RX11) (T := TX11) (N := 10) hx hb hts inBX11 hown hK hP 0 rfl rfl 1 (by decide) (hts _ wd1_233) (fun _ h9 => h9) rfl dX11_substitute_62 ?_
        refine lv_iload_n hx hb dX11_substitute_65 rfl (lv_at hl 0 rfl) ?_
        refine lv_aload_n hx hb dX11_substitute_66 rfl (lv_at hl 1 rfl) ?_
        refine va_get (D := g.1) (ci := 10) (v := .ref aT) (C := RX11) (T := TX11) (N := 10) hx hb hts inBX11 hown hK hP 0 rfl rfl 0 (by decide) (hts _ wd1_232) (fun _ h9 => h9) rfl dX11_substitute_67 ?_
        refine lv_iconst (v := (0 : Int32)) hx hb dX11_substitute_70 (by decide) ?_
        refine lv_aload_n hx hb dX11_substitute_71 rfl (lv_at hl 1 rfl) ?_
        refine va_get (D := g.1) (ci := 10) (v := .ref aT) (C := RX11) (T := TX11) (N := 10) hx hb hts inBX11 hown hK hP 0 rfl rfl 0 (by decide) (hts _ wd1_232) (fun _ h9 => h9) rfl dX11_substitute_72 ?_
        obtain ⟨t75, hc75, h⟩ := bd1_to h
        refine go_P (st1 := [.int t75, .int (0 : Int32), .ref aT, .int t23, .ref aE]) (W1 := (wX11 g aX aT aT_characters aE aH aH_lefts aH_rights aS aS_lefts aS_rights aS_filled aA aA_letters aA_lengths aK aB aB_first aQ aQ_weights aQ_possible aC aC_variables aC_relations aC_numbers aA2 aA2_letters aA2_lengths aN aN_lefts aN_rights aN_parents aN_rules aN_depths aE2 T_size T_characters E_left E_right H_size_58 H_lefts_58 H_rights_58 S_lefts S_rights S_filled A_letters A_lengths B_left B_right B_found B_least B_first Q_letterSurplus Q_weights Q_possible C_size C_variables C_relations C_numbers A2_letters A2_lengths N_size N_solved N_dropped N_lefts N_rights N_parents N_rules N_depths E2_left E2_right)) (run_V (As := []) (rest := [.int (0 : Int32), .ref aT, .int t23, .ref aE]) X hS (mX3_size g l  aT aT_characters T_size T_characters t75 hc75) okX3_size wd2_31 ⟨Nat.le_of_ble_eq_true rfl, Nat.le_of_ble_eq_true rfl⟩ ⟨rfl, rfl⟩ (va_recv hK hP (ci := 3) (q0 := 1) rfl rfl) (sub_P hP [1, 2] rfl) (hD.sub [1, 2] (by decide) rfl) (va_free hD hS hA [1, 2] rfl) rfl hl.1 rfl (Nat.le_of_ble_eq_true rfl) dX11_substitute_75 ⟨Nat.zero_le _, Nat.zero_le _⟩) hS (va_free hD hS hA [1, 2] rfl) hP hD [1, 2] [0, 3, 4, 5, 6, 7, 8, 9, 10, 11, 12, 13, 14, 15, 16, 17, 18, 19, 20, 21, 22, 23, 24, 25, 26, 27, 28, 29, 30, 31, 32, 33] [0, 32, 33, 1, 2, 3, 4, 5, 6, 7, 8, 9, 10, 11, 12, 13, 14, 15, 16, 17, 18, 19, 20, 21, 22, 23, 24, 25, 26, 27, 28, 29, 30, 31] rfl rfl (by decide) (by decide) rfl (by decide) rfl (fun H locs hP hD hS => ?_)
        obtain ⟨t78, hc78, h⟩ := bd1_to h
        refine go_P (st1 := [.long t78, .int t23, .ref aE]) (W1 := (wX11 g aX aT aT_characters aE aH aH_lefts aH_rights aS aS_lefts aS_rights aS_filled aA aA_letters aA_lengths aK aB aB_first aQ aQ_weights aQ_possible aC aC_variables aC_relations aC_numbers aA2 aA2_letters aA2_lengths aN aN_lefts aN_rights aN_parents aN_rules aN_depths aE2 T_size T_characters E_left E_right H_size_58 H_lefts_58 H_rights_58 S_lefts S_rights S_filled A_letters A_lengths B_left B_right B_found B_least B_first Q_letterSurplus Q_weights Q_possible C_size C_variables C_relations C_numbers A2_letters A2_lengths N_size N_solved N_dropped N_lefts N_rights N_parents N_rules N_depths E2_left E2_right)) (run_V (As := [.int (0 : Int32), .int t75]) (rest := [.int t23, .ref aE]) X hS (mX3_packed g l  aT aT_characters T_size T_characters (0 : Int32) t75 t78 hc78) okX3_packed wd3_118 ⟨Nat.le_of_ble_eq_true rfl, Nat.le_of_ble_eq_true rfl⟩ ⟨rfl, rfl⟩ (va_recv hK hP (ci := 3) (q0 := 1) rfl rfl) (sub_P hP [1, 2] rfl) (hD.sub [1, 2] (by decide) rfl) (va_free hD hS hA [1, 2] rfl) rfl hl.1 rfl (Nat.le_of_ble_eq_true rfl) dX11_substitute_78 ⟨Nat.zero_le _, Nat.zero_le _⟩) hS (va_free hD hS hA [1, 2] rfl) hP hD [1, 2] [0, 3, 4, 5, 6, 7, 8, 9, 10, 11, 12, 13, 14, 15, 16, 17, 18, 19, 20, 21, 22, 23, 24, 25, 26, 27, 28, 29, 30, 31, 32, 33] [0, 32, 33, 1, 2, 3, 4, 5, 6, 7, 8, 9, 10, 11, 12, 13, 14, 15, 16, 17, 18, 19, 20, 21, 22, 23, 24, 25, 26, 27, 28, 29, 30, 31] rfl rfl (by decide) (by decide) rfl (by decide) rfl (fun H locs hP hD hS => ?_)
        obtain ⟨t81, E_left_81, E_right_81, hc81, h⟩ := bd3_to h
        refine go_P (st1 := [.int t81]) (W1 := (wX11 g aX aT aT_characters aE aH aH_lefts aH_rights aS aS_lefts aS_rights aS_filled aA aA_letters aA_lengths aK aB aB_first aQ aQ_weights aQ_possible aC aC_variables aC_relations aC_numbers aA2 aA2_letters aA2_lengths aN aN_lefts aN_rights aN_parents aN_rules aN_depths aE2 T_size T_characters E_left_81 E_right_81 H_size_58 H_lefts_58 H_rights_58 S_lefts S_rights S_filled A_letters A_lengths B_left B_right B_found B_least B_first Q_letterSurplus Q_weights Q_possible C_size C_variables C_relations C_numbers A2_letters A2_lengths N_size N_solved N_dropped N_lefts N_rights N_parents N_rules N_depths E2_left E2_right)) (run_V (As := [.int t23, .long t78]) (rest := []) X hS (mX2_replace g l  aE E_left E_right t23 t78 t81 E_left_81 E_right_81 hc81) okX2_replace wd3_93 ⟨Nat.le_of_ble_eq_true rfl, Nat.le_of_ble_eq_true rfl⟩ ⟨rfl, rfl⟩ (va_recv hK hP (ci := 2) (q0 := 3) rfl rfl) (sub_P hP [3] rfl) (hD.sub [3] (by decide) rfl) (va_free hD hS hA [3] rfl) rfl hl.1 rfl (Nat.le_of_ble_eq_true rfl) dX11_substitute_81 ⟨Nat.zero_le _, Nat.zero_le _⟩) hS (va_free hD hS hA [3] rfl) hP hD [3] [0, 1, 2, 4, 5, 6, 7, 8, 9, 10, 11, 12, 13, 14, 15, 16, 17, 18, 19, 20, 21, 22, 23, 24, 25, 26, 27, 28, 29, 30, 31, 32, 33] [0, 1, 2, 33, 3, 4, 5, 6, 7, 8, 9, 10, 11, 12, 13, 14, 15, 16, 17, 18, 19, 20, 21, 22, 23, 24, 25, 26, 27, 28, 29, 30, 31, 32] rfl rfl (by decide) (by decide) rfl (by decide) rfl (fun H locs hP hD hS => ?_)
        have h : some (t81, E_left_81, E_right_81, H_size_58, H_lefts_58, H_rights_58) = some (r, E_left_o, E_right_o, H_size_o, H_lefts_o, H_rights_o) := h
        cases h
        exact hret _ _ _ _ hP hD hS dX11_substitute_84
      have h := ifF h q44
      refine lv_bipush (v := ((-4) : Int32)) hx hb dX11_substitute_47 (by decide) ?_
      have h : some (((-4) : Int32), E_left, E_right, H_size, H_lefts, H_rights) = some (r, E_left_o, E_right_o, H_size_o, H_lefts_o, H_rights_o) := h
      cases h
      exact hret _ _ _ _ hP hD hS dX11_substitute_49
    have h := ifT h q16
    refine lv_bipush (v := ((-3) : Int32)) hx hb dX11_substitute_19 (by decide) ?_
    have h : some (((-3) : Int32), E_left, E_right, H_size, H_lefts, H_rights) = some (r, E_left_o, E_right_o, H_size_o, H_lefts_o, H_rights_o) := h
    cases h
    exact hret _ _ _ _ hP hD hS dX11_substitute_21
  have h := ifT h q4
  refine lv_iconst (v := ((-1) : Int32)) hx hb dX11_substitute_7 (by decide) ?_
  have h : some (((-1) : Int32), E_left, E_right, H_size, H_lefts, H_rights) = some (r, E_left_o, E_right_o, H_size_o, H_lefts_o, H_rights_o) := h
  cases h
  exact hret _ _ _ _ hP hD hS dX11_substitute_8
set_option maxHeartbeats 4000000 in
set_option maxRecDepth 100000 in
theorem mX4_size (g : GP) (l : Launch) (aH aH_lefts aH_rights : Nat) (H_size : Int32) (H_lefts : Nat → Int64) (H_rights : Nat → Int64)  (r : Int32) (h : fH_size H_size = some r) : Ct g l yX4_size cX4_size 1 (some .int) rmX4_size [.ref aH] (wX4 g aH aH_lefts aH_rights H_size H_lefts H_rights) (some (.int r)) (wX4 g aH aH_lefts aH_rights H_size H_lefts H_rights) := by
  refine Ct.introI (by decide) (Nat.le_of_ble_eq_true rfl) ?_
  intro p e s m below meth c A QQ ls hyp hret
  obtain ⟨hx, hb, hml, hts, hown, hA, hE, hP, hD, hl⟩ := hyp
  have hK := hE.1
  have hS : va_S A s.heap s.heap [] := va_S.rf
  have X : Here g p s m c cX4_size 1 ([.ref aH] : List Value).toArray RX4 A := ⟨⟨hx, hb, hml, hown, hts⟩, hE, hA⟩
  have hl : lv_has ls 1 [(0, .ref aH)] := hl
  obtain ⟨H, hH⟩ : ∃ H, H = s.heap := ⟨_, rfl⟩
  obtain ⟨locs, hlocs⟩ : ∃ l : List Loc, l = [] := ⟨_, rfl⟩
  rw [show W p l e rmX4_size s m ([.ref aH] : List Value).toArray below meth c s.heap [] 0 0 QQ (F0 m 0 ls []) = W p l e rmX4_size s m ([.ref aH] : List Value).toArray below meth c H locs 0 0 QQ (F0 m 0 ls []) by rw [hH, hlocs]]
  have hP : va_P g.1 vwCl (wX4 g aH aH_lefts aH_rights H_size H_lefts H_rights) H := by rw [hH]; exact hP
  have hD : va_D A (wX4 g aH aH_lefts aH_rights H_size H_lefts H_rights) := hD
  have hS : va_S A s.heap H locs := by rw [hH, hlocs]; exact hS
  clear hH hlocs
  refine lv_aload_n hx hb dX4_size_0 rfl (lv_at hl 0 rfl) ?_
  refine va_get (D := g.1) (ci := 4) (v := .int H_size) (C := RX4) (T := TX4) (N := 3) hx hb hts inBX4 hown hK hP 0 rfl rfl 2 (by decide) (hts _ wd1_95) (fun _ h9 => h9) rfl dX4_size_1 ?_
  have h : some H_size = some r := h
  cases h
  exact hret _ _ _ _ hP hD hS dX4_size_4
set_option maxHeartbeats 4000000 in
set_option maxRecDepth 100000 in
theorem mX4_takeBack (g : GP) (l : Launch) (aH aH_lefts aH_rights aE : Nat) (H_size : Int32) (H_lefts : Nat → Int64) (H_rights : Nat → Int64) (E_left : Int64) (E_right : Int64)  (H_size_o : Int32) (E_left_o : Int64) (E_right_o : Int64) (h : fH_takeBack H_size H_lefts H_rights E_left E_right = some (H_size_o, E_left_o, E_right_o)) : Ct g l yX4_takeBack cX4_takeBack 2 none rmX4_takeBack [.ref aH, .ref aE] ((wX4 g aH aH_lefts aH_rights H_size H_lefts H_rights) ++ (wX2 g aE E_left E_right)) none ((wX4 g aH aH_lefts aH_rights H_size_o H_lefts H_rights) ++ (wX2 g aE E_left_o E_right_o)) := by
  refine Ct.introV (by decide) (Nat.le_of_ble_eq_true rfl) ?_
  intro p e s m below meth c A QQ ls hyp hret
  obtain ⟨hx, hb, hml, hts, hown, hA, hE, hP, hD, hl⟩ := hyp
  have hK := hE.1
  have hS : va_S A s.heap s.heap [] := va_S.rf
  have X : Here g p s m c cX4_takeBack 2 ([.ref aH, .ref aE] : List Value).toArray RX4 A := ⟨⟨hx, hb, hml, hown, hts⟩, hE, hA⟩
  have hl : lv_has ls 2 [(0, .ref aH), (1, .ref aE)] := hl
  obtain ⟨H, hH⟩ : ∃ H, H = s.heap := ⟨_, rfl⟩
  obtain ⟨locs, hlocs⟩ : ∃ l : List Loc, l = [] := ⟨_, rfl⟩
  rw [show W p l e rmX4_takeBack s m ([.ref aH, .ref aE] : List Value).toArray below meth c s.heap [] 0 0 QQ (F0 m 0 ls []) = W p l e rmX4_takeBack s m ([.ref aH, .ref aE] : List Value).toArray below meth c H locs 0 0 QQ (F0 m 0 ls []) by rw [hH, hlocs]]
  have hP : va_P g.1 vwCl ((wX4 g aH aH_lefts aH_rights H_size H_lefts H_rights) ++ (wX2 g aE E_left E_right)) H := by rw [hH]; exact hP
  have hD : va_D A ((wX4 g aH aH_lefts aH_rights H_size H_lefts H_rights) ++ (wX2 g aE E_left E_right)) := hD
  have hS : va_S A s.heap H locs := by rw [hH, hlocs]; exact hS
  clear hH hlocs
  refine lv_aload_n hx hb dX4_takeBack_0 rfl (lv_at hl 0 rfl) ?_
  refine va_get (D := g.1) (ci := 4) (v := .int H_size) (C := RX4) (T := TX4) (N := 3) hx hb hts inBX4 hown hK hP 0 rfl rfl 2 (by decide) (hts _ wd1_95) (fun _ h9 => h9) rfl dX4_takeBack_1 ?_
  refine lv_iconst (v := (1 : Int32)) hx hb dX4_takeBack_4 (by decide) ?_
  refine lv_icmp_lt (tgt := 17) hx hb dX4_takeBack_5 (by decide) (fun q5 => ?_) (fun q5 => ?_)
  · have h := ifT h q5
    have h : some (H_size, E_left, E_right) = some (H_size_o, E_left_o, E_right_o) := h
    cases h
    exact hret _ _ _ _ hP hD hS dX4_takeBack_17
  have h := ifF h q5
  refine lv_aload_n hx hb dX4_takeBack_8 rfl (lv_at hl 0 rfl) ?_
  refine va_get (D := g.1) (ci := 4) (v := .int H_size) (C := RX4) (T := TX4) (N := 3) hx hb hts inBX4 hown hK hP 0 rfl rfl 2 (by decide) (hts _ wd1_95) (fun _ h9 => h9) rfl dX4_takeBack_9 ?_
  refine lv_bipush (v := (14 : Int32)) hx hb dX4_takeBack_12 (by decide) ?_
  refine lv_icmp_le (tgt := 18) hx hb dX4_takeBack_14 (by decide) (fun q14 => ?_) (fun q14 => ?_)
  · have h := ifT h q14
    refine lv_aload_n hx hb dX4_takeBack_18 rfl (lv_at hl 0 rfl) ?_
    refine lv_dup hx hb dX4_takeBack_19 rfl ?_
    refine va_get (D := g.1) (ci := 4) (v := .int H_size) (C := RX4) (T := TX4) (N := 3) hx hb hts inBX4 hown hK hP 0 rfl rfl 2 (by decide) (hts _ wd1_95) (fun _ h9 => h9) rfl dX4_takeBack_20 ?_
    refine lv_iconst (v := (1 : Int32)) hx hb dX4_takeBack_23 (by decide) ?_
    refine lv_isub hx hb dX4_takeBack_24 ?_
    refine lv_topi (fun t25 et25 => ?_)
    have h := st_to h et25
    refine va_put (D := g.1) (ci := 4) (v := .int t25) (ty := .int) (C := RX4) (T := TX4) (N := 3) hx hb hts inBX4 tyX4 tyX4_ok nmX4 hown hK hP hD hS 0 rfl rfl 2 (by decide) (hts _ wd1_95) (fun _ h9 => h9) rfl (tyX4_ok 2 (by decide)) rfl rfl (Nat.le_of_ble_eq_true rfl) dX4_takeBack_25 (fun H locs hP hD hS => ?_)
    have hP : va_P g.1 vwCl ((wX4 g aH aH_lefts aH_rights t25 H_lefts H_rights) ++ (wX2 g aE E_left E_right)) H := hP
    have hD : va_D A ((wX4 g aH aH_lefts aH_rights t25 H_lefts H_rights) ++ (wX2 g aE E_left E_right)) := hD
    refine lv_aload_n hx hb dX4_takeBack_28 rfl (lv_at hl 1 rfl) ?_
    refine lv_aload_n hx hb dX4_takeBack_29 rfl (lv_at hl 0 rfl) ?_
    refine va_get (D := g.1) (ci := 4) (v := .ref aH_lefts) (C := RX4) (T := TX4) (N := 3) hx hb hts inBX4 hown hK hP 0 rfl rfl 0 (by decide) (hts _ wd1_93) (fun _ h9 => h9) rfl dX4_takeBack_30 ?_
    refine lv_aload_n hx hb dX4_takeBack_33 rfl (lv_at hl 0 rfl) ?_
    refine va_get (D := g.1) (ci := 4) (v := .int t25) (C := RX4) (T := TX4) (N := 3) hx hb hts inBX4 hown hK hP 0 rfl rfl 2 (by decide) (hts _ wd1_95) (fun _ h9 => h9) rfl dX4_takeBack_34 ?_
    have hin := ld_in h
    refine va_lald hx hb hK hP 1 1 rfl rfl hin dX4_takeBack_37 ?_
    refine lv_topl (fun t37 et37 => ?_)
    have h := ld_to h et37
    refine lv_aload_n hx hb dX4_takeBack_38 rfl (lv_at hl 0 rfl) ?_
    refine va_get (D := g.1) (ci := 4) (v := .ref aH_rights) (C := RX4) (T := TX4) (N := 3) hx hb hts inBX4 hown hK hP 0 rfl rfl 1 (by decide) (hts _ wd1_94) (fun _ h9 => h9) rfl dX4_takeBack_39 ?_
    refine lv_aload_n hx hb dX4_takeBack_42 rfl (lv_at hl 0 rfl) ?_
    refine va_get (D := g.1) (ci := 4) (v := .int t25) (C := RX4) (T := TX4) (N := 3) hx hb hts inBX4 hown hK hP 0 rfl rfl 2 (by decide) (hts _ wd1_95) (fun _ h9 => h9) rfl dX4_takeBack_43 ?_
    have hin := ld_in h
    refine va_lald hx hb hK hP 2 1 rfl rfl hin dX4_takeBack_46 ?_
    refine lv_topl (fun t46 et46 => ?_)
    have h := ld_to h et46
    obtain ⟨E_left_47, E_right_47, hc47, h⟩ := bd2_to h
    refine go_P (st1 := []) (W1 := ((wX4 g aH aH_lefts aH_rights t25 H_lefts H_rights) ++ (wX2 g aE E_left_47 E_right_47))) (run_V (As := [.long t37, .long t46]) (rest := []) X hS (mX2_set g l  aE E_left E_right t37 t46 E_left_47 E_right_47 hc47) okX2_set wd3_131 ⟨Nat.le_of_ble_eq_true rfl, Nat.le_of_ble_eq_true rfl⟩ ⟨rfl, rfl⟩ (va_recv hK hP (ci := 2) (q0 := 3) rfl rfl) (sub_P hP [3] rfl) (hD.sub [3] (by decide) rfl) (va_free hD hS hA [3] rfl) rfl hl.1 rfl (Nat.le_of_ble_eq_true rfl) dX4_takeBack_47 ⟨Nat.zero_le _, Nat.zero_le _⟩) hS (va_free hD hS hA [3] rfl) hP hD [3] [0, 1, 2] [0, 1, 2, 3] rfl rfl (by decide) (by decide) rfl (by decide) rfl (fun H locs hP hD hS => ?_)
    have h : some (t25, E_left_47, E_right_47) = some (H_size_o, E_left_o, E_right_o) := h
    cases h
    exact hret _ _ _ _ hP hD hS dX4_takeBack_50
  have h := ifF h q14
  have h : some (H_size, E_left, E_right) = some (H_size_o, E_left_o, E_right_o) := h
  cases h
  exact hret _ _ _ _ hP hD hS dX4_takeBack_17
set_option maxHeartbeats 4000000 in
set_option maxRecDepth 100000 in
theorem mX11_undo (g : GP) (l : Launch) (aX aT aT_characters aE aH aH_lefts aH_rights aS aS_lefts aS_rights aS_filled aA aA_letters aA_lengths aK aB aB_first aQ aQ_weights aQ_possible aC aC_variables aC_relations aC_numbers aA2 aA2_letters aA2_lengths aN aN_lefts aN_rights aN_parents aN_rules aN_depths aE2 : Nat) (T_size : Int32) (T_characters : Nat → Int32) (E_left : Int64) (E_right : Int64) (H_size : Int32) (H_lefts : Nat → Int64) (H_rights : Nat → Int64) (S_lefts : Nat → Int64) (S_rights : Nat → Int64) (S_filled : Nat → Int32) (A_letters : Nat → Int64) (A_lengths : Nat → Int32) (B_left : Int64) (B_right : Int64) (B_found : Int32) (B_least : Int32) (B_first : Nat → Int32) (Q_letterSurplus : Int32) (Q_weights : Nat → Int32) (Q_possible : Nat → Int32) (C_size : Int32) (C_variables : Nat → Int32) (C_relations : Nat → Int32) (C_numbers : Nat → Int32) (A2_letters : Nat → Int64) (A2_lengths : Nat → Int32) (N_size : Int32) (N_solved : Int32) (N_dropped : Int32) (N_lefts : Nat → Int64) (N_rights : Nat → Int64) (N_parents : Nat → Int32) (N_rules : Nat → Int32) (N_depths : Nat → Int32) (E2_left : Int64) (E2_right : Int64)  (r : Int32) (E_left_o : Int64) (E_right_o : Int64) (H_size_o : Int32) (h : fX_undo E_left E_right H_size H_lefts H_rights = some (r, E_left_o, E_right_o, H_size_o)) : Ct g l yX11_undo cX11_undo 1 (some .int) rmX11_undo [.ref aX] (wX11 g aX aT aT_characters aE aH aH_lefts aH_rights aS aS_lefts aS_rights aS_filled aA aA_letters aA_lengths aK aB aB_first aQ aQ_weights aQ_possible aC aC_variables aC_relations aC_numbers aA2 aA2_letters aA2_lengths aN aN_lefts aN_rights aN_parents aN_rules aN_depths aE2 T_size T_characters E_left E_right H_size H_lefts H_rights S_lefts S_rights S_filled A_letters A_lengths B_left B_right B_found B_least B_first Q_letterSurplus Q_weights Q_possible C_size C_variables C_relations C_numbers A2_letters A2_lengths N_size N_solved N_dropped N_lefts N_rights N_parents N_rules N_depths E2_left E2_right) (some (.int r)) (wX11 g aX aT aT_characters aE aH aH_lefts aH_rights aS aS_lefts aS_rights aS_filled aA aA_letters aA_lengths aK aB aB_first aQ aQ_weights aQ_possible aC aC_variables aC_relations aC_numbers aA2 aA2_letters aA2_lengths aN aN_lefts aN_rights aN_parents aN_rules aN_depths aE2 T_size T_characters E_left_o E_right_o H_size_o H_lefts H_rights S_lefts S_rights S_filled A_letters A_lengths B_left B_right B_found B_least B_first Q_letterSurplus Q_weights Q_possible C_size C_variables C_relations C_numbers A2_letters A2_lengths N_size N_solved N_dropped N_lefts N_rights N_parents N_rules N_depths E2_left E2_right) := by
  refine Ct.introI (by decide) (Nat.le_of_ble_eq_true rfl) ?_
  intro p e s m below meth c A QQ ls hyp hret
  obtain ⟨hx, hb, hml, hts, hown, hA, hE, hP, hD, hl⟩ := hyp
  have hK := hE.1
  have hS : va_S A s.heap s.heap [] := va_S.rf
  have X : Here g p s m c cX11_undo 1 ([.ref aX] : List Value).toArray RX11 A := ⟨⟨hx, hb, hml, hown, hts⟩, hE, hA⟩
  have hl : lv_has ls 1 [(0, .ref aX)] := hl
  obtain ⟨H, hH⟩ : ∃ H, H = s.heap := ⟨_, rfl⟩
  obtain ⟨locs, hlocs⟩ : ∃ l : List Loc, l = [] := ⟨_, rfl⟩
  rw [show W p l e rmX11_undo s m ([.ref aX] : List Value).toArray below meth c s.heap [] 0 0 QQ (F0 m 0 ls []) = W p l e rmX11_undo s m ([.ref aX] : List Value).toArray below meth c H locs 0 0 QQ (F0 m 0 ls []) by rw [hH, hlocs]]
  have hP : va_P g.1 vwCl (wX11 g aX aT aT_characters aE aH aH_lefts aH_rights aS aS_lefts aS_rights aS_filled aA aA_letters aA_lengths aK aB aB_first aQ aQ_weights aQ_possible aC aC_variables aC_relations aC_numbers aA2 aA2_letters aA2_lengths aN aN_lefts aN_rights aN_parents aN_rules aN_depths aE2 T_size T_characters E_left E_right H_size H_lefts H_rights S_lefts S_rights S_filled A_letters A_lengths B_left B_right B_found B_least B_first Q_letterSurplus Q_weights Q_possible C_size C_variables C_relations C_numbers A2_letters A2_lengths N_size N_solved N_dropped N_lefts N_rights N_parents N_rules N_depths E2_left E2_right) H := by rw [hH]; exact hP
  have hD : va_D A (wX11 g aX aT aT_characters aE aH aH_lefts aH_rights aS aS_lefts aS_rights aS_filled aA aA_letters aA_lengths aK aB aB_first aQ aQ_weights aQ_possible aC aC_variables aC_relations aC_numbers aA2 aA2_letters aA2_lengths aN aN_lefts aN_rights aN_parents aN_rules aN_depths aE2 T_size T_characters E_left E_right H_size H_lefts H_rights S_lefts S_rights S_filled A_letters A_lengths B_left B_right B_found B_least B_first Q_letterSurplus Q_weights Q_possible C_size C_variables C_relations C_numbers A2_letters A2_lengths N_size N_solved N_dropped N_lefts N_rights N_parents N_rules N_depths E2_left E2_right) := hD
  have hS : va_S A s.heap H locs := by rw [hH, hlocs]; exact hS
  clear hH hlocs
  refine lv_aload_n hx hb dX11_undo_0 rfl (lv_at hl 0 rfl) ?_
  refine va_get (D := g.1) (ci := 10) (v := .ref aH) (C := RX11) (T := TX11) (N := 10) hx hb hts inBX11 hown hK hP 0 rfl rfl 3 (by decide) (hts _ wd1_235) (fun _ h9 => h9) rfl dX11_undo_1 ?_
  obtain ⟨t4, hc4, h⟩ := bd1_to h
  refine go_P (st1 := [.int t4]) (W1 := (wX11 g aX aT aT_characters aE aH aH_lefts aH_rights aS aS_lefts aS_rights aS_filled aA aA_letters aA_lengths aK aB aB_first aQ aQ_weights aQ_possible aC aC_variables aC_relations aC_numbers aA2 aA2_letters aA2_lengths aN aN_lefts aN_rights aN_parents aN_rules aN_depths aE2 T_size T_characters E_left E_right H_size H_lefts H_rights S_lefts S_rights S_filled A_letters A_lengths B_left B_right B_found B_least B_first Q_letterSurplus Q_weights Q_possible C_size C_variables C_relations C_numbers A2_letters A2_lengths N_size N_solved N_dropped N_lefts N_rights N_parents N_rules N_depths E2_left E2_right)) (run_V (As := []) (rest := []) X hS (mX4_size g l  aH aH_lefts aH_rights H_size H_lefts H_rights t4 hc4) okX4_size wd3_123 ⟨Nat.le_of_ble_eq_true rfl, Nat.le_of_ble_eq_true rfl⟩ ⟨rfl, rfl⟩ (va_recv hK hP (ci := 4) (q0 := 4) rfl rfl) (sub_P hP [4, 5, 6] rfl) (hD.sub [4, 5, 6] (by decide) rfl) (va_free hD hS hA [4, 5, 6] rfl) rfl hl.1 rfl (Nat.le_of_ble_eq_true rfl) dX11_undo_4 ⟨Nat.zero_le _, Nat.zero_le _⟩) hS (va_free hD hS hA [4, 5, 6] rfl) hP hD [4, 5, 6] [0, 1, 2, 3, 7, 8, 9, 10, 11, 12, 13, 14, 15, 16, 17, 18, 19, 20, 21, 22, 23, 24, 25, 26, 27, 28, 29, 30, 31, 32, 33] [0, 1, 2, 3, 31, 32, 33, 4, 5, 6, 7, 8, 9, 10, 11, 12, 13, 14, 15, 16, 17, 18, 19, 20, 21, 22, 23, 24, 25, 26, 27, 28, 29, 30] rfl rfl (by decide) (by decide) rfl (by decide) rfl (fun H locs hP hD hS => ?_)
  refine lv_if_ne (tgt := 13) hx hb dX11_undo_7 (by decide) (fun q7 => ?_) (fun q7 => ?_)
  · have h := ifF h q7
    refine lv_aload_n hx hb dX11_undo_13 rfl (lv_at hl 0 rfl) ?_
    refine va_get (D := g.1) (ci := 10) (v := .ref aH) (C := RX11) (T := TX11) (N := 10) hx hb hts inBX11 hown hK hP 0 rfl rfl 3 (by decide) (hts _ wd1_235) (fun _ h9 => h9) rfl dX11_undo_14 ?_
    refine lv_aload_n hx hb dX11_undo_17 rfl (lv_at hl 0 rfl) ?_
    refine va_get (D := g.1) (ci := 10) (v := .ref aE) (C := RX11) (T := TX11) (N := 10) hx hb hts inBX11 hown hK hP 0 rfl rfl 1 (by decide) (hts _ wd1_233) (fun _ h9 => h9) rfl dX11_undo_18 ?_
    obtain ⟨H_size_21, E_left_21, E_right_21, hc21, h⟩ := bd3_to h
    refine go_P (st1 := []) (W1 := (wX11 g aX aT aT_characters aE aH aH_lefts aH_rights aS aS_lefts aS_rights aS_filled aA aA_letters aA_lengths aK aB aB_first aQ aQ_weights aQ_possible aC aC_variables aC_relations aC_numbers aA2 aA2_letters aA2_lengths aN aN_lefts aN_rights aN_parents aN_rules aN_depths aE2 T_size T_characters E_left_21 E_right_21 H_size_21 H_lefts H_rights S_lefts S_rights S_filled A_letters A_lengths B_left B_right B_found B_least B_first Q_letterSurplus Q_weights Q_possible C_size C_variables C_relations C_numbers A2_letters A2_lengths N_size N_solved N_dropped N_lefts N_rights N_parents N_rules N_depths E2_left E2_right)) (run_V (As := [.ref aE]) (rest := []) X hS (mX4_takeBack g l  aH aH_lefts aH_rights aE H_size H_lefts H_rights E_left E_right H_size_21 E_left_21 E_right_21 hc21) okX4_takeBack wd3_127 ⟨Nat.le_of_ble_eq_true rfl, Nat.le_of_ble_eq_true rfl⟩ ⟨rfl, rfl⟩ (va_recv hK hP (ci := 4) (q0 := 4) rfl rfl) (sub_P hP [4, 5, 6, 3] rfl) (hD.sub [4, 5, 6, 3] (by decide) rfl) (va_free hD hS hA [4, 5, 6, 3] rfl) rfl hl.1 rfl (Nat.le_of_ble_eq_true rfl) dX11_undo_21 ⟨Nat.zero_le _, Nat.zero_le _⟩) hS (va_free hD hS hA [4, 5, 6, 3] rfl) hP hD [4, 5, 6, 3] [0, 1, 2, 7, 8, 9, 10, 11, 12, 13, 14, 15, 16, 17, 18, 19, 20, 21, 22, 23, 24, 25, 26, 27, 28, 29, 30, 31, 32, 33] [0, 1, 2, 33, 30, 31, 32, 3, 4, 5, 6, 7, 8, 9, 10, 11, 12, 13, 14, 15, 16, 17, 18, 19, 20, 21, 22, 23, 24, 25, 26, 27, 28, 29] rfl rfl (by decide) (by decide) rfl (by decide) rfl (fun H locs hP hD hS => ?_)
    refine lv_aload_n hx hb dX11_undo_24 rfl (lv_at hl 0 rfl) ?_
    refine va_get (D := g.1) (ci := 10) (v := .ref aH) (C := RX11) (T := TX11) (N := 10) hx hb hts inBX11 hown hK hP 0 rfl rfl 3 (by decide) (hts _ wd1_235) (fun _ h9 => h9) rfl dX11_undo_25 ?_
    obtain ⟨t28, hc28, h⟩ := bd1_to h
    refine go_P (st1 := [.int t28]) (W1 := (wX11 g aX aT aT_characters aE aH aH_lefts aH_rights aS aS_lefts aS_rights aS_filled aA aA_letters aA_lengths aK aB aB_first aQ aQ_weights aQ_possible aC aC_variables aC_relations aC_numbers aA2 aA2_letters aA2_lengths aN aN_lefts aN_rights aN_parents aN_rules aN_depths aE2 T_size T_characters E_left_21 E_right_21 H_size_21 H_lefts H_rights S_lefts S_rights S_filled A_letters A_lengths B_left B_right B_found B_least B_first Q_letterSurplus Q_weights Q_possible C_size C_variables C_relations C_numbers A2_letters A2_lengths N_size N_solved N_dropped N_lefts N_rights N_parents N_rules N_depths E2_left E2_right)) (run_V (As := []) (rest := []) X hS (mX4_size g l  aH aH_lefts aH_rights H_size_21 H_lefts H_rights t28 hc28) okX4_size wd3_123 ⟨Nat.le_of_ble_eq_true rfl, Nat.le_of_ble_eq_true rfl⟩ ⟨rfl, rfl⟩ (va_recv hK hP (ci := 4) (q0 := 4) rfl rfl) (sub_P hP [4, 5, 6] rfl) (hD.sub [4, 5, 6] (by decide) rfl) (va_free hD hS hA [4, 5, 6] rfl) rfl hl.1 rfl (Nat.le_of_ble_eq_true rfl) dX11_undo_28 ⟨Nat.zero_le _, Nat.zero_le _⟩) hS (va_free hD hS hA [4, 5, 6] rfl) hP hD [4, 5, 6] [0, 1, 2, 3, 7, 8, 9, 10, 11, 12, 13, 14, 15, 16, 17, 18, 19, 20, 21, 22, 23, 24, 25, 26, 27, 28, 29, 30, 31, 32, 33] [0, 1, 2, 3, 31, 32, 33, 4, 5, 6, 7, 8, 9, 10, 11, 12, 13, 14, 15, 16, 17, 18, 19, 20, 21, 22, 23, 24, 25, 26, 27, 28, 29, 30] rfl rfl (by decide) (by decide) rfl (by decide) rfl (fun H locs hP hD hS => ?_)
    have h : some (t28, E_left_21, E_right_21, H_size_21) = some (r, E_left_o, E_right_o, H_size_o) := h
    cases h
    exact hret _ _ _ _ hP hD hS dX11_undo_31
  have h := ifT h q7
  refine lv_bipush (v := ((-3) : Int32)) hx hb dX11_undo_10 (by decide) ?_
  have h : some (((-3) : Int32), E_left, E_right, H_size) = some (r, E_left_o, E_right_o, H_size_o) := h
  cases h
  exact hret _ _ _ _ hP hD hS dX11_undo_12
set_option maxHeartbeats 4000000 in
set_option maxRecDepth 100000 in
theorem mX11_isWordNumber (g : GP) (l : Launch)  (x0 : Int32) (r : Int32) (h : fX_isWordNumber x0 = some r) : Ct g l yX11_isWordNumber cX11_isWordNumber 1 (some .boolean) rmX11_isWordNumber [.int x0] [] (some (.int r)) [] := by
  refine Ct.introZ (by decide) (Nat.le_of_ble_eq_true rfl) ?_
  intro p e s m below meth c A QQ ls hyp hret
  obtain ⟨hx, hb, hml, hts, hown, hA, hE, hP, hD, hl⟩ := hyp
  have hK := hE.1
  have hS : va_S A s.heap s.heap [] := va_S.rf
  have X : Here g p s m c cX11_isWordNumber 1 ([.int x0] : List Value).toArray RX11 A := ⟨⟨hx, hb, hml, hown, hts⟩, hE, hA⟩
  have hl : lv_has ls 1 [(0, .int x0)] := hl
  obtain ⟨H, hH⟩ : ∃ H, H = s.heap := ⟨_, rfl⟩
  obtain ⟨locs, hlocs⟩ : ∃ l : List Loc, l = [] := ⟨_, rfl⟩
  rw [show W p l e rmX11_isWordNumber s m ([.int x0] : List Value).toArray below meth c s.heap [] 0 0 QQ (F0 m 0 ls []) = W p l e rmX11_isWordNumber s m ([.int x0] : List Value).toArray below meth c H locs 0 0 QQ (F0 m 0 ls []) by rw [hH, hlocs]]
  have hP : va_P g.1 vwCl [] H := by rw [hH]; exact hP
  have hD : va_D A [] := hD
  have hS : va_S A s.heap H locs := by rw [hH, hlocs]; exact hS
  clear hH hlocs
  refine lv_iload_n hx hb dX11_isWordNumber_0 rfl (lv_at hl 0 rfl) ?_
  refine lv_if_lt (tgt := 14) hx hb dX11_isWordNumber_1 (by decide) (fun q1 => ?_) (fun q1 => ?_)
  · have h := ifT h q1
    refine lv_iconst (v := (0 : Int32)) hx hb dX11_isWordNumber_14 (by decide) ?_
    have h : some (0 : Int32) = some r := h
    cases h
    exact hret _ _ _ _ rfl hP hD hS dX11_isWordNumber_15
  have h := ifF h q1
  refine lv_iload_n hx hb dX11_isWordNumber_4 rfl (lv_at hl 0 rfl) ?_
  refine lv_bipush (v := (62 : Int32)) hx hb dX11_isWordNumber_5 (by decide) ?_
  refine lv_icmp_gt (tgt := 14) hx hb dX11_isWordNumber_7 (by decide) (fun q7 => ?_) (fun q7 => ?_)
  · have h := ifT h q7
    refine lv_iconst (v := (0 : Int32)) hx hb dX11_isWordNumber_14 (by decide) ?_
    have h : some (0 : Int32) = some r := h
    cases h
    exact hret _ _ _ _ rfl hP hD hS dX11_isWordNumber_15
  have h := ifF h q7
  refine lv_iconst (v := (1 : Int32)) hx hb dX11_isWordNumber_10 (by decide) ?_
  refine lv_goto (tgt := 15) hx hb dX11_isWordNumber_11 (by decide) ?_
  have h : some (1 : Int32) = some r := h
  cases h
  exact hret _ _ _ _ rfl hP hD hS dX11_isWordNumber_15
set_option maxHeartbeats 4000000 in
set_option maxRecDepth 100000 in
theorem mX0_give (g : GP) (l : Launch) (aA aA_letters aA_lengths : Nat) (A_letters : Nat → Int64) (A_lengths : Nat → Int32) (x1 : Int32) (x2 : Int64) (x4 : Int32) (A_letters_o : Nat → Int64) (A_lengths_o : Nat → Int32) (h : fA_give A_letters A_lengths x1 x2 x4 = some (A_letters_o, A_lengths_o)) : Ct g l yX0_give cX0_give 5 none rmX0_give [.ref aA, .int x1, .long x2, .int x4] (wX0 g aA aA_letters aA_lengths A_letters A_lengths) none (wX0 g aA aA_letters aA_lengths A_letters_o A_lengths_o) := by
  refine Ct.introV (by decide) (Nat.le_of_ble_eq_true rfl) ?_
  intro p e s m below meth c A QQ ls hyp hret
  obtain ⟨hx, hb, hml, hts, hown, hA, hE, hP, hD, hl⟩ := hyp
  have hK := hE.1
  have hS : va_S A s.heap s.heap [] := va_S.rf
  have X : Here g p s m c cX0_give 5 ([.ref aA, .int x1, .long x2, .int x4] : List Value).toArray RX0 A := ⟨⟨hx, hb, hml, hown, hts⟩, hE, hA⟩
  have hl : lv_has ls 5 [(0, .ref aA), (1, .int x1), (2, .long x2), (4, .int x4)] := hl
  obtain ⟨H, hH⟩ : ∃ H, H = s.heap := ⟨_, rfl⟩
  obtain ⟨locs, hlocs⟩ : ∃ l : List Loc, l = [] := ⟨_, rfl⟩
  rw [show W p l e rmX0_give s m ([.ref aA, .int x1, .long x2, .int x4] : List Value).toArray below meth c s.heap [] 0 0 QQ (F0 m 0 ls []) = W p l e rmX0_give s m ([.ref aA, .int x1, .long x2, .int x4] : List Value).toArray below meth c H locs 0 0 QQ (F0 m 0 ls []) by rw [hH, hlocs]]
  have hP : va_P g.1 vwCl (wX0 g aA aA_letters aA_lengths A_letters A_lengths) H := by rw [hH]; exact hP
  have hD : va_D A (wX0 g aA aA_letters aA_lengths A_letters A_lengths) := hD
  have hS : va_S A s.heap H locs := by rw [hH, hlocs]; exact hS
  clear hH hlocs
  refine lv_iload_n hx hb dX0_give_0 rfl (lv_at hl 1 rfl) ?_
  obtain ⟨t1, hc1, h⟩ := bd1_to h
  refine go_0 (st1 := [.int t1]) (run_S (As := [.int x1]) (rest := []) X hS (mX9_isVariableSymbol g l  x1 t1 hc1) okX9_isVariableSymbol wd3_151 ⟨Nat.le_of_ble_eq_true rfl, Nat.le_of_ble_eq_true rfl⟩ ⟨rfl, rfl⟩ nil_P nil_D (nil_F hS hA) rfl hl.1 rfl (Nat.le_of_ble_eq_true rfl) dX0_give_1 ⟨Nat.zero_le _, Nat.zero_le _⟩) hS hA hP rfl (fun H locs hP hS => ?_)
  refine lv_if_eq (tgt := 22) hx hb dX0_give_4 (by decide) (fun q4 => ?_) (fun q4 => ?_)
  · have h := ifT h q4
    have h : some (A_letters, A_lengths) = some (A_letters_o, A_lengths_o) := h
    cases h
    exact hret _ _ _ _ hP hD hS dX0_give_22
  have h := ifF h q4
  refine lv_aload_n hx hb dX0_give_7 rfl (lv_at hl 0 rfl) ?_
  refine va_get (D := g.1) (ci := 0) (v := .ref aA_letters) (C := RX0) (T := TX0) (N := 2) hx hb hts inBX0 hown hK hP 0 rfl rfl 0 (by decide) (hts _ wd1_127) (fun _ h9 => h9) rfl dX0_give_8 ?_
  refine lv_iload_n hx hb dX0_give_11 rfl (lv_at hl 1 rfl) ?_
  refine lv_lload_n hx hb dX0_give_12 rfl (lv_at hl 2 rfl) ?_
  have hin := stl_in h
  refine va_last hx hb hK hP hD hS 1 1 rfl rfl hin dX0_give_13 (fun H locs hP hD hS => ?_)
  obtain ⟨A_letters_13, eA_letters_13⟩ : ∃ y : Nat → Int64, y = vp_updL A_letters (Int32.toNatClampNeg x1) x2 := ⟨_, rfl⟩
  have h := stl_to h eA_letters_13
  have hP : va_P g.1 vwCl (wX0 g aA aA_letters aA_lengths A_letters_13 A_lengths) H := by rw [eA_letters_13]; exact hP
  have hD : va_D A (wX0 g aA aA_letters aA_lengths A_letters_13 A_lengths) := by rw [eA_letters_13]; exact hD
  refine lv_aload_n hx hb dX0_give_14 rfl (lv_at hl 0 rfl) ?_
  refine va_get (D := g.1) (ci := 0) (v := .ref aA_lengths) (C := RX0) (T := TX0) (N := 2) hx hb hts inBX0 hown hK hP 0 rfl rfl 1 (by decide) (hts _ wd1_128) (fun _ h9 => h9) rfl dX0_give_15 ?_
  refine lv_iload_n hx hb dX0_give_18 rfl (lv_at hl 1 rfl) ?_
  refine lv_iload hx hb dX0_give_19 (lv_at hl 3 rfl) ?_
  have hin := sti_in h
  refine va_iast hx hb hK hP hD hS 2 0 rfl rfl hin dX0_give_21 (fun H locs hP hD hS => ?_)
  obtain ⟨A_lengths_21, eA_lengths_21⟩ : ∃ y : Nat → Int32, y = upd A_lengths (Int32.toNatClampNeg x1) x4 := ⟨_, rfl⟩
  have h := sti_to h eA_lengths_21
  have hP : va_P g.1 vwCl (wX0 g aA aA_letters aA_lengths A_letters_13 A_lengths_21) H := by rw [eA_lengths_21]; exact hP
  have hD : va_D A (wX0 g aA aA_letters aA_lengths A_letters_13 A_lengths_21) := by rw [eA_lengths_21]; exact hD
  have h : some (A_letters_13, A_lengths_21) = some (A_letters_o, A_lengths_o) := h
  cases h
  exact hret _ _ _ _ hP hD hS dX0_give_22
set_option maxHeartbeats 4000000 in
set_option maxRecDepth 100000 in
theorem mX0_giveNumber (g : GP) (l : Launch) (aA aA_letters aA_lengths : Nat) (A_letters : Nat → Int64) (A_lengths : Nat → Int32) (x1 : Int32) (x2 : Int32) (A_letters_o : Nat → Int64) (A_lengths_o : Nat → Int32) (h : fA_giveNumber A_letters A_lengths x1 x2 = some (A_letters_o, A_lengths_o)) : Ct g l yX0_giveNumber cX0_giveNumber 5 none rmX0_giveNumber [.ref aA, .int x1, .int x2] (wX0 g aA aA_letters aA_lengths A_letters A_lengths) none (wX0 g aA aA_letters aA_lengths A_letters_o A_lengths_o) := by
  refine Ct.introV (by decide) (Nat.le_of_ble_eq_true rfl) ?_
  intro p e s m below meth c A QQ ls hyp hret
  obtain ⟨hx, hb, hml, hts, hown, hA, hE, hP, hD, hl⟩ := hyp
  have hK := hE.1
  have hS : va_S A s.heap s.heap [] := va_S.rf
  have X : Here g p s m c cX0_giveNumber 5 ([.ref aA, .int x1, .int x2] : List Value).toArray RX0 A := ⟨⟨hx, hb, hml, hown, hts⟩, hE, hA⟩
  have B28 : ∀ (A_letters : Nat → Int64) (A_lengths : Nat → Int32) (v3 : Int32) (v4 : Int32) (ls : Array Slot) (H : Heap) (locs : List Loc), lv_has ls 5 [(0, .ref aA), (1, .int x1), (3, .int v3), (4, .int v4)] → va_P g.1 vwCl (wX0 g aA aA_letters aA_lengths A_letters A_lengths) H → va_D A (wX0 g aA aA_letters aA_lengths A_letters A_lengths) → va_S A s.heap H locs → fA_giveNumber_28 A_letters A_lengths x1 v3 v4 = some (A_letters_o, A_lengths_o) → W p l e rmX0_giveNumber s m ([.ref aA, .int x1, .int x2] : List Value).toArray below meth c H locs 0 0 QQ (F0 m 28 ls []) := by
    intro A_letters A_lengths v3 v4 ls H locs hl hP hD hS h
    refine lv_aload_n hx hb dX0_giveNumber_28 rfl (lv_at hl 0 rfl) ?_
    refine lv_iload_n hx hb dX0_giveNumber_29 rfl (lv_at hl 1 rfl) ?_
    refine lv_iload_n hx hb dX0_giveNumber_30 rfl (lv_at hl 2 rfl) ?_
    refine lv_iconst (v := (1 : Int32)) hx hb dX0_giveNumber_31 (by decide) ?_
    refine lv_iload hx hb dX0_giveNumber_32 (lv_at hl 3 rfl) ?_
    refine lv_ishl hx hb dX0_giveNumber_34 ?_
    refine lv_isub hx hb dX0_giveNumber_35 ?_
    refine lv_i2l (v := (Int32.toInt64 (v3 - (shl (1 : Int32) v4)))) hx hb dX0_giveNumber_36 rfl ?_
    refine lv_iload hx hb dX0_giveNumber_37 (lv_at hl 3 rfl) ?_
    obtain ⟨A_letters_39, A_lengths_39, hc39, h⟩ := bd2_to h
    refine go_A (st1 := []) (run_V (As := [.int x1, .long (Int32.toInt64 (v3 - (shl (1 : Int32) v4))), .int v4]) (rest := []) X hS (mX0_give g l  aA aA_letters aA_lengths A_letters A_lengths x1 (Int32.toInt64 (v3 - (shl (1 : Int32) v4))) v4 A_letters_39 A_lengths_39 hc39) okX0_give wd3_147 ⟨Nat.le_of_ble_eq_true rfl, Nat.le_of_ble_eq_true rfl⟩ ⟨rfl, rfl⟩ (va_recv hK hP (ci := 0) (q0 := 0) rfl rfl) hP hD (all_F hS hA hD) rfl hl.1 rfl (Nat.le_of_ble_eq_true rfl) dX0_giveNumber_39 ⟨Nat.zero_le _, Nat.zero_le _⟩) hS (all_F hS hA hD) rfl (fun H locs hP hD hS => ?_)
    have h : some (A_letters_39, A_lengths_39) = some (A_letters_o, A_lengths_o) := h
    cases h
    exact hret _ _ _ _ hP hD hS dX0_giveNumber_42
  have L7 : ∀ (n7 : Nat), ∀ (A_letters : Nat → Int64) (A_lengths : Nat → Int32) (v3 : Int32) (v4 : Int32) (ls : Array Slot) (H : Heap) (locs : List Loc), lv_has ls 5 [(0, .ref aA), (1, .int x1), (3, .int v3), (4, .int v4)] → va_P g.1 vwCl (wX0 g aA aA_letters aA_lengths A_letters A_lengths) H → va_D A (wX0 g aA aA_letters aA_lengths A_letters A_lengths) → va_S A s.heap H locs → fx1 (fA_giveNumber_7 A_letters A_lengths x1 v3) n7 v4 = some (A_letters_o, A_lengths_o) → W p l e rmX0_giveNumber s m ([.ref aA, .int x1, .int x2] : List Value).toArray below meth c H locs 0 0 QQ (F0 m 7 ls []) := by
    intro n7
    induction n7 with
    | zero => intro A_letters A_lengths v3 v4 ls H locs hl hP hD hS h; exact fx1_0 h
    | succ n7 ih7 =>
      intro A_letters A_lengths v3 v4 ls H locs hl hP hD hS h
      have h := (fx1_s (fA_giveNumber_7 A_letters A_lengths x1 v3) n7 v4).symm.trans h
      refine lv_iload hx hb dX0_giveNumber_7 (lv_at hl 3 rfl) ?_
      refine lv_iconst (v := (5 : Int32)) hx hb dX0_giveNumber_9 (by decide) ?_
      refine lv_icmp_ge (tgt := 28) hx hb dX0_giveNumber_10 (by decide) (fun q10 => ?_) (fun q10 => ?_)
      · have h := ifT h q10
        exact B28 A_letters A_lengths v3 v4 ls H locs (lv_sub hl [0, 1, 2, 3] rfl) hP hD hS h
      have h := ifF h q10
      refine lv_iload_n hx hb dX0_giveNumber_13 rfl (lv_at hl 2 rfl) ?_
      refine lv_iload hx hb dX0_giveNumber_14 (lv_at hl 3 rfl) ?_
      refine lv_iconst (v := (1 : Int32)) hx hb dX0_giveNumber_16 (by decide) ?_
      refine lv_iadd hx hb dX0_giveNumber_17 ?_
      refine lv_ishr hx hb dX0_giveNumber_18 ?_
      refine lv_if_eq (tgt := 28) hx hb dX0_giveNumber_19 (by decide) (fun q19 => ?_) (fun q19 => ?_)
      · have h := ifT h q19
        exact B28 A_letters A_lengths v3 v4 ls H locs (lv_sub hl [0, 1, 2, 3] rfl) hP hD hS h
      have h := ifF h q19
      obtain ⟨t22, et22⟩ : ∃ y : Int32, y = v4 + (1 : Int32) := ⟨_, rfl⟩
      refine lv_iinc (v := t22) (lv' := [(4, .int t22), (0, .ref aA), (1, .int x1), (3, .int v3)]) hx hb dX0_giveNumber_22 hl (k := 3) rfl (by rw [et22]; rfl) (by decide) rfl (fun ls hl => ?_)
      have h := st_to h et22
      refine lv_goto (tgt := 7) hx hb dX0_giveNumber_25 (by decide) ?_
      exact ih7 A_letters A_lengths v3 t22 ls H locs (lv_sub hl [1, 2, 3, 0] rfl) hP hD hS h
  have hl : lv_has ls 5 [(0, .ref aA), (1, .int x1), (2, .int x2)] := hl
  obtain ⟨H, hH⟩ : ∃ H, H = s.heap := ⟨_, rfl⟩
  obtain ⟨locs, hlocs⟩ : ∃ l : List Loc, l = [] := ⟨_, rfl⟩
  rw [show W p l e rmX0_giveNumber s m ([.ref aA, .int x1, .int x2] : List Value).toArray below meth c s.heap [] 0 0 QQ (F0 m 0 ls []) = W p l e rmX0_giveNumber s m ([.ref aA, .int x1, .int x2] : List Value).toArray below meth c H locs 0 0 QQ (F0 m 0 ls []) by rw [hH, hlocs]]
  have hP : va_P g.1 vwCl (wX0 g aA aA_letters aA_lengths A_letters A_lengths) H := by rw [hH]; exact hP
  have hD : va_D A (wX0 g aA aA_letters aA_lengths A_letters A_lengths) := hD
  have hS : va_S A s.heap H locs := by rw [hH, hlocs]; exact hS
  clear hH hlocs
  refine lv_iload_n hx hb dX0_giveNumber_0 rfl (lv_at hl 2 rfl) ?_
  refine lv_iconst (v := (1 : Int32)) hx hb dX0_giveNumber_1 (by decide) ?_
  refine lv_iadd hx hb dX0_giveNumber_2 ?_
  refine lv_topi (fun t3 et3 => ?_)
  have h := st_to h et3
  refine lv_istore_n (lv' := [(3, .int t3), (0, .ref aA), (1, .int x1), (2, .int x2)]) hx hb dX0_giveNumber_3 rfl hl (by decide) rfl (fun ls hl => ?_)
  refine lv_iconst (v := (0 : Int32)) hx hb dX0_giveNumber_4 (by decide) ?_
  refine lv_istore (lv' := [(4, .int (0 : Int32)), (3, .int t3), (0, .ref aA), (1, .int x1), (2, .int x2)]) hx hb dX0_giveNumber_5 hl (by decide) rfl (fun ls hl => ?_)
  exact L7 FU A_letters A_lengths t3 (0 : Int32) ls H locs (lv_sub hl [2, 3, 1, 0] rfl) hP hD hS h
set_option maxHeartbeats 4000000 in
set_option maxRecDepth 100000 in
theorem mX0_lengthOf (g : GP) (l : Launch) (aA aA_letters aA_lengths : Nat) (A_letters : Nat → Int64) (A_lengths : Nat → Int32) (x1 : Int32) (r : Int32) (h : fA_lengthOf A_lengths x1 = some r) : Ct g l yX0_lengthOf cX0_lengthOf 2 (some .int) rmX0_lengthOf [.ref aA, .int x1] (wX0 g aA aA_letters aA_lengths A_letters A_lengths) (some (.int r)) (wX0 g aA aA_letters aA_lengths A_letters A_lengths) := by
  refine Ct.introI (by decide) (Nat.le_of_ble_eq_true rfl) ?_
  intro p e s m below meth c A QQ ls hyp hret
  obtain ⟨hx, hb, hml, hts, hown, hA, hE, hP, hD, hl⟩ := hyp
  have hK := hE.1
  have hS : va_S A s.heap s.heap [] := va_S.rf
  have X : Here g p s m c cX0_lengthOf 2 ([.ref aA, .int x1] : List Value).toArray RX0 A := ⟨⟨hx, hb, hml, hown, hts⟩, hE, hA⟩
  have hl : lv_has ls 2 [(0, .ref aA), (1, .int x1)] := hl
  obtain ⟨H, hH⟩ : ∃ H, H = s.heap := ⟨_, rfl⟩
  obtain ⟨locs, hlocs⟩ : ∃ l : List Loc, l = [] := ⟨_, rfl⟩
  rw [show W p l e rmX0_lengthOf s m ([.ref aA, .int x1] : List Value).toArray below meth c s.heap [] 0 0 QQ (F0 m 0 ls []) = W p l e rmX0_lengthOf s m ([.ref aA, .int x1] : List Value).toArray below meth c H locs 0 0 QQ (F0 m 0 ls []) by rw [hH, hlocs]]
  have hP : va_P g.1 vwCl (wX0 g aA aA_letters aA_lengths A_letters A_lengths) H := by rw [hH]; exact hP
  have hD : va_D A (wX0 g aA aA_letters aA_lengths A_letters A_lengths) := hD
  have hS : va_S A s.heap H locs := by rw [hH, hlocs]; exact hS
  clear hH hlocs
  refine lv_aload_n hx hb dX0_lengthOf_0 rfl (lv_at hl 0 rfl) ?_
  refine va_get (D := g.1) (ci := 0) (v := .ref aA_lengths) (C := RX0) (T := TX0) (N := 2) hx hb hts inBX0 hown hK hP 0 rfl rfl 1 (by decide) (hts _ wd1_128) (fun _ h9 => h9) rfl dX0_lengthOf_1 ?_
  refine lv_iload_n hx hb dX0_lengthOf_4 rfl (lv_at hl 1 rfl) ?_
  refine lv_bipush (v := (7 : Int32)) hx hb dX0_lengthOf_5 (by decide) ?_
  refine lv_iand hx hb dX0_lengthOf_7 ?_
  have hin := ld_in h
  refine va_iald hx hb hK hP 2 0 rfl rfl hin dX0_lengthOf_8 ?_
  refine lv_topi (fun t8 et8 => ?_)
  have h := ld_to h et8
  have h : some t8 = some r := h
  cases h
  exact hret _ _ _ _ hP hD hS dX0_lengthOf_9
set_option maxHeartbeats 4000000 in
set_option maxRecDepth 100000 in
theorem mX5_holds (g : GP) (l : Launch)  (x0 : Int32) (x1 : Int32) (x2 : Int32) (r : Int32) (h : fC_holds x0 x1 x2 = some r) : Ct g l yX5_holds cX5_holds 3 (some .boolean) rmX5_holds [.int x0, .int x1, .int x2] [] (some (.int r)) [] := by
  refine Ct.introZ (by decide) (Nat.le_of_ble_eq_true rfl) ?_
  intro p e s m below meth c A QQ ls hyp hret
  obtain ⟨hx, hb, hml, hts, hown, hA, hE, hP, hD, hl⟩ := hyp
  have hK := hE.1
  have hS : va_S A s.heap s.heap [] := va_S.rf
  have X : Here g p s m c cX5_holds 3 ([.int x0, .int x1, .int x2] : List Value).toArray RX5 A := ⟨⟨hx, hb, hml, hown, hts⟩, hE, hA⟩
  have hl : lv_has ls 3 [(0, .int x0), (1, .int x1), (2, .int x2)] := hl
  obtain ⟨H, hH⟩ : ∃ H, H = s.heap := ⟨_, rfl⟩
  obtain ⟨locs, hlocs⟩ : ∃ l : List Loc, l = [] := ⟨_, rfl⟩
  rw [show W p l e rmX5_holds s m ([.int x0, .int x1, .int x2] : List Value).toArray below meth c s.heap [] 0 0 QQ (F0 m 0 ls []) = W p l e rmX5_holds s m ([.int x0, .int x1, .int x2] : List Value).toArray below meth c H locs 0 0 QQ (F0 m 0 ls []) by rw [hH, hlocs]]
  have hP : va_P g.1 vwCl [] H := by rw [hH]; exact hP
  have hD : va_D A [] := hD
  have hS : va_S A s.heap H locs := by rw [hH, hlocs]; exact hS
  clear hH hlocs
  refine lv_iload_n hx hb dX5_holds_0 rfl (lv_at hl 1 rfl) ?_
  refine lv_bipush (v := (60 : Int32)) hx hb dX5_holds_1 (by decide) ?_
  refine lv_icmp_ne (tgt := 17) hx hb dX5_holds_3 (by decide) (fun q3 => ?_) (fun q3 => ?_)
  · have h := ifF h q3
    refine lv_iload_n hx hb dX5_holds_17 rfl (lv_at hl 1 rfl) ?_
    refine lv_bipush (v := (62 : Int32)) hx hb dX5_holds_18 (by decide) ?_
    refine lv_icmp_ne (tgt := 36) hx hb dX5_holds_20 (by decide) (fun q20 => ?_) (fun q20 => ?_)
    · have h := ifF h q20
      refine lv_iload_n hx hb dX5_holds_36 rfl (lv_at hl 0 rfl) ?_
      refine lv_iload_n hx hb dX5_holds_37 rfl (lv_at hl 2 rfl) ?_
      refine lv_icmp_ne (tgt := 45) hx hb dX5_holds_38 (by decide) (fun q38 => ?_) (fun q38 => ?_)
      · have h := ifF h q38
        refine lv_iconst (v := (0 : Int32)) hx hb dX5_holds_45 (by decide) ?_
        have h : some (0 : Int32) = some r := h
        cases h
        exact hret _ _ _ _ rfl hP hD hS dX5_holds_46
      have h := ifT h q38
      refine lv_iconst (v := (1 : Int32)) hx hb dX5_holds_41 (by decide) ?_
      refine lv_goto (tgt := 46) hx hb dX5_holds_42 (by decide) ?_
      have h : some (1 : Int32) = some r := h
      cases h
      exact hret _ _ _ _ rfl hP hD hS dX5_holds_46
    have h := ifT h q20
    refine lv_iload_n hx hb dX5_holds_23 rfl (lv_at hl 0 rfl) ?_
    refine lv_iload_n hx hb dX5_holds_24 rfl (lv_at hl 2 rfl) ?_
    refine lv_icmp_le (tgt := 32) hx hb dX5_holds_25 (by decide) (fun q25 => ?_) (fun q25 => ?_)
    · have h := ifT h q25
      refine lv_iconst (v := (0 : Int32)) hx hb dX5_holds_32 (by decide) ?_
      refine lv_goto (tgt := 46) hx hb dX5_holds_33 (by decide) ?_
      have h : some (0 : Int32) = some r := h
      cases h
      exact hret _ _ _ _ rfl hP hD hS dX5_holds_46
    have h := ifF h q25
    refine lv_iconst (v := (1 : Int32)) hx hb dX5_holds_28 (by decide) ?_
    refine lv_goto (tgt := 46) hx hb dX5_holds_29 (by decide) ?_
    have h : some (1 : Int32) = some r := h
    cases h
    exact hret _ _ _ _ rfl hP hD hS dX5_holds_46
  have h := ifT h q3
  refine lv_iload_n hx hb dX5_holds_6 rfl (lv_at hl 0 rfl) ?_
  refine lv_iload_n hx hb dX5_holds_7 rfl (lv_at hl 2 rfl) ?_
  refine lv_icmp_ge (tgt := 15) hx hb dX5_holds_8 (by decide) (fun q8 => ?_) (fun q8 => ?_)
  · have h := ifT h q8
    refine lv_iconst (v := (0 : Int32)) hx hb dX5_holds_15 (by decide) ?_
    have h : some (0 : Int32) = some r := h
    cases h
    exact hret _ _ _ _ rfl hP hD hS dX5_holds_16
  have h := ifF h q8
  refine lv_iconst (v := (1 : Int32)) hx hb dX5_holds_11 (by decide) ?_
  refine lv_goto (tgt := 16) hx hb dX5_holds_12 (by decide) ?_
  have h : some (1 : Int32) = some r := h
  cases h
  exact hret _ _ _ _ rfl hP hD hS dX5_holds_16
set_option maxHeartbeats 4000000 in
set_option maxRecDepth 100000 in
theorem mX5_allow (g : GP) (l : Launch) (aC aC_variables aC_relations aC_numbers : Nat) (C_size : Int32) (C_variables : Nat → Int32) (C_relations : Nat → Int32) (C_numbers : Nat → Int32) (x1 : Int32) (x2 : Int32) (r : Int32) (h : fC_allow C_size C_variables C_relations C_numbers x1 x2 = some r) : Ct g l yX5_allow cX5_allow 4 (some .boolean) rmX5_allow [.ref aC, .int x1, .int x2] (wX5 g aC aC_variables aC_relations aC_numbers C_size C_variables C_relations C_numbers) (some (.int r)) (wX5 g aC aC_variables aC_relations aC_numbers C_size C_variables C_relations C_numbers) := by
  refine Ct.introZ (by decide) (Nat.le_of_ble_eq_true rfl) ?_
  intro p e s m below meth c A QQ ls hyp hret
  obtain ⟨hx, hb, hml, hts, hown, hA, hE, hP, hD, hl⟩ := hyp
  have hK := hE.1
  have hS : va_S A s.heap s.heap [] := va_S.rf
  have X : Here g p s m c cX5_allow 4 ([.ref aC, .int x1, .int x2] : List Value).toArray RX5 A := ⟨⟨hx, hb, hml, hown, hts⟩, hE, hA⟩
  have L2 : ∀ (n2 : Nat), ∀ (v3 : Int32) (ls : Array Slot) (H : Heap) (locs : List Loc), lv_has ls 4 [(0, .ref aC), (1, .int x1), (2, .int x2), (3, .int v3)] → va_P g.1 vwCl (wX5 g aC aC_variables aC_relations aC_numbers C_size C_variables C_relations C_numbers) H → va_D A (wX5 g aC aC_variables aC_relations aC_numbers C_size C_variables C_relations C_numbers) → va_S A s.heap H locs → fx1 (fC_allow_2 C_size C_variables C_relations C_numbers x1 x2) n2 v3 = some r → W p l e rmX5_allow s m ([.ref aC, .int x1, .int x2] : List Value).toArray below meth c H locs 0 0 QQ (F0 m 2 ls []) := by
    intro n2
    induction n2 with
    | zero => intro v3 ls H locs hl hP hD hS h; exact fx1_0 h
    | succ n2 ih2 =>
      intro v3 ls H locs hl hP hD hS h
      have h := (fx1_s (fC_allow_2 C_size C_variables C_relations C_numbers x1 x2) n2 v3).symm.trans h
      refine lv_iload_n hx hb dX5_allow_2 rfl (lv_at hl 3 rfl) ?_
      refine lv_aload_n hx hb dX5_allow_3 rfl (lv_at hl 0 rfl) ?_
      refine va_get (D := g.1) (ci := 5) (v := .int C_size) (C := RX5) (T := TX5) (N := 4) hx hb hts inBX5 hown hK hP 0 rfl rfl 3 (by decide) (hts _ wd1_76) (fun _ h9 => h9) rfl dX5_allow_4 ?_
      refine lv_icmp_ge (tgt := 52) hx hb dX5_allow_7 (by decide) (fun q7 => ?_) (fun q7 => ?_)
      · have h := ifT h q7
        refine lv_iconst (v := (1 : Int32)) hx hb dX5_allow_52 (by decide) ?_
        have h : some (1 : Int32) = some r := h
        cases h
        exact hret _ _ _ _ rfl hP hD hS dX5_allow_53
      have h := ifF h q7
      refine lv_iload_n hx hb dX5_allow_10 rfl (lv_at hl 3 rfl) ?_
      refine lv_iconst (v := (4 : Int32)) hx hb dX5_allow_11 (by decide) ?_
      refine lv_icmp_ge (tgt := 52) hx hb dX5_allow_12 (by decide) (fun q12 => ?_) (fun q12 => ?_)
      · have h := ifT h q12
        refine lv_iconst (v := (1 : Int32)) hx hb dX5_allow_52 (by decide) ?_
        have h : some (1 : Int32) = some r := h
        cases h
        exact hret _ _ _ _ rfl hP hD hS dX5_allow_53
      have h := ifF h q12
      refine lv_aload_n hx hb dX5_allow_15 rfl (lv_at hl 0 rfl) ?_
      refine va_get (D := g.1) (ci := 5) (v := .ref aC_variables) (C := RX5) (T := TX5) (N := 4) hx hb hts inBX5 hown hK hP 0 rfl rfl 0 (by decide) (hts _ wd1_73) (fun _ h9 => h9) rfl dX5_allow_16 ?_
      refine lv_iload_n hx hb dX5_allow_19 rfl (lv_at hl 3 rfl) ?_
      have hin := ld_in h
      refine va_iald hx hb hK hP 1 0 rfl rfl hin dX5_allow_20 ?_
      refine lv_topi (fun t20 et20 => ?_)
      have h := ld_to h et20
      refine lv_iload_n hx hb dX5_allow_21 rfl (lv_at hl 1 rfl) ?_
      refine lv_icmp_ne (tgt := 46) hx hb dX5_allow_22 (by decide) (fun q22 => ?_) (fun q22 => ?_)
      · have h := ifF h q22
        obtain ⟨t46, et46⟩ : ∃ y : Int32, y = v3 + (1 : Int32) := ⟨_, rfl⟩
        refine lv_iinc (v := t46) (lv' := [(3, .int t46), (0, .ref aC), (1, .int x1), (2, .int x2)]) hx hb dX5_allow_46 hl (k := 3) rfl (by rw [et46]; rfl) (by decide) rfl (fun ls hl => ?_)
        have h := st_to h et46
        refine lv_goto (tgt := 2) hx hb dX5_allow_49 (by decide) ?_
        exact ih2 t46 ls H locs (lv_sub hl [1, 2, 3, 0] rfl) hP hD hS h
      have h := ifT h q22
      refine lv_iload_n hx hb dX5_allow_25 rfl (lv_at hl 2 rfl) ?_
      refine lv_aload_n hx hb dX5_allow_26 rfl (lv_at hl 0 rfl) ?_
      refine va_get (D := g.1) (ci := 5) (v := .ref aC_relations) (C := RX5) (T := TX5) (N := 4) hx hb hts inBX5 hown hK hP 0 rfl rfl 1 (by decide) (hts _ wd1_74) (fun _ h9 => h9) rfl dX5_allow_27 ?_
      refine lv_iload_n hx hb dX5_allow_30 rfl (lv_at hl 3 rfl) ?_
      have hin := ld_in h
      refine va_cald hx hb hK hP 2 2 rfl rfl hin dX5_allow_31 ?_
      refine lv_topi (fun t31 et31 => ?_)
      have h := ld_to h et31
      refine lv_aload_n hx hb dX5_allow_32 rfl (lv_at hl 0 rfl) ?_
      refine va_get (D := g.1) (ci := 5) (v := .ref aC_numbers) (C := RX5) (T := TX5) (N := 4) hx hb hts inBX5 hown hK hP 0 rfl rfl 2 (by decide) (hts _ wd1_75) (fun _ h9 => h9) rfl dX5_allow_33 ?_
      refine lv_iload_n hx hb dX5_allow_36 rfl (lv_at hl 3 rfl) ?_
      have hin := ld_in h
      refine va_iald hx hb hK hP 3 0 rfl rfl hin dX5_allow_37 ?_
      refine lv_topi (fun t37 et37 => ?_)
      have h := ld_to h et37
      obtain ⟨t38, hc38, h⟩ := bd1_to h
      refine go_0 (st1 := [.int t38]) (run_S (As := [.int x2, .int t31, .int t37]) (rest := []) X hS (mX5_holds g l  x2 t31 t37 t38 hc38) okX5_holds wd3_160 ⟨Nat.le_of_ble_eq_true rfl, Nat.le_of_ble_eq_true rfl⟩ ⟨rfl, rfl⟩ nil_P nil_D (nil_F hS hA) rfl hl.1 rfl (Nat.le_of_ble_eq_true rfl) dX5_allow_38 ⟨Nat.zero_le _, Nat.zero_le _⟩) hS hA hP rfl (fun H locs hP hS => ?_)
      refine lv_if_ne (tgt := 46) hx hb dX5_allow_41 (by decide) (fun q41 => ?_) (fun q41 => ?_)
      · have h := ifF h q41
        obtain ⟨t46, et46⟩ : ∃ y : Int32, y = v3 + (1 : Int32) := ⟨_, rfl⟩
        refine lv_iinc (v := t46) (lv' := [(3, .int t46), (0, .ref aC), (1, .int x1), (2, .int x2)]) hx hb dX5_allow_46 hl (k := 3) rfl (by rw [et46]; rfl) (by decide) rfl (fun ls hl => ?_)
        have h := st_to h et46
        refine lv_goto (tgt := 2) hx hb dX5_allow_49 (by decide) ?_
        exact ih2 t46 ls H locs (lv_sub hl [1, 2, 3, 0] rfl) hP hD hS h
      have h := ifT h q41
      refine lv_iconst (v := (0 : Int32)) hx hb dX5_allow_44 (by decide) ?_
      have h : some (0 : Int32) = some r := h
      cases h
      exact hret _ _ _ _ rfl hP hD hS dX5_allow_45
  have hl : lv_has ls 4 [(0, .ref aC), (1, .int x1), (2, .int x2)] := hl
  obtain ⟨H, hH⟩ : ∃ H, H = s.heap := ⟨_, rfl⟩
  obtain ⟨locs, hlocs⟩ : ∃ l : List Loc, l = [] := ⟨_, rfl⟩
  rw [show W p l e rmX5_allow s m ([.ref aC, .int x1, .int x2] : List Value).toArray below meth c s.heap [] 0 0 QQ (F0 m 0 ls []) = W p l e rmX5_allow s m ([.ref aC, .int x1, .int x2] : List Value).toArray below meth c H locs 0 0 QQ (F0 m 0 ls []) by rw [hH, hlocs]]
  have hP : va_P g.1 vwCl (wX5 g aC aC_variables aC_relations aC_numbers C_size C_variables C_relations C_numbers) H := by rw [hH]; exact hP
  have hD : va_D A (wX5 g aC aC_variables aC_relations aC_numbers C_size C_variables C_relations C_numbers) := hD
  have hS : va_S A s.heap H locs := by rw [hH, hlocs]; exact hS
  clear hH hlocs
  refine lv_iconst (v := (0 : Int32)) hx hb dX5_allow_0 (by decide) ?_
  refine lv_istore_n (lv' := [(3, .int (0 : Int32)), (0, .ref aC), (1, .int x1), (2, .int x2)]) hx hb dX5_allow_1 rfl hl (by decide) rfl (fun ls hl => ?_)
  exact L2 FU (0 : Int32) ls H locs (lv_sub hl [1, 2, 3, 0] rfl) hP hD hS h
set_option maxHeartbeats 4000000 in
set_option maxRecDepth 100000 in
theorem mX0_spelled (g : GP) (l : Launch) (aA aA_letters aA_lengths : Nat) (A_letters : Nat → Int64) (A_lengths : Nat → Int32) (x1 : Int64) (r : Int64) (h : fA_spelled A_letters A_lengths x1 = some r) : Ct g l yX0_spelled cX0_spelled 9 (some .long) rmX0_spelled [.ref aA, .long x1] (wX0 g aA aA_letters aA_lengths A_letters A_lengths) (some (.long r)) (wX0 g aA aA_letters aA_lengths A_letters A_lengths) := by
  refine Ct.introL (by decide) (Nat.le_of_ble_eq_true rfl) ?_
  intro p e s m below meth c A QQ ls hyp hret
  obtain ⟨hx, hb, hml, hts, hown, hA, hE, hP, hD, hl⟩ := hyp
  have hK := hE.1
  have hS : va_S A s.heap s.heap [] := va_S.rf
  have X : Here g p s m c cX0_spelled 9 ([.ref aA, .long x1] : List Value).toArray RX0 A := ⟨⟨hx, hb, hml, hown, hts⟩, hE, hA⟩
  have L8 : ∀ (n8 : Nat), ∀ (v3 : Int64) (v5 : Int64) (v7 : Int32) (ls : Array Slot) (H : Heap) (locs : List Loc), lv_has ls 9 [(0, .ref aA), (3, .long v3), (5, .long v5), (7, .int v7)] → va_P g.1 vwCl (wX0 g aA aA_letters aA_lengths A_letters A_lengths) H → va_D A (wX0 g aA aA_letters aA_lengths A_letters A_lengths) → va_S A s.heap H locs → fx3 (fA_spelled_8 A_letters A_lengths) n8 v3 v5 v7 = some r → W p l e rmX0_spelled s m ([.ref aA, .long x1] : List Value).toArray below meth c H locs 0 0 QQ (F0 m 8 ls []) := by
    intro n8
    induction n8 with
    | zero => intro v3 v5 v7 ls H locs hl hP hD hS h; exact fx3_0 h
    | succ n8 ih8 =>
      intro v3 v5 v7 ls H locs hl hP hD hS h
      have h := (fx3_s (fA_spelled_8 A_letters A_lengths) n8 v3 v5 v7).symm.trans h
      refine lv_iload hx hb dX0_spelled_8 (lv_at hl 3 rfl) ?_
      refine lv_bipush (v := (12 : Int32)) hx hb dX0_spelled_10 (by decide) ?_
      refine lv_icmp_ge (tgt := 60) hx hb dX0_spelled_12 (by decide) (fun q12 => ?_) (fun q12 => ?_)
      · have h := ifT h q12
        refine lv_lload_n hx hb dX0_spelled_60 rfl (lv_at hl 1 rfl) ?_
        have h : some v3 = some r := h
        cases h
        exact hret _ _ _ _ hP hD hS dX0_spelled_61
      have h := ifF h q12
      refine lv_lload hx hb dX0_spelled_15 (lv_at hl 2 rfl) ?_
      refine lv_lconst (v := (0 : Int64)) hx hb dX0_spelled_17 (by decide) ?_
      refine W.lcmp hx hb dX0_spelled_18 ?_
      refine lv_if_eq (tgt := 60) hx hb dX0_spelled_19 (by decide) (fun q19 => ?_) (fun q19 => ?_)
      · have h := ifT h q19
        refine lv_lload_n hx hb dX0_spelled_60 rfl (lv_at hl 1 rfl) ?_
        have h : some v3 = some r := h
        cases h
        exact hret _ _ _ _ hP hD hS dX0_spelled_61
      have h := ifF h q19
      refine lv_lload hx hb dX0_spelled_22 (lv_at hl 2 rfl) ?_
      refine lv_l2i (v := (Int64.toInt32 v5)) hx hb dX0_spelled_24 rfl ?_
      refine lv_bipush (v := (7 : Int32)) hx hb dX0_spelled_25 (by decide) ?_
      refine lv_iand hx hb dX0_spelled_27 ?_
      refine lv_topi (fun t28 et28 => ?_)
      have h := st_to h et28
      refine lv_istore (lv' := [(8, .int t28), (0, .ref aA), (3, .long v3), (5, .long v5), (7, .int v7)]) hx hb dX0_spelled_28 hl (by decide) rfl (fun ls hl => ?_)
      refine lv_lload_n hx hb dX0_spelled_30 rfl (lv_at hl 2 rfl) ?_
      refine lv_aload_n hx hb dX0_spelled_31 rfl (lv_at hl 1 rfl) ?_
      refine va_get (D := g.1) (ci := 0) (v := .ref aA_lengths) (C := RX0) (T := TX0) (N := 2) hx hb hts inBX0 hown hK hP 0 rfl rfl 1 (by decide) (hts _ wd1_128) (fun _ h9 => h9) rfl dX0_spelled_32 ?_
      refine lv_iload hx hb dX0_spelled_35 (lv_at hl 0 rfl) ?_
      have hin := ld_in h
      refine va_iald hx hb hK hP 2 0 rfl rfl hin dX0_spelled_37 ?_
      refine lv_topi (fun t37 et37 => ?_)
      have h := ld_to h et37
      refine lv_lshl (v := (shlL v3 t37)) hx hb dX0_spelled_38 rfl ?_
      refine lv_aload_n hx hb dX0_spelled_39 rfl (lv_at hl 1 rfl) ?_
      refine va_get (D := g.1) (ci := 0) (v := .ref aA_letters) (C := RX0) (T := TX0) (N := 2) hx hb hts inBX0 hown hK hP 0 rfl rfl 0 (by decide) (hts _ wd1_127) (fun _ h9 => h9) rfl dX0_spelled_40 ?_
      refine lv_iload hx hb dX0_spelled_43 (lv_at hl 0 rfl) ?_
      have hin := ld_in h
      refine va_lald hx hb hK hP 1 1 rfl rfl hin dX0_spelled_45 ?_
      refine lv_topl (fun t45 et45 => ?_)
      have h := ld_to h et45
      refine lv_lor hx hb dX0_spelled_46 ?_
      refine lv_topl (fun t47 et47 => ?_)
      have h := st_to h et47
      refine lv_lstore_n (lv' := [(3, .long t47), (8, .int t28), (0, .ref aA), (5, .long v5), (7, .int v7)]) hx hb dX0_spelled_47 rfl hl (by decide) rfl (fun ls hl => ?_)
      refine lv_lload hx hb dX0_spelled_48 (lv_at hl 3 rfl) ?_
      refine lv_iconst (v := (3 : Int32)) hx hb dX0_spelled_50 (by decide) ?_
      refine lv_lushr (v := (ushrL v5 (3 : Int32))) hx hb dX0_spelled_51 rfl ?_
      refine lv_topl (fun t52 et52 => ?_)
      have h := st_to h et52
      refine lv_lstore (lv' := [(5, .long t52), (3, .long t47), (8, .int t28), (0, .ref aA), (7, .int v7)]) hx hb dX0_spelled_52 hl (by decide) rfl (fun ls hl => ?_)
      obtain ⟨t54, et54⟩ : ∃ y : Int32, y = v7 + (1 : Int32) := ⟨_, rfl⟩
      refine lv_iinc (v := t54) (lv' := [(7, .int t54), (5, .long t52), (3, .long t47), (8, .int t28), (0, .ref aA)]) hx hb dX0_spelled_54 hl (k := 4) rfl (by rw [et54]; rfl) (by decide) rfl (fun ls hl => ?_)
      have h := st_to h et54
      refine lv_goto (tgt := 8) hx hb dX0_spelled_57 (by decide) ?_
      exact ih8 t47 t52 t54 ls H locs (lv_sub hl [4, 2, 1, 0] rfl) hP hD hS h
  have hl : lv_has ls 9 [(0, .ref aA), (1, .long x1)] := hl
  obtain ⟨H, hH⟩ : ∃ H, H = s.heap := ⟨_, rfl⟩
  obtain ⟨locs, hlocs⟩ : ∃ l : List Loc, l = [] := ⟨_, rfl⟩
  rw [show W p l e rmX0_spelled s m ([.ref aA, .long x1] : List Value).toArray below meth c s.heap [] 0 0 QQ (F0 m 0 ls []) = W p l e rmX0_spelled s m ([.ref aA, .long x1] : List Value).toArray below meth c H locs 0 0 QQ (F0 m 0 ls []) by rw [hH, hlocs]]
  have hP : va_P g.1 vwCl (wX0 g aA aA_letters aA_lengths A_letters A_lengths) H := by rw [hH]; exact hP
  have hD : va_D A (wX0 g aA aA_letters aA_lengths A_letters A_lengths) := hD
  have hS : va_S A s.heap H locs := by rw [hH, hlocs]; exact hS
  clear hH hlocs
  refine lv_lconst (v := (1 : Int64)) hx hb dX0_spelled_0 (by decide) ?_
  refine lv_lstore_n (lv' := [(3, .long (1 : Int64)), (0, .ref aA), (1, .long x1)]) hx hb dX0_spelled_1 rfl hl (by decide) rfl (fun ls hl => ?_)
  refine lv_lload_n hx hb dX0_spelled_2 rfl (lv_at hl 2 rfl) ?_
  refine lv_lstore (lv' := [(5, .long x1), (3, .long (1 : Int64)), (0, .ref aA), (1, .long x1)]) hx hb dX0_spelled_3 hl (by decide) rfl (fun ls hl => ?_)
  refine lv_iconst (v := (0 : Int32)) hx hb dX0_spelled_5 (by decide) ?_
  refine lv_istore (lv' := [(7, .int (0 : Int32)), (5, .long x1), (3, .long (1 : Int64)), (0, .ref aA), (1, .long x1)]) hx hb dX0_spelled_6 hl (by decide) rfl (fun ls hl => ?_)
  exact L8 FU (1 : Int64) x1 (0 : Int32) ls H locs (lv_sub hl [3, 2, 1, 0] rfl) hP hD hS h
set_option maxHeartbeats 4000000 in
set_option maxRecDepth 100000 in
theorem mX0_equates (g : GP) (l : Launch) (aA aA_letters aA_lengths : Nat) (A_letters : Nat → Int64) (A_lengths : Nat → Int32) (x1 : Int64) (x3 : Int64) (r : Int32) (h : fA_equates A_letters A_lengths x1 x3 = some r) : Ct g l yX0_equates cX0_equates 5 (some .boolean) rmX0_equates [.ref aA, .long x1, .long x3] (wX0 g aA aA_letters aA_lengths A_letters A_lengths) (some (.int r)) (wX0 g aA aA_letters aA_lengths A_letters A_lengths) := by
  refine Ct.introZ (by decide) (Nat.le_of_ble_eq_true rfl) ?_
  intro p e s m below meth c A QQ ls hyp hret
  obtain ⟨hx, hb, hml, hts, hown, hA, hE, hP, hD, hl⟩ := hyp
  have hK := hE.1
  have hS : va_S A s.heap s.heap [] := va_S.rf
  have X : Here g p s m c cX0_equates 5 ([.ref aA, .long x1, .long x3] : List Value).toArray RX0 A := ⟨⟨hx, hb, hml, hown, hts⟩, hE, hA⟩
  have hl : lv_has ls 5 [(0, .ref aA), (1, .long x1), (3, .long x3)] := hl
  obtain ⟨H, hH⟩ : ∃ H, H = s.heap := ⟨_, rfl⟩
  obtain ⟨locs, hlocs⟩ : ∃ l : List Loc, l = [] := ⟨_, rfl⟩
  rw [show W p l e rmX0_equates s m ([.ref aA, .long x1, .long x3] : List Value).toArray below meth c s.heap [] 0 0 QQ (F0 m 0 ls []) = W p l e rmX0_equates s m ([.ref aA, .long x1, .long x3] : List Value).toArray below meth c H locs 0 0 QQ (F0 m 0 ls []) by rw [hH, hlocs]]
  have hP : va_P g.1 vwCl (wX0 g aA aA_letters aA_lengths A_letters A_lengths) H := by rw [hH]; exact hP
  have hD : va_D A (wX0 g aA aA_letters aA_lengths A_letters A_lengths) := hD
  have hS : va_S A s.heap H locs := by rw [hH, hlocs]; exact hS
  clear hH hlocs
  refine lv_aload_n hx hb dX0_equates_0 rfl (lv_at hl 0 rfl) ?_
  refine lv_lload_n hx hb dX0_equates_1 rfl (lv_at hl 1 rfl) ?_
  obtain ⟨t2, hc2, h⟩ := bd1_to h
  refine go_A (st1 := [.long t2]) (run_V (As := [.long x1]) (rest := []) X hS (mX0_spelled g l  aA aA_letters aA_lengths A_letters A_lengths x1 t2 hc2) okX0_spelled wd3_167 ⟨Nat.le_of_ble_eq_true rfl, Nat.le_of_ble_eq_true rfl⟩ ⟨rfl, rfl⟩ (va_recv hK hP (ci := 0) (q0 := 0) rfl rfl) hP hD (all_F hS hA hD) rfl hl.1 rfl (Nat.le_of_ble_eq_true rfl) dX0_equates_2 ⟨Nat.zero_le _, Nat.zero_le _⟩) hS (all_F hS hA hD) rfl (fun H locs hP hD hS => ?_)
  refine lv_aload_n hx hb dX0_equates_5 rfl (lv_at hl 0 rfl) ?_
  refine lv_lload_n hx hb dX0_equates_6 rfl (lv_at hl 2 rfl) ?_
  obtain ⟨t7, hc7, h⟩ := bd1_to h
  refine go_A (st1 := [.long t7, .long t2]) (run_V (As := [.long x3]) (rest := [.long t2]) X hS (mX0_spelled g l  aA aA_letters aA_lengths A_letters A_lengths x3 t7 hc7) okX0_spelled wd3_167 ⟨Nat.le_of_ble_eq_true rfl, Nat.le_of_ble_eq_true rfl⟩ ⟨rfl, rfl⟩ (va_recv hK hP (ci := 0) (q0 := 0) rfl rfl) hP hD (all_F hS hA hD) rfl hl.1 rfl (Nat.le_of_ble_eq_true rfl) dX0_equates_7 ⟨Nat.zero_le _, Nat.zero_le _⟩) hS (all_F hS hA hD) rfl (fun H locs hP hD hS => ?_)
  refine W.lcmp hx hb dX0_equates_10 ?_
  refine lv_if_ne (tgt := 18) hx hb dX0_equates_11 (by decide) (fun q11 => ?_) (fun q11 => ?_)
  · have h := ifF h q11
    refine lv_iconst (v := (0 : Int32)) hx hb dX0_equates_18 (by decide) ?_
    have h : some (0 : Int32) = some r := h
    cases h
    exact hret _ _ _ _ rfl hP hD hS dX0_equates_19
  have h := ifT h q11
  refine lv_iconst (v := (1 : Int32)) hx hb dX0_equates_14 (by decide) ?_
  refine lv_goto (tgt := 19) hx hb dX0_equates_15 (by decide) ?_
  have h : some (1 : Int32) = some r := h
  cases h
  exact hret _ _ _ _ rfl hP hD hS dX0_equates_19
set_option maxHeartbeats 4000000 in
set_option maxRecDepth 100000 in
theorem mX11_holdsFor (g : GP) (l : Launch) (aX aT aT_characters aE aH aH_lefts aH_rights aS aS_lefts aS_rights aS_filled aA aA_letters aA_lengths aK aB aB_first aQ aQ_weights aQ_possible aC aC_variables aC_relations aC_numbers aA2 aA2_letters aA2_lengths aN aN_lefts aN_rights aN_parents aN_rules aN_depths aE2 : Nat) (T_size : Int32) (T_characters : Nat → Int32) (E_left : Int64) (E_right : Int64) (H_size : Int32) (H_lefts : Nat → Int64) (H_rights : Nat → Int64) (S_lefts : Nat → Int64) (S_rights : Nat → Int64) (S_filled : Nat → Int32) (A_letters : Nat → Int64) (A_lengths : Nat → Int32) (B_left : Int64) (B_right : Int64) (B_found : Int32) (B_least : Int32) (B_first : Nat → Int32) (Q_letterSurplus : Int32) (Q_weights : Nat → Int32) (Q_possible : Nat → Int32) (C_size : Int32) (C_variables : Nat → Int32) (C_relations : Nat → Int32) (C_numbers : Nat → Int32) (A2_letters : Nat → Int64) (A2_lengths : Nat → Int32) (N_size : Int32) (N_solved : Int32) (N_dropped : Int32) (N_lefts : Nat → Int64) (N_rights : Nat → Int64) (N_parents : Nat → Int32) (N_rules : Nat → Int32) (N_depths : Nat → Int32) (E2_left : Int64) (E2_right : Int64) (x1 : Int32) (x2 : Int32) (x3 : Int32) (x4 : Int32) (r : Int32) (A_letters_o : Nat → Int64) (A_lengths_o : Nat → Int32) (h : fX_holdsFor E_left E_right A_letters A_lengths C_size C_variables C_relations C_numbers x1 x2 x3 x4 = some (r, A_letters_o, A_lengths_o)) : Ct g l yX11_holdsFor cX11_holdsFor 6 (some .boolean) rmX11_holdsFor [.ref aX, .int x1, .int x2, .int x3, .int x4] (wX11 g aX aT aT_characters aE aH aH_lefts aH_rights aS aS_lefts aS_rights aS_filled aA aA_letters aA_lengths aK aB aB_first aQ aQ_weights aQ_possible aC aC_variables aC_relations aC_numbers aA2 aA2_letters aA2_lengths aN aN_lefts aN_rights aN_parents aN_rules aN_depths aE2 T_size T_characters E_left E_right H_size H_lefts H_rights S_lefts S_rights S_filled A_letters A_lengths B_left B_right B_found B_least B_first Q_letterSurplus Q_weights Q_possible C_size C_variables C_relations C_numbers A2_letters A2_lengths N_size N_solved N_dropped N_lefts N_rights N_parents N_rules N_depths E2_left E2_right) (some (.int r)) (wX11 g aX aT aT_characters aE aH aH_lefts aH_rights aS aS_lefts aS_rights aS_filled aA aA_letters aA_lengths aK aB aB_first aQ aQ_weights aQ_possible aC aC_variables aC_relations aC_numbers aA2 aA2_letters aA2_lengths aN aN_lefts aN_rights aN_parents aN_rules aN_depths aE2 T_size T_characters E_left E_right H_size H_lefts H_rights S_lefts S_rights S_filled A_letters_o A_lengths_o B_left B_right B_found B_least B_first Q_letterSurplus Q_weights Q_possible C_size C_variables C_relations C_numbers A2_letters A2_lengths N_size N_solved N_dropped N_lefts N_rights N_parents N_rules N_depths E2_left E2_right) := by
  refine Ct.introZ (by decide) (Nat.le_of_ble_eq_true rfl) ?_
  intro p e s m below meth c A QQ ls hyp hret
  obtain ⟨hx, hb, hml, hts, hown, hA, hE, hP, hD, hl⟩ := hyp
  have hK := hE.1
  have hS : va_S A s.heap s.heap [] := va_S.rf
  have X : Here g p s m c cX11_holdsFor 6 ([.ref aX, .int x1, .int x2, .int x3, .int x4] : List Value).toArray RX11 A := ⟨⟨hx, hb, hml, hown, hts⟩, hE, hA⟩
  have L52 : ∀ (n52 : Nat), ∀ (A_letters : Nat → Int64) (A_lengths : Nat → Int32) (v5 : Int32) (ls : Array Slot) (H : Heap) (locs : List Loc), lv_has ls 6 [(0, .ref aX), (5, .int v5)] → va_P g.1 vwCl (wX11 g aX aT aT_characters aE aH aH_lefts aH_rights aS aS_lefts aS_rights aS_filled aA aA_letters aA_lengths aK aB aB_first aQ aQ_weights aQ_possible aC aC_variables aC_relations aC_numbers aA2 aA2_letters aA2_lengths aN aN_lefts aN_rights aN_parents aN_rules aN_depths aE2 T_size T_characters E_left E_right H_size H_lefts H_rights S_lefts S_rights S_filled A_letters A_lengths B_left B_right B_found B_least B_first Q_letterSurplus Q_weights Q_possible C_size C_variables C_relations C_numbers A2_letters A2_lengths N_size N_solved N_dropped N_lefts N_rights N_parents N_rules N_depths E2_left E2_right) H → va_D A (wX11 g aX aT aT_characters aE aH aH_lefts aH_rights aS aS_lefts aS_rights aS_filled aA aA_letters aA_lengths aK aB aB_first aQ aQ_weights aQ_possible aC aC_variables aC_relations aC_numbers aA2 aA2_letters aA2_lengths aN aN_lefts aN_rights aN_parents aN_rules aN_depths aE2 T_size T_characters E_left E_right H_size H_lefts H_rights S_lefts S_rights S_filled A_letters A_lengths B_left B_right B_found B_least B_first Q_letterSurplus Q_weights Q_possible C_size C_variables C_relations C_numbers A2_letters A2_lengths N_size N_solved N_dropped N_lefts N_rights N_parents N_rules N_depths E2_left E2_right) → va_S A s.heap H locs → fx1 (fX_holdsFor_52 E_left E_right A_letters A_lengths C_size C_variables C_relations C_numbers) n52 v5 = some (r, A_letters_o, A_lengths_o) → W p l e rmX11_holdsFor s m ([.ref aX, .int x1, .int x2, .int x3, .int x4] : List Value).toArray below meth c H locs 0 0 QQ (F0 m 52 ls []) := by
    intro n52
    induction n52 with
    | zero => intro A_letters A_lengths v5 ls H locs hl hP hD hS h; exact fx1_0 h
    | succ n52 ih52 =>
      intro A_letters A_lengths v5 ls H locs hl hP hD hS h
      have h := (fx1_s (fX_holdsFor_52 E_left E_right A_letters A_lengths C_size C_variables C_relations C_numbers) n52 v5).symm.trans h
      refine lv_iload hx hb dX11_holdsFor_52 (lv_at hl 1 rfl) ?_
      refine lv_iconst (v := (4 : Int32)) hx hb dX11_holdsFor_54 (by decide) ?_
      refine lv_icmp_ge (tgt := 90) hx hb dX11_holdsFor_55 (by decide) (fun q55 => ?_) (fun q55 => ?_)
      · have h := ifT h q55
        refine lv_aload_n hx hb dX11_holdsFor_90 rfl (lv_at hl 0 rfl) ?_
        refine va_get (D := g.1) (ci := 10) (v := .ref aA) (C := RX11) (T := TX11) (N := 10) hx hb hts inBX11 hown hK hP 0 rfl rfl 5 (by decide) (hts _ wd1_237) (fun _ h9 => h9) rfl dX11_holdsFor_91 ?_
        refine lv_aload_n hx hb dX11_holdsFor_94 rfl (lv_at hl 0 rfl) ?_
        refine va_get (D := g.1) (ci := 10) (v := .ref aE) (C := RX11) (T := TX11) (N := 10) hx hb hts inBX11 hown hK hP 0 rfl rfl 1 (by decide) (hts _ wd1_233) (fun _ h9 => h9) rfl dX11_holdsFor_95 ?_
        refine va_get (D := g.1) (ci := 2) (v := .long E_left) (C := RX2) (T := TX2) (N := 2) hx hb hts inBX2 hown hK hP 3 rfl rfl 0 (by decide) (hts _ wd1_54) (fun _ h9 => h9) rfl dX11_holdsFor_98 ?_
        refine lv_aload_n hx hb dX11_holdsFor_101 rfl (lv_at hl 0 rfl) ?_
        refine va_get (D := g.1) (ci := 10) (v := .ref aE) (C := RX11) (T := TX11) (N := 10) hx hb hts inBX11 hown hK hP 0 rfl rfl 1 (by decide) (hts _ wd1_233) (fun _ h9 => h9) rfl dX11_holdsFor_102 ?_
        refine va_get (D := g.1) (ci := 2) (v := .long E_right) (C := RX2) (T := TX2) (N := 2) hx hb hts inBX2 hown hK hP 3 rfl rfl 1 (by decide) (hts _ wd1_61) (fun _ h9 => h9) rfl dX11_holdsFor_105 ?_
        obtain ⟨t108, hc108, h⟩ := bd1_to h
        refine go_P (st1 := [.int t108]) (W1 := (wX11 g aX aT aT_characters aE aH aH_lefts aH_rights aS aS_lefts aS_rights aS_filled aA aA_letters aA_lengths aK aB aB_first aQ aQ_weights aQ_possible aC aC_variables aC_relations aC_numbers aA2 aA2_letters aA2_lengths aN aN_lefts aN_rights aN_parents aN_rules aN_depths aE2 T_size T_characters E_left E_right H_size H_lefts H_rights S_lefts S_rights S_filled A_letters A_lengths B_left B_right B_found B_least B_first Q_letterSurplus Q_weights Q_possible C_size C_variables C_relations C_numbers A2_letters A2_lengths N_size N_solved N_dropped N_lefts N_rights N_parents N_rules N_depths E2_left E2_right)) (run_V (As := [.long E_left, .long E_right]) (rest := []) X hS (mX0_equates g l  aA aA_letters aA_lengths A_letters A_lengths E_left E_right t108 hc108) okX0_equates wd3_163 ⟨Nat.le_of_ble_eq_true rfl, Nat.le_of_ble_eq_true rfl⟩ ⟨rfl, rfl⟩ (va_recv hK hP (ci := 0) (q0 := 11) rfl rfl) (sub_P hP [11, 12, 13] rfl) (hD.sub [11, 12, 13] (by decide) rfl) (va_free hD hS hA [11, 12, 13] rfl) rfl hl.1 rfl (Nat.le_of_ble_eq_true rfl) dX11_holdsFor_108 ⟨Nat.zero_le _, Nat.zero_le _⟩) hS (va_free hD hS hA [11, 12, 13] rfl) hP hD [11, 12, 13] [0, 1, 2, 3, 4, 5, 6, 7, 8, 9, 10, 14, 15, 16, 17, 18, 19, 20, 21, 22, 23, 24, 25, 26, 27, 28, 29, 30, 31, 32, 33] [0, 1, 2, 3, 4, 5, 6, 7, 8, 9, 10, 31, 32, 33, 11, 12, 13, 14, 15, 16, 17, 18, 19, 20, 21, 22, 23, 24, 25, 26, 27, 28, 29, 30] rfl rfl (by decide) (by decide) rfl (by decide) rfl (fun H locs hP hD hS => ?_)
        have z111 := ckz_is h
        have h := ckz_to h
        have h : some (t108, A_letters, A_lengths) = some (r, A_letters_o, A_lengths_o) := h
        cases h
        exact hret _ _ _ _ (nz_nar z111) hP hD hS dX11_holdsFor_111
      have h := ifF h q55
      refine lv_aload_n hx hb dX11_holdsFor_58 rfl (lv_at hl 0 rfl) ?_
      refine va_get (D := g.1) (ci := 10) (v := .ref aC) (C := RX11) (T := TX11) (N := 10) hx hb hts inBX11 hown hK hP 0 rfl rfl 2 (by decide) (hts _ wd1_234) (fun _ h9 => h9) rfl dX11_holdsFor_59 ?_
      refine lv_iload hx hb dX11_holdsFor_62 (lv_at hl 1 rfl) ?_
      refine lv_aload_n hx hb dX11_holdsFor_64 rfl (lv_at hl 0 rfl) ?_
      refine va_get (D := g.1) (ci := 10) (v := .ref aA) (C := RX11) (T := TX11) (N := 10) hx hb hts inBX11 hown hK hP 0 rfl rfl 5 (by decide) (hts _ wd1_237) (fun _ h9 => h9) rfl dX11_holdsFor_65 ?_
      refine lv_iload hx hb dX11_holdsFor_68 (lv_at hl 1 rfl) ?_
      obtain ⟨t70, hc70, h⟩ := bd1_to h
      refine go_0 (st1 := [.int t70, .ref aA, .int v5, .ref aC]) (run_S (As := [.int v5]) (rest := [.ref aA, .int v5, .ref aC]) X hS (mX9_variable g l  v5 t70 hc70) okX9_variable wd3_11 ⟨Nat.le_of_ble_eq_true rfl, Nat.le_of_ble_eq_true rfl⟩ ⟨rfl, rfl⟩ nil_P nil_D (nil_F hS hA) rfl hl.1 rfl (Nat.le_of_ble_eq_true rfl) dX11_holdsFor_70 ⟨Nat.zero_le _, Nat.zero_le _⟩) hS hA hP rfl (fun H locs hP hS => ?_)
      obtain ⟨t73, hc73, h⟩ := bd1_to h
      refine go_P (st1 := [.int t73, .int v5, .ref aC]) (W1 := (wX11 g aX aT aT_characters aE aH aH_lefts aH_rights aS aS_lefts aS_rights aS_filled aA aA_letters aA_lengths aK aB aB_first aQ aQ_weights aQ_possible aC aC_variables aC_relations aC_numbers aA2 aA2_letters aA2_lengths aN aN_lefts aN_rights aN_parents aN_rules aN_depths aE2 T_size T_characters E_left E_right H_size H_lefts H_rights S_lefts S_rights S_filled A_letters A_lengths B_left B_right B_found B_least B_first Q_letterSurplus Q_weights Q_possible C_size C_variables C_relations C_numbers A2_letters A2_lengths N_size N_solved N_dropped N_lefts N_rights N_parents N_rules N_depths E2_left E2_right)) (run_V (As := [.int t70]) (rest := [.int v5, .ref aC]) X hS (mX0_lengthOf g l  aA aA_letters aA_lengths A_letters A_lengths t70 t73 hc73) okX0_lengthOf wd3_152 ⟨Nat.le_of_ble_eq_true rfl, Nat.le_of_ble_eq_true rfl⟩ ⟨rfl, rfl⟩ (va_recv hK hP (ci := 0) (q0 := 11) rfl rfl) (sub_P hP [11, 12, 13] rfl) (hD.sub [11, 12, 13] (by decide) rfl) (va_free hD hS hA [11, 12, 13] rfl) rfl hl.1 rfl (Nat.le_of_ble_eq_true rfl) dX11_holdsFor_73 ⟨Nat.zero_le _, Nat.zero_le _⟩) hS (va_free hD hS hA [11, 12, 13] rfl) hP hD [11, 12, 13] [0, 1, 2, 3, 4, 5, 6, 7, 8, 9, 10, 14, 15, 16, 17, 18, 19, 20, 21, 22, 23, 24, 25, 26, 27, 28, 29, 30, 31, 32, 33] [0, 1, 2, 3, 4, 5, 6, 7, 8, 9, 10, 31, 32, 33, 11, 12, 13, 14, 15, 16, 17, 18, 19, 20, 21, 22, 23, 24, 25, 26, 27, 28, 29, 30] rfl rfl (by decide) (by decide) rfl (by decide) rfl (fun H locs hP hD hS => ?_)
      obtain ⟨t76, hc76, h⟩ := bd1_to h
      refine go_P (st1 := [.int t76]) (W1 := (wX11 g aX aT aT_characters aE aH aH_lefts aH_rights aS aS_lefts aS_rights aS_filled aA aA_letters aA_lengths aK aB aB_first aQ aQ_weights aQ_possible aC aC_variables aC_relations aC_numbers aA2 aA2_letters aA2_lengths aN aN_lefts aN_rights aN_parents aN_rules aN_depths aE2 T_size T_characters E_left E_right H_size H_lefts H_rights S_lefts S_rights S_filled A_letters A_lengths B_left B_right B_found B_least B_first Q_letterSurplus Q_weights Q_possible C_size C_variables C_relations C_numbers A2_letters A2_lengths N_size N_solved N_dropped N_lefts N_rights N_parents N_rules N_depths E2_left E2_right)) (run_V (As := [.int v5, .int t73]) (rest := []) X hS (mX5_allow g l  aC aC_variables aC_relations aC_numbers C_size C_variables C_relations C_numbers v5 t73 t76 hc76) okX5_allow wd3_156 ⟨Nat.le_of_ble_eq_true rfl, Nat.le_of_ble_eq_true rfl⟩ ⟨rfl, rfl⟩ (va_recv hK hP (ci := 5) (q0 := 20) rfl rfl) (sub_P hP [20, 21, 22, 23] rfl) (hD.sub [20, 21, 22, 23] (by decide) rfl) (va_free hD hS hA [20, 21, 22, 23] rfl) rfl hl.1 rfl (Nat.le_of_ble_eq_true rfl) dX11_holdsFor_76 ⟨Nat.zero_le _, Nat.zero_le _⟩) hS (va_free hD hS hA [20, 21, 22, 23] rfl) hP hD [20, 21, 22, 23] [0, 1, 2, 3, 4, 5, 6, 7, 8, 9, 10, 11, 12, 13, 14, 15, 16, 17, 18, 19, 24, 25, 26, 27, 28, 29, 30, 31, 32, 33] [0, 1, 2, 3, 4, 5, 6, 7, 8, 9, 10, 11, 12, 13, 14, 15, 16, 17, 18, 19, 30, 31, 32, 33, 20, 21, 22, 23, 24, 25, 26, 27, 28, 29] rfl rfl (by decide) (by decide) rfl (by decide) rfl (fun H locs hP hD hS => ?_)
      refine lv_if_ne (tgt := 84) hx hb dX11_holdsFor_79 (by decide) (fun q79 => ?_) (fun q79 => ?_)
      · have h := ifF h q79
        obtain ⟨t84, et84⟩ : ∃ y : Int32, y = v5 + (1 : Int32) := ⟨_, rfl⟩
        refine lv_iinc (v := t84) (lv' := [(5, .int t84), (0, .ref aX)]) hx hb dX11_holdsFor_84 hl (k := 1) rfl (by rw [et84]; rfl) (by decide) rfl (fun ls hl => ?_)
        have h := st_to h et84
        refine lv_goto (tgt := 52) hx hb dX11_holdsFor_87 (by decide) ?_
        exact ih52 A_letters A_lengths t84 ls H locs (lv_sub hl [1, 0] rfl) hP hD hS h
      have h := ifT h q79
      refine lv_iconst (v := (0 : Int32)) hx hb dX11_holdsFor_82 (by decide) ?_
      have h : some ((0 : Int32), A_letters, A_lengths) = some (r, A_letters_o, A_lengths_o) := h
      cases h
      exact hret _ _ _ _ rfl hP hD hS dX11_holdsFor_83
  have hl : lv_has ls 6 [(0, .ref aX), (1, .int x1), (2, .int x2), (3, .int x3), (4, .int x4)] := hl
  obtain ⟨H, hH⟩ : ∃ H, H = s.heap := ⟨_, rfl⟩
  obtain ⟨locs, hlocs⟩ : ∃ l : List Loc, l = [] := ⟨_, rfl⟩
  rw [show W p l e rmX11_holdsFor s m ([.ref aX, .int x1, .int x2, .int x3, .int x4] : List Value).toArray below meth c s.heap [] 0 0 QQ (F0 m 0 ls []) = W p l e rmX11_holdsFor s m ([.ref aX, .int x1, .int x2, .int x3, .int x4] : List Value).toArray below meth c H locs 0 0 QQ (F0 m 0 ls []) by rw [hH, hlocs]]
  have hP : va_P g.1 vwCl (wX11 g aX aT aT_characters aE aH aH_lefts aH_rights aS aS_lefts aS_rights aS_filled aA aA_letters aA_lengths aK aB aB_first aQ aQ_weights aQ_possible aC aC_variables aC_relations aC_numbers aA2 aA2_letters aA2_lengths aN aN_lefts aN_rights aN_parents aN_rules aN_depths aE2 T_size T_characters E_left E_right H_size H_lefts H_rights S_lefts S_rights S_filled A_letters A_lengths B_left B_right B_found B_least B_first Q_letterSurplus Q_weights Q_possible C_size C_variables C_relations C_numbers A2_letters A2_lengths N_size N_solved N_dropped N_lefts N_rights N_parents N_rules N_depths E2_left E2_right) H := by rw [hH]; exact hP
  have hD : va_D A (wX11 g aX aT aT_characters aE aH aH_lefts aH_rights aS aS_lefts aS_rights aS_filled aA aA_letters aA_lengths aK aB aB_first aQ aQ_weights aQ_possible aC aC_variables aC_relations aC_numbers aA2 aA2_letters aA2_lengths aN aN_lefts aN_rights aN_parents aN_rules aN_depths aE2 T_size T_characters E_left E_right H_size H_lefts H_rights S_lefts S_rights S_filled A_letters A_lengths B_left B_right B_found B_least B_first Q_letterSurplus Q_weights Q_possible C_size C_variables C_relations C_numbers A2_letters A2_lengths N_size N_solved N_dropped N_lefts N_rights N_parents N_rules N_depths E2_left E2_right) := hD
  have hS : va_S A s.heap H locs := by rw [hH, hlocs]; exact hS
  clear hH hlocs
  refine lv_aload_n hx hb dX11_holdsFor_0 rfl (lv_at hl 0 rfl) ?_
  refine va_get (D := g.1) (ci := 10) (v := .ref aA) (C := RX11) (T := TX11) (N := 10) hx hb hts inBX11 hown hK hP 0 rfl rfl 5 (by decide) (hts _ wd1_237) (fun _ h9 => h9) rfl dX11_holdsFor_1 ?_
  refine lv_iconst (v := (0 : Int32)) hx hb dX11_holdsFor_4 (by decide) ?_
  obtain ⟨t5, hc5, h⟩ := bd1_to h
  refine go_0 (st1 := [.int t5, .ref aA]) (run_S (As := [.int (0 : Int32)]) (rest := [.ref aA]) X hS (mX9_variable g l  (0 : Int32) t5 hc5) okX9_variable wd3_11 ⟨Nat.le_of_ble_eq_true rfl, Nat.le_of_ble_eq_true rfl⟩ ⟨rfl, rfl⟩ nil_P nil_D (nil_F hS hA) rfl hl.1 rfl (Nat.le_of_ble_eq_true rfl) dX11_holdsFor_5 ⟨Nat.zero_le _, Nat.zero_le _⟩) hS hA hP rfl (fun H locs hP hS => ?_)
  refine lv_iload_n hx hb dX11_holdsFor_8 rfl (lv_at hl 1 rfl) ?_
  obtain ⟨A_letters_9, A_lengths_9, hc9, h⟩ := bd2_to h
  refine go_P (st1 := []) (W1 := (wX11 g aX aT aT_characters aE aH aH_lefts aH_rights aS aS_lefts aS_rights aS_filled aA aA_letters aA_lengths aK aB aB_first aQ aQ_weights aQ_possible aC aC_variables aC_relations aC_numbers aA2 aA2_letters aA2_lengths aN aN_lefts aN_rights aN_parents aN_rules aN_depths aE2 T_size T_characters E_left E_right H_size H_lefts H_rights S_lefts S_rights S_filled A_letters_9 A_lengths_9 B_left B_right B_found B_least B_first Q_letterSurplus Q_weights Q_possible C_size C_variables C_relations C_numbers A2_letters A2_lengths N_size N_solved N_dropped N_lefts N_rights N_parents N_rules N_depths E2_left E2_right)) (run_V (As := [.int t5, .int x1]) (rest := []) X hS (mX0_giveNumber g l  aA aA_letters aA_lengths A_letters A_lengths t5 x1 A_letters_9 A_lengths_9 hc9) okX0_giveNumber wd3_143 ⟨Nat.le_of_ble_eq_true rfl, Nat.le_of_ble_eq_true rfl⟩ ⟨rfl, rfl⟩ (va_recv hK hP (ci := 0) (q0 := 11) rfl rfl) (sub_P hP [11, 12, 13] rfl) (hD.sub [11, 12, 13] (by decide) rfl) (va_free hD hS hA [11, 12, 13] rfl) rfl hl.1 rfl (Nat.le_of_ble_eq_true rfl) dX11_holdsFor_9 ⟨Nat.zero_le _, Nat.zero_le _⟩) hS (va_free hD hS hA [11, 12, 13] rfl) hP hD [11, 12, 13] [0, 1, 2, 3, 4, 5, 6, 7, 8, 9, 10, 14, 15, 16, 17, 18, 19, 20, 21, 22, 23, 24, 25, 26, 27, 28, 29, 30, 31, 32, 33] [0, 1, 2, 3, 4, 5, 6, 7, 8, 9, 10, 31, 32, 33, 11, 12, 13, 14, 15, 16, 17, 18, 19, 20, 21, 22, 23, 24, 25, 26, 27, 28, 29, 30] rfl rfl (by decide) (by decide) rfl (by decide) rfl (fun H locs hP hD hS => ?_)
  refine lv_aload_n hx hb dX11_holdsFor_12 rfl (lv_at hl 0 rfl) ?_
  refine va_get (D := g.1) (ci := 10) (v := .ref aA) (C := RX11) (T := TX11) (N := 10) hx hb hts inBX11 hown hK hP 0 rfl rfl 5 (by decide) (hts _ wd1_237) (fun _ h9 => h9) rfl dX11_holdsFor_13 ?_
  refine lv_iconst (v := (1 : Int32)) hx hb dX11_holdsFor_16 (by decide) ?_
  obtain ⟨t17, hc17, h⟩ := bd1_to h
  refine go_0 (st1 := [.int t17, .ref aA]) (run_S (As := [.int (1 : Int32)]) (rest := [.ref aA]) X hS (mX9_variable g l  (1 : Int32) t17 hc17) okX9_variable wd3_11 ⟨Nat.le_of_ble_eq_true rfl, Nat.le_of_ble_eq_true rfl⟩ ⟨rfl, rfl⟩ nil_P nil_D (nil_F hS hA) rfl hl.1 rfl (Nat.le_of_ble_eq_true rfl) dX11_holdsFor_17 ⟨Nat.zero_le _, Nat.zero_le _⟩) hS hA hP rfl (fun H locs hP hS => ?_)
  refine lv_iload_n hx hb dX11_holdsFor_20 rfl (lv_at hl 2 rfl) ?_
  obtain ⟨A_letters_21, A_lengths_21, hc21, h⟩ := bd2_to h
  refine go_P (st1 := []) (W1 := (wX11 g aX aT aT_characters aE aH aH_lefts aH_rights aS aS_lefts aS_rights aS_filled aA aA_letters aA_lengths aK aB aB_first aQ aQ_weights aQ_possible aC aC_variables aC_relations aC_numbers aA2 aA2_letters aA2_lengths aN aN_lefts aN_rights aN_parents aN_rules aN_depths aE2 T_size T_characters E_left E_right H_size H_lefts H_rights S_lefts S_rights S_filled A_letters_21 A_lengths_21 B_left B_right B_found B_least B_first Q_letterSurplus Q_weights Q_possible C_size C_variables C_relations C_numbers A2_letters A2_lengths N_size N_solved N_dropped N_lefts N_rights N_parents N_rules N_depths E2_left E2_right)) (run_V (As := [.int t17, .int x2]) (rest := []) X hS (mX0_giveNumber g l  aA aA_letters aA_lengths A_letters_9 A_lengths_9 t17 x2 A_letters_21 A_lengths_21 hc21) okX0_giveNumber wd3_143 ⟨Nat.le_of_ble_eq_true rfl, Nat.le_of_ble_eq_true rfl⟩ ⟨rfl, rfl⟩ (va_recv hK hP (ci := 0) (q0 := 11) rfl rfl) (sub_P hP [11, 12, 13] rfl) (hD.sub [11, 12, 13] (by decide) rfl) (va_free hD hS hA [11, 12, 13] rfl) rfl hl.1 rfl (Nat.le_of_ble_eq_true rfl) dX11_holdsFor_21 ⟨Nat.zero_le _, Nat.zero_le _⟩) hS (va_free hD hS hA [11, 12, 13] rfl) hP hD [11, 12, 13] [0, 1, 2, 3, 4, 5, 6, 7, 8, 9, 10, 14, 15, 16, 17, 18, 19, 20, 21, 22, 23, 24, 25, 26, 27, 28, 29, 30, 31, 32, 33] [0, 1, 2, 3, 4, 5, 6, 7, 8, 9, 10, 31, 32, 33, 11, 12, 13, 14, 15, 16, 17, 18, 19, 20, 21, 22, 23, 24, 25, 26, 27, 28, 29, 30] rfl rfl (by decide) (by decide) rfl (by decide) rfl (fun H locs hP hD hS => ?_)
  refine lv_aload_n hx hb dX11_holdsFor_24 rfl (lv_at hl 0 rfl) ?_
  refine va_get (D := g.1) (ci := 10) (v := .ref aA) (C := RX11) (T := TX11) (N := 10) hx hb hts inBX11 hown hK hP 0 rfl rfl 5 (by decide) (hts _ wd1_237) (fun _ h9 => h9) rfl dX11_holdsFor_25 ?_
  refine lv_iconst (v := (2 : Int32)) hx hb dX11_holdsFor_28 (by decide) ?_
  obtain ⟨t29, hc29, h⟩ := bd1_to h
  refine go_0 (st1 := [.int t29, .ref aA]) (run_S (As := [.int (2 : Int32)]) (rest := [.ref aA]) X hS (mX9_variable g l  (2 : Int32) t29 hc29) okX9_variable wd3_11 ⟨Nat.le_of_ble_eq_true rfl, Nat.le_of_ble_eq_true rfl⟩ ⟨rfl, rfl⟩ nil_P nil_D (nil_F hS hA) rfl hl.1 rfl (Nat.le_of_ble_eq_true rfl) dX11_holdsFor_29 ⟨Nat.zero_le _, Nat.zero_le _⟩) hS hA hP rfl (fun H locs hP hS => ?_)
  refine lv_iload_n hx hb dX11_holdsFor_32 rfl (lv_at hl 3 rfl) ?_
  obtain ⟨A_letters_33, A_lengths_33, hc33, h⟩ := bd2_to h
  refine go_P (st1 := []) (W1 := (wX11 g aX aT aT_characters aE aH aH_lefts aH_rights aS aS_lefts aS_rights aS_filled aA aA_letters aA_lengths aK aB aB_first aQ aQ_weights aQ_possible aC aC_variables aC_relations aC_numbers aA2 aA2_letters aA2_lengths aN aN_lefts aN_rights aN_parents aN_rules aN_depths aE2 T_size T_characters E_left E_right H_size H_lefts H_rights S_lefts S_rights S_filled A_letters_33 A_lengths_33 B_left B_right B_found B_least B_first Q_letterSurplus Q_weights Q_possible C_size C_variables C_relations C_numbers A2_letters A2_lengths N_size N_solved N_dropped N_lefts N_rights N_parents N_rules N_depths E2_left E2_right)) (run_V (As := [.int t29, .int x3]) (rest := []) X hS (mX0_giveNumber g l  aA aA_letters aA_lengths A_letters_21 A_lengths_21 t29 x3 A_letters_33 A_lengths_33 hc33) okX0_giveNumber wd3_143 ⟨Nat.le_of_ble_eq_true rfl, Nat.le_of_ble_eq_true rfl⟩ ⟨rfl, rfl⟩ (va_recv hK hP (ci := 0) (q0 := 11) rfl rfl) (sub_P hP [11, 12, 13] rfl) (hD.sub [11, 12, 13] (by decide) rfl) (va_free hD hS hA [11, 12, 13] rfl) rfl hl.1 rfl (Nat.le_of_ble_eq_true rfl) dX11_holdsFor_33 ⟨Nat.zero_le _, Nat.zero_le _⟩) hS (va_free hD hS hA [11, 12, 13] rfl) hP hD [11, 12, 13] [0, 1, 2, 3, 4, 5, 6, 7, 8, 9, 10, 14, 15, 16, 17, 18, 19, 20, 21, 22, 23, 24, 25, 26, 27, 28, 29, 30, 31, 32, 33] [0, 1, 2, 3, 4, 5, 6, 7, 8, 9, 10, 31, 32, 33, 11, 12, 13, 14, 15, 16, 17, 18, 19, 20, 21, 22, 23, 24, 25, 26, 27, 28, 29, 30] rfl rfl (by decide) (by decide) rfl (by decide) rfl (fun H locs hP hD hS => ?_)
  refine lv_aload_n hx hb dX11_holdsFor_36 rfl (lv_at hl 0 rfl) ?_
  refine va_get (D := g.1) (ci := 10) (v := .ref aA) (C := RX11) (T := TX11) (N := 10) hx hb hts inBX11 hown hK hP 0 rfl rfl 5 (by decide) (hts _ wd1_237) (fun _ h9 => h9) rfl dX11_holdsFor_37 ?_
  refine lv_iconst (v := (3 : Int32)) hx hb dX11_holdsFor_40 (by decide) ?_
  obtain ⟨t41, hc41, h⟩ := bd1_to h
  refine go_0 (st1 := [.int t41, .ref aA]) (run_S (As := [.int (3 : Int32)]) (rest := [.ref aA]) X hS (mX9_variable g l  (3 : Int32) t41 hc41) okX9_variable wd3_11 ⟨Nat.le_of_ble_eq_true rfl, Nat.le_of_ble_eq_true rfl⟩ ⟨rfl, rfl⟩ nil_P nil_D (nil_F hS hA) rfl hl.1 rfl (Nat.le_of_ble_eq_true rfl) dX11_holdsFor_41 ⟨Nat.zero_le _, Nat.zero_le _⟩) hS hA hP rfl (fun H locs hP hS => ?_)
  refine lv_iload hx hb dX11_holdsFor_44 (lv_at hl 4 rfl) ?_
  obtain ⟨A_letters_46, A_lengths_46, hc46, h⟩ := bd2_to h
  refine go_P (st1 := []) (W1 := (wX11 g aX aT aT_characters aE aH aH_lefts aH_rights aS aS_lefts aS_rights aS_filled aA aA_letters aA_lengths aK aB aB_first aQ aQ_weights aQ_possible aC aC_variables aC_relations aC_numbers aA2 aA2_letters aA2_lengths aN aN_lefts aN_rights aN_parents aN_rules aN_depths aE2 T_size T_characters E_left E_right H_size H_lefts H_rights S_lefts S_rights S_filled A_letters_46 A_lengths_46 B_left B_right B_found B_least B_first Q_letterSurplus Q_weights Q_possible C_size C_variables C_relations C_numbers A2_letters A2_lengths N_size N_solved N_dropped N_lefts N_rights N_parents N_rules N_depths E2_left E2_right)) (run_V (As := [.int t41, .int x4]) (rest := []) X hS (mX0_giveNumber g l  aA aA_letters aA_lengths A_letters_33 A_lengths_33 t41 x4 A_letters_46 A_lengths_46 hc46) okX0_giveNumber wd3_143 ⟨Nat.le_of_ble_eq_true rfl, Nat.le_of_ble_eq_true rfl⟩ ⟨rfl, rfl⟩ (va_recv hK hP (ci := 0) (q0 := 11) rfl rfl) (sub_P hP [11, 12, 13] rfl) (hD.sub [11, 12, 13] (by decide) rfl) (va_free hD hS hA [11, 12, 13] rfl) rfl hl.1 rfl (Nat.le_of_ble_eq_true rfl) dX11_holdsFor_46 ⟨Nat.zero_le _, Nat.zero_le _⟩) hS (va_free hD hS hA [11, 12, 13] rfl) hP hD [11, 12, 13] [0, 1, 2, 3, 4, 5, 6, 7, 8, 9, 10, 14, 15, 16, 17, 18, 19, 20, 21, 22, 23, 24, 25, 26, 27, 28, 29, 30, 31, 32, 33] [0, 1, 2, 3, 4, 5, 6, 7, 8, 9, 10, 31, 32, 33, 11, 12, 13, 14, 15, 16, 17, 18, 19, 20, 21, 22, 23, 24, 25, 26, 27, 28, 29, 30] rfl rfl (by decide) (by decide) rfl (by decide) rfl (fun H locs hP hD hS => ?_)
  refine lv_iconst (v := (0 : Int32)) hx hb dX11_holdsFor_49 (by decide) ?_
  refine lv_istore (lv' := [(5, .int (0 : Int32)), (0, .ref aX), (1, .int x1), (2, .int x2), (3, .int x3), (4, .int x4)]) hx hb dX11_holdsFor_50 hl (by decide) rfl (fun ls hl => ?_)
  exact L52 FU A_letters_46 A_lengths_46 (0 : Int32) ls H locs (lv_sub hl [1, 0] rfl) hP hD hS h
set_option maxHeartbeats 4000000 in
set_option maxRecDepth 100000 in
theorem mX11_satisfies (g : GP) (l : Launch) (aX aT aT_characters aE aH aH_lefts aH_rights aS aS_lefts aS_rights aS_filled aA aA_letters aA_lengths aK aB aB_first aQ aQ_weights aQ_possible aC aC_variables aC_relations aC_numbers aA2 aA2_letters aA2_lengths aN aN_lefts aN_rights aN_parents aN_rules aN_depths aE2 : Nat) (T_size : Int32) (T_characters : Nat → Int32) (E_left : Int64) (E_right : Int64) (H_size : Int32) (H_lefts : Nat → Int64) (H_rights : Nat → Int64) (S_lefts : Nat → Int64) (S_rights : Nat → Int64) (S_filled : Nat → Int32) (A_letters : Nat → Int64) (A_lengths : Nat → Int32) (B_left : Int64) (B_right : Int64) (B_found : Int32) (B_least : Int32) (B_first : Nat → Int32) (Q_letterSurplus : Int32) (Q_weights : Nat → Int32) (Q_possible : Nat → Int32) (C_size : Int32) (C_variables : Nat → Int32) (C_relations : Nat → Int32) (C_numbers : Nat → Int32) (A2_letters : Nat → Int64) (A2_lengths : Nat → Int32) (N_size : Int32) (N_solved : Int32) (N_dropped : Int32) (N_lefts : Nat → Int64) (N_rights : Nat → Int64) (N_parents : Nat → Int32) (N_rules : Nat → Int32) (N_depths : Nat → Int32) (E2_left : Int64) (E2_right : Int64) (x1 : Int32) (x2 : Int32) (x3 : Int32) (x4 : Int32) (r : Int32) (A_letters_o : Nat → Int64) (A_lengths_o : Nat → Int32) (h : fX_satisfies E_left E_right A_letters A_lengths C_size C_variables C_relations C_numbers x1 x2 x3 x4 = some (r, A_letters_o, A_lengths_o)) : Ct g l yX11_satisfies cX11_satisfies 5 (some .int) rmX11_satisfies [.ref aX, .int x1, .int x2, .int x3, .int x4] (wX11 g aX aT aT_characters aE aH aH_lefts aH_rights aS aS_lefts aS_rights aS_filled aA aA_letters aA_lengths aK aB aB_first aQ aQ_weights aQ_possible aC aC_variables aC_relations aC_numbers aA2 aA2_letters aA2_lengths aN aN_lefts aN_rights aN_parents aN_rules aN_depths aE2 T_size T_characters E_left E_right H_size H_lefts H_rights S_lefts S_rights S_filled A_letters A_lengths B_left B_right B_found B_least B_first Q_letterSurplus Q_weights Q_possible C_size C_variables C_relations C_numbers A2_letters A2_lengths N_size N_solved N_dropped N_lefts N_rights N_parents N_rules N_depths E2_left E2_right) (some (.int r)) (wX11 g aX aT aT_characters aE aH aH_lefts aH_rights aS aS_lefts aS_rights aS_filled aA aA_letters aA_lengths aK aB aB_first aQ aQ_weights aQ_possible aC aC_variables aC_relations aC_numbers aA2 aA2_letters aA2_lengths aN aN_lefts aN_rights aN_parents aN_rules aN_depths aE2 T_size T_characters E_left E_right H_size H_lefts H_rights S_lefts S_rights S_filled A_letters_o A_lengths_o B_left B_right B_found B_least B_first Q_letterSurplus Q_weights Q_possible C_size C_variables C_relations C_numbers A2_letters A2_lengths N_size N_solved N_dropped N_lefts N_rights N_parents N_rules N_depths E2_left E2_right) := by
  refine Ct.introI (by decide) (Nat.le_of_ble_eq_true rfl) ?_
  intro p e s m below meth c A QQ ls hyp hret
  obtain ⟨hx, hb, hml, hts, hown, hA, hE, hP, hD, hl⟩ := hyp
  have hK := hE.1
  have hS : va_S A s.heap s.heap [] := va_S.rf
  have X : Here g p s m c cX11_satisfies 5 ([.ref aX, .int x1, .int x2, .int x3, .int x4] : List Value).toArray RX11 A := ⟨⟨hx, hb, hml, hown, hts⟩, hE, hA⟩
  have hl : lv_has ls 5 [(0, .ref aX), (1, .int x1), (2, .int x2), (3, .int x3), (4, .int x4)] := hl
  obtain ⟨H, hH⟩ : ∃ H, H = s.heap := ⟨_, rfl⟩
  obtain ⟨locs, hlocs⟩ : ∃ l : List Loc, l = [] := ⟨_, rfl⟩
  rw [show W p l e rmX11_satisfies s m ([.ref aX, .int x1, .int x2, .int x3, .int x4] : List Value).toArray below meth c s.heap [] 0 0 QQ (F0 m 0 ls []) = W p l e rmX11_satisfies s m ([.ref aX, .int x1, .int x2, .int x3, .int x4] : List Value).toArray below meth c H locs 0 0 QQ (F0 m 0 ls []) by rw [hH, hlocs]]
  have hP : va_P g.1 vwCl (wX11 g aX aT aT_characters aE aH aH_lefts aH_rights aS aS_lefts aS_rights aS_filled aA aA_letters aA_lengths aK aB aB_first aQ aQ_weights aQ_possible aC aC_variables aC_relations aC_numbers aA2 aA2_letters aA2_lengths aN aN_lefts aN_rights aN_parents aN_rules aN_depths aE2 T_size T_characters E_left E_right H_size H_lefts H_rights S_lefts S_rights S_filled A_letters A_lengths B_left B_right B_found B_least B_first Q_letterSurplus Q_weights Q_possible C_size C_variables C_relations C_numbers A2_letters A2_lengths N_size N_solved N_dropped N_lefts N_rights N_parents N_rules N_depths E2_left E2_right) H := by rw [hH]; exact hP
  have hD : va_D A (wX11 g aX aT aT_characters aE aH aH_lefts aH_rights aS aS_lefts aS_rights aS_filled aA aA_letters aA_lengths aK aB aB_first aQ aQ_weights aQ_possible aC aC_variables aC_relations aC_numbers aA2 aA2_letters aA2_lengths aN aN_lefts aN_rights aN_parents aN_rules aN_depths aE2 T_size T_characters E_left E_right H_size H_lefts H_rights S_lefts S_rights S_filled A_letters A_lengths B_left B_right B_found B_least B_first Q_letterSurplus Q_weights Q_possible C_size C_variables C_relations C_numbers A2_letters A2_lengths N_size N_solved N_dropped N_lefts N_rights N_parents N_rules N_depths E2_left E2_right) := hD
  have hS : va_S A s.heap H locs := by rw [hH, hlocs]; exact hS
  clear hH hlocs
  refine lv_iload_n hx hb dX11_satisfies_0 rfl (lv_at hl 1 rfl) ?_
  obtain ⟨t1, hc1, h⟩ := bd1_to h
  refine go_0 (st1 := [.int t1]) (run_S (As := [.int x1]) (rest := []) X hS (mX11_isWordNumber g l  x1 t1 hc1) okX11_isWordNumber wd3_136 ⟨Nat.le_of_ble_eq_true rfl, Nat.le_of_ble_eq_true rfl⟩ ⟨rfl, rfl⟩ nil_P nil_D (nil_F hS hA) rfl hl.1 rfl (Nat.le_of_ble_eq_true rfl) dX11_satisfies_1 ⟨Nat.zero_le _, Nat.zero_le _⟩) hS hA hP rfl (fun H locs hP hS => ?_)
  refine lv_if_eq (tgt := 29) hx hb dX11_satisfies_4 (by decide) (fun q4 => ?_) (fun q4 => ?_)
  · have h := ifT h q4
    refine lv_bipush (v := ((-2) : Int32)) hx hb dX11_satisfies_29 (by decide) ?_
    have h : some (((-2) : Int32), A_letters, A_lengths) = some (r, A_letters_o, A_lengths_o) := h
    cases h
    exact hret _ _ _ _ hP hD hS dX11_satisfies_31
  have h := ifF h q4
  refine lv_iload_n hx hb dX11_satisfies_7 rfl (lv_at hl 2 rfl) ?_
  obtain ⟨t8, hc8, h⟩ := bd1_to h
  refine go_0 (st1 := [.int t8]) (run_S (As := [.int x2]) (rest := []) X hS (mX11_isWordNumber g l  x2 t8 hc8) okX11_isWordNumber wd3_136 ⟨Nat.le_of_ble_eq_true rfl, Nat.le_of_ble_eq_true rfl⟩ ⟨rfl, rfl⟩ nil_P nil_D (nil_F hS hA) rfl hl.1 rfl (Nat.le_of_ble_eq_true rfl) dX11_satisfies_8 ⟨Nat.zero_le _, Nat.zero_le _⟩) hS hA hP rfl (fun H locs hP hS => ?_)
  refine lv_if_eq (tgt := 29) hx hb dX11_satisfies_11 (by decide) (fun q11 => ?_) (fun q11 => ?_)
  · have h := ifT h q11
    refine lv_bipush (v := ((-2) : Int32)) hx hb dX11_satisfies_29 (by decide) ?_
    have h : some (((-2) : Int32), A_letters, A_lengths) = some (r, A_letters_o, A_lengths_o) := h
    cases h
    exact hret _ _ _ _ hP hD hS dX11_satisfies_31
  have h := ifF h q11
  refine lv_iload_n hx hb dX11_satisfies_14 rfl (lv_at hl 3 rfl) ?_
  obtain ⟨t15, hc15, h⟩ := bd1_to h
  refine go_0 (st1 := [.int t15]) (run_S (As := [.int x3]) (rest := []) X hS (mX11_isWordNumber g l  x3 t15 hc15) okX11_isWordNumber wd3_136 ⟨Nat.le_of_ble_eq_true rfl, Nat.le_of_ble_eq_true rfl⟩ ⟨rfl, rfl⟩ nil_P nil_D (nil_F hS hA) rfl hl.1 rfl (Nat.le_of_ble_eq_true rfl) dX11_satisfies_15 ⟨Nat.zero_le _, Nat.zero_le _⟩) hS hA hP rfl (fun H locs hP hS => ?_)
  refine lv_if_eq (tgt := 29) hx hb dX11_satisfies_18 (by decide) (fun q18 => ?_) (fun q18 => ?_)
  · have h := ifT h q18
    refine lv_bipush (v := ((-2) : Int32)) hx hb dX11_satisfies_29 (by decide) ?_
    have h : some (((-2) : Int32), A_letters, A_lengths) = some (r, A_letters_o, A_lengths_o) := h
    cases h
    exact hret _ _ _ _ hP hD hS dX11_satisfies_31
  have h := ifF h q18
  refine lv_iload hx hb dX11_satisfies_21 (lv_at hl 4 rfl) ?_
  obtain ⟨t23, hc23, h⟩ := bd1_to h
  refine go_0 (st1 := [.int t23]) (run_S (As := [.int x4]) (rest := []) X hS (mX11_isWordNumber g l  x4 t23 hc23) okX11_isWordNumber wd3_136 ⟨Nat.le_of_ble_eq_true rfl, Nat.le_of_ble_eq_true rfl⟩ ⟨rfl, rfl⟩ nil_P nil_D (nil_F hS hA) rfl hl.1 rfl (Nat.le_of_ble_eq_true rfl) dX11_satisfies_23 ⟨Nat.zero_le _, Nat.zero_le _⟩) hS hA hP rfl (fun H locs hP hS => ?_)
  refine lv_if_ne (tgt := 32) hx hb dX11_satisfies_26 (by decide) (fun q26 => ?_) (fun q26 => ?_)
  · have h := ifF h q26
    refine lv_aload_n hx hb dX11_satisfies_32 rfl (lv_at hl 0 rfl) ?_
    refine lv_iload_n hx hb dX11_satisfies_33 rfl (lv_at hl 1 rfl) ?_
    refine lv_iload_n hx hb dX11_satisfies_34 rfl (lv_at hl 2 rfl) ?_
    refine lv_iload_n hx hb dX11_satisfies_35 rfl (lv_at hl 3 rfl) ?_
    refine lv_iload hx hb dX11_satisfies_36 (lv_at hl 4 rfl) ?_
    obtain ⟨t38, A_letters_38, A_lengths_38, hc38, h⟩ := bd3_to h
    refine go_A (st1 := [.int t38]) (run_V (As := [.int x1, .int x2, .int x3, .int x4]) (rest := []) X hS (mX11_holdsFor g l  aX aT aT_characters aE aH aH_lefts aH_rights aS aS_lefts aS_rights aS_filled aA aA_letters aA_lengths aK aB aB_first aQ aQ_weights aQ_possible aC aC_variables aC_relations aC_numbers aA2 aA2_letters aA2_lengths aN aN_lefts aN_rights aN_parents aN_rules aN_depths aE2 T_size T_characters E_left E_right H_size H_lefts H_rights S_lefts S_rights S_filled A_letters A_lengths B_left B_right B_found B_least B_first Q_letterSurplus Q_weights Q_possible C_size C_variables C_relations C_numbers A2_letters A2_lengths N_size N_solved N_dropped N_lefts N_rights N_parents N_rules N_depths E2_left E2_right x1 x2 x3 x4 t38 A_letters_38 A_lengths_38 hc38) okX11_holdsFor wd3_139 ⟨Nat.le_of_ble_eq_true rfl, Nat.le_of_ble_eq_true rfl⟩ ⟨rfl, rfl⟩ (va_recv hK hP (ci := 10) (q0 := 0) rfl rfl) hP hD (all_F hS hA hD) rfl hl.1 rfl (Nat.le_of_ble_eq_true rfl) dX11_satisfies_38 ⟨Nat.zero_le _, Nat.zero_le _⟩) hS (all_F hS hA hD) rfl (fun H locs hP hD hS => ?_)
    refine lv_if_eq (tgt := 48) hx hb dX11_satisfies_41 (by decide) (fun q41 => ?_) (fun q41 => ?_)
    · have h := ifT h q41
      refine lv_iconst (v := (0 : Int32)) hx hb dX11_satisfies_48 (by decide) ?_
      have h : some ((0 : Int32), A_letters_38, A_lengths_38) = some (r, A_letters_o, A_lengths_o) := h
      cases h
      exact hret _ _ _ _ hP hD hS dX11_satisfies_49
    have h := ifF h q41
    refine lv_iconst (v := (1 : Int32)) hx hb dX11_satisfies_44 (by decide) ?_
    refine lv_goto (tgt := 49) hx hb dX11_satisfies_45 (by decide) ?_
    have h : some ((1 : Int32), A_letters_38, A_lengths_38) = some (r, A_letters_o, A_lengths_o) := h
    cases h
    exact hret _ _ _ _ hP hD hS dX11_satisfies_49
  have h := ifT h q26
  refine lv_bipush (v := ((-2) : Int32)) hx hb dX11_satisfies_29 (by decide) ?_
  have h : some (((-2) : Int32), A_letters, A_lengths) = some (r, A_letters_o, A_lengths_o) := h
  cases h
  exact hret _ _ _ _ hP hD hS dX11_satisfies_31
set_option maxHeartbeats 4000000 in
set_option maxRecDepth 100000 in
theorem mX2_surplus (g : GP) (l : Launch) (aE : Nat) (E_left : Int64) (E_right : Int64) (x1 : Int32) (r : Int32) (h : fE_surplus E_left E_right x1 = some r) : Ct g l yX2_surplus cX2_surplus 2 (some .int) rmX2_surplus [.ref aE, .int x1] (wX2 g aE E_left E_right) (some (.int r)) (wX2 g aE E_left E_right) := by
  refine Ct.introI (by decide) (Nat.le_of_ble_eq_true rfl) ?_
  intro p e s m below meth c A QQ ls hyp hret
  obtain ⟨hx, hb, hml, hts, hown, hA, hE, hP, hD, hl⟩ := hyp
  have hK := hE.1
  have hS : va_S A s.heap s.heap [] := va_S.rf
  have X : Here g p s m c cX2_surplus 2 ([.ref aE, .int x1] : List Value).toArray RX2 A := ⟨⟨hx, hb, hml, hown, hts⟩, hE, hA⟩
  have hl : lv_has ls 2 [(0, .ref aE), (1, .int x1)] := hl
  obtain ⟨H, hH⟩ : ∃ H, H = s.heap := ⟨_, rfl⟩
  obtain ⟨locs, hlocs⟩ : ∃ l : List Loc, l = [] := ⟨_, rfl⟩
  rw [show W p l e rmX2_surplus s m ([.ref aE, .int x1] : List Value).toArray below meth c s.heap [] 0 0 QQ (F0 m 0 ls []) = W p l e rmX2_surplus s m ([.ref aE, .int x1] : List Value).toArray below meth c H locs 0 0 QQ (F0 m 0 ls []) by rw [hH, hlocs]]
  have hP : va_P g.1 vwCl (wX2 g aE E_left E_right) H := by rw [hH]; exact hP
  have hD : va_D A (wX2 g aE E_left E_right) := hD
  have hS : va_S A s.heap H locs := by rw [hH, hlocs]; exact hS
  clear hH hlocs
  refine lv_aload_n hx hb dX2_surplus_0 rfl (lv_at hl 0 rfl) ?_
  refine va_get (D := g.1) (ci := 2) (v := .long E_left) (C := RX2) (T := TX2) (N := 2) hx hb hts inBX2 hown hK hP 0 rfl rfl 0 (by decide) (hts _ wd1_48) (fun _ h9 => h9) rfl dX2_surplus_1 ?_
  refine lv_iload_n hx hb dX2_surplus_4 rfl (lv_at hl 1 rfl) ?_
  obtain ⟨t5, hc5, h⟩ := bd1_to h
  refine go_0 (st1 := [.int t5]) (run_S (As := [.long E_left, .int x1]) (rest := []) X hS (mX9_countOf g l  E_left x1 t5 hc5) okX9_countOf wd3_88 ⟨Nat.le_of_ble_eq_true rfl, Nat.le_of_ble_eq_true rfl⟩ ⟨rfl, rfl⟩ nil_P nil_D (nil_F hS hA) rfl hl.1 rfl (Nat.le_of_ble_eq_true rfl) dX2_surplus_5 ⟨Nat.zero_le _, Nat.zero_le _⟩) hS hA hP rfl (fun H locs hP hS => ?_)
  refine lv_aload_n hx hb dX2_surplus_8 rfl (lv_at hl 0 rfl) ?_
  refine va_get (D := g.1) (ci := 2) (v := .long E_right) (C := RX2) (T := TX2) (N := 2) hx hb hts inBX2 hown hK hP 0 rfl rfl 1 (by decide) (hts _ wd1_55) (fun _ h9 => h9) rfl dX2_surplus_9 ?_
  refine lv_iload_n hx hb dX2_surplus_12 rfl (lv_at hl 1 rfl) ?_
  obtain ⟨t13, hc13, h⟩ := bd1_to h
  refine go_0 (st1 := [.int t13, .int t5]) (run_S (As := [.long E_right, .int x1]) (rest := [.int t5]) X hS (mX9_countOf g l  E_right x1 t13 hc13) okX9_countOf wd3_88 ⟨Nat.le_of_ble_eq_true rfl, Nat.le_of_ble_eq_true rfl⟩ ⟨rfl, rfl⟩ nil_P nil_D (nil_F hS hA) rfl hl.1 rfl (Nat.le_of_ble_eq_true rfl) dX2_surplus_13 ⟨Nat.zero_le _, Nat.zero_le _⟩) hS hA hP rfl (fun H locs hP hS => ?_)
  refine lv_isub hx hb dX2_surplus_16 ?_
  have h : some (t5 - t13) = some r := h
  cases h
  exact hret _ _ _ _ hP hD hS dX2_surplus_17
set_option maxHeartbeats 4000000 in
set_option maxRecDepth 100000 in
theorem mX6_possibleUpTo (g : GP) (l : Launch) (aQ aQ_weights aQ_possible aC aC_variables aC_relations aC_numbers : Nat) (Q_letterSurplus : Int32) (Q_weights : Nat → Int32) (Q_possible : Nat → Int32) (C_size : Int32) (C_variables : Nat → Int32) (C_relations : Nat → Int32) (C_numbers : Nat → Int32) (x1 : Int32) (x2 : Int32) (r : Int32) (h : fQ_possibleUpTo C_size C_variables C_relations C_numbers x1 x2 = some r) : Ct g l yX6_possibleUpTo cX6_possibleUpTo 5 (some .int) rmX6_possibleUpTo [.ref aQ, .int x1, .int x2] (wX6 g aQ aQ_weights aQ_possible aC aC_variables aC_relations aC_numbers Q_letterSurplus Q_weights Q_possible C_size C_variables C_relations C_numbers) (some (.int r)) (wX6 g aQ aQ_weights aQ_possible aC aC_variables aC_relations aC_numbers Q_letterSurplus Q_weights Q_possible C_size C_variables C_relations C_numbers) := by
  refine Ct.introI (by decide) (Nat.le_of_ble_eq_true rfl) ?_
  intro p e s m below meth c A QQ ls hyp hret
  obtain ⟨hx, hb, hml, hts, hown, hA, hE, hP, hD, hl⟩ := hyp
  have hK := hE.1
  have hS : va_S A s.heap s.heap [] := va_S.rf
  have X : Here g p s m c cX6_possibleUpTo 5 ([.ref aQ, .int x1, .int x2] : List Value).toArray RX6 A := ⟨⟨hx, hb, hml, hown, hts⟩, hE, hA⟩
  have L5 : ∀ (n5 : Nat), ∀ (v3 : Int32) (v4 : Int32) (ls : Array Slot) (H : Heap) (locs : List Loc), lv_has ls 5 [(0, .ref aQ), (1, .int x1), (2, .int x2), (3, .int v3), (4, .int v4)] → va_P g.1 vwCl (wX6 g aQ aQ_weights aQ_possible aC aC_variables aC_relations aC_numbers Q_letterSurplus Q_weights Q_possible C_size C_variables C_relations C_numbers) H → va_D A (wX6 g aQ aQ_weights aQ_possible aC aC_variables aC_relations aC_numbers Q_letterSurplus Q_weights Q_possible C_size C_variables C_relations C_numbers) → va_S A s.heap H locs → fx2 (fQ_possibleUpTo_5 C_size C_variables C_relations C_numbers x1 x2) n5 v3 v4 = some r → W p l e rmX6_possibleUpTo s m ([.ref aQ, .int x1, .int x2] : List Value).toArray below meth c H locs 0 0 QQ (F0 m 5 ls []) := by
    intro n5
    induction n5 with
    | zero => intro v3 v4 ls H locs hl hP hD hS h; exact fx2_0 h
    | succ n5 ih5 =>
      intro v3 v4 ls H locs hl hP hD hS h
      have h := (fx2_s (fQ_possibleUpTo_5 C_size C_variables C_relations C_numbers x1 x2) n5 v3 v4).symm.trans h
      refine lv_iload hx hb dX6_possibleUpTo_5 (lv_at hl 4 rfl) ?_
      refine lv_iload_n hx hb dX6_possibleUpTo_7 rfl (lv_at hl 1 rfl) ?_
      refine lv_icmp_gt (tgt := 44) hx hb dX6_possibleUpTo_8 (by decide) (fun q8 => ?_) (fun q8 => ?_)
      · have h := ifT h q8
        refine lv_iload_n hx hb dX6_possibleUpTo_44 rfl (lv_at hl 3 rfl) ?_
        have h : some v3 = some r := h
        cases h
        exact hret _ _ _ _ hP hD hS dX6_possibleUpTo_45
      have h := ifF h q8
      refine lv_iload hx hb dX6_possibleUpTo_11 (lv_at hl 4 rfl) ?_
      refine lv_bipush (v := (9 : Int32)) hx hb dX6_possibleUpTo_13 (by decide) ?_
      refine lv_icmp_gt (tgt := 44) hx hb dX6_possibleUpTo_15 (by decide) (fun q15 => ?_) (fun q15 => ?_)
      · have h := ifT h q15
        refine lv_iload_n hx hb dX6_possibleUpTo_44 rfl (lv_at hl 3 rfl) ?_
        have h : some v3 = some r := h
        cases h
        exact hret _ _ _ _ hP hD hS dX6_possibleUpTo_45
      have h := ifF h q15
      refine lv_aload_n hx hb dX6_possibleUpTo_18 rfl (lv_at hl 0 rfl) ?_
      refine va_get (D := g.1) (ci := 6) (v := .ref aC) (C := RX6) (T := TX6) (N := 4) hx hb hts inBX6 hown hK hP 0 rfl rfl 0 (by decide) (hts _ wd1_140) (fun _ h9 => h9) rfl dX6_possibleUpTo_19 ?_
      refine lv_iload_n hx hb dX6_possibleUpTo_22 rfl (lv_at hl 2 rfl) ?_
      refine lv_iload hx hb dX6_possibleUpTo_23 (lv_at hl 4 rfl) ?_
      obtain ⟨t25, hc25, h⟩ := bd1_to h
      refine go_P (st1 := [.int t25]) (W1 := (wX6 g aQ aQ_weights aQ_possible aC aC_variables aC_relations aC_numbers Q_letterSurplus Q_weights Q_possible C_size C_variables C_relations C_numbers)) (run_V (As := [.int x2, .int v4]) (rest := []) X hS (mX5_allow g l  aC aC_variables aC_relations aC_numbers C_size C_variables C_relations C_numbers x2 v4 t25 hc25) okX5_allow wd3_193 ⟨Nat.le_of_ble_eq_true rfl, Nat.le_of_ble_eq_true rfl⟩ ⟨rfl, rfl⟩ (va_recv hK hP (ci := 5) (q0 := 3) rfl rfl) (sub_P hP [3, 4, 5, 6] rfl) (hD.sub [3, 4, 5, 6] (by decide) rfl) (va_free hD hS hA [3, 4, 5, 6] rfl) rfl hl.1 rfl (Nat.le_of_ble_eq_true rfl) dX6_possibleUpTo_25 ⟨Nat.zero_le _, Nat.zero_le _⟩) hS (va_free hD hS hA [3, 4, 5, 6] rfl) hP hD [3, 4, 5, 6] [0, 1, 2] [0, 1, 2, 3, 4, 5, 6] rfl rfl (by decide) (by decide) rfl (by decide) rfl (fun H locs hP hD hS => ?_)
      refine lv_if_eq (tgt := 38) hx hb dX6_possibleUpTo_28 (by decide) (fun q28 => ?_) (fun q28 => ?_)
      · have h := ifT h q28
        obtain ⟨t38, et38⟩ : ∃ y : Int32, y = v4 + (1 : Int32) := ⟨_, rfl⟩
        refine lv_iinc (v := t38) (lv' := [(4, .int t38), (0, .ref aQ), (1, .int x1), (2, .int x2), (3, .int v3)]) hx hb dX6_possibleUpTo_38 hl (k := 4) rfl (by rw [et38]; rfl) (by decide) rfl (fun ls hl => ?_)
        have h := st_to h et38
        refine lv_goto (tgt := 5) hx hb dX6_possibleUpTo_41 (by decide) ?_
        exact ih5 v3 t38 ls H locs (lv_sub hl [1, 2, 3, 4, 0] rfl) hP hD hS h
      have h := ifF h q28
      refine lv_iload_n hx hb dX6_possibleUpTo_31 rfl (lv_at hl 3 rfl) ?_
      refine lv_iconst (v := (1 : Int32)) hx hb dX6_possibleUpTo_32 (by decide) ?_
      refine lv_iload hx hb dX6_possibleUpTo_33 (lv_at hl 4 rfl) ?_
      refine lv_ishl hx hb dX6_possibleUpTo_35 ?_
      refine lv_ior hx hb dX6_possibleUpTo_36 ?_
      refine lv_topi (fun t37 et37 => ?_)
      have h := st_to h et37
      refine lv_istore_n (lv' := [(3, .int t37), (0, .ref aQ), (1, .int x1), (2, .int x2), (4, .int v4)]) hx hb dX6_possibleUpTo_37 rfl hl (by decide) rfl (fun ls hl => ?_)
      obtain ⟨t38, et38⟩ : ∃ y : Int32, y = v4 + (1 : Int32) := ⟨_, rfl⟩
      refine lv_iinc (v := t38) (lv' := [(4, .int t38), (3, .int t37), (0, .ref aQ), (1, .int x1), (2, .int x2)]) hx hb dX6_possibleUpTo_38 hl (k := 4) rfl (by rw [et38]; rfl) (by decide) rfl (fun ls hl => ?_)
      have h := st_to h et38
      refine lv_goto (tgt := 5) hx hb dX6_possibleUpTo_41 (by decide) ?_
      exact ih5 t37 t38 ls H locs (lv_sub hl [2, 3, 4, 1, 0] rfl) hP hD hS h
  have hl : lv_has ls 5 [(0, .ref aQ), (1, .int x1), (2, .int x2)] := hl
  obtain ⟨H, hH⟩ : ∃ H, H = s.heap := ⟨_, rfl⟩
  obtain ⟨locs, hlocs⟩ : ∃ l : List Loc, l = [] := ⟨_, rfl⟩
  rw [show W p l e rmX6_possibleUpTo s m ([.ref aQ, .int x1, .int x2] : List Value).toArray below meth c s.heap [] 0 0 QQ (F0 m 0 ls []) = W p l e rmX6_possibleUpTo s m ([.ref aQ, .int x1, .int x2] : List Value).toArray below meth c H locs 0 0 QQ (F0 m 0 ls []) by rw [hH, hlocs]]
  have hP : va_P g.1 vwCl (wX6 g aQ aQ_weights aQ_possible aC aC_variables aC_relations aC_numbers Q_letterSurplus Q_weights Q_possible C_size C_variables C_relations C_numbers) H := by rw [hH]; exact hP
  have hD : va_D A (wX6 g aQ aQ_weights aQ_possible aC aC_variables aC_relations aC_numbers Q_letterSurplus Q_weights Q_possible C_size C_variables C_relations C_numbers) := hD
  have hS : va_S A s.heap H locs := by rw [hH, hlocs]; exact hS
  clear hH hlocs
  refine lv_iconst (v := (0 : Int32)) hx hb dX6_possibleUpTo_0 (by decide) ?_
  refine lv_istore_n (lv' := [(3, .int (0 : Int32)), (0, .ref aQ), (1, .int x1), (2, .int x2)]) hx hb dX6_possibleUpTo_1 rfl hl (by decide) rfl (fun ls hl => ?_)
  refine lv_iconst (v := (0 : Int32)) hx hb dX6_possibleUpTo_2 (by decide) ?_
  refine lv_istore (lv' := [(4, .int (0 : Int32)), (3, .int (0 : Int32)), (0, .ref aQ), (1, .int x1), (2, .int x2)]) hx hb dX6_possibleUpTo_3 hl (by decide) rfl (fun ls hl => ?_)
  exact L5 FU (0 : Int32) (0 : Int32) ls H locs (lv_sub hl [2, 3, 4, 1, 0] rfl) hP hD hS h
set_option maxHeartbeats 4000000 in
set_option maxRecDepth 100000 in
theorem mX6_prepare (g : GP) (l : Launch) (aQ aQ_weights aQ_possible aC aC_variables aC_relations aC_numbers aE : Nat) (Q_letterSurplus : Int32) (Q_weights : Nat → Int32) (Q_possible : Nat → Int32) (C_size : Int32) (C_variables : Nat → Int32) (C_relations : Nat → Int32) (C_numbers : Nat → Int32) (E_left : Int64) (E_right : Int64) (x2 : Int32) (Q_letterSurplus_o : Int32) (Q_weights_o : Nat → Int32) (Q_possible_o : Nat → Int32) (h : fQ_prepare Q_weights Q_possible C_size C_variables C_relations C_numbers E_left E_right x2 = some (Q_letterSurplus_o, Q_weights_o, Q_possible_o)) : Ct g l yX6_prepare cX6_prepare 5 none rmX6_prepare [.ref aQ, .ref aE, .int x2] ((wX6 g aQ aQ_weights aQ_possible aC aC_variables aC_relations aC_numbers Q_letterSurplus Q_weights Q_possible C_size C_variables C_relations C_numbers) ++ (wX2 g aE E_left E_right)) none ((wX6 g aQ aQ_weights aQ_possible aC aC_variables aC_relations aC_numbers Q_letterSurplus_o Q_weights_o Q_possible_o C_size C_variables C_relations C_numbers) ++ (wX2 g aE E_left E_right)) := by
  refine Ct.introV (by decide) (Nat.le_of_ble_eq_true rfl) ?_
  intro p e s m below meth c A QQ ls hyp hret
  obtain ⟨hx, hb, hml, hts, hown, hA, hE, hP, hD, hl⟩ := hyp
  have hK := hE.1
  have hS : va_S A s.heap s.heap [] := va_S.rf
  have X : Here g p s m c cX6_prepare 5 ([.ref aQ, .ref aE, .int x2] : List Value).toArray RX6 A := ⟨⟨hx, hb, hml, hown, hts⟩, hE, hA⟩
  have L17 : ∀ (n17 : Nat), ∀ (Q_letterSurplus : Int32) (Q_weights : Nat → Int32) (Q_possible : Nat → Int32) (v3 : Int32) (ls : Array Slot) (H : Heap) (locs : List Loc), lv_has ls 5 [(0, .ref aQ), (1, .ref aE), (2, .int x2), (3, .int v3)] → va_P g.1 vwCl ((wX6 g aQ aQ_weights aQ_possible aC aC_variables aC_relations aC_numbers Q_letterSurplus Q_weights Q_possible C_size C_variables C_relations C_numbers) ++ (wX2 g aE E_left E_right)) H → va_D A ((wX6 g aQ aQ_weights aQ_possible aC aC_variables aC_relations aC_numbers Q_letterSurplus Q_weights Q_possible C_size C_variables C_relations C_numbers) ++ (wX2 g aE E_left E_right)) → va_S A s.heap H locs → fx3 (fQ_prepare_17 Q_letterSurplus C_size C_variables C_relations C_numbers E_left E_right x2) n17 Q_weights Q_possible v3 = some (Q_letterSurplus_o, Q_weights_o, Q_possible_o) → W p l e rmX6_prepare s m ([.ref aQ, .ref aE, .int x2] : List Value).toArray below meth c H locs 0 0 QQ (F0 m 17 ls []) := by
    intro n17
    induction n17 with
    | zero => intro Q_letterSurplus Q_weights Q_possible v3 ls H locs hl hP hD hS h; exact fx3_0 h
    | succ n17 ih17 =>
      intro Q_letterSurplus Q_weights Q_possible v3 ls H locs hl hP hD hS h
      have h := (fx3_s (fQ_prepare_17 Q_letterSurplus C_size C_variables C_relations C_numbers E_left E_right x2) n17 Q_weights Q_possible v3).symm.trans h
      have B60 : ∀ (Q_weights : Nat → Int32) (Q_possible : Nat → Int32) (v3 : Int32) (s1 : Int32) (s3 : Int32) (ls : Array Slot) (H : Heap) (locs : List Loc), lv_has ls 5 [(0, .ref aQ), (1, .ref aE), (2, .int x2), (3, .int v3)] → va_P g.1 vwCl ((wX6 g aQ aQ_weights aQ_possible aC aC_variables aC_relations aC_numbers Q_letterSurplus Q_weights Q_possible C_size C_variables C_relations C_numbers) ++ (wX2 g aE E_left E_right)) H → va_D A ((wX6 g aQ aQ_weights aQ_possible aC aC_variables aC_relations aC_numbers Q_letterSurplus Q_weights Q_possible C_size C_variables C_relations C_numbers) ++ (wX2 g aE E_left E_right)) → va_S A s.heap H locs → fQ_prepare_60 (fx3 (fQ_prepare_17 Q_letterSurplus C_size C_variables C_relations C_numbers E_left E_right x2) n17) Q_letterSurplus Q_weights Q_possible C_size C_variables C_relations C_numbers E_left E_right x2 v3 s1 s3 = some (Q_letterSurplus_o, Q_weights_o, Q_possible_o) → W p l e rmX6_prepare s m ([.ref aQ, .ref aE, .int x2] : List Value).toArray below meth c H locs 0 0 QQ (F0 m 60 ls [.int s3, .ref aQ, .int s1, .ref aQ_possible]) := by
        intro Q_weights Q_possible v3 s1 s3 ls H locs hl hP hD hS h
        refine lv_iload_n hx hb dX6_prepare_60 rfl (lv_at hl 3 rfl) ?_
        obtain ⟨t61, hc61, h⟩ := bd1_to h
        refine go_P (st1 := [.int t61, .int s1, .ref aQ_possible]) (W1 := ((wX6 g aQ aQ_weights aQ_possible aC aC_variables aC_relations aC_numbers Q_letterSurplus Q_weights Q_possible C_size C_variables C_relations C_numbers) ++ (wX2 g aE E_left E_right))) (run_V (As := [.int s3, .int v3]) (rest := [.int s1, .ref aQ_possible]) X hS (mX6_possibleUpTo g l  aQ aQ_weights aQ_possible aC aC_variables aC_relations aC_numbers Q_letterSurplus Q_weights Q_possible C_size C_variables C_relations C_numbers s3 v3 t61 hc61) okX6_possibleUpTo wd3_189 ⟨Nat.le_of_ble_eq_true rfl, Nat.le_of_ble_eq_true rfl⟩ ⟨rfl, rfl⟩ (va_recv hK hP (ci := 6) (q0 := 0) rfl rfl) (sub_P hP [0, 1, 2, 3, 4, 5, 6] rfl) (hD.sub [0, 1, 2, 3, 4, 5, 6] (by decide) rfl) (va_free hD hS hA [0, 1, 2, 3, 4, 5, 6] rfl) rfl hl.1 rfl (Nat.le_of_ble_eq_true rfl) dX6_prepare_61 ⟨Nat.zero_le _, Nat.zero_le _⟩) hS (va_free hD hS hA [0, 1, 2, 3, 4, 5, 6] rfl) hP hD [0, 1, 2, 3, 4, 5, 6] [7] [1, 2, 3, 4, 5, 6, 7, 0] rfl rfl (by decide) (by decide) rfl (by decide) rfl (fun H locs hP hD hS => ?_)
        have hin := sti_in h
        refine va_iast hx hb hK hP hD hS 2 0 rfl rfl hin dX6_prepare_64 (fun H locs hP hD hS => ?_)
        obtain ⟨Q_possible_64, eQ_possible_64⟩ : ∃ y : Nat → Int32, y = upd Q_possible (Int32.toNatClampNeg s1) t61 := ⟨_, rfl⟩
        have h := sti_to h eQ_possible_64
        have hP : va_P g.1 vwCl ((wX6 g aQ aQ_weights aQ_possible aC aC_variables aC_relations aC_numbers Q_letterSurplus Q_weights Q_possible_64 C_size C_variables C_relations C_numbers) ++ (wX2 g aE E_left E_right)) H := by rw [eQ_possible_64]; exact hP
        have hD : va_D A ((wX6 g aQ aQ_weights aQ_possible aC aC_variables aC_relations aC_numbers Q_letterSurplus Q_weights Q_possible_64 C_size C_variables C_relations C_numbers) ++ (wX2 g aE E_left E_right)) := by rw [eQ_possible_64]; exact hD
        obtain ⟨t65, et65⟩ : ∃ y : Int32, y = v3 + (1 : Int32) := ⟨_, rfl⟩
        refine lv_iinc (v := t65) (lv' := [(3, .int t65), (0, .ref aQ), (1, .ref aE), (2, .int x2)]) hx hb dX6_prepare_65 hl (k := 3) rfl (by rw [et65]; rfl) (by decide) rfl (fun ls hl => ?_)
        have h := st_to h et65
        refine lv_goto (tgt := 17) hx hb dX6_prepare_68 (by decide) ?_
        exact ih17 Q_letterSurplus Q_weights Q_possible_64 t65 ls H locs (lv_sub hl [1, 2, 3, 0] rfl) hP hD hS h
      refine lv_iload_n hx hb dX6_prepare_17 rfl (lv_at hl 3 rfl) ?_
      refine lv_iconst (v := (4 : Int32)) hx hb dX6_prepare_18 (by decide) ?_
      refine lv_icmp_ge (tgt := 71) hx hb dX6_prepare_19 (by decide) (fun q19 => ?_) (fun q19 => ?_)
      · have h := ifT h q19
        have h : some (Q_letterSurplus, Q_weights, Q_possible) = some (Q_letterSurplus_o, Q_weights_o, Q_possible_o) := h
        cases h
        exact hret _ _ _ _ hP hD hS dX6_prepare_71
      have h := ifF h q19
      refine lv_iload_n hx hb dX6_prepare_22 rfl (lv_at hl 3 rfl) ?_
      obtain ⟨t23, hc23, h⟩ := bd1_to h
      refine go_0 (st1 := [.int t23]) (run_S (As := [.int v3]) (rest := []) X hS (mX9_variable g l  v3 t23 hc23) okX9_variable wd3_187 ⟨Nat.le_of_ble_eq_true rfl, Nat.le_of_ble_eq_true rfl⟩ ⟨rfl, rfl⟩ nil_P nil_D (nil_F hS hA) rfl hl.1 rfl (Nat.le_of_ble_eq_true rfl) dX6_prepare_23 ⟨Nat.zero_le _, Nat.zero_le _⟩) hS hA hP rfl (fun H locs hP hS => ?_)
      refine lv_istore (lv' := [(4, .int t23), (0, .ref aQ), (1, .ref aE), (2, .int x2), (3, .int v3)]) hx hb dX6_prepare_26 hl (by decide) rfl (fun ls hl => ?_)
      refine lv_aload_n hx hb dX6_prepare_28 rfl (lv_at hl 1 rfl) ?_
      refine va_get (D := g.1) (ci := 6) (v := .ref aQ_weights) (C := RX6) (T := TX6) (N := 4) hx hb hts inBX6 hown hK hP 0 rfl rfl 1 (by decide) (hts _ wd1_141) (fun _ h9 => h9) rfl dX6_prepare_29 ?_
      refine lv_iload_n hx hb dX6_prepare_32 rfl (lv_at hl 4 rfl) ?_
      refine lv_aload_n hx hb dX6_prepare_33 rfl (lv_at hl 2 rfl) ?_
      refine lv_iload hx hb dX6_prepare_34 (lv_at hl 0 rfl) ?_
      obtain ⟨t36, hc36, h⟩ := bd1_to h
      refine go_P (st1 := [.int t36, .int v3, .ref aQ_weights]) (W1 := ((wX6 g aQ aQ_weights aQ_possible aC aC_variables aC_relations aC_numbers Q_letterSurplus Q_weights Q_possible C_size C_variables C_relations C_numbers) ++ (wX2 g aE E_left E_right))) (run_V (As := [.int t23]) (rest := [.int v3, .ref aQ_weights]) X hS (mX2_surplus g l  aE E_left E_right t23 t36 hc36) okX2_surplus wd3_183 ⟨Nat.le_of_ble_eq_true rfl, Nat.le_of_ble_eq_true rfl⟩ ⟨rfl, rfl⟩ (va_recv hK hP (ci := 2) (q0 := 7) rfl rfl) (sub_P hP [7] rfl) (hD.sub [7] (by decide) rfl) (va_free hD hS hA [7] rfl) rfl hl.1 rfl (Nat.le_of_ble_eq_true rfl) dX6_prepare_36 ⟨Nat.zero_le _, Nat.zero_le _⟩) hS (va_free hD hS hA [7] rfl) hP hD [7] [0, 1, 2, 3, 4, 5, 6] [0, 1, 2, 3, 4, 5, 6, 7] rfl rfl (by decide) (by decide) rfl (by decide) rfl (fun H locs hP hD hS => ?_)
      have hin := sti_in h
      refine va_iast hx hb hK hP hD hS 1 0 rfl rfl hin dX6_prepare_39 (fun H locs hP hD hS => ?_)
      obtain ⟨Q_weights_39, eQ_weights_39⟩ : ∃ y : Nat → Int32, y = upd Q_weights (Int32.toNatClampNeg v3) t36 := ⟨_, rfl⟩
      have h := sti_to h eQ_weights_39
      have hP : va_P g.1 vwCl ((wX6 g aQ aQ_weights aQ_possible aC aC_variables aC_relations aC_numbers Q_letterSurplus Q_weights_39 Q_possible C_size C_variables C_relations C_numbers) ++ (wX2 g aE E_left E_right)) H := by rw [eQ_weights_39]; exact hP
      have hD : va_D A ((wX6 g aQ aQ_weights aQ_possible aC aC_variables aC_relations aC_numbers Q_letterSurplus Q_weights_39 Q_possible C_size C_variables C_relations C_numbers) ++ (wX2 g aE E_left E_right)) := by rw [eQ_weights_39]; exact hD
      refine lv_aload_n hx hb dX6_prepare_40 rfl (lv_at hl 1 rfl) ?_
      refine va_get (D := g.1) (ci := 6) (v := .ref aQ_possible) (C := RX6) (T := TX6) (N := 4) hx hb hts inBX6 hown hK hP 0 rfl rfl 2 (by decide) (hts _ wd1_142) (fun _ h9 => h9) rfl dX6_prepare_41 ?_
      refine lv_iload_n hx hb dX6_prepare_44 rfl (lv_at hl 4 rfl) ?_
      refine lv_aload_n hx hb dX6_prepare_45 rfl (lv_at hl 1 rfl) ?_
      refine lv_aload_n hx hb dX6_prepare_46 rfl (lv_at hl 2 rfl) ?_
      refine lv_iload hx hb dX6_prepare_47 (lv_at hl 0 rfl) ?_
      obtain ⟨t49, hc49, h⟩ := bd1_to h
      refine go_P (st1 := [.int t49, .ref aQ, .int v3, .ref aQ_possible]) (W1 := ((wX6 g aQ aQ_weights aQ_possible aC aC_variables aC_relations aC_numbers Q_letterSurplus Q_weights_39 Q_possible C_size C_variables C_relations C_numbers) ++ (wX2 g aE E_left E_right))) (run_V (As := [.int t23]) (rest := [.ref aQ, .int v3, .ref aQ_possible]) X hS (mX2_total g l  aE E_left E_right t23 t49 hc49) okX2_total wd3_188 ⟨Nat.le_of_ble_eq_true rfl, Nat.le_of_ble_eq_true rfl⟩ ⟨rfl, rfl⟩ (va_recv hK hP (ci := 2) (q0 := 7) rfl rfl) (sub_P hP [7] rfl) (hD.sub [7] (by decide) rfl) (va_free hD hS hA [7] rfl) rfl hl.1 rfl (Nat.le_of_ble_eq_true rfl) dX6_prepare_49 ⟨Nat.zero_le _, Nat.zero_le _⟩) hS (va_free hD hS hA [7] rfl) hP hD [7] [0, 1, 2, 3, 4, 5, 6] [0, 1, 2, 3, 4, 5, 6, 7] rfl rfl (by decide) (by decide) rfl (by decide) rfl (fun H locs hP hD hS => ?_)
      refine lv_if_ne (tgt := 59) hx hb dX6_prepare_52 (by decide) (fun q52 => ?_) (fun q52 => ?_)
      · have h := ifF h q52
        refine lv_iload_n hx hb dX6_prepare_59 rfl (lv_at hl 3 rfl) ?_
        exact B60 Q_weights_39 Q_possible v3 v3 x2 ls H locs (lv_sub hl [1, 2, 3, 4] rfl) hP hD hS h
      have h := ifT h q52
      refine lv_iconst (v := (0 : Int32)) hx hb dX6_prepare_55 (by decide) ?_
      refine lv_goto (tgt := 60) hx hb dX6_prepare_56 (by decide) ?_
      exact B60 Q_weights_39 Q_possible v3 v3 (0 : Int32) ls H locs (lv_sub hl [1, 2, 3, 4] rfl) hP hD hS h
  have hl : lv_has ls 5 [(0, .ref aQ), (1, .ref aE), (2, .int x2)] := hl
  obtain ⟨H, hH⟩ : ∃ H, H = s.heap := ⟨_, rfl⟩
  obtain ⟨locs, hlocs⟩ : ∃ l : List Loc, l = [] := ⟨_, rfl⟩
  rw [show W p l e rmX6_prepare s m ([.ref aQ, .ref aE, .int x2] : List Value).toArray below meth c s.heap [] 0 0 QQ (F0 m 0 ls []) = W p l e rmX6_prepare s m ([.ref aQ, .ref aE, .int x2] : List Value).toArray below meth c H locs 0 0 QQ (F0 m 0 ls []) by rw [hH, hlocs]]
  have hP : va_P g.1 vwCl ((wX6 g aQ aQ_weights aQ_possible aC aC_variables aC_relations aC_numbers Q_letterSurplus Q_weights Q_possible C_size C_variables C_relations C_numbers) ++ (wX2 g aE E_left E_right)) H := by rw [hH]; exact hP
  have hD : va_D A ((wX6 g aQ aQ_weights aQ_possible aC aC_variables aC_relations aC_numbers Q_letterSurplus Q_weights Q_possible C_size C_variables C_relations C_numbers) ++ (wX2 g aE E_left E_right)) := hD
  have hS : va_S A s.heap H locs := by rw [hH, hlocs]; exact hS
  clear hH hlocs
  refine lv_aload_n hx hb dX6_prepare_0 rfl (lv_at hl 0 rfl) ?_
  refine lv_aload_n hx hb dX6_prepare_1 rfl (lv_at hl 1 rfl) ?_
  refine lv_iconst (v := (1 : Int32)) hx hb dX6_prepare_2 (by decide) ?_
  obtain ⟨t3, hc3, h⟩ := bd1_to h
  refine go_P (st1 := [.int t3, .ref aQ]) (W1 := ((wX6 g aQ aQ_weights aQ_possible aC aC_variables aC_relations aC_numbers Q_letterSurplus Q_weights Q_possible C_size C_variables C_relations C_numbers) ++ (wX2 g aE E_left E_right))) (run_V (As := [.int (1 : Int32)]) (rest := [.ref aQ]) X hS (mX2_surplus g l  aE E_left E_right (1 : Int32) t3 hc3) okX2_surplus wd3_183 ⟨Nat.le_of_ble_eq_true rfl, Nat.le_of_ble_eq_true rfl⟩ ⟨rfl, rfl⟩ (va_recv hK hP (ci := 2) (q0 := 7) rfl rfl) (sub_P hP [7] rfl) (hD.sub [7] (by decide) rfl) (va_free hD hS hA [7] rfl) rfl hl.1 rfl (Nat.le_of_ble_eq_true rfl) dX6_prepare_3 ⟨Nat.zero_le _, Nat.zero_le _⟩) hS (va_free hD hS hA [7] rfl) hP hD [7] [0, 1, 2, 3, 4, 5, 6] [0, 1, 2, 3, 4, 5, 6, 7] rfl rfl (by decide) (by decide) rfl (by decide) rfl (fun H locs hP hD hS => ?_)
  refine lv_aload_n hx hb dX6_prepare_6 rfl (lv_at hl 1 rfl) ?_
  refine lv_iconst (v := (2 : Int32)) hx hb dX6_prepare_7 (by decide) ?_
  obtain ⟨t8, hc8, h⟩ := bd1_to h
  refine go_P (st1 := [.int t8, .int t3, .ref aQ]) (W1 := ((wX6 g aQ aQ_weights aQ_possible aC aC_variables aC_relations aC_numbers Q_letterSurplus Q_weights Q_possible C_size C_variables C_relations C_numbers) ++ (wX2 g aE E_left E_right))) (run_V (As := [.int (2 : Int32)]) (rest := [.int t3, .ref aQ]) X hS (mX2_surplus g l  aE E_left E_right (2 : Int32) t8 hc8) okX2_surplus wd3_183 ⟨Nat.le_of_ble_eq_true rfl, Nat.le_of_ble_eq_true rfl⟩ ⟨rfl, rfl⟩ (va_recv hK hP (ci := 2) (q0 := 7) rfl rfl) (sub_P hP [7] rfl) (hD.sub [7] (by decide) rfl) (va_free hD hS hA [7] rfl) rfl hl.1 rfl (Nat.le_of_ble_eq_true rfl) dX6_prepare_8 ⟨Nat.zero_le _, Nat.zero_le _⟩) hS (va_free hD hS hA [7] rfl) hP hD [7] [0, 1, 2, 3, 4, 5, 6] [0, 1, 2, 3, 4, 5, 6, 7] rfl rfl (by decide) (by decide) rfl (by decide) rfl (fun H locs hP hD hS => ?_)
  refine lv_iadd hx hb dX6_prepare_11 ?_
  refine lv_topi (fun t12 et12 => ?_)
  have h := st_to h et12
  refine va_put (D := g.1) (ci := 6) (v := .int t12) (ty := .int) (C := RX6) (T := TX6) (N := 4) hx hb hts inBX6 tyX6 tyX6_ok nmX6 hown hK hP hD hS 0 rfl rfl 3 (by decide) (hts _ wd1_143) (fun _ h9 => h9) rfl (tyX6_ok 3 (by decide)) rfl rfl (Nat.le_of_ble_eq_true rfl) dX6_prepare_12 (fun H locs hP hD hS => ?_)
  have hP : va_P g.1 vwCl ((wX6 g aQ aQ_weights aQ_possible aC aC_variables aC_relations aC_numbers t12 Q_weights Q_possible C_size C_variables C_relations C_numbers) ++ (wX2 g aE E_left E_right)) H := hP
  have hD : va_D A ((wX6 g aQ aQ_weights aQ_possible aC aC_variables aC_relations aC_numbers t12 Q_weights Q_possible C_size C_variables C_relations C_numbers) ++ (wX2 g aE E_left E_right)) := hD
  refine lv_iconst (v := (0 : Int32)) hx hb dX6_prepare_15 (by decide) ?_
  refine lv_istore_n (lv' := [(3, .int (0 : Int32)), (0, .ref aQ), (1, .ref aE), (2, .int x2)]) hx hb dX6_prepare_16 rfl hl (by decide) rfl (fun ls hl => ?_)
  exact L17 FU t12 Q_weights Q_possible (0 : Int32) ls H locs (lv_sub hl [1, 2, 3, 0] rfl) hP hD hS h
set_option maxHeartbeats 4000000 in
set_option maxRecDepth 100000 in
theorem mX6_letterSurplus (g : GP) (l : Launch) (aQ aQ_weights aQ_possible aC aC_variables aC_relations aC_numbers : Nat) (Q_letterSurplus : Int32) (Q_weights : Nat → Int32) (Q_possible : Nat → Int32) (C_size : Int32) (C_variables : Nat → Int32) (C_relations : Nat → Int32) (C_numbers : Nat → Int32)  (r : Int32) (h : fQ_letterSurplus Q_letterSurplus = some r) : Ct g l yX6_letterSurplus cX6_letterSurplus 1 (some .int) rmX6_letterSurplus [.ref aQ] (wX6 g aQ aQ_weights aQ_possible aC aC_variables aC_relations aC_numbers Q_letterSurplus Q_weights Q_possible C_size C_variables C_relations C_numbers) (some (.int r)) (wX6 g aQ aQ_weights aQ_possible aC aC_variables aC_relations aC_numbers Q_letterSurplus Q_weights Q_possible C_size C_variables C_relations C_numbers) := by
  refine Ct.introI (by decide) (Nat.le_of_ble_eq_true rfl) ?_
  intro p e s m below meth c A QQ ls hyp hret
  obtain ⟨hx, hb, hml, hts, hown, hA, hE, hP, hD, hl⟩ := hyp
  have hK := hE.1
  have hS : va_S A s.heap s.heap [] := va_S.rf
  have X : Here g p s m c cX6_letterSurplus 1 ([.ref aQ] : List Value).toArray RX6 A := ⟨⟨hx, hb, hml, hown, hts⟩, hE, hA⟩
  have hl : lv_has ls 1 [(0, .ref aQ)] := hl
  obtain ⟨H, hH⟩ : ∃ H, H = s.heap := ⟨_, rfl⟩
  obtain ⟨locs, hlocs⟩ : ∃ l : List Loc, l = [] := ⟨_, rfl⟩
  rw [show W p l e rmX6_letterSurplus s m ([.ref aQ] : List Value).toArray below meth c s.heap [] 0 0 QQ (F0 m 0 ls []) = W p l e rmX6_letterSurplus s m ([.ref aQ] : List Value).toArray below meth c H locs 0 0 QQ (F0 m 0 ls []) by rw [hH, hlocs]]
  have hP : va_P g.1 vwCl (wX6 g aQ aQ_weights aQ_possible aC aC_variables aC_relations aC_numbers Q_letterSurplus Q_weights Q_possible C_size C_variables C_relations C_numbers) H := by rw [hH]; exact hP
  have hD : va_D A (wX6 g aQ aQ_weights aQ_possible aC aC_variables aC_relations aC_numbers Q_letterSurplus Q_weights Q_possible C_size C_variables C_relations C_numbers) := hD
  have hS : va_S A s.heap H locs := by rw [hH, hlocs]; exact hS
  clear hH hlocs
  refine lv_aload_n hx hb dX6_letterSurplus_0 rfl (lv_at hl 0 rfl) ?_
  refine va_get (D := g.1) (ci := 6) (v := .int Q_letterSurplus) (C := RX6) (T := TX6) (N := 4) hx hb hts inBX6 hown hK hP 0 rfl rfl 3 (by decide) (hts _ wd1_143) (fun _ h9 => h9) rfl dX6_letterSurplus_1 ?_
  have h : some Q_letterSurplus = some r := h
  cases h
  exact hret _ _ _ _ hP hD hS dX6_letterSurplus_4
set_option maxHeartbeats 4000000 in
set_option maxRecDepth 100000 in
theorem mX0_numberOf (g : GP) (l : Launch) (aA aA_letters aA_lengths : Nat) (A_letters : Nat → Int64) (A_lengths : Nat → Int32) (x1 : Int32) (r : Int32) (h : fA_numberOf A_letters A_lengths x1 = some r) : Ct g l yX0_numberOf cX0_numberOf 3 (some .int) rmX0_numberOf [.ref aA, .int x1] (wX0 g aA aA_letters aA_lengths A_letters A_lengths) (some (.int r)) (wX0 g aA aA_letters aA_lengths A_letters A_lengths) := by
  refine Ct.introI (by decide) (Nat.le_of_ble_eq_true rfl) ?_
  intro p e s m below meth c A QQ ls hyp hret
  obtain ⟨hx, hb, hml, hts, hown, hA, hE, hP, hD, hl⟩ := hyp
  have hK := hE.1
  have hS : va_S A s.heap s.heap [] := va_S.rf
  have X : Here g p s m c cX0_numberOf 3 ([.ref aA, .int x1] : List Value).toArray RX0 A := ⟨⟨hx, hb, hml, hown, hts⟩, hE, hA⟩
  have hl : lv_has ls 3 [(0, .ref aA), (1, .int x1)] := hl
  obtain ⟨H, hH⟩ : ∃ H, H = s.heap := ⟨_, rfl⟩
  obtain ⟨locs, hlocs⟩ : ∃ l : List Loc, l = [] := ⟨_, rfl⟩
  rw [show W p l e rmX0_numberOf s m ([.ref aA, .int x1] : List Value).toArray below meth c s.heap [] 0 0 QQ (F0 m 0 ls []) = W p l e rmX0_numberOf s m ([.ref aA, .int x1] : List Value).toArray below meth c H locs 0 0 QQ (F0 m 0 ls []) by rw [hH, hlocs]]
  have hP : va_P g.1 vwCl (wX0 g aA aA_letters aA_lengths A_letters A_lengths) H := by rw [hH]; exact hP
  have hD : va_D A (wX0 g aA aA_letters aA_lengths A_letters A_lengths) := hD
  have hS : va_S A s.heap H locs := by rw [hH, hlocs]; exact hS
  clear hH hlocs
  refine lv_iload_n hx hb dX0_numberOf_0 rfl (lv_at hl 1 rfl) ?_
  refine lv_bipush (v := (7 : Int32)) hx hb dX0_numberOf_1 (by decide) ?_
  refine lv_iand hx hb dX0_numberOf_3 ?_
  refine lv_topi (fun t4 et4 => ?_)
  have h := st_to h et4
  refine lv_istore_n (lv' := [(2, .int t4), (0, .ref aA), (1, .int x1)]) hx hb dX0_numberOf_4 rfl hl (by decide) rfl (fun ls hl => ?_)
  refine lv_lconst (v := (1 : Int64)) hx hb dX0_numberOf_5 (by decide) ?_
  refine lv_aload_n hx hb dX0_numberOf_6 rfl (lv_at hl 1 rfl) ?_
  refine va_get (D := g.1) (ci := 0) (v := .ref aA_lengths) (C := RX0) (T := TX0) (N := 2) hx hb hts inBX0 hown hK hP 0 rfl rfl 1 (by decide) (hts _ wd1_128) (fun _ h9 => h9) rfl dX0_numberOf_7 ?_
  refine lv_iload_n hx hb dX0_numberOf_10 rfl (lv_at hl 0 rfl) ?_
  have hin := ld_in h
  refine va_iald hx hb hK hP 2 0 rfl rfl hin dX0_numberOf_11 ?_
  refine lv_topi (fun t11 et11 => ?_)
  have h := ld_to h et11
  refine lv_lshl (v := (shlL (1 : Int64) t11)) hx hb dX0_numberOf_12 rfl ?_
  refine lv_aload_n hx hb dX0_numberOf_13 rfl (lv_at hl 1 rfl) ?_
  refine va_get (D := g.1) (ci := 0) (v := .ref aA_letters) (C := RX0) (T := TX0) (N := 2) hx hb hts inBX0 hown hK hP 0 rfl rfl 0 (by decide) (hts _ wd1_127) (fun _ h9 => h9) rfl dX0_numberOf_14 ?_
  refine lv_iload_n hx hb dX0_numberOf_17 rfl (lv_at hl 0 rfl) ?_
  have hin := ld_in h
  refine va_lald hx hb hK hP 1 1 rfl rfl hin dX0_numberOf_18 ?_
  refine lv_topl (fun t18 et18 => ?_)
  have h := ld_to h et18
  refine lv_ladd hx hb dX0_numberOf_19 ?_
  refine lv_lconst (v := (1 : Int64)) hx hb dX0_numberOf_20 (by decide) ?_
  refine lv_lsub hx hb dX0_numberOf_21 ?_
  refine lv_l2i (v := (Int64.toInt32 (((shlL (1 : Int64) t11) + t18) - (1 : Int64)))) hx hb dX0_numberOf_22 rfl ?_
  have h : some (Int64.toInt32 (((shlL (1 : Int64) t11) + t18) - (1 : Int64))) = some r := h
  cases h
  exact hret _ _ _ _ hP hD hS dX0_numberOf_23
