set_option maxHeartbeats 4000000 in
set_option maxRecDepth 100000 in
theorem mX11_load (g : GP) (l : Launch) (aX aT aT_characters aE aH aH_lefts aH_rights aS aS_lefts aS_rights aS_filled aA aA_letters aA_lengths aK aB aB_first aQ aQ_weights aQ_possible aC aC_variables aC_relations aC_numbers aA2 aA2_letters aA2_lengths aN aN_lefts aN_rights aN_parents aN_rules aN_depths aE2 : Nat) (T_size : Int32) (T_characters : Nat → Int32) (E_left : Int64) (E_right : Int64) (H_size : Int32) (H_lefts : Nat → Int64) (H_rights : Nat → Int64) (S_lefts : Nat → Int64) (S_rights : Nat → Int64) (S_filled : Nat → Int32) (A_letters : Nat → Int64) (A_lengths : Nat → Int32) (B_left : Int64) (B_right : Int64) (B_found : Int32) (B_least : Int32) (B_first : Nat → Int32) (Q_letterSurplus : Int32) (Q_weights : Nat → Int32) (Q_possible : Nat → Int32) (C_size : Int32) (C_variables : Nat → Int32) (C_relations : Nat → Int32) (C_numbers : Nat → Int32) (A2_letters : Nat → Int64) (A2_lengths : Nat → Int32) (N_size : Int32) (N_solved : Int32) (N_dropped : Int32) (N_lefts : Nat → Int64) (N_rights : Nat → Int64) (N_parents : Nat → Int32) (N_rules : Nat → Int32) (N_depths : Nat → Int32) (E2_left : Int64) (E2_right : Int64)  (r : Int32) (E_left_o : Int64) (E_right_o : Int64) (H_size_o : Int32) (S_filled_o : Nat → Int32) (C_size_o : Int32) (C_variables_o : Nat → Int32) (C_relations_o : Nat → Int32) (C_numbers_o : Nat → Int32) (h : fX_load T_size T_characters E_left E_right H_size S_filled C_size C_variables C_relations C_numbers = some (r, E_left_o, E_right_o, H_size_o, S_filled_o, C_size_o, C_variables_o, C_relations_o, C_numbers_o)) : Ct g l yX11_load cX11_load 1 (some .int) rmX11_load [.ref aX] (wX11 g aX aT aT_characters aE aH aH_lefts aH_rights aS aS_lefts aS_rights aS_filled aA aA_letters aA_lengths aK aB aB_first aQ aQ_weights aQ_possible aC aC_variables aC_relations aC_numbers aA2 aA2_letters aA2_lengths aN aN_lefts aN_rights aN_parents aN_rules aN_depths aE2 T_size T_characters E_left E_right H_size H_lefts H_rights S_lefts S_rights S_filled A_letters A_lengths B_left B_right B_found B_least B_first Q_letterSurplus Q_weights Q_possible C_size C_variables C_relations C_numbers A2_letters A2_lengths N_size N_solved N_dropped N_lefts N_rights N_parents N_rules N_depths E2_left E2_right) (some (.int r)) (wX11 g aX aT aT_characters aE aH aH_lefts aH_rights aS aS_lefts aS_rights aS_filled aA aA_letters aA_lengths aK aB aB_first aQ aQ_weights aQ_possible aC aC_variables aC_relations aC_numbers aA2 aA2_letters aA2_lengths aN aN_lefts aN_rights aN_parents aN_rules aN_depths aE2 T_size T_characters E_left_o E_right_o H_size_o H_lefts H_rights S_lefts S_rights S_filled_o A_letters A_lengths B_left B_right B_found B_least B_first Q_letterSurplus Q_weights Q_possible C_size_o C_variables_o C_relations_o C_numbers_o A2_letters A2_lengths N_size N_solved N_dropped N_lefts N_rights N_parents N_rules N_depths E2_left E2_right) := by
  refine Ct.introI (by decide) (Nat.le_of_ble_eq_true rfl) ?_
  intro p e s m below meth c A QQ ls hyp hret
  obtain ⟨hx, hb, hml, hts, hown, hA, hE, hP, hD, hl⟩ := hyp
  have hK := hE.1
  have hS : va_S A s.heap s.heap [] := va_S.rf
  have X : Here g p s m c cX11_load 1 ([.ref aX] : List Value).toArray RX11 A := ⟨⟨hx, hb, hml, hown, hts⟩, hE, hA⟩
  have hl : lv_has ls 1 [(0, .ref aX)] := hl
  obtain ⟨H, hH⟩ : ∃ H, H = s.heap := ⟨_, rfl⟩
  obtain ⟨locs, hlocs⟩ : ∃ l : List Loc, l = [] := ⟨_, rfl⟩
  rw [show W p l e rmX11_load s m ([.ref aX] : List Value).toArray below meth c s.heap [] 0 0 QQ (F0 m 0 ls []) = W p l e rmX11_load s m ([.ref aX] : List Value).toArray below meth c H locs 0 0 QQ (F0 m 0 ls []) by rw [hH, hlocs]]
  have hP : va_P g.1 vwCl (wX11 g aX aT aT_characters aE aH aH_lefts aH_rights aS aS_lefts aS_rights aS_filled aA aA_letters aA_lengths aK aB aB_first aQ aQ_weights aQ_possible aC aC_variables aC_relations aC_numbers aA2 aA2_letters aA2_lengths aN aN_lefts aN_rights aN_parents aN_rules aN_depths aE2 T_size T_characters E_left E_right H_size H_lefts H_rights S_lefts S_rights S_filled A_letters A_lengths B_left B_right B_found B_least B_first Q_letterSurplus Q_weights Q_possible C_size C_variables C_relations C_numbers A2_letters A2_lengths N_size N_solved N_dropped N_lefts N_rights N_parents N_rules N_depths E2_left E2_right) H := by rw [hH]; exact hP
  have hD : va_D A (wX11 g aX aT aT_characters aE aH aH_lefts aH_rights aS aS_lefts aS_rights aS_filled aA aA_letters aA_lengths aK aB aB_first aQ aQ_weights aQ_possible aC aC_variables aC_relations aC_numbers aA2 aA2_letters aA2_lengths aN aN_lefts aN_rights aN_parents aN_rules aN_depths aE2 T_size T_characters E_left E_right H_size H_lefts H_rights S_lefts S_rights S_filled A_letters A_lengths B_left B_right B_found B_least B_first Q_letterSurplus Q_weights Q_possible C_size C_variables C_relations C_numbers A2_letters A2_lengths N_size N_solved N_dropped N_lefts N_rights N_parents N_rules N_depths E2_left E2_right) := hD
  have hS : va_S A s.heap H locs := by rw [hH, hlocs]; exact hS
  clear hH hlocs
  refine lv_aload_n hx hb dX11_load_0 rfl (lv_at hl 0 rfl) ?_
  refine va_get (D := g.1) (ci := 10) (v := .ref aT) (C := RX11) (T := TX11) (N := 10) hx hb hts inBX11 hown hK hP 0 rfl rfl 0 (by decide) (hts _ wd1_232) (fun _ h9 => h9) rfl dX11_load_1 ?_
  obtain ⟨t4, hc4, h⟩ := bd1_to h
  refine go_P (st1 := [.int t4]) (W1 := (wX11 g aX aT aT_characters aE aH aH_lefts aH_rights aS aS_lefts aS_rights aS_filled aA aA_letters aA_lengths aK aB aB_first aQ aQ_weights aQ_possible aC aC_variables aC_relations aC_numbers aA2 aA2_letters aA2_lengths aN aN_lefts aN_rights aN_parents aN_rules aN_depths aE2 T_size T_characters E_left E_right H_size H_lefts H_rights S_lefts S_rights S_filled A_letters A_lengths B_left B_right B_found B_least B_first Q_letterSurplus Q_weights Q_possible C_size C_variables C_relations C_numbers A2_letters A2_lengths N_size N_solved N_dropped N_lefts N_rights N_parents N_rules N_depths E2_left E2_right)) (run_V (As := []) (rest := []) X hS (mX3_firstError g l  aT aT_characters T_size T_characters t4 hc4) okX3_firstError wd2_47 ⟨Nat.le_of_ble_eq_true rfl, Nat.le_of_ble_eq_true rfl⟩ ⟨rfl, rfl⟩ (va_recv hK hP (ci := 3) (q0 := 1) rfl rfl) (sub_P hP [1, 2] rfl) (hD.sub [1, 2] (by decide) rfl) (va_free hD hS hA [1, 2] rfl) rfl hl.1 rfl (Nat.le_of_ble_eq_true rfl) dX11_load_4 ⟨Nat.zero_le _, Nat.zero_le _⟩) hS (va_free hD hS hA [1, 2] rfl) hP hD [1, 2] [0, 3, 4, 5, 6, 7, 8, 9, 10, 11, 12, 13, 14, 15, 16, 17, 18, 19, 20, 21, 22, 23, 24, 25, 26, 27, 28, 29, 30, 31, 32, 33] [0, 32, 33, 1, 2, 3, 4, 5, 6, 7, 8, 9, 10, 11, 12, 13, 14, 15, 16, 17, 18, 19, 20, 21, 22, 23, 24, 25, 26, 27, 28, 29, 30, 31] rfl rfl (by decide) (by decide) rfl (by decide) rfl (fun H locs hP hD hS => ?_)
  refine lv_bipush (v := ((-9) : Int32)) hx hb dX11_load_7 (by decide) ?_
  refine lv_icmp_eq (tgt := 15) hx hb dX11_load_9 (by decide) (fun q9 => ?_) (fun q9 => ?_)
  · have h := ifT h q9
    refine lv_aload_n hx hb dX11_load_15 rfl (lv_at hl 0 rfl) ?_
    refine va_get (D := g.1) (ci := 10) (v := .ref aT) (C := RX11) (T := TX11) (N := 10) hx hb hts inBX11 hown hK hP 0 rfl rfl 0 (by decide) (hts _ wd1_232) (fun _ h9 => h9) rfl dX11_load_16 ?_
    refine lv_aload_n hx hb dX11_load_19 rfl (lv_at hl 0 rfl) ?_
    refine va_get (D := g.1) (ci := 10) (v := .ref aE) (C := RX11) (T := TX11) (N := 10) hx hb hts inBX11 hown hK hP 0 rfl rfl 1 (by decide) (hts _ wd1_233) (fun _ h9 => h9) rfl dX11_load_20 ?_
    obtain ⟨E_left_23, E_right_23, hc23, h⟩ := bd2_to h
    refine go_P (st1 := []) (W1 := (wX11 g aX aT aT_characters aE aH aH_lefts aH_rights aS aS_lefts aS_rights aS_filled aA aA_letters aA_lengths aK aB aB_first aQ aQ_weights aQ_possible aC aC_variables aC_relations aC_numbers aA2 aA2_letters aA2_lengths aN aN_lefts aN_rights aN_parents aN_rules aN_depths aE2 T_size T_characters E_left_23 E_right_23 H_size H_lefts H_rights S_lefts S_rights S_filled A_letters A_lengths B_left B_right B_found B_least B_first Q_letterSurplus Q_weights Q_possible C_size C_variables C_relations C_numbers A2_letters A2_lengths N_size N_solved N_dropped N_lefts N_rights N_parents N_rules N_depths E2_left E2_right)) (run_V (As := [.ref aE]) (rest := []) X hS (mX3_readEquation g l  aT aT_characters aE T_size T_characters E_left E_right E_left_23 E_right_23 hc23) okX3_readEquation wd2_160 ⟨Nat.le_of_ble_eq_true rfl, Nat.le_of_ble_eq_true rfl⟩ ⟨rfl, rfl⟩ (va_recv hK hP (ci := 3) (q0 := 1) rfl rfl) (sub_P hP [1, 2, 3] rfl) (hD.sub [1, 2, 3] (by decide) rfl) (va_free hD hS hA [1, 2, 3] rfl) rfl hl.1 rfl (Nat.le_of_ble_eq_true rfl) dX11_load_23 ⟨Nat.zero_le _, Nat.zero_le _⟩) hS (va_free hD hS hA [1, 2, 3] rfl) hP hD [1, 2, 3] [0, 4, 5, 6, 7, 8, 9, 10, 11, 12, 13, 14, 15, 16, 17, 18, 19, 20, 21, 22, 23, 24, 25, 26, 27, 28, 29, 30, 31, 32, 33] [0, 31, 32, 33, 1, 2, 3, 4, 5, 6, 7, 8, 9, 10, 11, 12, 13, 14, 15, 16, 17, 18, 19, 20, 21, 22, 23, 24, 25, 26, 27, 28, 29, 30] rfl rfl (by decide) (by decide) rfl (by decide) rfl (fun H locs hP hD hS => ?_)
    refine lv_aload_n hx hb dX11_load_26 rfl (lv_at hl 0 rfl) ?_
    refine va_get (D := g.1) (ci := 10) (v := .ref aT) (C := RX11) (T := TX11) (N := 10) hx hb hts inBX11 hown hK hP 0 rfl rfl 0 (by decide) (hts _ wd1_232) (fun _ h9 => h9) rfl dX11_load_27 ?_
    refine lv_aload_n hx hb dX11_load_30 rfl (lv_at hl 0 rfl) ?_
    refine va_get (D := g.1) (ci := 10) (v := .ref aC) (C := RX11) (T := TX11) (N := 10) hx hb hts inBX11 hown hK hP 0 rfl rfl 2 (by decide) (hts _ wd1_234) (fun _ h9 => h9) rfl dX11_load_31 ?_
    obtain ⟨C_size_34, C_variables_34, C_relations_34, C_numbers_34, hc34, h⟩ := bd4_to h
    refine go_P (st1 := []) (W1 := (wX11 g aX aT aT_characters aE aH aH_lefts aH_rights aS aS_lefts aS_rights aS_filled aA aA_letters aA_lengths aK aB aB_first aQ aQ_weights aQ_possible aC aC_variables aC_relations aC_numbers aA2 aA2_letters aA2_lengths aN aN_lefts aN_rights aN_parents aN_rules aN_depths aE2 T_size T_characters E_left_23 E_right_23 H_size H_lefts H_rights S_lefts S_rights S_filled A_letters A_lengths B_left B_right B_found B_least B_first Q_letterSurplus Q_weights Q_possible C_size_34 C_variables_34 C_relations_34 C_numbers_34 A2_letters A2_lengths N_size N_solved N_dropped N_lefts N_rights N_parents N_rules N_depths E2_left E2_right)) (run_V (As := [.ref aC]) (rest := []) X hS (mX3_readConstraints g l  aT aT_characters aC aC_variables aC_relations aC_numbers T_size T_characters C_size C_variables C_relations C_numbers C_size_34 C_variables_34 C_relations_34 C_numbers_34 hc34) okX3_readConstraints wd2_175 ⟨Nat.le_of_ble_eq_true rfl, Nat.le_of_ble_eq_true rfl⟩ ⟨rfl, rfl⟩ (va_recv hK hP (ci := 3) (q0 := 1) rfl rfl) (sub_P hP [1, 2, 20, 21, 22, 23] rfl) (hD.sub [1, 2, 20, 21, 22, 23] (by decide) rfl) (va_free hD hS hA [1, 2, 20, 21, 22, 23] rfl) rfl hl.1 rfl (Nat.le_of_ble_eq_true rfl) dX11_load_34 ⟨Nat.zero_le _, Nat.zero_le _⟩) hS (va_free hD hS hA [1, 2, 20, 21, 22, 23] rfl) hP hD [1, 2, 20, 21, 22, 23] [0, 3, 4, 5, 6, 7, 8, 9, 10, 11, 12, 13, 14, 15, 16, 17, 18, 19, 24, 25, 26, 27, 28, 29, 30, 31, 32, 33] [0, 28, 29, 1, 2, 3, 4, 5, 6, 7, 8, 9, 10, 11, 12, 13, 14, 15, 16, 17, 30, 31, 32, 33, 18, 19, 20, 21, 22, 23, 24, 25, 26, 27] rfl rfl (by decide) (by decide) rfl (by decide) rfl (fun H locs hP hD hS => ?_)
    refine lv_aload_n hx hb dX11_load_37 rfl (lv_at hl 0 rfl) ?_
    refine va_get (D := g.1) (ci := 10) (v := .ref aH) (C := RX11) (T := TX11) (N := 10) hx hb hts inBX11 hown hK hP 0 rfl rfl 3 (by decide) (hts _ wd1_235) (fun _ h9 => h9) rfl dX11_load_38 ?_
    obtain ⟨H_size_41, hc41, h⟩ := bd1_to h
    refine go_P (st1 := []) (W1 := (wX11 g aX aT aT_characters aE aH aH_lefts aH_rights aS aS_lefts aS_rights aS_filled aA aA_letters aA_lengths aK aB aB_first aQ aQ_weights aQ_possible aC aC_variables aC_relations aC_numbers aA2 aA2_letters aA2_lengths aN aN_lefts aN_rights aN_parents aN_rules aN_depths aE2 T_size T_characters E_left_23 E_right_23 H_size_41 H_lefts H_rights S_lefts S_rights S_filled A_letters A_lengths B_left B_right B_found B_least B_first Q_letterSurplus Q_weights Q_possible C_size_34 C_variables_34 C_relations_34 C_numbers_34 A2_letters A2_lengths N_size N_solved N_dropped N_lefts N_rights N_parents N_rules N_depths E2_left E2_right)) (run_V (As := []) (rest := []) X hS (mX4_forget g l  aH aH_lefts aH_rights H_size H_lefts H_rights H_size_41 hc41) okX4_forget wd2_187 ⟨Nat.le_of_ble_eq_true rfl, Nat.le_of_ble_eq_true rfl⟩ ⟨rfl, rfl⟩ (va_recv hK hP (ci := 4) (q0 := 4) rfl rfl) (sub_P hP [4, 5, 6] rfl) (hD.sub [4, 5, 6] (by decide) rfl) (va_free hD hS hA [4, 5, 6] rfl) rfl hl.1 rfl (Nat.le_of_ble_eq_true rfl) dX11_load_41 ⟨Nat.zero_le _, Nat.zero_le _⟩) hS (va_free hD hS hA [4, 5, 6] rfl) hP hD [4, 5, 6] [0, 1, 2, 3, 7, 8, 9, 10, 11, 12, 13, 14, 15, 16, 17, 18, 19, 20, 21, 22, 23, 24, 25, 26, 27, 28, 29, 30, 31, 32, 33] [0, 1, 2, 3, 31, 32, 33, 4, 5, 6, 7, 8, 9, 10, 11, 12, 13, 14, 15, 16, 17, 18, 19, 20, 21, 22, 23, 24, 25, 26, 27, 28, 29, 30] rfl rfl (by decide) (by decide) rfl (by decide) rfl (fun H locs hP hD hS => ?_)
    refine lv_aload_n hx hb dX11_load_44 rfl (lv_at hl 0 rfl) ?_
    refine va_get (D := g.1) (ci := 10) (v := .ref aS) (C := RX11) (T := TX11) (N := 10) hx hb hts inBX11 hown hK hP 0 rfl rfl 4 (by decide) (hts _ wd1_236) (fun _ h9 => h9) rfl dX11_load_45 ?_
    obtain ⟨S_filled_48, hc48, h⟩ := bd1_to h
    refine go_P (st1 := []) (W1 := (wX11 g aX aT aT_characters aE aH aH_lefts aH_rights aS aS_lefts aS_rights aS_filled aA aA_letters aA_lengths aK aB aB_first aQ aQ_weights aQ_possible aC aC_variables aC_relations aC_numbers aA2 aA2_letters aA2_lengths aN aN_lefts aN_rights aN_parents aN_rules aN_depths aE2 T_size T_characters E_left_23 E_right_23 H_size_41 H_lefts H_rights S_lefts S_rights S_filled_48 A_letters A_lengths B_left B_right B_found B_least B_first Q_letterSurplus Q_weights Q_possible C_size_34 C_variables_34 C_relations_34 C_numbers_34 A2_letters A2_lengths N_size N_solved N_dropped N_lefts N_rights N_parents N_rules N_depths E2_left E2_right)) (run_V (As := []) (rest := []) X hS (mX10_empty g l  aS aS_lefts aS_rights aS_filled S_lefts S_rights S_filled S_filled_48 hc48) okX10_empty wd2_191 ⟨Nat.le_of_ble_eq_true rfl, Nat.le_of_ble_eq_true rfl⟩ ⟨rfl, rfl⟩ (va_recv hK hP (ci := 9) (q0 := 7) rfl rfl) (sub_P hP [7, 8, 9, 10] rfl) (hD.sub [7, 8, 9, 10] (by decide) rfl) (va_free hD hS hA [7, 8, 9, 10] rfl) rfl hl.1 rfl (Nat.le_of_ble_eq_true rfl) dX11_load_48 ⟨Nat.zero_le _, Nat.zero_le _⟩) hS (va_free hD hS hA [7, 8, 9, 10] rfl) hP hD [7, 8, 9, 10] [0, 1, 2, 3, 4, 5, 6, 11, 12, 13, 14, 15, 16, 17, 18, 19, 20, 21, 22, 23, 24, 25, 26, 27, 28, 29, 30, 31, 32, 33] [0, 1, 2, 3, 4, 5, 6, 30, 31, 32, 33, 7, 8, 9, 10, 11, 12, 13, 14, 15, 16, 17, 18, 19, 20, 21, 22, 23, 24, 25, 26, 27, 28, 29] rfl rfl (by decide) (by decide) rfl (by decide) rfl (fun H locs hP hD hS => ?_)
    refine lv_aload_n hx hb dX11_load_51 rfl (lv_at hl 0 rfl) ?_
    refine va_get (D := g.1) (ci := 10) (v := .ref aC) (C := RX11) (T := TX11) (N := 10) hx hb hts inBX11 hown hK hP 0 rfl rfl 2 (by decide) (hts _ wd1_234) (fun _ h9 => h9) rfl dX11_load_52 ?_
    obtain ⟨t55, hc55, h⟩ := bd1_to h
    refine go_P (st1 := [.int t55]) (W1 := (wX11 g aX aT aT_characters aE aH aH_lefts aH_rights aS aS_lefts aS_rights aS_filled aA aA_letters aA_lengths aK aB aB_first aQ aQ_weights aQ_possible aC aC_variables aC_relations aC_numbers aA2 aA2_letters aA2_lengths aN aN_lefts aN_rights aN_parents aN_rules aN_depths aE2 T_size T_characters E_left_23 E_right_23 H_size_41 H_lefts H_rights S_lefts S_rights S_filled_48 A_letters A_lengths B_left B_right B_found B_least B_first Q_letterSurplus Q_weights Q_possible C_size_34 C_variables_34 C_relations_34 C_numbers_34 A2_letters A2_lengths N_size N_solved N_dropped N_lefts N_rights N_parents N_rules N_depths E2_left E2_right)) (run_V (As := []) (rest := []) X hS (mX5_size g l  aC aC_variables aC_relations aC_numbers C_size_34 C_variables_34 C_relations_34 C_numbers_34 t55 hc55) okX5_size wd2_195 ⟨Nat.le_of_ble_eq_true rfl, Nat.le_of_ble_eq_true rfl⟩ ⟨rfl, rfl⟩ (va_recv hK hP (ci := 5) (q0 := 20) rfl rfl) (sub_P hP [20, 21, 22, 23] rfl) (hD.sub [20, 21, 22, 23] (by decide) rfl) (va_free hD hS hA [20, 21, 22, 23] rfl) rfl hl.1 rfl (Nat.le_of_ble_eq_true rfl) dX11_load_55 ⟨Nat.zero_le _, Nat.zero_le _⟩) hS (va_free hD hS hA [20, 21, 22, 23] rfl) hP hD [20, 21, 22, 23] [0, 1, 2, 3, 4, 5, 6, 7, 8, 9, 10, 11, 12, 13, 14, 15, 16, 17, 18, 19, 24, 25, 26, 27, 28, 29, 30, 31, 32, 33] [0, 1, 2, 3, 4, 5, 6, 7, 8, 9, 10, 11, 12, 13, 14, 15, 16, 17, 18, 19, 30, 31, 32, 33, 20, 21, 22, 23, 24, 25, 26, 27, 28, 29] rfl rfl (by decide) (by decide) rfl (by decide) rfl (fun H locs hP hD hS => ?_)
    have h : some (t55, E_left_23, E_right_23, H_size_41, S_filled_48, C_size_34, C_variables_34, C_relations_34, C_numbers_34) = some (r, E_left_o, E_right_o, H_size_o, S_filled_o, C_size_o, C_variables_o, C_relations_o, C_numbers_o) := h
    cases h
    exact hret _ _ _ _ hP hD hS dX11_load_58
  have h := ifF h q9
  refine lv_bipush (v := ((-3) : Int32)) hx hb dX11_load_12 (by decide) ?_
  have h : some (((-3) : Int32), E_left, E_right, H_size, S_filled, C_size, C_variables, C_relations, C_numbers) = some (r, E_left_o, E_right_o, H_size_o, S_filled_o, C_size_o, C_variables_o, C_relations_o, C_numbers_o) := h
  cases h
  exact hret _ _ _ _ hP hD hS dX11_load_14
set_option maxHeartbeats 4000000 in
set_option maxRecDepth 100000 in
theorem mX11_isSide (g : GP) (l : Launch)  (x0 : Int32) (r : Int32) (h : fX_isSide x0 = some r) : Ct g l yX11_isSide cX11_isSide 1 (some .boolean) rmX11_isSide [.int x0] [] (some (.int r)) [] := by
  refine Ct.introZ (by decide) (Nat.le_of_ble_eq_true rfl) ?_
  intro p e s m below meth c A QQ ls hyp hret
  obtain ⟨hx, hb, hml, hts, hown, hA, hE, hP, hD, hl⟩ := hyp
  have hK := hE.1
  have hS : va_S A s.heap s.heap [] := va_S.rf
  have X : Here g p s m c cX11_isSide 1 ([.int x0] : List Value).toArray RX11 A := ⟨⟨hx, hb, hml, hown, hts⟩, hE, hA⟩
  have hl : lv_has ls 1 [(0, .int x0)] := hl
  obtain ⟨H, hH⟩ : ∃ H, H = s.heap := ⟨_, rfl⟩
  obtain ⟨locs, hlocs⟩ : ∃ l : List Loc, l = [] := ⟨_, rfl⟩
  rw [show W p l e rmX11_isSide s m ([.int x0] : List Value).toArray below meth c s.heap [] 0 0 QQ (F0 m 0 ls []) = W p l e rmX11_isSide s m ([.int x0] : List Value).toArray below meth c H locs 0 0 QQ (F0 m 0 ls []) by rw [hH, hlocs]]
  have hP : va_P g.1 vwCl [] H := by rw [hH]; exact hP
  have hD : va_D A [] := hD
  have hS : va_S A s.heap H locs := by rw [hH, hlocs]; exact hS
  clear hH hlocs
  refine lv_iload_n hx hb dX11_isSide_0 rfl (lv_at hl 0 rfl) ?_
  refine lv_if_eq (tgt := 9) hx hb dX11_isSide_1 (by decide) (fun q1 => ?_) (fun q1 => ?_)
  · have h := ifT h q1
    refine lv_iconst (v := (1 : Int32)) hx hb dX11_isSide_9 (by decide) ?_
    refine lv_goto (tgt := 14) hx hb dX11_isSide_10 (by decide) ?_
    have h : some (1 : Int32) = some r := h
    cases h
    exact hret _ _ _ _ rfl hP hD hS dX11_isSide_14
  have h := ifF h q1
  refine lv_iload_n hx hb dX11_isSide_4 rfl (lv_at hl 0 rfl) ?_
  refine lv_iconst (v := (1 : Int32)) hx hb dX11_isSide_5 (by decide) ?_
  refine lv_icmp_ne (tgt := 13) hx hb dX11_isSide_6 (by decide) (fun q6 => ?_) (fun q6 => ?_)
  · have h := ifF h q6
    refine lv_iconst (v := (0 : Int32)) hx hb dX11_isSide_13 (by decide) ?_
    have h : some (0 : Int32) = some r := h
    cases h
    exact hret _ _ _ _ rfl hP hD hS dX11_isSide_14
  have h := ifT h q6
  refine lv_iconst (v := (1 : Int32)) hx hb dX11_isSide_9 (by decide) ?_
  refine lv_goto (tgt := 14) hx hb dX11_isSide_10 (by decide) ?_
  have h : some (1 : Int32) = some r := h
  cases h
  exact hret _ _ _ _ rfl hP hD hS dX11_isSide_14
set_option maxHeartbeats 4000000 in
set_option maxRecDepth 100000 in
theorem mX2_side (g : GP) (l : Launch) (aE : Nat) (E_left : Int64) (E_right : Int64) (x1 : Int32) (r : Int64) (h : fE_side E_left E_right x1 = some r) : Ct g l yX2_side cX2_side 2 (some .long) rmX2_side [.ref aE, .int x1] (wX2 g aE E_left E_right) (some (.long r)) (wX2 g aE E_left E_right) := by
  refine Ct.introL (by decide) (Nat.le_of_ble_eq_true rfl) ?_
  intro p e s m below meth c A QQ ls hyp hret
  obtain ⟨hx, hb, hml, hts, hown, hA, hE, hP, hD, hl⟩ := hyp
  have hK := hE.1
  have hS : va_S A s.heap s.heap [] := va_S.rf
  have X : Here g p s m c cX2_side 2 ([.ref aE, .int x1] : List Value).toArray RX2 A := ⟨⟨hx, hb, hml, hown, hts⟩, hE, hA⟩
  have hl : lv_has ls 2 [(0, .ref aE), (1, .int x1)] := hl
  obtain ⟨H, hH⟩ : ∃ H, H = s.heap := ⟨_, rfl⟩
  obtain ⟨locs, hlocs⟩ : ∃ l : List Loc, l = [] := ⟨_, rfl⟩
  rw [show W p l e rmX2_side s m ([.ref aE, .int x1] : List Value).toArray below meth c s.heap [] 0 0 QQ (F0 m 0 ls []) = W p l e rmX2_side s m ([.ref aE, .int x1] : List Value).toArray below meth c H locs 0 0 QQ (F0 m 0 ls []) by rw [hH, hlocs]]
  have hP : va_P g.1 vwCl (wX2 g aE E_left E_right) H := by rw [hH]; exact hP
  have hD : va_D A (wX2 g aE E_left E_right) := hD
  have hS : va_S A s.heap H locs := by rw [hH, hlocs]; exact hS
  clear hH hlocs
  refine lv_iload_n hx hb dX2_side_0 rfl (lv_at hl 1 rfl) ?_
  refine lv_if_ne (tgt := 11) hx hb dX2_side_1 (by decide) (fun q1 => ?_) (fun q1 => ?_)
  · have h := ifF h q1
    refine lv_aload_n hx hb dX2_side_11 rfl (lv_at hl 0 rfl) ?_
    refine va_get (D := g.1) (ci := 2) (v := .long E_right) (C := RX2) (T := TX2) (N := 2) hx hb hts inBX2 hown hK hP 0 rfl rfl 1 (by decide) (hts _ wd1_55) (fun _ h9 => h9) rfl dX2_side_12 ?_
    have h : some E_right = some r := h
    cases h
    exact hret _ _ _ _ hP hD hS dX2_side_15
  have h := ifT h q1
  refine lv_aload_n hx hb dX2_side_4 rfl (lv_at hl 0 rfl) ?_
  refine va_get (D := g.1) (ci := 2) (v := .long E_left) (C := RX2) (T := TX2) (N := 2) hx hb hts inBX2 hown hK hP 0 rfl rfl 0 (by decide) (hts _ wd1_48) (fun _ h9 => h9) rfl dX2_side_5 ?_
  refine lv_goto (tgt := 15) hx hb dX2_side_8 (by decide) ?_
  have h : some E_left = some r := h
  cases h
  exact hret _ _ _ _ hP hD hS dX2_side_15
set_option maxHeartbeats 4000000 in
set_option maxRecDepth 100000 in
theorem mX9_size (g : GP) (l : Launch)  (x0 : Int64) (r : Int32) (h : fZ_size x0 = some r) : Ct g l yX9_size cX9_size 3 (some .int) rmX9_size [.long x0] [] (some (.int r)) [] := by
  refine Ct.introI (by decide) (Nat.le_of_ble_eq_true rfl) ?_
  intro p e s m below meth c A QQ ls hyp hret
  obtain ⟨hx, hb, hml, hts, hown, hA, hE, hP, hD, hl⟩ := hyp
  have hK := hE.1
  have hS : va_S A s.heap s.heap [] := va_S.rf
  have X : Here g p s m c cX9_size 3 ([.long x0] : List Value).toArray RX9 A := ⟨⟨hx, hb, hml, hown, hts⟩, hE, hA⟩
  have L2 : ∀ (n2 : Nat), ∀ (v2 : Int32) (ls : Array Slot) (H : Heap) (locs : List Loc), lv_has ls 3 [(0, .long x0), (2, .int v2)] → va_P g.1 vwCl [] H → va_D A [] → va_S A s.heap H locs → fx1 (fZ_size_2 x0) n2 v2 = some r → W p l e rmX9_size s m ([.long x0] : List Value).toArray below meth c H locs 0 0 QQ (F0 m 2 ls []) := by
    intro n2
    induction n2 with
    | zero => intro v2 ls H locs hl hP hD hS h; exact fx1_0 h
    | succ n2 ih2 =>
      intro v2 ls H locs hl hP hD hS h
      have h := (fx1_s (fZ_size_2 x0) n2 v2).symm.trans h
      refine lv_iload_n hx hb dX9_size_2 rfl (lv_at hl 1 rfl) ?_
      refine lv_bipush (v := (13 : Int32)) hx hb dX9_size_3 (by decide) ?_
      refine lv_icmp_ge (tgt := 24) hx hb dX9_size_5 (by decide) (fun q5 => ?_) (fun q5 => ?_)
      · have h := ifT h q5
        refine lv_iload_n hx hb dX9_size_24 rfl (lv_at hl 1 rfl) ?_
        have h : some v2 = some r := h
        cases h
        exact hret _ _ _ _ hP hD hS dX9_size_25
      have h := ifF h q5
      refine lv_lload_n hx hb dX9_size_8 rfl (lv_at hl 0 rfl) ?_
      refine lv_iconst (v := (3 : Int32)) hx hb dX9_size_9 (by decide) ?_
      refine lv_iload_n hx hb dX9_size_10 rfl (lv_at hl 1 rfl) ?_
      refine lv_imul hx hb dX9_size_11 ?_
      refine lv_lushr (v := (ushrL x0 ((3 : Int32) * v2))) hx hb dX9_size_12 rfl ?_
      refine lv_lconst (v := (0 : Int64)) hx hb dX9_size_13 (by decide) ?_
      refine W.lcmp hx hb dX9_size_14 ?_
      refine lv_if_eq (tgt := 24) hx hb dX9_size_15 (by decide) (fun q15 => ?_) (fun q15 => ?_)
      · have h := ifT h q15
        refine lv_iload_n hx hb dX9_size_24 rfl (lv_at hl 1 rfl) ?_
        have h : some v2 = some r := h
        cases h
        exact hret _ _ _ _ hP hD hS dX9_size_25
      have h := ifF h q15
      obtain ⟨t18, et18⟩ : ∃ y : Int32, y = v2 + (1 : Int32) := ⟨_, rfl⟩
      refine lv_iinc (v := t18) (lv' := [(2, .int t18), (0, .long x0)]) hx hb dX9_size_18 hl (k := 1) rfl (by rw [et18]; rfl) (by decide) rfl (fun ls hl => ?_)
      have h := st_to h et18
      refine lv_goto (tgt := 2) hx hb dX9_size_21 (by decide) ?_
      exact ih2 t18 ls H locs (lv_sub hl [1, 0] rfl) hP hD hS h
  have hl : lv_has ls 3 [(0, .long x0)] := hl
  obtain ⟨H, hH⟩ : ∃ H, H = s.heap := ⟨_, rfl⟩
  obtain ⟨locs, hlocs⟩ : ∃ l : List Loc, l = [] := ⟨_, rfl⟩
  rw [show W p l e rmX9_size s m ([.long x0] : List Value).toArray below meth c s.heap [] 0 0 QQ (F0 m 0 ls []) = W p l e rmX9_size s m ([.long x0] : List Value).toArray below meth c H locs 0 0 QQ (F0 m 0 ls []) by rw [hH, hlocs]]
  have hP : va_P g.1 vwCl [] H := by rw [hH]; exact hP
  have hD : va_D A [] := hD
  have hS : va_S A s.heap H locs := by rw [hH, hlocs]; exact hS
  clear hH hlocs
  refine lv_iconst (v := (0 : Int32)) hx hb dX9_size_0 (by decide) ?_
  refine lv_istore_n (lv' := [(2, .int (0 : Int32)), (0, .long x0)]) hx hb dX9_size_1 rfl hl (by decide) rfl (fun ls hl => ?_)
  exact L2 FU (0 : Int32) ls H locs (lv_sub hl [1, 0] rfl) hP hD hS h
set_option maxHeartbeats 4000000 in
set_option maxRecDepth 100000 in
theorem mX11_sideLength (g : GP) (l : Launch) (aX aT aT_characters aE aH aH_lefts aH_rights aS aS_lefts aS_rights aS_filled aA aA_letters aA_lengths aK aB aB_first aQ aQ_weights aQ_possible aC aC_variables aC_relations aC_numbers aA2 aA2_letters aA2_lengths aN aN_lefts aN_rights aN_parents aN_rules aN_depths aE2 : Nat) (T_size : Int32) (T_characters : Nat → Int32) (E_left : Int64) (E_right : Int64) (H_size : Int32) (H_lefts : Nat → Int64) (H_rights : Nat → Int64) (S_lefts : Nat → Int64) (S_rights : Nat → Int64) (S_filled : Nat → Int32) (A_letters : Nat → Int64) (A_lengths : Nat → Int32) (B_left : Int64) (B_right : Int64) (B_found : Int32) (B_least : Int32) (B_first : Nat → Int32) (Q_letterSurplus : Int32) (Q_weights : Nat → Int32) (Q_possible : Nat → Int32) (C_size : Int32) (C_variables : Nat → Int32) (C_relations : Nat → Int32) (C_numbers : Nat → Int32) (A2_letters : Nat → Int64) (A2_lengths : Nat → Int32) (N_size : Int32) (N_solved : Int32) (N_dropped : Int32) (N_lefts : Nat → Int64) (N_rights : Nat → Int64) (N_parents : Nat → Int32) (N_rules : Nat → Int32) (N_depths : Nat → Int32) (E2_left : Int64) (E2_right : Int64) (x1 : Int32) (r : Int32) (h : fX_sideLength E_left E_right x1 = some r) : Ct g l yX11_sideLength cX11_sideLength 2 (some .int) rmX11_sideLength [.ref aX, .int x1] (wX11 g aX aT aT_characters aE aH aH_lefts aH_rights aS aS_lefts aS_rights aS_filled aA aA_letters aA_lengths aK aB aB_first aQ aQ_weights aQ_possible aC aC_variables aC_relations aC_numbers aA2 aA2_letters aA2_lengths aN aN_lefts aN_rights aN_parents aN_rules aN_depths aE2 T_size T_characters E_left E_right H_size H_lefts H_rights S_lefts S_rights S_filled A_letters A_lengths B_left B_right B_found B_least B_first Q_letterSurplus Q_weights Q_possible C_size C_variables C_relations C_numbers A2_letters A2_lengths N_size N_solved N_dropped N_lefts N_rights N_parents N_rules N_depths E2_left E2_right) (some (.int r)) (wX11 g aX aT aT_characters aE aH aH_lefts aH_rights aS aS_lefts aS_rights aS_filled aA aA_letters aA_lengths aK aB aB_first aQ aQ_weights aQ_possible aC aC_variables aC_relations aC_numbers aA2 aA2_letters aA2_lengths aN aN_lefts aN_rights aN_parents aN_rules aN_depths aE2 T_size T_characters E_left E_right H_size H_lefts H_rights S_lefts S_rights S_filled A_letters A_lengths B_left B_right B_found B_least B_first Q_letterSurplus Q_weights Q_possible C_size C_variables C_relations C_numbers A2_letters A2_lengths N_size N_solved N_dropped N_lefts N_rights N_parents N_rules N_depths E2_left E2_right) := by
  refine Ct.introI (by decide) (Nat.le_of_ble_eq_true rfl) ?_
  intro p e s m below meth c A QQ ls hyp hret
  obtain ⟨hx, hb, hml, hts, hown, hA, hE, hP, hD, hl⟩ := hyp
  have hK := hE.1
  have hS : va_S A s.heap s.heap [] := va_S.rf
  have X : Here g p s m c cX11_sideLength 2 ([.ref aX, .int x1] : List Value).toArray RX11 A := ⟨⟨hx, hb, hml, hown, hts⟩, hE, hA⟩
  have hl : lv_has ls 2 [(0, .ref aX), (1, .int x1)] := hl
  obtain ⟨H, hH⟩ : ∃ H, H = s.heap := ⟨_, rfl⟩
  obtain ⟨locs, hlocs⟩ : ∃ l : List Loc, l = [] := ⟨_, rfl⟩
  rw [show W p l e rmX11_sideLength s m ([.ref aX, .int x1] : List Value).toArray below meth c s.heap [] 0 0 QQ (F0 m 0 ls []) = W p l e rmX11_sideLength s m ([.ref aX, .int x1] : List Value).toArray below meth c H locs 0 0 QQ (F0 m 0 ls []) by rw [hH, hlocs]]
  have hP : va_P g.1 vwCl (wX11 g aX aT aT_characters aE aH aH_lefts aH_rights aS aS_lefts aS_rights aS_filled aA aA_letters aA_lengths aK aB aB_first aQ aQ_weights aQ_possible aC aC_variables aC_relations aC_numbers aA2 aA2_letters aA2_lengths aN aN_lefts aN_rights aN_parents aN_rules aN_depths aE2 T_size T_characters E_left E_right H_size H_lefts H_rights S_lefts S_rights S_filled A_letters A_lengths B_left B_right B_found B_least B_first Q_letterSurplus Q_weights Q_possible C_size C_variables C_relations C_numbers A2_letters A2_lengths N_size N_solved N_dropped N_lefts N_rights N_parents N_rules N_depths E2_left E2_right) H := by rw [hH]; exact hP
  have hD : va_D A (wX11 g aX aT aT_characters aE aH aH_lefts aH_rights aS aS_lefts aS_rights aS_filled aA aA_letters aA_lengths aK aB aB_first aQ aQ_weights aQ_possible aC aC_variables aC_relations aC_numbers aA2 aA2_letters aA2_lengths aN aN_lefts aN_rights aN_parents aN_rules aN_depths aE2 T_size T_characters E_left E_right H_size H_lefts H_rights S_lefts S_rights S_filled A_letters A_lengths B_left B_right B_found B_least B_first Q_letterSurplus Q_weights Q_possible C_size C_variables C_relations C_numbers A2_letters A2_lengths N_size N_solved N_dropped N_lefts N_rights N_parents N_rules N_depths E2_left E2_right) := hD
  have hS : va_S A s.heap H locs := by rw [hH, hlocs]; exact hS
  clear hH hlocs
  refine lv_iload_n hx hb dX11_sideLength_0 rfl (lv_at hl 1 rfl) ?_
  obtain ⟨t1, hc1, h⟩ := bd1_to h
  refine go_0 (st1 := [.int t1]) (run_S (As := [.int x1]) (rest := []) X hS (mX11_isSide g l  x1 t1 hc1) okX11_isSide wd2_203 ⟨Nat.le_of_ble_eq_true rfl, Nat.le_of_ble_eq_true rfl⟩ ⟨rfl, rfl⟩ nil_P nil_D (nil_F hS hA) rfl hl.1 rfl (Nat.le_of_ble_eq_true rfl) dX11_sideLength_1 ⟨Nat.zero_le _, Nat.zero_le _⟩) hS hA hP rfl (fun H locs hP hS => ?_)
  refine lv_if_eq (tgt := 21) hx hb dX11_sideLength_4 (by decide) (fun q4 => ?_) (fun q4 => ?_)
  · have h := ifT h q4
    refine lv_iconst (v := ((-1) : Int32)) hx hb dX11_sideLength_21 (by decide) ?_
    have h : some ((-1) : Int32) = some r := h
    cases h
    exact hret _ _ _ _ hP hD hS dX11_sideLength_22
  have h := ifF h q4
  refine lv_aload_n hx hb dX11_sideLength_7 rfl (lv_at hl 0 rfl) ?_
  refine va_get (D := g.1) (ci := 10) (v := .ref aE) (C := RX11) (T := TX11) (N := 10) hx hb hts inBX11 hown hK hP 0 rfl rfl 1 (by decide) (hts _ wd1_233) (fun _ h9 => h9) rfl dX11_sideLength_8 ?_
  refine lv_iload_n hx hb dX11_sideLength_11 rfl (lv_at hl 1 rfl) ?_
  obtain ⟨t12, hc12, h⟩ := bd1_to h
  refine go_P (st1 := [.long t12]) (W1 := (wX11 g aX aT aT_characters aE aH aH_lefts aH_rights aS aS_lefts aS_rights aS_filled aA aA_letters aA_lengths aK aB aB_first aQ aQ_weights aQ_possible aC aC_variables aC_relations aC_numbers aA2 aA2_letters aA2_lengths aN aN_lefts aN_rights aN_parents aN_rules aN_depths aE2 T_size T_characters E_left E_right H_size H_lefts H_rights S_lefts S_rights S_filled A_letters A_lengths B_left B_right B_found B_least B_first Q_letterSurplus Q_weights Q_possible C_size C_variables C_relations C_numbers A2_letters A2_lengths N_size N_solved N_dropped N_lefts N_rights N_parents N_rules N_depths E2_left E2_right)) (run_V (As := [.int x1]) (rest := []) X hS (mX2_side g l  aE E_left E_right x1 t12 hc12) okX2_side wd2_206 ⟨Nat.le_of_ble_eq_true rfl, Nat.le_of_ble_eq_true rfl⟩ ⟨rfl, rfl⟩ (va_recv hK hP (ci := 2) (q0 := 3) rfl rfl) (sub_P hP [3] rfl) (hD.sub [3] (by decide) rfl) (va_free hD hS hA [3] rfl) rfl hl.1 rfl (Nat.le_of_ble_eq_true rfl) dX11_sideLength_12 ⟨Nat.zero_le _, Nat.zero_le _⟩) hS (va_free hD hS hA [3] rfl) hP hD [3] [0, 1, 2, 4, 5, 6, 7, 8, 9, 10, 11, 12, 13, 14, 15, 16, 17, 18, 19, 20, 21, 22, 23, 24, 25, 26, 27, 28, 29, 30, 31, 32, 33] [0, 1, 2, 33, 3, 4, 5, 6, 7, 8, 9, 10, 11, 12, 13, 14, 15, 16, 17, 18, 19, 20, 21, 22, 23, 24, 25, 26, 27, 28, 29, 30, 31, 32] rfl rfl (by decide) (by decide) rfl (by decide) rfl (fun H locs hP hD hS => ?_)
  obtain ⟨t15, hc15, h⟩ := bd1_to h
  refine go_0 (st1 := [.int t15]) (run_S (As := [.long t12]) (rest := []) X hS (mX9_size g l  t12 t15 hc15) okX9_size wd2_210 ⟨Nat.le_of_ble_eq_true rfl, Nat.le_of_ble_eq_true rfl⟩ ⟨rfl, rfl⟩ nil_P nil_D (nil_F hS hA) rfl hl.1 rfl (Nat.le_of_ble_eq_true rfl) dX11_sideLength_15 ⟨Nat.zero_le _, Nat.zero_le _⟩) hS hA hP rfl (fun H locs hP hS => ?_)
  refine lv_goto (tgt := 22) hx hb dX11_sideLength_18 (by decide) ?_
  have h : some t15 = some r := h
  cases h
  exact hret _ _ _ _ hP hD hS dX11_sideLength_22
set_option maxHeartbeats 4000000 in
set_option maxRecDepth 100000 in
theorem mX9_symbol (g : GP) (l : Launch)  (x0 : Int64) (x2 : Int32) (r : Int32) (h : fZ_symbol x0 x2 = some r) : Ct g l yX9_symbol cX9_symbol 3 (some .int) rmX9_symbol [.long x0, .int x2] [] (some (.int r)) [] := by
  refine Ct.introI (by decide) (Nat.le_of_ble_eq_true rfl) ?_
  intro p e s m below meth c A QQ ls hyp hret
  obtain ⟨hx, hb, hml, hts, hown, hA, hE, hP, hD, hl⟩ := hyp
  have hK := hE.1
  have hS : va_S A s.heap s.heap [] := va_S.rf
  have X : Here g p s m c cX9_symbol 3 ([.long x0, .int x2] : List Value).toArray RX9 A := ⟨⟨hx, hb, hml, hown, hts⟩, hE, hA⟩
  have hl : lv_has ls 3 [(0, .long x0), (2, .int x2)] := hl
  obtain ⟨H, hH⟩ : ∃ H, H = s.heap := ⟨_, rfl⟩
  obtain ⟨locs, hlocs⟩ : ∃ l : List Loc, l = [] := ⟨_, rfl⟩
  rw [show W p l e rmX9_symbol s m ([.long x0, .int x2] : List Value).toArray below meth c s.heap [] 0 0 QQ (F0 m 0 ls []) = W p l e rmX9_symbol s m ([.long x0, .int x2] : List Value).toArray below meth c H locs 0 0 QQ (F0 m 0 ls []) by rw [hH, hlocs]]
  have hP : va_P g.1 vwCl [] H := by rw [hH]; exact hP
  have hD : va_D A [] := hD
  have hS : va_S A s.heap H locs := by rw [hH, hlocs]; exact hS
  clear hH hlocs
  refine lv_iload_n hx hb dX9_symbol_0 rfl (lv_at hl 1 rfl) ?_
  refine lv_if_lt (tgt := 10) hx hb dX9_symbol_1 (by decide) (fun q1 => ?_) (fun q1 => ?_)
  · have h := ifT h q1
    refine lv_iconst (v := (0 : Int32)) hx hb dX9_symbol_10 (by decide) ?_
    refine lv_goto (tgt := 23) hx hb dX9_symbol_11 (by decide) ?_
    have h : some (0 : Int32) = some r := h
    cases h
    exact hret _ _ _ _ hP hD hS dX9_symbol_23
  have h := ifF h q1
  refine lv_iload_n hx hb dX9_symbol_4 rfl (lv_at hl 1 rfl) ?_
  refine lv_bipush (v := (13 : Int32)) hx hb dX9_symbol_5 (by decide) ?_
  refine lv_icmp_lt (tgt := 14) hx hb dX9_symbol_7 (by decide) (fun q7 => ?_) (fun q7 => ?_)
  · have h := ifT h q7
    refine lv_lload_n hx hb dX9_symbol_14 rfl (lv_at hl 0 rfl) ?_
    refine lv_iconst (v := (3 : Int32)) hx hb dX9_symbol_15 (by decide) ?_
    refine lv_iload_n hx hb dX9_symbol_16 rfl (lv_at hl 1 rfl) ?_
    refine lv_imul hx hb dX9_symbol_17 ?_
    refine lv_lushr (v := (ushrL x0 ((3 : Int32) * x2))) hx hb dX9_symbol_18 rfl ?_
    refine lv_l2i (v := (Int64.toInt32 (ushrL x0 ((3 : Int32) * x2)))) hx hb dX9_symbol_19 rfl ?_
    refine lv_bipush (v := (7 : Int32)) hx hb dX9_symbol_20 (by decide) ?_
    refine lv_iand hx hb dX9_symbol_22 ?_
    have h : some ((Int64.toInt32 (ushrL x0 ((3 : Int32) * x2))) &&& (7 : Int32)) = some r := h
    cases h
    exact hret _ _ _ _ hP hD hS dX9_symbol_23
  have h := ifF h q7
  refine lv_iconst (v := (0 : Int32)) hx hb dX9_symbol_10 (by decide) ?_
  refine lv_goto (tgt := 23) hx hb dX9_symbol_11 (by decide) ?_
  have h : some (0 : Int32) = some r := h
  cases h
  exact hret _ _ _ _ hP hD hS dX9_symbol_23
set_option maxHeartbeats 4000000 in
set_option maxRecDepth 100000 in
theorem mJ3_checkIndex_8e157_n (g : GP) (l : Launch)  (x0 : Int32) (x1 : Int32) (r : Int32) (h : fJP_checkIndex_8e157 x0 x1 = some r) : Ct g l yJ3_checkIndex_8e157 cJ3_checkIndex_8e157 3 (some .int) rmJ3_checkIndex_8e157 [.int x0, .int x1, .null] [] (some (.int r)) [] := by
  refine Ct.introI (by decide) (Nat.le_of_ble_eq_true rfl) ?_
  intro p e s m below meth c A QQ ls hyp hret
  obtain ⟨hx, hb, hml, hts, hown, hA, hE, hP, hD, hl⟩ := hyp
  have hK := hE.1
  have hS : va_S A s.heap s.heap [] := va_S.rf
  have X : Here g p s m c cJ3_checkIndex_8e157 3 ([.int x0, .int x1, .null] : List Value).toArray RJ3 A := ⟨⟨hx, hb, hml, hown, hts⟩, hE, hA⟩
  have hl : lv_has ls 3 [(0, .int x0), (1, .int x1), (2, .null)] := hl
  obtain ⟨H, hH⟩ : ∃ H, H = s.heap := ⟨_, rfl⟩
  obtain ⟨locs, hlocs⟩ : ∃ l : List Loc, l = [] := ⟨_, rfl⟩
  rw [show W p l e rmJ3_checkIndex_8e157 s m ([.int x0, .int x1, .null] : List Value).toArray below meth c s.heap [] 0 0 QQ (F0 m 0 ls []) = W p l e rmJ3_checkIndex_8e157 s m ([.int x0, .int x1, .null] : List Value).toArray below meth c H locs 0 0 QQ (F0 m 0 ls []) by rw [hH, hlocs]]
  have hP : va_P g.1 vwCl [] H := by rw [hH]; exact hP
  have hD : va_D A [] := hD
  have hS : va_S A s.heap H locs := by rw [hH, hlocs]; exact hS
  clear hH hlocs
  refine lv_iload_n hx hb dJ3_checkIndex_8e157_0 rfl (lv_at hl 0 rfl) ?_
  refine lv_if_lt (tgt := 9) hx hb dJ3_checkIndex_8e157_1 (by decide) (fun q1 => ?_) (fun q1 => ?_)
  · have h := ifT h q1
    refine lv_aload_nN hx hb dJ3_checkIndex_8e157_9 rfl (lv_at hl 2 rfl) ?_
    refine lv_iload_n hx hb dJ3_checkIndex_8e157_10 rfl (lv_at hl 0 rfl) ?_
    refine lv_iload_n hx hb dJ3_checkIndex_8e157_11 rfl (lv_at hl 1 rfl) ?_
    cases h
  have h := ifF h q1
  refine lv_iload_n hx hb dJ3_checkIndex_8e157_4 rfl (lv_at hl 0 rfl) ?_
  refine lv_iload_n hx hb dJ3_checkIndex_8e157_5 rfl (lv_at hl 1 rfl) ?_
  refine lv_icmp_lt (tgt := 16) hx hb dJ3_checkIndex_8e157_6 (by decide) (fun q6 => ?_) (fun q6 => ?_)
  · have h := ifT h q6
    refine lv_iload_n hx hb dJ3_checkIndex_8e157_16 rfl (lv_at hl 0 rfl) ?_
    have h : some x0 = some r := h
    cases h
    exact hret _ _ _ _ hP hD hS dJ3_checkIndex_8e157_17
  have h := ifF h q6
  refine lv_aload_nN hx hb dJ3_checkIndex_8e157_9 rfl (lv_at hl 2 rfl) ?_
  refine lv_iload_n hx hb dJ3_checkIndex_8e157_10 rfl (lv_at hl 0 rfl) ?_
  refine lv_iload_n hx hb dJ3_checkIndex_8e157_11 rfl (lv_at hl 1 rfl) ?_
  cases h
set_option maxHeartbeats 4000000 in
set_option maxRecDepth 100000 in
theorem mJ3_checkIndex_8e157_r (g : GP) (l : Launch)  (x0 : Int32) (x1 : Int32) (tz : Nat) (r : Int32) (h : fJP_checkIndex_8e157 x0 x1 = some r) : Ct g l yJ3_checkIndex_8e157 cJ3_checkIndex_8e157 3 (some .int) rmJ3_checkIndex_8e157 [.int x0, .int x1, .ref tz] [] (some (.int r)) [] := by
  refine Ct.introI (by decide) (Nat.le_of_ble_eq_true rfl) ?_
  intro p e s m below meth c A QQ ls hyp hret
  obtain ⟨hx, hb, hml, hts, hown, hA, hE, hP, hD, hl⟩ := hyp
  have hK := hE.1
  have hS : va_S A s.heap s.heap [] := va_S.rf
  have X : Here g p s m c cJ3_checkIndex_8e157 3 ([.int x0, .int x1, .ref tz] : List Value).toArray RJ3 A := ⟨⟨hx, hb, hml, hown, hts⟩, hE, hA⟩
  have hl : lv_has ls 3 [(0, .int x0), (1, .int x1), (2, .ref tz)] := hl
  obtain ⟨H, hH⟩ : ∃ H, H = s.heap := ⟨_, rfl⟩
  obtain ⟨locs, hlocs⟩ : ∃ l : List Loc, l = [] := ⟨_, rfl⟩
  rw [show W p l e rmJ3_checkIndex_8e157 s m ([.int x0, .int x1, .ref tz] : List Value).toArray below meth c s.heap [] 0 0 QQ (F0 m 0 ls []) = W p l e rmJ3_checkIndex_8e157 s m ([.int x0, .int x1, .ref tz] : List Value).toArray below meth c H locs 0 0 QQ (F0 m 0 ls []) by rw [hH, hlocs]]
  have hP : va_P g.1 vwCl [] H := by rw [hH]; exact hP
  have hD : va_D A [] := hD
  have hS : va_S A s.heap H locs := by rw [hH, hlocs]; exact hS
  clear hH hlocs
  refine lv_iload_n hx hb dJ3_checkIndex_8e157_0 rfl (lv_at hl 0 rfl) ?_
  refine lv_if_lt (tgt := 9) hx hb dJ3_checkIndex_8e157_1 (by decide) (fun q1 => ?_) (fun q1 => ?_)
  · have h := ifT h q1
    refine lv_aload_n hx hb dJ3_checkIndex_8e157_9 rfl (lv_at hl 2 rfl) ?_
    refine lv_iload_n hx hb dJ3_checkIndex_8e157_10 rfl (lv_at hl 0 rfl) ?_
    refine lv_iload_n hx hb dJ3_checkIndex_8e157_11 rfl (lv_at hl 1 rfl) ?_
    cases h
  have h := ifF h q1
  refine lv_iload_n hx hb dJ3_checkIndex_8e157_4 rfl (lv_at hl 0 rfl) ?_
  refine lv_iload_n hx hb dJ3_checkIndex_8e157_5 rfl (lv_at hl 1 rfl) ?_
  refine lv_icmp_lt (tgt := 16) hx hb dJ3_checkIndex_8e157_6 (by decide) (fun q6 => ?_) (fun q6 => ?_)
  · have h := ifT h q6
    refine lv_iload_n hx hb dJ3_checkIndex_8e157_16 rfl (lv_at hl 0 rfl) ?_
    have h : some x0 = some r := h
    cases h
    exact hret _ _ _ _ hP hD hS dJ3_checkIndex_8e157_17
  have h := ifF h q6
  refine lv_aload_n hx hb dJ3_checkIndex_8e157_9 rfl (lv_at hl 2 rfl) ?_
  refine lv_iload_n hx hb dJ3_checkIndex_8e157_10 rfl (lv_at hl 0 rfl) ?_
  refine lv_iload_n hx hb dJ3_checkIndex_8e157_11 rfl (lv_at hl 1 rfl) ?_
  cases h
set_option maxHeartbeats 4000000 in
set_option maxRecDepth 100000 in
theorem mJ0_checkIndex_df160 (g : GP) (l : Launch)  (x0 : Int32) (x1 : Int32)  (h : fJS_checkIndex_df160 x0 x1 = some ()) : Ct g l yJ0_checkIndex_df160 cJ0_checkIndex_df160 2 none rmJ0_checkIndex_df160 [.int x0, .int x1] [] none [] := by
  refine Ct.introV (by decide) (Nat.le_of_ble_eq_true rfl) ?_
  intro p e s m below meth c A QQ ls hyp hret
  obtain ⟨hx, hb, hml, hts, hown, hA, hE, hP, hD, hl⟩ := hyp
  have hK := hE.1
  have hS : va_S A s.heap s.heap [] := va_S.rf
  have X : Here g p s m c cJ0_checkIndex_df160 2 ([.int x0, .int x1] : List Value).toArray RJ0 A := ⟨⟨hx, hb, hml, hown, hts⟩, hE, hA⟩
  have hl : lv_has ls 2 [(0, .int x0), (1, .int x1)] := hl
  obtain ⟨H, hH⟩ : ∃ H, H = s.heap := ⟨_, rfl⟩
  obtain ⟨locs, hlocs⟩ : ∃ l : List Loc, l = [] := ⟨_, rfl⟩
  rw [show W p l e rmJ0_checkIndex_df160 s m ([.int x0, .int x1] : List Value).toArray below meth c s.heap [] 0 0 QQ (F0 m 0 ls []) = W p l e rmJ0_checkIndex_df160 s m ([.int x0, .int x1] : List Value).toArray below meth c H locs 0 0 QQ (F0 m 0 ls []) by rw [hH, hlocs]]
  have hP : va_P g.1 vwCl [] H := by rw [hH]; exact hP
  have hD : va_D A [] := hD
  have hS : va_S A s.heap H locs := by rw [hH, hlocs]; exact hS
  clear hH hlocs
  refine lv_iload_n hx hb dJ0_checkIndex_df160_0 rfl (lv_at hl 0 rfl) ?_
  refine lv_iload_n hx hb dJ0_checkIndex_df160_1 rfl (lv_at hl 1 rfl) ?_
  rcases hE.2.2.2.2.2 with hz | ⟨tz, hz⟩
  · refine va_gets (v := .null) hx hb hz hS hown (hts _ wd2_118) (fun _ h9 => h9) dJ0_checkIndex_df160_2 ?_
    obtain ⟨t5, hc5, h⟩ := bd1_to h
    refine go_0 (st1 := [.int t5]) (run_S (As := [.int x0, .int x1, .null]) (rest := []) X hS (mJ3_checkIndex_8e157_n g l  x0 x1 t5 hc5) okJ3_checkIndex_8e157 wd2_234 ⟨Nat.le_of_ble_eq_true rfl, Nat.le_of_ble_eq_true rfl⟩ ⟨rfl, rfl⟩ nil_P nil_D (nil_F hS hA) rfl hl.1 rfl (Nat.le_of_ble_eq_true rfl) dJ0_checkIndex_df160_5 ⟨Nat.zero_le _, Nat.zero_le _⟩) hS hA hP rfl (fun H locs hP hS => ?_)
    refine lv_pop hx hb dJ0_checkIndex_df160_8 rfl ?_
    have h : some () = some () := h
    cases h
    exact hret _ _ _ _ hP hD hS dJ0_checkIndex_df160_9
  · refine va_gets (v := .ref tz) hx hb hz hS hown (hts _ wd2_118) (fun _ h9 => h9) dJ0_checkIndex_df160_2 ?_
    obtain ⟨t5, hc5, h⟩ := bd1_to h
    refine go_0 (st1 := [.int t5]) (run_S (As := [.int x0, .int x1, .ref tz]) (rest := []) X hS (mJ3_checkIndex_8e157_r g l  x0 x1 tz t5 hc5) okJ3_checkIndex_8e157 wd2_234 ⟨Nat.le_of_ble_eq_true rfl, Nat.le_of_ble_eq_true rfl⟩ ⟨rfl, rfl⟩ nil_P nil_D (nil_F hS hA) rfl hl.1 rfl (Nat.le_of_ble_eq_true rfl) dJ0_checkIndex_df160_5 ⟨Nat.zero_le _, Nat.zero_le _⟩) hS hA hP rfl (fun H locs hP hS => ?_)
    refine lv_pop hx hb dJ0_checkIndex_df160_8 rfl ?_
    have h : some () = some () := h
    cases h
    exact hret _ _ _ _ hP hD hS dJ0_checkIndex_df160_9
set_option maxHeartbeats 4000000 in
set_option maxRecDepth 100000 in
theorem mJ1_charAt_3b067 (g : GP) (l : Launch)  (x1 : Int32) (r : Int32) (h : fJL_charAt_3b067 x1 = some r) : Ct g l yJ1_charAt_3b067 cJ1_charAt_3b067 2 (some .char) rmJ1_charAt_3b067 [.ref (g.2.2.2 0), .int x1] [] (some (.int r)) [] := by
  refine Ct.introZ (by decide) (Nat.le_of_ble_eq_true rfl) ?_
  intro p e s m below meth c A QQ ls hyp hret
  obtain ⟨hx, hb, hml, hts, hown, hA, hE, hP, hD, hl⟩ := hyp
  have hK := hE.1
  have hS : va_S A s.heap s.heap [] := va_S.rf
  have X : Here g p s m c cJ1_charAt_3b067 2 ([.ref (g.2.2.2 0), .int x1] : List Value).toArray RJ1 A := ⟨⟨hx, hb, hml, hown, hts⟩, hE, hA⟩
  have hl : lv_has ls 2 [(0, .ref (g.2.2.2 0)), (1, .int x1)] := hl
  obtain ⟨H, hH⟩ : ∃ H, H = s.heap := ⟨_, rfl⟩
  obtain ⟨locs, hlocs⟩ : ∃ l : List Loc, l = [] := ⟨_, rfl⟩
  rw [show W p l e rmJ1_charAt_3b067 s m ([.ref (g.2.2.2 0), .int x1] : List Value).toArray below meth c s.heap [] 0 0 QQ (F0 m 0 ls []) = W p l e rmJ1_charAt_3b067 s m ([.ref (g.2.2.2 0), .int x1] : List Value).toArray below meth c H locs 0 0 QQ (F0 m 0 ls []) by rw [hH, hlocs]]
  have hP : va_P g.1 vwCl [] H := by rw [hH]; exact hP
  have hD : va_D A [] := hD
  have hS : va_S A s.heap H locs := by rw [hH, hlocs]; exact hS
  clear hH hlocs
  refine lv_iload_n hx hb dJ1_charAt_3b067_0 rfl (lv_at hl 1 rfl) ?_
  refine lv_aload_n hx hb dJ1_charAt_3b067_1 rfl (lv_at hl 0 rfl) ?_
  refine va_tlen (v := (6 : Int32)) hx hb (hE.2.2.1.1 0 (by decide)).2.2.2 hS (by decide) dJ1_charAt_3b067_2 ?_
  obtain ⟨hc3, h⟩ := bd0_to h
  refine go_0 (st1 := []) (run_S (As := [.int x1, .int (6 : Int32)]) (rest := []) X hS (mJ0_checkIndex_df160 g l  x1 (6 : Int32) hc3) okJ0_checkIndex_df160 wd2_231 ⟨Nat.le_of_ble_eq_true rfl, Nat.le_of_ble_eq_true rfl⟩ ⟨rfl, rfl⟩ nil_P nil_D (nil_F hS hA) rfl hl.1 rfl (Nat.le_of_ble_eq_true rfl) dJ1_charAt_3b067_3 ⟨Nat.zero_le _, Nat.zero_le _⟩) hS hA hP rfl (fun H locs hP hS => ?_)
  refine lv_aload_n hx hb dJ1_charAt_3b067_6 rfl (lv_at hl 0 rfl) ?_
  refine lv_iload_n hx hb dJ1_charAt_3b067_7 rfl (lv_at hl 1 rfl) ?_
  have hin := ld_in h
  refine va_tb (v := .int (sc_bytes.getD (Int32.toNatClampNeg x1) 0)) hx hb (hE.2.2.1.1 0 (by decide)).2.2.2 hS hin rfl dJ1_charAt_3b067_8 ?_
  refine lv_topi (fun t8 et8 => ?_)
  have h := ld_to h et8
  refine lv_sipush (v := (255 : Int32)) hx hb dJ1_charAt_3b067_9 (by decide) ?_
  refine lv_iand hx hb dJ1_charAt_3b067_12 ?_
  refine lv_i2c (v := (i2c (t8 &&& (255 : Int32)))) hx hb dJ1_charAt_3b067_13 rfl ?_
  have z14 := ckc_is h
  have h := ckc_to h
  have h : some (i2c (t8 &&& (255 : Int32))) = some r := h
  cases h
  exact hret _ _ _ _ (nc_nar z14) hP hD hS dJ1_charAt_3b067_14
set_option maxHeartbeats 4000000 in
set_option maxRecDepth 100000 in
theorem mJ0_charAt_5068e (g : GP) (l : Launch)  (x1 : Int32) (r : Int32) (h : fJS_charAt_5068e x1 = some r) : Ct g l yJ0_charAt_5068e cJ0_charAt_5068e 2 (some .char) rmJ0_charAt_5068e [.ref (g.2.2.1 0), .int x1] [] (some (.int r)) [] := by
  refine Ct.introZ (by decide) (Nat.le_of_ble_eq_true rfl) ?_
  intro p e s m below meth c A QQ ls hyp hret
  obtain ⟨hx, hb, hml, hts, hown, hA, hE, hP, hD, hl⟩ := hyp
  have hK := hE.1
  have hS : va_S A s.heap s.heap [] := va_S.rf
  have X : Here g p s m c cJ0_charAt_5068e 2 ([.ref (g.2.2.1 0), .int x1] : List Value).toArray RJ0 A := ⟨⟨hx, hb, hml, hown, hts⟩, hE, hA⟩
  have hl : lv_has ls 2 [(0, .ref (g.2.2.1 0)), (1, .int x1)] := hl
  obtain ⟨H, hH⟩ : ∃ H, H = s.heap := ⟨_, rfl⟩
  obtain ⟨locs, hlocs⟩ : ∃ l : List Loc, l = [] := ⟨_, rfl⟩
  rw [show W p l e rmJ0_charAt_5068e s m ([.ref (g.2.2.1 0), .int x1] : List Value).toArray below meth c s.heap [] 0 0 QQ (F0 m 0 ls []) = W p l e rmJ0_charAt_5068e s m ([.ref (g.2.2.1 0), .int x1] : List Value).toArray below meth c H locs 0 0 QQ (F0 m 0 ls []) by rw [hH, hlocs]]
  have hP : va_P g.1 vwCl [] H := by rw [hH]; exact hP
  have hD : va_D A [] := hD
  have hS : va_S A s.heap H locs := by rw [hH, hlocs]; exact hS
  clear hH hlocs
  refine lv_aload_n hx hb dJ0_charAt_5068e_0 rfl (lv_at hl 0 rfl) ?_
  obtain ⟨t1, hc1, h⟩ := bd1_to h
  refine go_0 (st1 := [.int t1]) (run_V (As := []) (rest := []) X hS (mJ0_isLatin1_aae02 g l  t1 hc1) okJ0_isLatin1_aae02 wd2_71 ⟨Nat.le_of_ble_eq_true rfl, Nat.le_of_ble_eq_true rfl⟩ ⟨rfl, rfl⟩ (vk_recv hE.2.2.1 (i := 0) (by decide) hS) nil_P nil_D (nil_F hS hA) rfl hl.1 rfl (Nat.le_of_ble_eq_true rfl) dJ0_charAt_5068e_1 ⟨Nat.zero_le _, Nat.zero_le _⟩) hS hA hP rfl (fun H locs hP hS => ?_)
  refine lv_if_eq (tgt := 16) hx hb dJ0_charAt_5068e_4 (by decide) (fun q4 => ?_) (fun q4 => ?_)
  · have h := ifT h q4
    refine lv_aload_n hx hb dJ0_charAt_5068e_16 rfl (lv_at hl 0 rfl) ?_
    refine vk_getf (v := .ref (g.2.2.2 0)) hx hb (hE.2.2.1.1 0 (by decide)).2.2.1 hS hown (hts _ wd6_72) (fun _ h9 => h9) dJ0_charAt_5068e_17 ?_
    refine lv_iload_n hx hb dJ0_charAt_5068e_20 rfl (lv_at hl 1 rfl) ?_
    cases h
  have h := ifF h q4
  refine lv_aload_n hx hb dJ0_charAt_5068e_7 rfl (lv_at hl 0 rfl) ?_
  refine vk_getf (v := .ref (g.2.2.2 0)) hx hb (hE.2.2.1.1 0 (by decide)).2.2.1 hS hown (hts _ wd6_72) (fun _ h9 => h9) dJ0_charAt_5068e_8 ?_
  refine lv_iload_n hx hb dJ0_charAt_5068e_11 rfl (lv_at hl 1 rfl) ?_
  obtain ⟨t12, hc12, h⟩ := bd1_to h
  refine go_0 (st1 := [.int t12]) (run_S (As := [.ref (g.2.2.2 0), .int x1]) (rest := []) X hS (mJ1_charAt_3b067 g l  x1 t12 hc12) okJ1_charAt_3b067 wd2_228 ⟨Nat.le_of_ble_eq_true rfl, Nat.le_of_ble_eq_true rfl⟩ ⟨rfl, rfl⟩ nil_P nil_D (nil_F hS hA) rfl hl.1 rfl (Nat.le_of_ble_eq_true rfl) dJ0_charAt_5068e_12 ⟨Nat.zero_le _, Nat.zero_le _⟩) hS hA hP rfl (fun H locs hP hS => ?_)
  have z15 := ckc_is h
  have h := ckc_to h
  have h : some t12 = some r := h
  cases h
  exact hret _ _ _ _ (nc_nar z15) hP hD hS dJ0_charAt_5068e_15
set_option maxHeartbeats 4000000 in
set_option maxRecDepth 100000 in
theorem mX9_character (g : GP) (l : Launch)  (x0 : Int32) (r : Int32) (h : fZ_character x0 = some r) : Ct g l yX9_character cX9_character 1 (some .char) rmX9_character [.int x0] [] (some (.int r)) [] := by
  refine Ct.introZ (by decide) (Nat.le_of_ble_eq_true rfl) ?_
  intro p e s m below meth c A QQ ls hyp hret
  obtain ⟨hx, hb, hml, hts, hown, hA, hE, hP, hD, hl⟩ := hyp
  have hK := hE.1
  have hS : va_S A s.heap s.heap [] := va_S.rf
  have X : Here g p s m c cX9_character 1 ([.int x0] : List Value).toArray RX9 A := ⟨⟨hx, hb, hml, hown, hts⟩, hE, hA⟩
  have hl : lv_has ls 1 [(0, .int x0)] := hl
  obtain ⟨H, hH⟩ : ∃ H, H = s.heap := ⟨_, rfl⟩
  obtain ⟨locs, hlocs⟩ : ∃ l : List Loc, l = [] := ⟨_, rfl⟩
  rw [show W p l e rmX9_character s m ([.int x0] : List Value).toArray below meth c s.heap [] 0 0 QQ (F0 m 0 ls []) = W p l e rmX9_character s m ([.int x0] : List Value).toArray below meth c H locs 0 0 QQ (F0 m 0 ls []) by rw [hH, hlocs]]
  have hP : va_P g.1 vwCl [] H := by rw [hH]; exact hP
  have hD : va_D A [] := hD
  have hS : va_S A s.heap H locs := by rw [hH, hlocs]; exact hS
  clear hH hlocs
  refine lv_iload_n hx hb dX9_character_0 rfl (lv_at hl 0 rfl) ?_
  refine lv_iconst (v := (1 : Int32)) hx hb dX9_character_1 (by decide) ?_
  refine lv_icmp_lt (tgt := 14) hx hb dX9_character_2 (by decide) (fun q2 => ?_) (fun q2 => ?_)
  · have h := ifT h q2
    refine lv_bipush (v := (32 : Int32)) hx hb dX9_character_14 (by decide) ?_
    refine lv_goto (tgt := 27) hx hb dX9_character_16 (by decide) ?_
    have z27 := ckc_is h
    have h := ckc_to h
    have h : some (32 : Int32) = some r := h
    cases h
    exact hret _ _ _ _ (nc_nar z27) hP hD hS dX9_character_27
  have h := ifF h q2
  refine lv_iload_n hx hb dX9_character_5 rfl (lv_at hl 0 rfl) ?_
  refine va_ldcS hx hb hown hE.2.2.2.1 dX9_character_6 ?_
  obtain ⟨t8, hc8, h⟩ := bd1_to h
  refine go_0 (st1 := [.int t8, .int x0]) (run_V (As := []) (rest := [.int x0]) X hS (mJ0_length_8abf5 g l  t8 hc8) okJ0_length_8abf5 wd2_223 ⟨Nat.le_of_ble_eq_true rfl, Nat.le_of_ble_eq_true rfl⟩ ⟨rfl, rfl⟩ (vk_recv hE.2.2.1 (i := 0) (by decide) hS) nil_P nil_D (nil_F hS hA) rfl hl.1 rfl (Nat.le_of_ble_eq_true rfl) dX9_character_8 ⟨Nat.zero_le _, Nat.zero_le _⟩) hS hA hP rfl (fun H locs hP hS => ?_)
  refine lv_icmp_le (tgt := 19) hx hb dX9_character_11 (by decide) (fun q11 => ?_) (fun q11 => ?_)
  · have h := ifT h q11
    refine va_ldcS hx hb hown hE.2.2.2.1 dX9_character_19 ?_
    refine lv_iload_n hx hb dX9_character_21 rfl (lv_at hl 0 rfl) ?_
    refine lv_iconst (v := (1 : Int32)) hx hb dX9_character_22 (by decide) ?_
    refine lv_isub hx hb dX9_character_23 ?_
    obtain ⟨t24, hc24, h⟩ := bd1_to h
    refine go_0 (st1 := [.int t24]) (run_V (As := [.int (x0 - (1 : Int32))]) (rest := []) X hS (mJ0_charAt_5068e g l  (x0 - (1 : Int32)) t24 hc24) okJ0_charAt_5068e wd2_224 ⟨Nat.le_of_ble_eq_true rfl, Nat.le_of_ble_eq_true rfl⟩ ⟨rfl, rfl⟩ (vk_recv hE.2.2.1 (i := 0) (by decide) hS) nil_P nil_D (nil_F hS hA) rfl hl.1 rfl (Nat.le_of_ble_eq_true rfl) dX9_character_24 ⟨Nat.zero_le _, Nat.zero_le _⟩) hS hA hP rfl (fun H locs hP hS => ?_)
    have z27 := ckc_is h
    have h := ckc_to h
    have h : some t24 = some r := h
    cases h
    exact hret _ _ _ _ (nc_nar z27) hP hD hS dX9_character_27
  have h := ifF h q11
  refine lv_bipush (v := (32 : Int32)) hx hb dX9_character_14 (by decide) ?_
  refine lv_goto (tgt := 27) hx hb dX9_character_16 (by decide) ?_
  have z27 := ckc_is h
  have h := ckc_to h
  have h : some (32 : Int32) = some r := h
  cases h
  exact hret _ _ _ _ (nc_nar z27) hP hD hS dX9_character_27
set_option maxHeartbeats 4000000 in
set_option maxRecDepth 100000 in
theorem mX11_symbolAt (g : GP) (l : Launch) (aX aT aT_characters aE aH aH_lefts aH_rights aS aS_lefts aS_rights aS_filled aA aA_letters aA_lengths aK aB aB_first aQ aQ_weights aQ_possible aC aC_variables aC_relations aC_numbers aA2 aA2_letters aA2_lengths aN aN_lefts aN_rights aN_parents aN_rules aN_depths aE2 : Nat) (T_size : Int32) (T_characters : Nat → Int32) (E_left : Int64) (E_right : Int64) (H_size : Int32) (H_lefts : Nat → Int64) (H_rights : Nat → Int64) (S_lefts : Nat → Int64) (S_rights : Nat → Int64) (S_filled : Nat → Int32) (A_letters : Nat → Int64) (A_lengths : Nat → Int32) (B_left : Int64) (B_right : Int64) (B_found : Int32) (B_least : Int32) (B_first : Nat → Int32) (Q_letterSurplus : Int32) (Q_weights : Nat → Int32) (Q_possible : Nat → Int32) (C_size : Int32) (C_variables : Nat → Int32) (C_relations : Nat → Int32) (C_numbers : Nat → Int32) (A2_letters : Nat → Int64) (A2_lengths : Nat → Int32) (N_size : Int32) (N_solved : Int32) (N_dropped : Int32) (N_lefts : Nat → Int64) (N_rights : Nat → Int64) (N_parents : Nat → Int32) (N_rules : Nat → Int32) (N_depths : Nat → Int32) (E2_left : Int64) (E2_right : Int64) (x1 : Int32) (x2 : Int32) (r : Int32) (h : fX_symbolAt E_left E_right x1 x2 = some r) : Ct g l yX11_symbolAt cX11_symbolAt 3 (some .int) rmX11_symbolAt [.ref aX, .int x1, .int x2] (wX11 g aX aT aT_characters aE aH aH_lefts aH_rights aS aS_lefts aS_rights aS_filled aA aA_letters aA_lengths aK aB aB_first aQ aQ_weights aQ_possible aC aC_variables aC_relations aC_numbers aA2 aA2_letters aA2_lengths aN aN_lefts aN_rights aN_parents aN_rules aN_depths aE2 T_size T_characters E_left E_right H_size H_lefts H_rights S_lefts S_rights S_filled A_letters A_lengths B_left B_right B_found B_least B_first Q_letterSurplus Q_weights Q_possible C_size C_variables C_relations C_numbers A2_letters A2_lengths N_size N_solved N_dropped N_lefts N_rights N_parents N_rules N_depths E2_left E2_right) (some (.int r)) (wX11 g aX aT aT_characters aE aH aH_lefts aH_rights aS aS_lefts aS_rights aS_filled aA aA_letters aA_lengths aK aB aB_first aQ aQ_weights aQ_possible aC aC_variables aC_relations aC_numbers aA2 aA2_letters aA2_lengths aN aN_lefts aN_rights aN_parents aN_rules aN_depths aE2 T_size T_characters E_left E_right H_size H_lefts H_rights S_lefts S_rights S_filled A_letters A_lengths B_left B_right B_found B_least B_first Q_letterSurplus Q_weights Q_possible C_size C_variables C_relations C_numbers A2_letters A2_lengths N_size N_solved N_dropped N_lefts N_rights N_parents N_rules N_depths E2_left E2_right) := by
  refine Ct.introI (by decide) (Nat.le_of_ble_eq_true rfl) ?_
  intro p e s m below meth c A QQ ls hyp hret
  obtain ⟨hx, hb, hml, hts, hown, hA, hE, hP, hD, hl⟩ := hyp
  have hK := hE.1
  have hS : va_S A s.heap s.heap [] := va_S.rf
  have X : Here g p s m c cX11_symbolAt 3 ([.ref aX, .int x1, .int x2] : List Value).toArray RX11 A := ⟨⟨hx, hb, hml, hown, hts⟩, hE, hA⟩
  have hl : lv_has ls 3 [(0, .ref aX), (1, .int x1), (2, .int x2)] := hl
  obtain ⟨H, hH⟩ : ∃ H, H = s.heap := ⟨_, rfl⟩
  obtain ⟨locs, hlocs⟩ : ∃ l : List Loc, l = [] := ⟨_, rfl⟩
  rw [show W p l e rmX11_symbolAt s m ([.ref aX, .int x1, .int x2] : List Value).toArray below meth c s.heap [] 0 0 QQ (F0 m 0 ls []) = W p l e rmX11_symbolAt s m ([.ref aX, .int x1, .int x2] : List Value).toArray below meth c H locs 0 0 QQ (F0 m 0 ls []) by rw [hH, hlocs]]
  have hP : va_P g.1 vwCl (wX11 g aX aT aT_characters aE aH aH_lefts aH_rights aS aS_lefts aS_rights aS_filled aA aA_letters aA_lengths aK aB aB_first aQ aQ_weights aQ_possible aC aC_variables aC_relations aC_numbers aA2 aA2_letters aA2_lengths aN aN_lefts aN_rights aN_parents aN_rules aN_depths aE2 T_size T_characters E_left E_right H_size H_lefts H_rights S_lefts S_rights S_filled A_letters A_lengths B_left B_right B_found B_least B_first Q_letterSurplus Q_weights Q_possible C_size C_variables C_relations C_numbers A2_letters A2_lengths N_size N_solved N_dropped N_lefts N_rights N_parents N_rules N_depths E2_left E2_right) H := by rw [hH]; exact hP
  have hD : va_D A (wX11 g aX aT aT_characters aE aH aH_lefts aH_rights aS aS_lefts aS_rights aS_filled aA aA_letters aA_lengths aK aB aB_first aQ aQ_weights aQ_possible aC aC_variables aC_relations aC_numbers aA2 aA2_letters aA2_lengths aN aN_lefts aN_rights aN_parents aN_rules aN_depths aE2 T_size T_characters E_left E_right H_size H_lefts H_rights S_lefts S_rights S_filled A_letters A_lengths B_left B_right B_found B_least B_first Q_letterSurplus Q_weights Q_possible C_size C_variables C_relations C_numbers A2_letters A2_lengths N_size N_solved N_dropped N_lefts N_rights N_parents N_rules N_depths E2_left E2_right) := hD
  have hS : va_S A s.heap H locs := by rw [hH, hlocs]; exact hS
  clear hH hlocs
  refine lv_iload_n hx hb dX11_symbolAt_0 rfl (lv_at hl 1 rfl) ?_
  obtain ⟨t1, hc1, h⟩ := bd1_to h
  refine go_0 (st1 := [.int t1]) (run_S (As := [.int x1]) (rest := []) X hS (mX11_isSide g l  x1 t1 hc1) okX11_isSide wd2_203 ⟨Nat.le_of_ble_eq_true rfl, Nat.le_of_ble_eq_true rfl⟩ ⟨rfl, rfl⟩ nil_P nil_D (nil_F hS hA) rfl hl.1 rfl (Nat.le_of_ble_eq_true rfl) dX11_symbolAt_1 ⟨Nat.zero_le _, Nat.zero_le _⟩) hS hA hP rfl (fun H locs hP hS => ?_)
  refine lv_if_eq (tgt := 26) hx hb dX11_symbolAt_4 (by decide) (fun q4 => ?_) (fun q4 => ?_)
  · have h := ifT h q4
    refine lv_iconst (v := ((-1) : Int32)) hx hb dX11_symbolAt_26 (by decide) ?_
    have h : some ((-1) : Int32) = some r := h
    cases h
    exact hret _ _ _ _ hP hD hS dX11_symbolAt_27
  have h := ifF h q4
  refine lv_iload_n hx hb dX11_symbolAt_7 rfl (lv_at hl 2 rfl) ?_
  refine lv_if_lt (tgt := 26) hx hb dX11_symbolAt_8 (by decide) (fun q8 => ?_) (fun q8 => ?_)
  · have h := ifT h q8
    refine lv_iconst (v := ((-1) : Int32)) hx hb dX11_symbolAt_26 (by decide) ?_
    have h : some ((-1) : Int32) = some r := h
    cases h
    exact hret _ _ _ _ hP hD hS dX11_symbolAt_27
  have h := ifF h q8
  refine lv_iload_n hx hb dX11_symbolAt_11 rfl (lv_at hl 2 rfl) ?_
  refine lv_aload_n hx hb dX11_symbolAt_12 rfl (lv_at hl 0 rfl) ?_
  refine va_get (D := g.1) (ci := 10) (v := .ref aE) (C := RX11) (T := TX11) (N := 10) hx hb hts inBX11 hown hK hP 0 rfl rfl 1 (by decide) (hts _ wd1_233) (fun _ h9 => h9) rfl dX11_symbolAt_13 ?_
  refine lv_iload_n hx hb dX11_symbolAt_16 rfl (lv_at hl 1 rfl) ?_
  obtain ⟨t17, hc17, h⟩ := bd1_to h
  refine go_P (st1 := [.long t17, .int x2]) (W1 := (wX11 g aX aT aT_characters aE aH aH_lefts aH_rights aS aS_lefts aS_rights aS_filled aA aA_letters aA_lengths aK aB aB_first aQ aQ_weights aQ_possible aC aC_variables aC_relations aC_numbers aA2 aA2_letters aA2_lengths aN aN_lefts aN_rights aN_parents aN_rules aN_depths aE2 T_size T_characters E_left E_right H_size H_lefts H_rights S_lefts S_rights S_filled A_letters A_lengths B_left B_right B_found B_least B_first Q_letterSurplus Q_weights Q_possible C_size C_variables C_relations C_numbers A2_letters A2_lengths N_size N_solved N_dropped N_lefts N_rights N_parents N_rules N_depths E2_left E2_right)) (run_V (As := [.int x1]) (rest := [.int x2]) X hS (mX2_side g l  aE E_left E_right x1 t17 hc17) okX2_side wd2_206 ⟨Nat.le_of_ble_eq_true rfl, Nat.le_of_ble_eq_true rfl⟩ ⟨rfl, rfl⟩ (va_recv hK hP (ci := 2) (q0 := 3) rfl rfl) (sub_P hP [3] rfl) (hD.sub [3] (by decide) rfl) (va_free hD hS hA [3] rfl) rfl hl.1 rfl (Nat.le_of_ble_eq_true rfl) dX11_symbolAt_17 ⟨Nat.zero_le _, Nat.zero_le _⟩) hS (va_free hD hS hA [3] rfl) hP hD [3] [0, 1, 2, 4, 5, 6, 7, 8, 9, 10, 11, 12, 13, 14, 15, 16, 17, 18, 19, 20, 21, 22, 23, 24, 25, 26, 27, 28, 29, 30, 31, 32, 33] [0, 1, 2, 33, 3, 4, 5, 6, 7, 8, 9, 10, 11, 12, 13, 14, 15, 16, 17, 18, 19, 20, 21, 22, 23, 24, 25, 26, 27, 28, 29, 30, 31, 32] rfl rfl (by decide) (by decide) rfl (by decide) rfl (fun H locs hP hD hS => ?_)
  obtain ⟨t20, hc20, h⟩ := bd1_to h
  refine go_0 (st1 := [.int t20, .int x2]) (run_S (As := [.long t17]) (rest := [.int x2]) X hS (mX9_size g l  t17 t20 hc20) okX9_size wd2_210 ⟨Nat.le_of_ble_eq_true rfl, Nat.le_of_ble_eq_true rfl⟩ ⟨rfl, rfl⟩ nil_P nil_D (nil_F hS hA) rfl hl.1 rfl (Nat.le_of_ble_eq_true rfl) dX11_symbolAt_20 ⟨Nat.zero_le _, Nat.zero_le _⟩) hS hA hP rfl (fun H locs hP hS => ?_)
  refine lv_icmp_lt (tgt := 28) hx hb dX11_symbolAt_23 (by decide) (fun q23 => ?_) (fun q23 => ?_)
  · have h := ifT h q23
    refine lv_aload_n hx hb dX11_symbolAt_28 rfl (lv_at hl 0 rfl) ?_
    refine va_get (D := g.1) (ci := 10) (v := .ref aE) (C := RX11) (T := TX11) (N := 10) hx hb hts inBX11 hown hK hP 0 rfl rfl 1 (by decide) (hts _ wd1_233) (fun _ h9 => h9) rfl dX11_symbolAt_29 ?_
    refine lv_iload_n hx hb dX11_symbolAt_32 rfl (lv_at hl 1 rfl) ?_
    obtain ⟨t33, hc33, h⟩ := bd1_to h
    refine go_P (st1 := [.long t33]) (W1 := (wX11 g aX aT aT_characters aE aH aH_lefts aH_rights aS aS_lefts aS_rights aS_filled aA aA_letters aA_lengths aK aB aB_first aQ aQ_weights aQ_possible aC aC_variables aC_relations aC_numbers aA2 aA2_letters aA2_lengths aN aN_lefts aN_rights aN_parents aN_rules aN_depths aE2 T_size T_characters E_left E_right H_size H_lefts H_rights S_lefts S_rights S_filled A_letters A_lengths B_left B_right B_found B_least B_first Q_letterSurplus Q_weights Q_possible C_size C_variables C_relations C_numbers A2_letters A2_lengths N_size N_solved N_dropped N_lefts N_rights N_parents N_rules N_depths E2_left E2_right)) (run_V (As := [.int x1]) (rest := []) X hS (mX2_side g l  aE E_left E_right x1 t33 hc33) okX2_side wd2_206 ⟨Nat.le_of_ble_eq_true rfl, Nat.le_of_ble_eq_true rfl⟩ ⟨rfl, rfl⟩ (va_recv hK hP (ci := 2) (q0 := 3) rfl rfl) (sub_P hP [3] rfl) (hD.sub [3] (by decide) rfl) (va_free hD hS hA [3] rfl) rfl hl.1 rfl (Nat.le_of_ble_eq_true rfl) dX11_symbolAt_33 ⟨Nat.zero_le _, Nat.zero_le _⟩) hS (va_free hD hS hA [3] rfl) hP hD [3] [0, 1, 2, 4, 5, 6, 7, 8, 9, 10, 11, 12, 13, 14, 15, 16, 17, 18, 19, 20, 21, 22, 23, 24, 25, 26, 27, 28, 29, 30, 31, 32, 33] [0, 1, 2, 33, 3, 4, 5, 6, 7, 8, 9, 10, 11, 12, 13, 14, 15, 16, 17, 18, 19, 20, 21, 22, 23, 24, 25, 26, 27, 28, 29, 30, 31, 32] rfl rfl (by decide) (by decide) rfl (by decide) rfl (fun H locs hP hD hS => ?_)
    refine lv_iload_n hx hb dX11_symbolAt_36 rfl (lv_at hl 2 rfl) ?_
    obtain ⟨t37, hc37, h⟩ := bd1_to h
    refine go_0 (st1 := [.int t37]) (run_S (As := [.long t33, .int x2]) (rest := []) X hS (mX9_symbol g l  t33 x2 t37 hc37) okX9_symbol wd2_217 ⟨Nat.le_of_ble_eq_true rfl, Nat.le_of_ble_eq_true rfl⟩ ⟨rfl, rfl⟩ nil_P nil_D (nil_F hS hA) rfl hl.1 rfl (Nat.le_of_ble_eq_true rfl) dX11_symbolAt_37 ⟨Nat.zero_le _, Nat.zero_le _⟩) hS hA hP rfl (fun H locs hP hS => ?_)
    obtain ⟨t40, hc40, h⟩ := bd1_to h
    refine go_0 (st1 := [.int t40]) (run_S (As := [.int t37]) (rest := []) X hS (mX9_character g l  t37 t40 hc40) okX9_character wd2_220 ⟨Nat.le_of_ble_eq_true rfl, Nat.le_of_ble_eq_true rfl⟩ ⟨rfl, rfl⟩ nil_P nil_D (nil_F hS hA) rfl hl.1 rfl (Nat.le_of_ble_eq_true rfl) dX11_symbolAt_40 ⟨Nat.zero_le _, Nat.zero_le _⟩) hS hA hP rfl (fun H locs hP hS => ?_)
    have h : some t40 = some r := h
    cases h
    exact hret _ _ _ _ hP hD hS dX11_symbolAt_43
  have h := ifF h q23
  refine lv_iconst (v := ((-1) : Int32)) hx hb dX11_symbolAt_26 (by decide) ?_
  have h : some ((-1) : Int32) = some r := h
  cases h
  exact hret _ _ _ _ hP hD hS dX11_symbolAt_27
set_option maxHeartbeats 4000000 in
set_option maxRecDepth 100000 in
theorem mX11_isVariable (g : GP) (l : Launch)  (x0 : Int32) (r : Int32) (h : fX_isVariable x0 = some r) : Ct g l yX11_isVariable cX11_isVariable 1 (some .boolean) rmX11_isVariable [.int x0] [] (some (.int r)) [] := by
  refine Ct.introZ (by decide) (Nat.le_of_ble_eq_true rfl) ?_
  intro p e s m below meth c A QQ ls hyp hret
  obtain ⟨hx, hb, hml, hts, hown, hA, hE, hP, hD, hl⟩ := hyp
  have hK := hE.1
  have hS : va_S A s.heap s.heap [] := va_S.rf
  have X : Here g p s m c cX11_isVariable 1 ([.int x0] : List Value).toArray RX11 A := ⟨⟨hx, hb, hml, hown, hts⟩, hE, hA⟩
  have hl : lv_has ls 1 [(0, .int x0)] := hl
  obtain ⟨H, hH⟩ : ∃ H, H = s.heap := ⟨_, rfl⟩
  obtain ⟨locs, hlocs⟩ : ∃ l : List Loc, l = [] := ⟨_, rfl⟩
  rw [show W p l e rmX11_isVariable s m ([.int x0] : List Value).toArray below meth c s.heap [] 0 0 QQ (F0 m 0 ls []) = W p l e rmX11_isVariable s m ([.int x0] : List Value).toArray below meth c H locs 0 0 QQ (F0 m 0 ls []) by rw [hH, hlocs]]
  have hP : va_P g.1 vwCl [] H := by rw [hH]; exact hP
  have hD : va_D A [] := hD
  have hS : va_S A s.heap H locs := by rw [hH, hlocs]; exact hS
  clear hH hlocs
  refine lv_iload_n hx hb dX11_isVariable_0 rfl (lv_at hl 0 rfl) ?_
  refine lv_if_lt (tgt := 13) hx hb dX11_isVariable_1 (by decide) (fun q1 => ?_) (fun q1 => ?_)
  · have h := ifT h q1
    refine lv_iconst (v := (0 : Int32)) hx hb dX11_isVariable_13 (by decide) ?_
    have h : some (0 : Int32) = some r := h
    cases h
    exact hret _ _ _ _ rfl hP hD hS dX11_isVariable_14
  have h := ifF h q1
  refine lv_iload_n hx hb dX11_isVariable_4 rfl (lv_at hl 0 rfl) ?_
  refine lv_iconst (v := (4 : Int32)) hx hb dX11_isVariable_5 (by decide) ?_
  refine lv_icmp_ge (tgt := 13) hx hb dX11_isVariable_6 (by decide) (fun q6 => ?_) (fun q6 => ?_)
  · have h := ifT h q6
    refine lv_iconst (v := (0 : Int32)) hx hb dX11_isVariable_13 (by decide) ?_
    have h : some (0 : Int32) = some r := h
    cases h
    exact hret _ _ _ _ rfl hP hD hS dX11_isVariable_14
  have h := ifF h q6
  refine lv_iconst (v := (1 : Int32)) hx hb dX11_isVariable_9 (by decide) ?_
  refine lv_goto (tgt := 14) hx hb dX11_isVariable_10 (by decide) ?_
  have h : some (1 : Int32) = some r := h
  cases h
  exact hret _ _ _ _ rfl hP hD hS dX11_isVariable_14
set_option maxHeartbeats 4000000 in
set_option maxRecDepth 100000 in
theorem mX9_variable (g : GP) (l : Launch)  (x0 : Int32) (r : Int32) (h : fZ_variable x0 = some r) : Ct g l yX9_variable cX9_variable 1 (some .int) rmX9_variable [.int x0] [] (some (.int r)) [] := by
  refine Ct.introI (by decide) (Nat.le_of_ble_eq_true rfl) ?_
  intro p e s m below meth c A QQ ls hyp hret
  obtain ⟨hx, hb, hml, hts, hown, hA, hE, hP, hD, hl⟩ := hyp
  have hK := hE.1
  have hS : va_S A s.heap s.heap [] := va_S.rf
  have X : Here g p s m c cX9_variable 1 ([.int x0] : List Value).toArray RX9 A := ⟨⟨hx, hb, hml, hown, hts⟩, hE, hA⟩
  have hl : lv_has ls 1 [(0, .int x0)] := hl
  obtain ⟨H, hH⟩ : ∃ H, H = s.heap := ⟨_, rfl⟩
  obtain ⟨locs, hlocs⟩ : ∃ l : List Loc, l = [] := ⟨_, rfl⟩
  rw [show W p l e rmX9_variable s m ([.int x0] : List Value).toArray below meth c s.heap [] 0 0 QQ (F0 m 0 ls []) = W p l e rmX9_variable s m ([.int x0] : List Value).toArray below meth c H locs 0 0 QQ (F0 m 0 ls []) by rw [hH, hlocs]]
  have hP : va_P g.1 vwCl [] H := by rw [hH]; exact hP
  have hD : va_D A [] := hD
  have hS : va_S A s.heap H locs := by rw [hH, hlocs]; exact hS
  clear hH hlocs
  refine lv_iconst (v := (3 : Int32)) hx hb dX9_variable_0 (by decide) ?_
  refine lv_iload_n hx hb dX9_variable_1 rfl (lv_at hl 0 rfl) ?_
  refine lv_iadd hx hb dX9_variable_2 ?_
  have h : some ((3 : Int32) + x0) = some r := h
  cases h
  exact hret _ _ _ _ hP hD hS dX9_variable_3
set_option maxHeartbeats 4000000 in
set_option maxRecDepth 100000 in
theorem mX9_countOf (g : GP) (l : Launch)  (x0 : Int64) (x2 : Int32) (r : Int32) (h : fZ_countOf x0 x2 = some r) : Ct g l yX9_countOf cX9_countOf 5 (some .int) rmX9_countOf [.long x0, .int x2] [] (some (.int r)) [] := by
  refine Ct.introI (by decide) (Nat.le_of_ble_eq_true rfl) ?_
  intro p e s m below meth c A QQ ls hyp hret
  obtain ⟨hx, hb, hml, hts, hown, hA, hE, hP, hD, hl⟩ := hyp
  have hK := hE.1
  have hS : va_S A s.heap s.heap [] := va_S.rf
  have X : Here g p s m c cX9_countOf 5 ([.long x0, .int x2] : List Value).toArray RX9 A := ⟨⟨hx, hb, hml, hown, hts⟩, hE, hA⟩
  have L5 : ∀ (n5 : Nat), ∀ (v3 : Int32) (v4 : Int32) (ls : Array Slot) (H : Heap) (locs : List Loc), lv_has ls 5 [(0, .long x0), (2, .int x2), (3, .int v3), (4, .int v4)] → va_P g.1 vwCl [] H → va_D A [] → va_S A s.heap H locs → fx2 (fZ_countOf_5 x0 x2) n5 v3 v4 = some r → W p l e rmX9_countOf s m ([.long x0, .int x2] : List Value).toArray below meth c H locs 0 0 QQ (F0 m 5 ls []) := by
    intro n5
    induction n5 with
    | zero => intro v3 v4 ls H locs hl hP hD hS h; exact fx2_0 h
    | succ n5 ih5 =>
      intro v3 v4 ls H locs hl hP hD hS h
      have h := (fx2_s (fZ_countOf_5 x0 x2) n5 v3 v4).symm.trans h
      refine lv_iload hx hb dX9_countOf_5 (lv_at hl 3 rfl) ?_
      refine lv_bipush (v := (13 : Int32)) hx hb dX9_countOf_7 (by decide) ?_
      refine lv_icmp_ge (tgt := 37) hx hb dX9_countOf_9 (by decide) (fun q9 => ?_) (fun q9 => ?_)
      · have h := ifT h q9
        refine lv_iload_n hx hb dX9_countOf_37 rfl (lv_at hl 2 rfl) ?_
        have h : some v3 = some r := h
        cases h
        exact hret _ _ _ _ hP hD hS dX9_countOf_38
      have h := ifF h q9
      refine lv_lload_n hx hb dX9_countOf_12 rfl (lv_at hl 0 rfl) ?_
      refine lv_iconst (v := (3 : Int32)) hx hb dX9_countOf_13 (by decide) ?_
      refine lv_iload hx hb dX9_countOf_14 (lv_at hl 3 rfl) ?_
      refine lv_imul hx hb dX9_countOf_16 ?_
      refine lv_lushr (v := (ushrL x0 ((3 : Int32) * v4))) hx hb dX9_countOf_17 rfl ?_
      refine lv_ldc2 (v := (7 : Int64)) hx hb hown (hts _ wd3_17) dX9_countOf_18 ?_
      refine lv_land hx hb dX9_countOf_21 ?_
      refine lv_iload_n hx hb dX9_countOf_22 rfl (lv_at hl 1 rfl) ?_
      refine lv_i2l (v := (Int32.toInt64 x2)) hx hb dX9_countOf_23 rfl ?_
      refine W.lcmp hx hb dX9_countOf_24 ?_
      refine lv_if_ne (tgt := 31) hx hb dX9_countOf_25 (by decide) (fun q25 => ?_) (fun q25 => ?_)
      · have h := ifF h q25
        obtain ⟨t31, et31⟩ : ∃ y : Int32, y = v4 + (1 : Int32) := ⟨_, rfl⟩
        refine lv_iinc (v := t31) (lv' := [(4, .int t31), (0, .long x0), (2, .int x2), (3, .int v3)]) hx hb dX9_countOf_31 hl (k := 3) rfl (by rw [et31]; rfl) (by decide) rfl (fun ls hl => ?_)
        have h := st_to h et31
        refine lv_goto (tgt := 5) hx hb dX9_countOf_34 (by decide) ?_
        exact ih5 v3 t31 ls H locs (lv_sub hl [1, 2, 3, 0] rfl) hP hD hS h
      have h := ifT h q25
      obtain ⟨t28, et28⟩ : ∃ y : Int32, y = v3 + (1 : Int32) := ⟨_, rfl⟩
      refine lv_iinc (v := t28) (lv' := [(3, .int t28), (0, .long x0), (2, .int x2), (4, .int v4)]) hx hb dX9_countOf_28 hl (k := 2) rfl (by rw [et28]; rfl) (by decide) rfl (fun ls hl => ?_)
      have h := st_to h et28
      obtain ⟨t31, et31⟩ : ∃ y : Int32, y = v4 + (1 : Int32) := ⟨_, rfl⟩
      refine lv_iinc (v := t31) (lv' := [(4, .int t31), (3, .int t28), (0, .long x0), (2, .int x2)]) hx hb dX9_countOf_31 hl (k := 3) rfl (by rw [et31]; rfl) (by decide) rfl (fun ls hl => ?_)
      have h := st_to h et31
      refine lv_goto (tgt := 5) hx hb dX9_countOf_34 (by decide) ?_
      exact ih5 t28 t31 ls H locs (lv_sub hl [2, 3, 1, 0] rfl) hP hD hS h
  have hl : lv_has ls 5 [(0, .long x0), (2, .int x2)] := hl
  obtain ⟨H, hH⟩ : ∃ H, H = s.heap := ⟨_, rfl⟩
  obtain ⟨locs, hlocs⟩ : ∃ l : List Loc, l = [] := ⟨_, rfl⟩
  rw [show W p l e rmX9_countOf s m ([.long x0, .int x2] : List Value).toArray below meth c s.heap [] 0 0 QQ (F0 m 0 ls []) = W p l e rmX9_countOf s m ([.long x0, .int x2] : List Value).toArray below meth c H locs 0 0 QQ (F0 m 0 ls []) by rw [hH, hlocs]]
  have hP : va_P g.1 vwCl [] H := by rw [hH]; exact hP
  have hD : va_D A [] := hD
  have hS : va_S A s.heap H locs := by rw [hH, hlocs]; exact hS
  clear hH hlocs
  refine lv_iconst (v := (0 : Int32)) hx hb dX9_countOf_0 (by decide) ?_
  refine lv_istore_n (lv' := [(3, .int (0 : Int32)), (0, .long x0), (2, .int x2)]) hx hb dX9_countOf_1 rfl hl (by decide) rfl (fun ls hl => ?_)
  refine lv_iconst (v := (0 : Int32)) hx hb dX9_countOf_2 (by decide) ?_
  refine lv_istore (lv' := [(4, .int (0 : Int32)), (3, .int (0 : Int32)), (0, .long x0), (2, .int x2)]) hx hb dX9_countOf_3 hl (by decide) rfl (fun ls hl => ?_)
  exact L5 FU (0 : Int32) (0 : Int32) ls H locs (lv_sub hl [2, 3, 1, 0] rfl) hP hD hS h
set_option maxHeartbeats 4000000 in
set_option maxRecDepth 100000 in
theorem mX11_occurrences (g : GP) (l : Launch) (aX aT aT_characters aE aH aH_lefts aH_rights aS aS_lefts aS_rights aS_filled aA aA_letters aA_lengths aK aB aB_first aQ aQ_weights aQ_possible aC aC_variables aC_relations aC_numbers aA2 aA2_letters aA2_lengths aN aN_lefts aN_rights aN_parents aN_rules aN_depths aE2 : Nat) (T_size : Int32) (T_characters : Nat → Int32) (E_left : Int64) (E_right : Int64) (H_size : Int32) (H_lefts : Nat → Int64) (H_rights : Nat → Int64) (S_lefts : Nat → Int64) (S_rights : Nat → Int64) (S_filled : Nat → Int32) (A_letters : Nat → Int64) (A_lengths : Nat → Int32) (B_left : Int64) (B_right : Int64) (B_found : Int32) (B_least : Int32) (B_first : Nat → Int32) (Q_letterSurplus : Int32) (Q_weights : Nat → Int32) (Q_possible : Nat → Int32) (C_size : Int32) (C_variables : Nat → Int32) (C_relations : Nat → Int32) (C_numbers : Nat → Int32) (A2_letters : Nat → Int64) (A2_lengths : Nat → Int32) (N_size : Int32) (N_solved : Int32) (N_dropped : Int32) (N_lefts : Nat → Int64) (N_rights : Nat → Int64) (N_parents : Nat → Int32) (N_rules : Nat → Int32) (N_depths : Nat → Int32) (E2_left : Int64) (E2_right : Int64) (x1 : Int32) (x2 : Int32) (r : Int32) (h : fX_occurrences E_left E_right x1 x2 = some r) : Ct g l yX11_occurrences cX11_occurrences 3 (some .int) rmX11_occurrences [.ref aX, .int x1, .int x2] (wX11 g aX aT aT_characters aE aH aH_lefts aH_rights aS aS_lefts aS_rights aS_filled aA aA_letters aA_lengths aK aB aB_first aQ aQ_weights aQ_possible aC aC_variables aC_relations aC_numbers aA2 aA2_letters aA2_lengths aN aN_lefts aN_rights aN_parents aN_rules aN_depths aE2 T_size T_characters E_left E_right H_size H_lefts H_rights S_lefts S_rights S_filled A_letters A_lengths B_left B_right B_found B_least B_first Q_letterSurplus Q_weights Q_possible C_size C_variables C_relations C_numbers A2_letters A2_lengths N_size N_solved N_dropped N_lefts N_rights N_parents N_rules N_depths E2_left E2_right) (some (.int r)) (wX11 g aX aT aT_characters aE aH aH_lefts aH_rights aS aS_lefts aS_rights aS_filled aA aA_letters aA_lengths aK aB aB_first aQ aQ_weights aQ_possible aC aC_variables aC_relations aC_numbers aA2 aA2_letters aA2_lengths aN aN_lefts aN_rights aN_parents aN_rules aN_depths aE2 T_size T_characters E_left E_right H_size H_lefts H_rights S_lefts S_rights S_filled A_letters A_lengths B_left B_right B_found B_least B_first Q_letterSurplus Q_weights Q_possible C_size C_variables C_relations C_numbers A2_letters A2_lengths N_size N_solved N_dropped N_lefts N_rights N_parents N_rules N_depths E2_left E2_right) := by
  refine Ct.introI (by decide) (Nat.le_of_ble_eq_true rfl) ?_
  intro p e s m below meth c A QQ ls hyp hret
  obtain ⟨hx, hb, hml, hts, hown, hA, hE, hP, hD, hl⟩ := hyp
  have hK := hE.1
  have hS : va_S A s.heap s.heap [] := va_S.rf
  have X : Here g p s m c cX11_occurrences 3 ([.ref aX, .int x1, .int x2] : List Value).toArray RX11 A := ⟨⟨hx, hb, hml, hown, hts⟩, hE, hA⟩
  have hl : lv_has ls 3 [(0, .ref aX), (1, .int x1), (2, .int x2)] := hl
  obtain ⟨H, hH⟩ : ∃ H, H = s.heap := ⟨_, rfl⟩
  obtain ⟨locs, hlocs⟩ : ∃ l : List Loc, l = [] := ⟨_, rfl⟩
  rw [show W p l e rmX11_occurrences s m ([.ref aX, .int x1, .int x2] : List Value).toArray below meth c s.heap [] 0 0 QQ (F0 m 0 ls []) = W p l e rmX11_occurrences s m ([.ref aX, .int x1, .int x2] : List Value).toArray below meth c H locs 0 0 QQ (F0 m 0 ls []) by rw [hH, hlocs]]
  have hP : va_P g.1 vwCl (wX11 g aX aT aT_characters aE aH aH_lefts aH_rights aS aS_lefts aS_rights aS_filled aA aA_letters aA_lengths aK aB aB_first aQ aQ_weights aQ_possible aC aC_variables aC_relations aC_numbers aA2 aA2_letters aA2_lengths aN aN_lefts aN_rights aN_parents aN_rules aN_depths aE2 T_size T_characters E_left E_right H_size H_lefts H_rights S_lefts S_rights S_filled A_letters A_lengths B_left B_right B_found B_least B_first Q_letterSurplus Q_weights Q_possible C_size C_variables C_relations C_numbers A2_letters A2_lengths N_size N_solved N_dropped N_lefts N_rights N_parents N_rules N_depths E2_left E2_right) H := by rw [hH]; exact hP
  have hD : va_D A (wX11 g aX aT aT_characters aE aH aH_lefts aH_rights aS aS_lefts aS_rights aS_filled aA aA_letters aA_lengths aK aB aB_first aQ aQ_weights aQ_possible aC aC_variables aC_relations aC_numbers aA2 aA2_letters aA2_lengths aN aN_lefts aN_rights aN_parents aN_rules aN_depths aE2 T_size T_characters E_left E_right H_size H_lefts H_rights S_lefts S_rights S_filled A_letters A_lengths B_left B_right B_found B_least B_first Q_letterSurplus Q_weights Q_possible C_size C_variables C_relations C_numbers A2_letters A2_lengths N_size N_solved N_dropped N_lefts N_rights N_parents N_rules N_depths E2_left E2_right) := hD
  have hS : va_S A s.heap H locs := by rw [hH, hlocs]; exact hS
  clear hH hlocs
  refine lv_iload_n hx hb dX11_occurrences_0 rfl (lv_at hl 1 rfl) ?_
  obtain ⟨t1, hc1, h⟩ := bd1_to h
  refine go_0 (st1 := [.int t1]) (run_S (As := [.int x1]) (rest := []) X hS (mX11_isSide g l  x1 t1 hc1) okX11_isSide wd2_203 ⟨Nat.le_of_ble_eq_true rfl, Nat.le_of_ble_eq_true rfl⟩ ⟨rfl, rfl⟩ nil_P nil_D (nil_F hS hA) rfl hl.1 rfl (Nat.le_of_ble_eq_true rfl) dX11_occurrences_1 ⟨Nat.zero_le _, Nat.zero_le _⟩) hS hA hP rfl (fun H locs hP hS => ?_)
  refine lv_if_eq (tgt := 14) hx hb dX11_occurrences_4 (by decide) (fun q4 => ?_) (fun q4 => ?_)
  · have h := ifT h q4
    refine lv_iconst (v := ((-1) : Int32)) hx hb dX11_occurrences_14 (by decide) ?_
    have h : some ((-1) : Int32) = some r := h
    cases h
    exact hret _ _ _ _ hP hD hS dX11_occurrences_15
  have h := ifF h q4
  refine lv_iload_n hx hb dX11_occurrences_7 rfl (lv_at hl 2 rfl) ?_
  obtain ⟨t8, hc8, h⟩ := bd1_to h
  refine go_0 (st1 := [.int t8]) (run_S (As := [.int x2]) (rest := []) X hS (mX11_isVariable g l  x2 t8 hc8) okX11_isVariable wd3_8 ⟨Nat.le_of_ble_eq_true rfl, Nat.le_of_ble_eq_true rfl⟩ ⟨rfl, rfl⟩ nil_P nil_D (nil_F hS hA) rfl hl.1 rfl (Nat.le_of_ble_eq_true rfl) dX11_occurrences_8 ⟨Nat.zero_le _, Nat.zero_le _⟩) hS hA hP rfl (fun H locs hP hS => ?_)
  refine lv_if_ne (tgt := 16) hx hb dX11_occurrences_11 (by decide) (fun q11 => ?_) (fun q11 => ?_)
  · have h := ifF h q11
    refine lv_aload_n hx hb dX11_occurrences_16 rfl (lv_at hl 0 rfl) ?_
    refine va_get (D := g.1) (ci := 10) (v := .ref aE) (C := RX11) (T := TX11) (N := 10) hx hb hts inBX11 hown hK hP 0 rfl rfl 1 (by decide) (hts _ wd1_233) (fun _ h9 => h9) rfl dX11_occurrences_17 ?_
    refine lv_iload_n hx hb dX11_occurrences_20 rfl (lv_at hl 1 rfl) ?_
    obtain ⟨t21, hc21, h⟩ := bd1_to h
    refine go_P (st1 := [.long t21]) (W1 := (wX11 g aX aT aT_characters aE aH aH_lefts aH_rights aS aS_lefts aS_rights aS_filled aA aA_letters aA_lengths aK aB aB_first aQ aQ_weights aQ_possible aC aC_variables aC_relations aC_numbers aA2 aA2_letters aA2_lengths aN aN_lefts aN_rights aN_parents aN_rules aN_depths aE2 T_size T_characters E_left E_right H_size H_lefts H_rights S_lefts S_rights S_filled A_letters A_lengths B_left B_right B_found B_least B_first Q_letterSurplus Q_weights Q_possible C_size C_variables C_relations C_numbers A2_letters A2_lengths N_size N_solved N_dropped N_lefts N_rights N_parents N_rules N_depths E2_left E2_right)) (run_V (As := [.int x1]) (rest := []) X hS (mX2_side g l  aE E_left E_right x1 t21 hc21) okX2_side wd2_206 ⟨Nat.le_of_ble_eq_true rfl, Nat.le_of_ble_eq_true rfl⟩ ⟨rfl, rfl⟩ (va_recv hK hP (ci := 2) (q0 := 3) rfl rfl) (sub_P hP [3] rfl) (hD.sub [3] (by decide) rfl) (va_free hD hS hA [3] rfl) rfl hl.1 rfl (Nat.le_of_ble_eq_true rfl) dX11_occurrences_21 ⟨Nat.zero_le _, Nat.zero_le _⟩) hS (va_free hD hS hA [3] rfl) hP hD [3] [0, 1, 2, 4, 5, 6, 7, 8, 9, 10, 11, 12, 13, 14, 15, 16, 17, 18, 19, 20, 21, 22, 23, 24, 25, 26, 27, 28, 29, 30, 31, 32, 33] [0, 1, 2, 33, 3, 4, 5, 6, 7, 8, 9, 10, 11, 12, 13, 14, 15, 16, 17, 18, 19, 20, 21, 22, 23, 24, 25, 26, 27, 28, 29, 30, 31, 32] rfl rfl (by decide) (by decide) rfl (by decide) rfl (fun H locs hP hD hS => ?_)
    refine lv_iload_n hx hb dX11_occurrences_24 rfl (lv_at hl 2 rfl) ?_
    obtain ⟨t25, hc25, h⟩ := bd1_to h
    refine go_0 (st1 := [.int t25, .long t21]) (run_S (As := [.int x2]) (rest := [.long t21]) X hS (mX9_variable g l  x2 t25 hc25) okX9_variable wd3_11 ⟨Nat.le_of_ble_eq_true rfl, Nat.le_of_ble_eq_true rfl⟩ ⟨rfl, rfl⟩ nil_P nil_D (nil_F hS hA) rfl hl.1 rfl (Nat.le_of_ble_eq_true rfl) dX11_occurrences_25 ⟨Nat.zero_le _, Nat.zero_le _⟩) hS hA hP rfl (fun H locs hP hS => ?_)
    obtain ⟨t28, hc28, h⟩ := bd1_to h
    refine go_0 (st1 := [.int t28]) (run_S (As := [.long t21, .int t25]) (rest := []) X hS (mX9_countOf g l  t21 t25 t28 hc28) okX9_countOf wd3_14 ⟨Nat.le_of_ble_eq_true rfl, Nat.le_of_ble_eq_true rfl⟩ ⟨rfl, rfl⟩ nil_P nil_D (nil_F hS hA) rfl hl.1 rfl (Nat.le_of_ble_eq_true rfl) dX11_occurrences_28 ⟨Nat.zero_le _, Nat.zero_le _⟩) hS hA hP rfl (fun H locs hP hS => ?_)
    have h : some t28 = some r := h
    cases h
    exact hret _ _ _ _ hP hD hS dX11_occurrences_31
  have h := ifT h q11
  refine lv_iconst (v := ((-1) : Int32)) hx hb dX11_occurrences_14 (by decide) ?_
  have h : some ((-1) : Int32) = some r := h
  cases h
  exact hret _ _ _ _ hP hD hS dX11_occurrences_15
set_option maxHeartbeats 4000000 in
set_option maxRecDepth 100000 in
theorem mX4_forgetOldest (g : GP) (l : Launch) (aH aH_lefts aH_rights : Nat) (H_size : Int32) (H_lefts : Nat → Int64) (H_rights : Nat → Int64)  (H_size_o : Int32) (H_lefts_o : Nat → Int64) (H_rights_o : Nat → Int64) (h : fH_forgetOldest H_lefts H_rights = some (H_size_o, H_lefts_o, H_rights_o)) : Ct g l yX4_forgetOldest cX4_forgetOldest 2 none rmX4_forgetOldest [.ref aH] (wX4 g aH aH_lefts aH_rights H_size H_lefts H_rights) none (wX4 g aH aH_lefts aH_rights H_size_o H_lefts_o H_rights_o) := by
  refine Ct.introV (by decide) (Nat.le_of_ble_eq_true rfl) ?_
  intro p e s m below meth c A QQ ls hyp hret
  obtain ⟨hx, hb, hml, hts, hown, hA, hE, hP, hD, hl⟩ := hyp
  have hK := hE.1
  have hS : va_S A s.heap s.heap [] := va_S.rf
  have X : Here g p s m c cX4_forgetOldest 2 ([.ref aH] : List Value).toArray RX4 A := ⟨⟨hx, hb, hml, hown, hts⟩, hE, hA⟩
  have L2 : ∀ (n2 : Nat), ∀ (H_size : Int32) (H_lefts : Nat → Int64) (H_rights : Nat → Int64) (v1 : Int32) (ls : Array Slot) (H : Heap) (locs : List Loc), lv_has ls 2 [(0, .ref aH), (1, .int v1)] → va_P g.1 vwCl (wX4 g aH aH_lefts aH_rights H_size H_lefts H_rights) H → va_D A (wX4 g aH aH_lefts aH_rights H_size H_lefts H_rights) → va_S A s.heap H locs → fx3 (fH_forgetOldest_2) n2 H_lefts H_rights v1 = some (H_size_o, H_lefts_o, H_rights_o) → W p l e rmX4_forgetOldest s m ([.ref aH] : List Value).toArray below meth c H locs 0 0 QQ (F0 m 2 ls []) := by
    intro n2
    induction n2 with
    | zero => intro H_size H_lefts H_rights v1 ls H locs hl hP hD hS h; exact fx3_0 h
    | succ n2 ih2 =>
      intro H_size H_lefts H_rights v1 ls H locs hl hP hD hS h
      have h := (fx3_s (fH_forgetOldest_2) n2 H_lefts H_rights v1).symm.trans h
      refine lv_iload_n hx hb dX4_forgetOldest_2 rfl (lv_at hl 1 rfl) ?_
      refine lv_bipush (v := (14 : Int32)) hx hb dX4_forgetOldest_3 (by decide) ?_
      refine lv_icmp_ge (tgt := 42) hx hb dX4_forgetOldest_5 (by decide) (fun q5 => ?_) (fun q5 => ?_)
      · have h := ifT h q5
        refine lv_aload_n hx hb dX4_forgetOldest_42 rfl (lv_at hl 0 rfl) ?_
        refine lv_bipush (v := (13 : Int32)) hx hb dX4_forgetOldest_43 (by decide) ?_
        refine va_put (D := g.1) (ci := 4) (v := .int (13 : Int32)) (ty := .int) (C := RX4) (T := TX4) (N := 3) hx hb hts inBX4 tyX4 tyX4_ok nmX4 hown hK hP hD hS 0 rfl rfl 2 (by decide) (hts _ wd1_95) (fun _ h9 => h9) rfl (tyX4_ok 2 (by decide)) rfl rfl (Nat.le_of_ble_eq_true rfl) dX4_forgetOldest_45 (fun H locs hP hD hS => ?_)
        have hP : va_P g.1 vwCl (wX4 g aH aH_lefts aH_rights (13 : Int32) H_lefts H_rights) H := hP
        have hD : va_D A (wX4 g aH aH_lefts aH_rights (13 : Int32) H_lefts H_rights) := hD
        have h : some ((13 : Int32), H_lefts, H_rights) = some (H_size_o, H_lefts_o, H_rights_o) := h
        cases h
        exact hret _ _ _ _ hP hD hS dX4_forgetOldest_48
      have h := ifF h q5
      refine lv_aload_n hx hb dX4_forgetOldest_8 rfl (lv_at hl 0 rfl) ?_
      refine va_get (D := g.1) (ci := 4) (v := .ref aH_lefts) (C := RX4) (T := TX4) (N := 3) hx hb hts inBX4 hown hK hP 0 rfl rfl 0 (by decide) (hts _ wd1_93) (fun _ h9 => h9) rfl dX4_forgetOldest_9 ?_
      refine lv_iload_n hx hb dX4_forgetOldest_12 rfl (lv_at hl 1 rfl) ?_
      refine lv_iconst (v := (1 : Int32)) hx hb dX4_forgetOldest_13 (by decide) ?_
      refine lv_isub hx hb dX4_forgetOldest_14 ?_
      refine lv_aload_n hx hb dX4_forgetOldest_15 rfl (lv_at hl 0 rfl) ?_
      refine va_get (D := g.1) (ci := 4) (v := .ref aH_lefts) (C := RX4) (T := TX4) (N := 3) hx hb hts inBX4 hown hK hP 0 rfl rfl 0 (by decide) (hts _ wd1_93) (fun _ h9 => h9) rfl dX4_forgetOldest_16 ?_
      refine lv_iload_n hx hb dX4_forgetOldest_19 rfl (lv_at hl 1 rfl) ?_
      have hin := ld_in h
      refine va_lald hx hb hK hP 1 1 rfl rfl hin dX4_forgetOldest_20 ?_
      refine lv_topl (fun t20 et20 => ?_)
      have h := ld_to h et20
      have hin := stl_in h
      refine va_last hx hb hK hP hD hS 1 1 rfl rfl hin dX4_forgetOldest_21 (fun H locs hP hD hS => ?_)
      obtain ⟨H_lefts_21, eH_lefts_21⟩ : ∃ y : Nat → Int64, y = vp_updL H_lefts (Int32.toNatClampNeg (v1 - (1 : Int32))) t20 := ⟨_, rfl⟩
      have h := stl_to h eH_lefts_21
      have hP : va_P g.1 vwCl (wX4 g aH aH_lefts aH_rights H_size H_lefts_21 H_rights) H := by rw [eH_lefts_21]; exact hP
      have hD : va_D A (wX4 g aH aH_lefts aH_rights H_size H_lefts_21 H_rights) := by rw [eH_lefts_21]; exact hD
      refine lv_aload_n hx hb dX4_forgetOldest_22 rfl (lv_at hl 0 rfl) ?_
      refine va_get (D := g.1) (ci := 4) (v := .ref aH_rights) (C := RX4) (T := TX4) (N := 3) hx hb hts inBX4 hown hK hP 0 rfl rfl 1 (by decide) (hts _ wd1_94) (fun _ h9 => h9) rfl dX4_forgetOldest_23 ?_
      refine lv_iload_n hx hb dX4_forgetOldest_26 rfl (lv_at hl 1 rfl) ?_
      refine lv_iconst (v := (1 : Int32)) hx hb dX4_forgetOldest_27 (by decide) ?_
      refine lv_isub hx hb dX4_forgetOldest_28 ?_
      refine lv_aload_n hx hb dX4_forgetOldest_29 rfl (lv_at hl 0 rfl) ?_
      refine va_get (D := g.1) (ci := 4) (v := .ref aH_rights) (C := RX4) (T := TX4) (N := 3) hx hb hts inBX4 hown hK hP 0 rfl rfl 1 (by decide) (hts _ wd1_94) (fun _ h9 => h9) rfl dX4_forgetOldest_30 ?_
      refine lv_iload_n hx hb dX4_forgetOldest_33 rfl (lv_at hl 1 rfl) ?_
      have hin := ld_in h
      refine va_lald hx hb hK hP 2 1 rfl rfl hin dX4_forgetOldest_34 ?_
      refine lv_topl (fun t34 et34 => ?_)
      have h := ld_to h et34
      have hin := stl_in h
      refine va_last hx hb hK hP hD hS 2 1 rfl rfl hin dX4_forgetOldest_35 (fun H locs hP hD hS => ?_)
      obtain ⟨H_rights_35, eH_rights_35⟩ : ∃ y : Nat → Int64, y = vp_updL H_rights (Int32.toNatClampNeg (v1 - (1 : Int32))) t34 := ⟨_, rfl⟩
      have h := stl_to h eH_rights_35
      have hP : va_P g.1 vwCl (wX4 g aH aH_lefts aH_rights H_size H_lefts_21 H_rights_35) H := by rw [eH_rights_35]; exact hP
      have hD : va_D A (wX4 g aH aH_lefts aH_rights H_size H_lefts_21 H_rights_35) := by rw [eH_rights_35]; exact hD
      obtain ⟨t36, et36⟩ : ∃ y : Int32, y = v1 + (1 : Int32) := ⟨_, rfl⟩
      refine lv_iinc (v := t36) (lv' := [(1, .int t36), (0, .ref aH)]) hx hb dX4_forgetOldest_36 hl (k := 1) rfl (by rw [et36]; rfl) (by decide) rfl (fun ls hl => ?_)
      have h := st_to h et36
      refine lv_goto (tgt := 2) hx hb dX4_forgetOldest_39 (by decide) ?_
      exact ih2 H_size H_lefts_21 H_rights_35 t36 ls H locs (lv_sub hl [1, 0] rfl) hP hD hS h
  have hl : lv_has ls 2 [(0, .ref aH)] := hl
  obtain ⟨H, hH⟩ : ∃ H, H = s.heap := ⟨_, rfl⟩
  obtain ⟨locs, hlocs⟩ : ∃ l : List Loc, l = [] := ⟨_, rfl⟩
  rw [show W p l e rmX4_forgetOldest s m ([.ref aH] : List Value).toArray below meth c s.heap [] 0 0 QQ (F0 m 0 ls []) = W p l e rmX4_forgetOldest s m ([.ref aH] : List Value).toArray below meth c H locs 0 0 QQ (F0 m 0 ls []) by rw [hH, hlocs]]
  have hP : va_P g.1 vwCl (wX4 g aH aH_lefts aH_rights H_size H_lefts H_rights) H := by rw [hH]; exact hP
  have hD : va_D A (wX4 g aH aH_lefts aH_rights H_size H_lefts H_rights) := hD
  have hS : va_S A s.heap H locs := by rw [hH, hlocs]; exact hS
  clear hH hlocs
  refine lv_iconst (v := (1 : Int32)) hx hb dX4_forgetOldest_0 (by decide) ?_
  refine lv_istore_n (lv' := [(1, .int (1 : Int32)), (0, .ref aH)]) hx hb dX4_forgetOldest_1 rfl hl (by decide) rfl (fun ls hl => ?_)
  exact L2 FU H_size H_lefts H_rights (1 : Int32) ls H locs (lv_sub hl [1, 0] rfl) hP hD hS h
set_option maxHeartbeats 4000000 in
set_option maxRecDepth 100000 in
theorem mX4_remember (g : GP) (l : Launch) (aH aH_lefts aH_rights aE : Nat) (H_size : Int32) (H_lefts : Nat → Int64) (H_rights : Nat → Int64) (E_left : Int64) (E_right : Int64)  (H_size_o : Int32) (H_lefts_o : Nat → Int64) (H_rights_o : Nat → Int64) (h : fH_remember H_size H_lefts H_rights E_left E_right = some (H_size_o, H_lefts_o, H_rights_o)) : Ct g l yX4_remember cX4_remember 2 none rmX4_remember [.ref aH, .ref aE] ((wX4 g aH aH_lefts aH_rights H_size H_lefts H_rights) ++ (wX2 g aE E_left E_right)) none ((wX4 g aH aH_lefts aH_rights H_size_o H_lefts_o H_rights_o) ++ (wX2 g aE E_left E_right)) := by
  refine Ct.introV (by decide) (Nat.le_of_ble_eq_true rfl) ?_
  intro p e s m below meth c A QQ ls hyp hret
  obtain ⟨hx, hb, hml, hts, hown, hA, hE, hP, hD, hl⟩ := hyp
  have hK := hE.1
  have hS : va_S A s.heap s.heap [] := va_S.rf
  have X : Here g p s m c cX4_remember 2 ([.ref aH, .ref aE] : List Value).toArray RX4 A := ⟨⟨hx, hb, hml, hown, hts⟩, hE, hA⟩
  have B20 : ∀ (H_size : Int32) (H_lefts : Nat → Int64) (H_rights : Nat → Int64) (ls : Array Slot) (H : Heap) (locs : List Loc), lv_has ls 2 [(0, .ref aH), (1, .ref aE)] → va_P g.1 vwCl ((wX4 g aH aH_lefts aH_rights H_size H_lefts H_rights) ++ (wX2 g aE E_left E_right)) H → va_D A ((wX4 g aH aH_lefts aH_rights H_size H_lefts H_rights) ++ (wX2 g aE E_left E_right)) → va_S A s.heap H locs → fH_remember_20 H_size H_lefts H_rights E_left E_right = some (H_size_o, H_lefts_o, H_rights_o) → W p l e rmX4_remember s m ([.ref aH, .ref aE] : List Value).toArray below meth c H locs 0 0 QQ (F0 m 20 ls []) := by
    intro H_size H_lefts H_rights ls H locs hl hP hD hS h
    refine lv_aload_n hx hb dX4_remember_20 rfl (lv_at hl 0 rfl) ?_
    refine va_get (D := g.1) (ci := 4) (v := .ref aH_lefts) (C := RX4) (T := TX4) (N := 3) hx hb hts inBX4 hown hK hP 0 rfl rfl 0 (by decide) (hts _ wd1_93) (fun _ h9 => h9) rfl dX4_remember_21 ?_
    refine lv_aload_n hx hb dX4_remember_24 rfl (lv_at hl 0 rfl) ?_
    refine va_get (D := g.1) (ci := 4) (v := .int H_size) (C := RX4) (T := TX4) (N := 3) hx hb hts inBX4 hown hK hP 0 rfl rfl 2 (by decide) (hts _ wd1_95) (fun _ h9 => h9) rfl dX4_remember_25 ?_
    refine lv_aload_n hx hb dX4_remember_28 rfl (lv_at hl 1 rfl) ?_
    refine va_get (D := g.1) (ci := 2) (v := .long E_left) (C := RX2) (T := TX2) (N := 2) hx hb hts inBX2 hown hK hP 3 rfl rfl 0 (by decide) (hts _ wd1_52) (fun _ h9 => h9) rfl dX4_remember_29 ?_
    have hin := stl_in h
    refine va_last hx hb hK hP hD hS 1 1 rfl rfl hin dX4_remember_32 (fun H locs hP hD hS => ?_)
    obtain ⟨H_lefts_32, eH_lefts_32⟩ : ∃ y : Nat → Int64, y = vp_updL H_lefts (Int32.toNatClampNeg H_size) E_left := ⟨_, rfl⟩
    have h := stl_to h eH_lefts_32
    have hP : va_P g.1 vwCl ((wX4 g aH aH_lefts aH_rights H_size H_lefts_32 H_rights) ++ (wX2 g aE E_left E_right)) H := by rw [eH_lefts_32]; exact hP
    have hD : va_D A ((wX4 g aH aH_lefts aH_rights H_size H_lefts_32 H_rights) ++ (wX2 g aE E_left E_right)) := by rw [eH_lefts_32]; exact hD
    refine lv_aload_n hx hb dX4_remember_33 rfl (lv_at hl 0 rfl) ?_
    refine va_get (D := g.1) (ci := 4) (v := .ref aH_rights) (C := RX4) (T := TX4) (N := 3) hx hb hts inBX4 hown hK hP 0 rfl rfl 1 (by decide) (hts _ wd1_94) (fun _ h9 => h9) rfl dX4_remember_34 ?_
    refine lv_aload_n hx hb dX4_remember_37 rfl (lv_at hl 0 rfl) ?_
    refine va_get (D := g.1) (ci := 4) (v := .int H_size) (C := RX4) (T := TX4) (N := 3) hx hb hts inBX4 hown hK hP 0 rfl rfl 2 (by decide) (hts _ wd1_95) (fun _ h9 => h9) rfl dX4_remember_38 ?_
    refine lv_aload_n hx hb dX4_remember_41 rfl (lv_at hl 1 rfl) ?_
    refine va_get (D := g.1) (ci := 2) (v := .long E_right) (C := RX2) (T := TX2) (N := 2) hx hb hts inBX2 hown hK hP 3 rfl rfl 1 (by decide) (hts _ wd1_59) (fun _ h9 => h9) rfl dX4_remember_42 ?_
    have hin := stl_in h
    refine va_last hx hb hK hP hD hS 2 1 rfl rfl hin dX4_remember_45 (fun H locs hP hD hS => ?_)
    obtain ⟨H_rights_45, eH_rights_45⟩ : ∃ y : Nat → Int64, y = vp_updL H_rights (Int32.toNatClampNeg H_size) E_right := ⟨_, rfl⟩
    have h := stl_to h eH_rights_45
    have hP : va_P g.1 vwCl ((wX4 g aH aH_lefts aH_rights H_size H_lefts_32 H_rights_45) ++ (wX2 g aE E_left E_right)) H := by rw [eH_rights_45]; exact hP
    have hD : va_D A ((wX4 g aH aH_lefts aH_rights H_size H_lefts_32 H_rights_45) ++ (wX2 g aE E_left E_right)) := by rw [eH_rights_45]; exact hD
    refine lv_aload_n hx hb dX4_remember_46 rfl (lv_at hl 0 rfl) ?_
    refine lv_dup hx hb dX4_remember_47 rfl ?_
    refine va_get (D := g.1) (ci := 4) (v := .int H_size) (C := RX4) (T := TX4) (N := 3) hx hb hts inBX4 hown hK hP 0 rfl rfl 2 (by decide) (hts _ wd1_95) (fun _ h9 => h9) rfl dX4_remember_48 ?_
    refine lv_iconst (v := (1 : Int32)) hx hb dX4_remember_51 (by decide) ?_
    refine lv_iadd hx hb dX4_remember_52 ?_
    refine lv_topi (fun t53 et53 => ?_)
    have h := st_to h et53
    refine va_put (D := g.1) (ci := 4) (v := .int t53) (ty := .int) (C := RX4) (T := TX4) (N := 3) hx hb hts inBX4 tyX4 tyX4_ok nmX4 hown hK hP hD hS 0 rfl rfl 2 (by decide) (hts _ wd1_95) (fun _ h9 => h9) rfl (tyX4_ok 2 (by decide)) rfl rfl (Nat.le_of_ble_eq_true rfl) dX4_remember_53 (fun H locs hP hD hS => ?_)
    have hP : va_P g.1 vwCl ((wX4 g aH aH_lefts aH_rights t53 H_lefts_32 H_rights_45) ++ (wX2 g aE E_left E_right)) H := hP
    have hD : va_D A ((wX4 g aH aH_lefts aH_rights t53 H_lefts_32 H_rights_45) ++ (wX2 g aE E_left E_right)) := hD
    have h : some (t53, H_lefts_32, H_rights_45) = some (H_size_o, H_lefts_o, H_rights_o) := h
    cases h
    exact hret _ _ _ _ hP hD hS dX4_remember_56
  have B16 : ∀ (H_size : Int32) (H_lefts : Nat → Int64) (H_rights : Nat → Int64) (ls : Array Slot) (H : Heap) (locs : List Loc), lv_has ls 2 [(0, .ref aH), (1, .ref aE)] → va_P g.1 vwCl ((wX4 g aH aH_lefts aH_rights H_size H_lefts H_rights) ++ (wX2 g aE E_left E_right)) H → va_D A ((wX4 g aH aH_lefts aH_rights H_size H_lefts H_rights) ++ (wX2 g aE E_left E_right)) → va_S A s.heap H locs → fH_remember_16 H_lefts H_rights E_left E_right = some (H_size_o, H_lefts_o, H_rights_o) → W p l e rmX4_remember s m ([.ref aH, .ref aE] : List Value).toArray below meth c H locs 0 0 QQ (F0 m 16 ls []) := by
    intro H_size H_lefts H_rights ls H locs hl hP hD hS h
    refine lv_aload_n hx hb dX4_remember_16 rfl (lv_at hl 0 rfl) ?_
    obtain ⟨H_size_17, H_lefts_17, H_rights_17, hc17, h⟩ := bd3_to h
    refine go_P (st1 := []) (W1 := ((wX4 g aH aH_lefts aH_rights H_size_17 H_lefts_17 H_rights_17) ++ (wX2 g aE E_left E_right))) (run_V (As := []) (rest := []) X hS (mX4_forgetOldest g l  aH aH_lefts aH_rights H_size H_lefts H_rights H_size_17 H_lefts_17 H_rights_17 hc17) okX4_forgetOldest wd3_26 ⟨Nat.le_of_ble_eq_true rfl, Nat.le_of_ble_eq_true rfl⟩ ⟨rfl, rfl⟩ (va_recv hK hP (ci := 4) (q0 := 0) rfl rfl) (sub_P hP [0, 1, 2] rfl) (hD.sub [0, 1, 2] (by decide) rfl) (va_free hD hS hA [0, 1, 2] rfl) rfl hl.1 rfl (Nat.le_of_ble_eq_true rfl) dX4_remember_17 ⟨Nat.zero_le _, Nat.zero_le _⟩) hS (va_free hD hS hA [0, 1, 2] rfl) hP hD [0, 1, 2] [3] [1, 2, 3, 0] rfl rfl (by decide) (by decide) rfl (by decide) rfl (fun H locs hP hD hS => ?_)
    exact B20 H_size_17 H_lefts_17 H_rights_17 ls H locs (lv_sub hl [0, 1] rfl) hP hD hS h
  have hl : lv_has ls 2 [(0, .ref aH), (1, .ref aE)] := hl
  obtain ⟨H, hH⟩ : ∃ H, H = s.heap := ⟨_, rfl⟩
  obtain ⟨locs, hlocs⟩ : ∃ l : List Loc, l = [] := ⟨_, rfl⟩
  rw [show W p l e rmX4_remember s m ([.ref aH, .ref aE] : List Value).toArray below meth c s.heap [] 0 0 QQ (F0 m 0 ls []) = W p l e rmX4_remember s m ([.ref aH, .ref aE] : List Value).toArray below meth c H locs 0 0 QQ (F0 m 0 ls []) by rw [hH, hlocs]]
  have hP : va_P g.1 vwCl ((wX4 g aH aH_lefts aH_rights H_size H_lefts H_rights) ++ (wX2 g aE E_left E_right)) H := by rw [hH]; exact hP
  have hD : va_D A ((wX4 g aH aH_lefts aH_rights H_size H_lefts H_rights) ++ (wX2 g aE E_left E_right)) := hD
  have hS : va_S A s.heap H locs := by rw [hH, hlocs]; exact hS
  clear hH hlocs
  refine lv_aload_n hx hb dX4_remember_0 rfl (lv_at hl 0 rfl) ?_
  refine va_get (D := g.1) (ci := 4) (v := .int H_size) (C := RX4) (T := TX4) (N := 3) hx hb hts inBX4 hown hK hP 0 rfl rfl 2 (by decide) (hts _ wd1_95) (fun _ h9 => h9) rfl dX4_remember_1 ?_
  refine lv_if_lt (tgt := 16) hx hb dX4_remember_4 (by decide) (fun q4 => ?_) (fun q4 => ?_)
  · have h := ifT h q4
    exact B16 H_size H_lefts H_rights ls H locs (lv_sub hl [0, 1] rfl) hP hD hS h
  have h := ifF h q4
  refine lv_aload_n hx hb dX4_remember_7 rfl (lv_at hl 0 rfl) ?_
  refine va_get (D := g.1) (ci := 4) (v := .int H_size) (C := RX4) (T := TX4) (N := 3) hx hb hts inBX4 hown hK hP 0 rfl rfl 2 (by decide) (hts _ wd1_95) (fun _ h9 => h9) rfl dX4_remember_8 ?_
  refine lv_bipush (v := (14 : Int32)) hx hb dX4_remember_11 (by decide) ?_
  refine lv_icmp_lt (tgt := 20) hx hb dX4_remember_13 (by decide) (fun q13 => ?_) (fun q13 => ?_)
  · have h := ifT h q13
    exact B20 H_size H_lefts H_rights ls H locs (lv_sub hl [0, 1] rfl) hP hD hS h
  have h := ifF h q13
  exact B16 H_size H_lefts H_rights ls H locs (lv_sub hl [0, 1] rfl) hP hD hS h
set_option maxHeartbeats 4000000 in
set_option maxRecDepth 100000 in
theorem mX2_swap (g : GP) (l : Launch) (aE : Nat) (E_left : Int64) (E_right : Int64)  (E_left_o : Int64) (E_right_o : Int64) (h : fE_swap E_left E_right = some (E_left_o, E_right_o)) : Ct g l yX2_swap cX2_swap 1 none rmX2_swap [.ref aE] (wX2 g aE E_left E_right) none (wX2 g aE E_left_o E_right_o) := by
  refine Ct.introV (by decide) (Nat.le_of_ble_eq_true rfl) ?_
  intro p e s m below meth c A QQ ls hyp hret
  obtain ⟨hx, hb, hml, hts, hown, hA, hE, hP, hD, hl⟩ := hyp
  have hK := hE.1
  have hS : va_S A s.heap s.heap [] := va_S.rf
  have X : Here g p s m c cX2_swap 1 ([.ref aE] : List Value).toArray RX2 A := ⟨⟨hx, hb, hml, hown, hts⟩, hE, hA⟩
  have hl : lv_has ls 1 [(0, .ref aE)] := hl
  obtain ⟨H, hH⟩ : ∃ H, H = s.heap := ⟨_, rfl⟩
  obtain ⟨locs, hlocs⟩ : ∃ l : List Loc, l = [] := ⟨_, rfl⟩
  rw [show W p l e rmX2_swap s m ([.ref aE] : List Value).toArray below meth c s.heap [] 0 0 QQ (F0 m 0 ls []) = W p l e rmX2_swap s m ([.ref aE] : List Value).toArray below meth c H locs 0 0 QQ (F0 m 0 ls []) by rw [hH, hlocs]]
  have hP : va_P g.1 vwCl (wX2 g aE E_left E_right) H := by rw [hH]; exact hP
  have hD : va_D A (wX2 g aE E_left E_right) := hD
  have hS : va_S A s.heap H locs := by rw [hH, hlocs]; exact hS
  clear hH hlocs
  refine lv_aload_n hx hb dX2_swap_0 rfl (lv_at hl 0 rfl) ?_
  refine lv_aload_n hx hb dX2_swap_1 rfl (lv_at hl 0 rfl) ?_
  refine va_get (D := g.1) (ci := 2) (v := .long E_right) (C := RX2) (T := TX2) (N := 2) hx hb hts inBX2 hown hK hP 0 rfl rfl 1 (by decide) (hts _ wd1_55) (fun _ h9 => h9) rfl dX2_swap_2 ?_
  refine lv_aload_n hx hb dX2_swap_5 rfl (lv_at hl 0 rfl) ?_
  refine va_get (D := g.1) (ci := 2) (v := .long E_left) (C := RX2) (T := TX2) (N := 2) hx hb hts inBX2 hown hK hP 0 rfl rfl 0 (by decide) (hts _ wd1_48) (fun _ h9 => h9) rfl dX2_swap_6 ?_
  obtain ⟨E_left_9, E_right_9, hc9, h⟩ := bd2_to h
  refine go_A (st1 := []) (run_V (As := [.long E_right, .long E_left]) (rest := []) X hS (mX2_set g l  aE E_left E_right E_right E_left E_left_9 E_right_9 hc9) okX2_set wd3_34 ⟨Nat.le_of_ble_eq_true rfl, Nat.le_of_ble_eq_true rfl⟩ ⟨rfl, rfl⟩ (va_recv hK hP (ci := 2) (q0 := 0) rfl rfl) hP hD (all_F hS hA hD) rfl hl.1 rfl (Nat.le_of_ble_eq_true rfl) dX2_swap_9 ⟨Nat.zero_le _, Nat.zero_le _⟩) hS (all_F hS hA hD) rfl (fun H locs hP hD hS => ?_)
  have h : some (E_left_9, E_right_9) = some (E_left_o, E_right_o) := h
  cases h
  exact hret _ _ _ _ hP hD hS dX2_swap_12
set_option maxHeartbeats 4000000 in
set_option maxRecDepth 100000 in
theorem mX11_swapSides (g : GP) (l : Launch) (aX aT aT_characters aE aH aH_lefts aH_rights aS aS_lefts aS_rights aS_filled aA aA_letters aA_lengths aK aB aB_first aQ aQ_weights aQ_possible aC aC_variables aC_relations aC_numbers aA2 aA2_letters aA2_lengths aN aN_lefts aN_rights aN_parents aN_rules aN_depths aE2 : Nat) (T_size : Int32) (T_characters : Nat → Int32) (E_left : Int64) (E_right : Int64) (H_size : Int32) (H_lefts : Nat → Int64) (H_rights : Nat → Int64) (S_lefts : Nat → Int64) (S_rights : Nat → Int64) (S_filled : Nat → Int32) (A_letters : Nat → Int64) (A_lengths : Nat → Int32) (B_left : Int64) (B_right : Int64) (B_found : Int32) (B_least : Int32) (B_first : Nat → Int32) (Q_letterSurplus : Int32) (Q_weights : Nat → Int32) (Q_possible : Nat → Int32) (C_size : Int32) (C_variables : Nat → Int32) (C_relations : Nat → Int32) (C_numbers : Nat → Int32) (A2_letters : Nat → Int64) (A2_lengths : Nat → Int32) (N_size : Int32) (N_solved : Int32) (N_dropped : Int32) (N_lefts : Nat → Int64) (N_rights : Nat → Int64) (N_parents : Nat → Int32) (N_rules : Nat → Int32) (N_depths : Nat → Int32) (E2_left : Int64) (E2_right : Int64)  (r : Int32) (E_left_o : Int64) (E_right_o : Int64) (H_size_o : Int32) (H_lefts_o : Nat → Int64) (H_rights_o : Nat → Int64) (h : fX_swapSides E_left E_right H_size H_lefts H_rights = some (r, E_left_o, E_right_o, H_size_o, H_lefts_o, H_rights_o)) : Ct g l yX11_swapSides cX11_swapSides 1 (some .int) rmX11_swapSides [.ref aX] (wX11 g aX aT aT_characters aE aH aH_lefts aH_rights aS aS_lefts aS_rights aS_filled aA aA_letters aA_lengths aK aB aB_first aQ aQ_weights aQ_possible aC aC_variables aC_relations aC_numbers aA2 aA2_letters aA2_lengths aN aN_lefts aN_rights aN_parents aN_rules aN_depths aE2 T_size T_characters E_left E_right H_size H_lefts H_rights S_lefts S_rights S_filled A_letters A_lengths B_left B_right B_found B_least B_first Q_letterSurplus Q_weights Q_possible C_size C_variables C_relations C_numbers A2_letters A2_lengths N_size N_solved N_dropped N_lefts N_rights N_parents N_rules N_depths E2_left E2_right) (some (.int r)) (wX11 g aX aT aT_characters aE aH aH_lefts aH_rights aS aS_lefts aS_rights aS_filled aA aA_letters aA_lengths aK aB aB_first aQ aQ_weights aQ_possible aC aC_variables aC_relations aC_numbers aA2 aA2_letters aA2_lengths aN aN_lefts aN_rights aN_parents aN_rules aN_depths aE2 T_size T_characters E_left_o E_right_o H_size_o H_lefts_o H_rights_o S_lefts S_rights S_filled A_letters A_lengths B_left B_right B_found B_least B_first Q_letterSurplus Q_weights Q_possible C_size C_variables C_relations C_numbers A2_letters A2_lengths N_size N_solved N_dropped N_lefts N_rights N_parents N_rules N_depths E2_left E2_right) := by
  refine Ct.introI (by decide) (Nat.le_of_ble_eq_true rfl) ?_
  intro p e s m below meth c A QQ ls hyp hret
  obtain ⟨hx, hb, hml, hts, hown, hA, hE, hP, hD, hl⟩ := hyp
  have hK := hE.1
  have hS : va_S A s.heap s.heap [] := va_S.rf
  have X : Here g p s m c cX11_swapSides 1 ([.ref aX] : List Value).toArray RX11 A := ⟨⟨hx, hb, hml, hown, hts⟩, hE, hA⟩
  have hl : lv_has ls 1 [(0, .ref aX)] := hl
  obtain ⟨H, hH⟩ : ∃ H, H = s.heap := ⟨_, rfl⟩
  obtain ⟨locs, hlocs⟩ : ∃ l : List Loc, l = [] := ⟨_, rfl⟩
  rw [show W p l e rmX11_swapSides s m ([.ref aX] : List Value).toArray below meth c s.heap [] 0 0 QQ (F0 m 0 ls []) = W p l e rmX11_swapSides s m ([.ref aX] : List Value).toArray below meth c H locs 0 0 QQ (F0 m 0 ls []) by rw [hH, hlocs]]
  have hP : va_P g.1 vwCl (wX11 g aX aT aT_characters aE aH aH_lefts aH_rights aS aS_lefts aS_rights aS_filled aA aA_letters aA_lengths aK aB aB_first aQ aQ_weights aQ_possible aC aC_variables aC_relations aC_numbers aA2 aA2_letters aA2_lengths aN aN_lefts aN_rights aN_parents aN_rules aN_depths aE2 T_size T_characters E_left E_right H_size H_lefts H_rights S_lefts S_rights S_filled A_letters A_lengths B_left B_right B_found B_least B_first Q_letterSurplus Q_weights Q_possible C_size C_variables C_relations C_numbers A2_letters A2_lengths N_size N_solved N_dropped N_lefts N_rights N_parents N_rules N_depths E2_left E2_right) H := by rw [hH]; exact hP
  have hD : va_D A (wX11 g aX aT aT_characters aE aH aH_lefts aH_rights aS aS_lefts aS_rights aS_filled aA aA_letters aA_lengths aK aB aB_first aQ aQ_weights aQ_possible aC aC_variables aC_relations aC_numbers aA2 aA2_letters aA2_lengths aN aN_lefts aN_rights aN_parents aN_rules aN_depths aE2 T_size T_characters E_left E_right H_size H_lefts H_rights S_lefts S_rights S_filled A_letters A_lengths B_left B_right B_found B_least B_first Q_letterSurplus Q_weights Q_possible C_size C_variables C_relations C_numbers A2_letters A2_lengths N_size N_solved N_dropped N_lefts N_rights N_parents N_rules N_depths E2_left E2_right) := hD
  have hS : va_S A s.heap H locs := by rw [hH, hlocs]; exact hS
  clear hH hlocs
  refine lv_aload_n hx hb dX11_swapSides_0 rfl (lv_at hl 0 rfl) ?_
  refine va_get (D := g.1) (ci := 10) (v := .ref aH) (C := RX11) (T := TX11) (N := 10) hx hb hts inBX11 hown hK hP 0 rfl rfl 3 (by decide) (hts _ wd1_235) (fun _ h9 => h9) rfl dX11_swapSides_1 ?_
  refine lv_aload_n hx hb dX11_swapSides_4 rfl (lv_at hl 0 rfl) ?_
  refine va_get (D := g.1) (ci := 10) (v := .ref aE) (C := RX11) (T := TX11) (N := 10) hx hb hts inBX11 hown hK hP 0 rfl rfl 1 (by decide) (hts _ wd1_233) (fun _ h9 => h9) rfl dX11_swapSides_5 ?_
  obtain ⟨H_size_8, H_lefts_8, H_rights_8, hc8, h⟩ := bd3_to h
  refine go_P (st1 := []) (W1 := (wX11 g aX aT aT_characters aE aH aH_lefts aH_rights aS aS_lefts aS_rights aS_filled aA aA_letters aA_lengths aK aB aB_first aQ aQ_weights aQ_possible aC aC_variables aC_relations aC_numbers aA2 aA2_letters aA2_lengths aN aN_lefts aN_rights aN_parents aN_rules aN_depths aE2 T_size T_characters E_left E_right H_size_8 H_lefts_8 H_rights_8 S_lefts S_rights S_filled A_letters A_lengths B_left B_right B_found B_least B_first Q_letterSurplus Q_weights Q_possible C_size C_variables C_relations C_numbers A2_letters A2_lengths N_size N_solved N_dropped N_lefts N_rights N_parents N_rules N_depths E2_left E2_right)) (run_V (As := [.ref aE]) (rest := []) X hS (mX4_remember g l  aH aH_lefts aH_rights aE H_size H_lefts H_rights E_left E_right H_size_8 H_lefts_8 H_rights_8 hc8) okX4_remember wd3_22 ⟨Nat.le_of_ble_eq_true rfl, Nat.le_of_ble_eq_true rfl⟩ ⟨rfl, rfl⟩ (va_recv hK hP (ci := 4) (q0 := 4) rfl rfl) (sub_P hP [4, 5, 6, 3] rfl) (hD.sub [4, 5, 6, 3] (by decide) rfl) (va_free hD hS hA [4, 5, 6, 3] rfl) rfl hl.1 rfl (Nat.le_of_ble_eq_true rfl) dX11_swapSides_8 ⟨Nat.zero_le _, Nat.zero_le _⟩) hS (va_free hD hS hA [4, 5, 6, 3] rfl) hP hD [4, 5, 6, 3] [0, 1, 2, 7, 8, 9, 10, 11, 12, 13, 14, 15, 16, 17, 18, 19, 20, 21, 22, 23, 24, 25, 26, 27, 28, 29, 30, 31, 32, 33] [0, 1, 2, 33, 30, 31, 32, 3, 4, 5, 6, 7, 8, 9, 10, 11, 12, 13, 14, 15, 16, 17, 18, 19, 20, 21, 22, 23, 24, 25, 26, 27, 28, 29] rfl rfl (by decide) (by decide) rfl (by decide) rfl (fun H locs hP hD hS => ?_)
  refine lv_aload_n hx hb dX11_swapSides_11 rfl (lv_at hl 0 rfl) ?_
  refine va_get (D := g.1) (ci := 10) (v := .ref aE) (C := RX11) (T := TX11) (N := 10) hx hb hts inBX11 hown hK hP 0 rfl rfl 1 (by decide) (hts _ wd1_233) (fun _ h9 => h9) rfl dX11_swapSides_12 ?_
  obtain ⟨E_left_15, E_right_15, hc15, h⟩ := bd2_to h
  refine go_P (st1 := []) (W1 := (wX11 g aX aT aT_characters aE aH aH_lefts aH_rights aS aS_lefts aS_rights aS_filled aA aA_letters aA_lengths aK aB aB_first aQ aQ_weights aQ_possible aC aC_variables aC_relations aC_numbers aA2 aA2_letters aA2_lengths aN aN_lefts aN_rights aN_parents aN_rules aN_depths aE2 T_size T_characters E_left_15 E_right_15 H_size_8 H_lefts_8 H_rights_8 S_lefts S_rights S_filled A_letters A_lengths B_left B_right B_found B_least B_first Q_letterSurplus Q_weights Q_possible C_size C_variables C_relations C_numbers A2_letters A2_lengths N_size N_solved N_dropped N_lefts N_rights N_parents N_rules N_depths E2_left E2_right)) (run_V (As := []) (rest := []) X hS (mX2_swap g l  aE E_left E_right E_left_15 E_right_15 hc15) okX2_swap wd3_30 ⟨Nat.le_of_ble_eq_true rfl, Nat.le_of_ble_eq_true rfl⟩ ⟨rfl, rfl⟩ (va_recv hK hP (ci := 2) (q0 := 3) rfl rfl) (sub_P hP [3] rfl) (hD.sub [3] (by decide) rfl) (va_free hD hS hA [3] rfl) rfl hl.1 rfl (Nat.le_of_ble_eq_true rfl) dX11_swapSides_15 ⟨Nat.zero_le _, Nat.zero_le _⟩) hS (va_free hD hS hA [3] rfl) hP hD [3] [0, 1, 2, 4, 5, 6, 7, 8, 9, 10, 11, 12, 13, 14, 15, 16, 17, 18, 19, 20, 21, 22, 23, 24, 25, 26, 27, 28, 29, 30, 31, 32, 33] [0, 1, 2, 33, 3, 4, 5, 6, 7, 8, 9, 10, 11, 12, 13, 14, 15, 16, 17, 18, 19, 20, 21, 22, 23, 24, 25, 26, 27, 28, 29, 30, 31, 32] rfl rfl (by decide) (by decide) rfl (by decide) rfl (fun H locs hP hD hS => ?_)
  refine lv_aload_n hx hb dX11_swapSides_18 rfl (lv_at hl 0 rfl) ?_
  refine va_get (D := g.1) (ci := 10) (v := .ref aE) (C := RX11) (T := TX11) (N := 10) hx hb hts inBX11 hown hK hP 0 rfl rfl 1 (by decide) (hts _ wd1_233) (fun _ h9 => h9) rfl dX11_swapSides_19 ?_
  refine va_get (D := g.1) (ci := 2) (v := .long E_left_15) (C := RX2) (T := TX2) (N := 2) hx hb hts inBX2 hown hK hP 3 rfl rfl 0 (by decide) (hts _ wd1_54) (fun _ h9 => h9) rfl dX11_swapSides_22 ?_
  obtain ⟨t25, hc25, h⟩ := bd1_to h
  refine go_0 (st1 := [.int t25]) (run_S (As := [.long E_left_15]) (rest := []) X hS (mX9_size g l  E_left_15 t25 hc25) okX9_size wd2_210 ⟨Nat.le_of_ble_eq_true rfl, Nat.le_of_ble_eq_true rfl⟩ ⟨rfl, rfl⟩ nil_P nil_D (nil_F hS hA) rfl hl.1 rfl (Nat.le_of_ble_eq_true rfl) dX11_swapSides_25 ⟨Nat.zero_le _, Nat.zero_le _⟩) hS hA hP rfl (fun H locs hP hS => ?_)
  have h : some (t25, E_left_15, E_right_15, H_size_8, H_lefts_8, H_rights_8) = some (r, E_left_o, E_right_o, H_size_o, H_lefts_o, H_rights_o) := h
  cases h
  exact hret _ _ _ _ hP hD hS dX11_swapSides_28
set_option maxHeartbeats 4000000 in
set_option maxRecDepth 100000 in
theorem mX9_reversed (g : GP) (l : Launch)  (x0 : Int64) (r : Int64) (h : fZ_reversed x0 = some r) : Ct g l yX9_reversed cX9_reversed 6 (some .long) rmX9_reversed [.long x0] [] (some (.long r)) [] := by
  refine Ct.introL (by decide) (Nat.le_of_ble_eq_true rfl) ?_
  intro p e s m below meth c A QQ ls hyp hret
  obtain ⟨hx, hb, hml, hts, hown, hA, hE, hP, hD, hl⟩ := hyp
  have hK := hE.1
  have hS : va_S A s.heap s.heap [] := va_S.rf
  have X : Here g p s m c cX9_reversed 6 ([.long x0] : List Value).toArray RX9 A := ⟨⟨hx, hb, hml, hown, hts⟩, hE, hA⟩
  have L10 : ∀ (n10 : Nat), ∀ (v2 : Int32) (v3 : Int64) (v5 : Int32) (ls : Array Slot) (H : Heap) (locs : List Loc), lv_has ls 6 [(0, .long x0), (2, .int v2), (3, .long v3), (5, .int v5)] → va_P g.1 vwCl [] H → va_D A [] → va_S A s.heap H locs → fx2 (fZ_reversed_10 x0 v2) n10 v3 v5 = some r → W p l e rmX9_reversed s m ([.long x0] : List Value).toArray below meth c H locs 0 0 QQ (F0 m 10 ls []) := by
    intro n10
    induction n10 with
    | zero => intro v2 v3 v5 ls H locs hl hP hD hS h; exact fx2_0 h
    | succ n10 ih10 =>
      intro v2 v3 v5 ls H locs hl hP hD hS h
      have h := (fx2_s (fZ_reversed_10 x0 v2) n10 v3 v5).symm.trans h
      refine lv_iload hx hb dX9_reversed_10 (lv_at hl 3 rfl) ?_
      refine lv_iload_n hx hb dX9_reversed_12 rfl (lv_at hl 1 rfl) ?_
      refine lv_icmp_ge (tgt := 34) hx hb dX9_reversed_13 (by decide) (fun q13 => ?_) (fun q13 => ?_)
      · have h := ifT h q13
        refine lv_lload_n hx hb dX9_reversed_34 rfl (lv_at hl 2 rfl) ?_
        have h : some v3 = some r := h
        cases h
        exact hret _ _ _ _ hP hD hS dX9_reversed_35
      have h := ifF h q13
      refine lv_lload_n hx hb dX9_reversed_16 rfl (lv_at hl 2 rfl) ?_
      refine lv_iconst (v := (3 : Int32)) hx hb dX9_reversed_17 (by decide) ?_
      refine lv_lshl (v := (shlL v3 (3 : Int32))) hx hb dX9_reversed_18 rfl ?_
      refine lv_lload_n hx hb dX9_reversed_19 rfl (lv_at hl 0 rfl) ?_
      refine lv_iload hx hb dX9_reversed_20 (lv_at hl 3 rfl) ?_
      obtain ⟨t22, hc22, h⟩ := bd1_to h
      refine go_0 (st1 := [.int t22, .long (shlL v3 (3 : Int32))]) (run_S (As := [.long x0, .int v5]) (rest := [.long (shlL v3 (3 : Int32))]) X hS (mX9_symbol g l  x0 v5 t22 hc22) okX9_symbol wd3_47 ⟨Nat.le_of_ble_eq_true rfl, Nat.le_of_ble_eq_true rfl⟩ ⟨rfl, rfl⟩ nil_P nil_D (nil_F hS hA) rfl hl.1 rfl (Nat.le_of_ble_eq_true rfl) dX9_reversed_22 ⟨Nat.zero_le _, Nat.zero_le _⟩) hS hA hP rfl (fun H locs hP hS => ?_)
      refine lv_i2l (v := (Int32.toInt64 t22)) hx hb dX9_reversed_25 rfl ?_
      refine lv_lor hx hb dX9_reversed_26 ?_
      refine lv_topl (fun t27 et27 => ?_)
      have h := st_to h et27
      refine lv_lstore_n (lv' := [(3, .long t27), (0, .long x0), (2, .int v2), (5, .int v5)]) hx hb dX9_reversed_27 rfl hl (by decide) rfl (fun ls hl => ?_)
      obtain ⟨t28, et28⟩ : ∃ y : Int32, y = v5 + (1 : Int32) := ⟨_, rfl⟩
      refine lv_iinc (v := t28) (lv' := [(5, .int t28), (3, .long t27), (0, .long x0), (2, .int v2)]) hx hb dX9_reversed_28 hl (k := 3) rfl (by rw [et28]; rfl) (by decide) rfl (fun ls hl => ?_)
      have h := st_to h et28
      refine lv_goto (tgt := 10) hx hb dX9_reversed_31 (by decide) ?_
      exact ih10 v2 t27 t28 ls H locs (lv_sub hl [2, 3, 1, 0] rfl) hP hD hS h
  have hl : lv_has ls 6 [(0, .long x0)] := hl
  obtain ⟨H, hH⟩ : ∃ H, H = s.heap := ⟨_, rfl⟩
  obtain ⟨locs, hlocs⟩ : ∃ l : List Loc, l = [] := ⟨_, rfl⟩
  rw [show W p l e rmX9_reversed s m ([.long x0] : List Value).toArray below meth c s.heap [] 0 0 QQ (F0 m 0 ls []) = W p l e rmX9_reversed s m ([.long x0] : List Value).toArray below meth c H locs 0 0 QQ (F0 m 0 ls []) by rw [hH, hlocs]]
  have hP : va_P g.1 vwCl [] H := by rw [hH]; exact hP
  have hD : va_D A [] := hD
  have hS : va_S A s.heap H locs := by rw [hH, hlocs]; exact hS
  clear hH hlocs
  refine lv_lload_n hx hb dX9_reversed_0 rfl (lv_at hl 0 rfl) ?_
  obtain ⟨t1, hc1, h⟩ := bd1_to h
  refine go_0 (st1 := [.int t1]) (run_S (As := [.long x0]) (rest := []) X hS (mX9_size g l  x0 t1 hc1) okX9_size wd3_46 ⟨Nat.le_of_ble_eq_true rfl, Nat.le_of_ble_eq_true rfl⟩ ⟨rfl, rfl⟩ nil_P nil_D (nil_F hS hA) rfl hl.1 rfl (Nat.le_of_ble_eq_true rfl) dX9_reversed_1 ⟨Nat.zero_le _, Nat.zero_le _⟩) hS hA hP rfl (fun H locs hP hS => ?_)
  refine lv_istore_n (lv' := [(2, .int t1), (0, .long x0)]) hx hb dX9_reversed_4 rfl hl (by decide) rfl (fun ls hl => ?_)
  refine lv_lconst (v := (0 : Int64)) hx hb dX9_reversed_5 (by decide) ?_
  refine lv_lstore_n (lv' := [(3, .long (0 : Int64)), (2, .int t1), (0, .long x0)]) hx hb dX9_reversed_6 rfl hl (by decide) rfl (fun ls hl => ?_)
  refine lv_iconst (v := (0 : Int32)) hx hb dX9_reversed_7 (by decide) ?_
  refine lv_istore (lv' := [(5, .int (0 : Int32)), (3, .long (0 : Int64)), (2, .int t1), (0, .long x0)]) hx hb dX9_reversed_8 hl (by decide) rfl (fun ls hl => ?_)
  exact L10 FU t1 (0 : Int64) (0 : Int32) ls H locs (lv_sub hl [3, 2, 1, 0] rfl) hP hD hS h
set_option maxHeartbeats 4000000 in
set_option maxRecDepth 100000 in
theorem mX2_turn (g : GP) (l : Launch) (aE : Nat) (E_left : Int64) (E_right : Int64)  (E_left_o : Int64) (E_right_o : Int64) (h : fE_turn E_left E_right = some (E_left_o, E_right_o)) : Ct g l yX2_turn cX2_turn 1 none rmX2_turn [.ref aE] (wX2 g aE E_left E_right) none (wX2 g aE E_left_o E_right_o) := by
  refine Ct.introV (by decide) (Nat.le_of_ble_eq_true rfl) ?_
  intro p e s m below meth c A QQ ls hyp hret
  obtain ⟨hx, hb, hml, hts, hown, hA, hE, hP, hD, hl⟩ := hyp
  have hK := hE.1
  have hS : va_S A s.heap s.heap [] := va_S.rf
  have X : Here g p s m c cX2_turn 1 ([.ref aE] : List Value).toArray RX2 A := ⟨⟨hx, hb, hml, hown, hts⟩, hE, hA⟩
  have hl : lv_has ls 1 [(0, .ref aE)] := hl
  obtain ⟨H, hH⟩ : ∃ H, H = s.heap := ⟨_, rfl⟩
  obtain ⟨locs, hlocs⟩ : ∃ l : List Loc, l = [] := ⟨_, rfl⟩
  rw [show W p l e rmX2_turn s m ([.ref aE] : List Value).toArray below meth c s.heap [] 0 0 QQ (F0 m 0 ls []) = W p l e rmX2_turn s m ([.ref aE] : List Value).toArray below meth c H locs 0 0 QQ (F0 m 0 ls []) by rw [hH, hlocs]]
  have hP : va_P g.1 vwCl (wX2 g aE E_left E_right) H := by rw [hH]; exact hP
  have hD : va_D A (wX2 g aE E_left E_right) := hD
  have hS : va_S A s.heap H locs := by rw [hH, hlocs]; exact hS
  clear hH hlocs
  refine lv_aload_n hx hb dX2_turn_0 rfl (lv_at hl 0 rfl) ?_
  refine lv_aload_n hx hb dX2_turn_1 rfl (lv_at hl 0 rfl) ?_
  refine va_get (D := g.1) (ci := 2) (v := .long E_left) (C := RX2) (T := TX2) (N := 2) hx hb hts inBX2 hown hK hP 0 rfl rfl 0 (by decide) (hts _ wd1_48) (fun _ h9 => h9) rfl dX2_turn_2 ?_
  obtain ⟨t5, hc5, h⟩ := bd1_to h
  refine go_0 (st1 := [.long t5, .ref aE]) (run_S (As := [.long E_left]) (rest := [.ref aE]) X hS (mX9_reversed g l  E_left t5 hc5) okX9_reversed wd3_43 ⟨Nat.le_of_ble_eq_true rfl, Nat.le_of_ble_eq_true rfl⟩ ⟨rfl, rfl⟩ nil_P nil_D (nil_F hS hA) rfl hl.1 rfl (Nat.le_of_ble_eq_true rfl) dX2_turn_5 ⟨Nat.zero_le _, Nat.zero_le _⟩) hS hA hP rfl (fun H locs hP hS => ?_)
  refine lv_aload_n hx hb dX2_turn_8 rfl (lv_at hl 0 rfl) ?_
  refine va_get (D := g.1) (ci := 2) (v := .long E_right) (C := RX2) (T := TX2) (N := 2) hx hb hts inBX2 hown hK hP 0 rfl rfl 1 (by decide) (hts _ wd1_55) (fun _ h9 => h9) rfl dX2_turn_9 ?_
  obtain ⟨t12, hc12, h⟩ := bd1_to h
  refine go_0 (st1 := [.long t12, .long t5, .ref aE]) (run_S (As := [.long E_right]) (rest := [.long t5, .ref aE]) X hS (mX9_reversed g l  E_right t12 hc12) okX9_reversed wd3_43 ⟨Nat.le_of_ble_eq_true rfl, Nat.le_of_ble_eq_true rfl⟩ ⟨rfl, rfl⟩ nil_P nil_D (nil_F hS hA) rfl hl.1 rfl (Nat.le_of_ble_eq_true rfl) dX2_turn_12 ⟨Nat.zero_le _, Nat.zero_le _⟩) hS hA hP rfl (fun H locs hP hS => ?_)
  obtain ⟨E_left_15, E_right_15, hc15, h⟩ := bd2_to h
  refine go_A (st1 := []) (run_V (As := [.long t5, .long t12]) (rest := []) X hS (mX2_set g l  aE E_left E_right t5 t12 E_left_15 E_right_15 hc15) okX2_set wd3_34 ⟨Nat.le_of_ble_eq_true rfl, Nat.le_of_ble_eq_true rfl⟩ ⟨rfl, rfl⟩ (va_recv hK hP (ci := 2) (q0 := 0) rfl rfl) hP hD (all_F hS hA hD) rfl hl.1 rfl (Nat.le_of_ble_eq_true rfl) dX2_turn_15 ⟨Nat.zero_le _, Nat.zero_le _⟩) hS (all_F hS hA hD) rfl (fun H locs hP hD hS => ?_)
  have h : some (E_left_15, E_right_15) = some (E_left_o, E_right_o) := h
  cases h
  exact hret _ _ _ _ hP hD hS dX2_turn_18
set_option maxHeartbeats 4000000 in
set_option maxRecDepth 100000 in
theorem mX2_size (g : GP) (l : Launch) (aE : Nat) (E_left : Int64) (E_right : Int64)  (r : Int32) (h : fE_size E_left E_right = some r) : Ct g l yX2_size cX2_size 1 (some .int) rmX2_size [.ref aE] (wX2 g aE E_left E_right) (some (.int r)) (wX2 g aE E_left E_right) := by
  refine Ct.introI (by decide) (Nat.le_of_ble_eq_true rfl) ?_
  intro p e s m below meth c A QQ ls hyp hret
  obtain ⟨hx, hb, hml, hts, hown, hA, hE, hP, hD, hl⟩ := hyp
  have hK := hE.1
  have hS : va_S A s.heap s.heap [] := va_S.rf
  have X : Here g p s m c cX2_size 1 ([.ref aE] : List Value).toArray RX2 A := ⟨⟨hx, hb, hml, hown, hts⟩, hE, hA⟩
  have hl : lv_has ls 1 [(0, .ref aE)] := hl
  obtain ⟨H, hH⟩ : ∃ H, H = s.heap := ⟨_, rfl⟩
  obtain ⟨locs, hlocs⟩ : ∃ l : List Loc, l = [] := ⟨_, rfl⟩
  rw [show W p l e rmX2_size s m ([.ref aE] : List Value).toArray below meth c s.heap [] 0 0 QQ (F0 m 0 ls []) = W p l e rmX2_size s m ([.ref aE] : List Value).toArray below meth c H locs 0 0 QQ (F0 m 0 ls []) by rw [hH, hlocs]]
  have hP : va_P g.1 vwCl (wX2 g aE E_left E_right) H := by rw [hH]; exact hP
  have hD : va_D A (wX2 g aE E_left E_right) := hD
  have hS : va_S A s.heap H locs := by rw [hH, hlocs]; exact hS
  clear hH hlocs
  refine lv_aload_n hx hb dX2_size_0 rfl (lv_at hl 0 rfl) ?_
  refine va_get (D := g.1) (ci := 2) (v := .long E_left) (C := RX2) (T := TX2) (N := 2) hx hb hts inBX2 hown hK hP 0 rfl rfl 0 (by decide) (hts _ wd1_48) (fun _ h9 => h9) rfl dX2_size_1 ?_
  obtain ⟨t4, hc4, h⟩ := bd1_to h
  refine go_0 (st1 := [.int t4]) (run_S (As := [.long E_left]) (rest := []) X hS (mX9_size g l  E_left t4 hc4) okX9_size wd3_52 ⟨Nat.le_of_ble_eq_true rfl, Nat.le_of_ble_eq_true rfl⟩ ⟨rfl, rfl⟩ nil_P nil_D (nil_F hS hA) rfl hl.1 rfl (Nat.le_of_ble_eq_true rfl) dX2_size_4 ⟨Nat.zero_le _, Nat.zero_le _⟩) hS hA hP rfl (fun H locs hP hS => ?_)
  refine lv_aload_n hx hb dX2_size_7 rfl (lv_at hl 0 rfl) ?_
  refine va_get (D := g.1) (ci := 2) (v := .long E_right) (C := RX2) (T := TX2) (N := 2) hx hb hts inBX2 hown hK hP 0 rfl rfl 1 (by decide) (hts _ wd1_55) (fun _ h9 => h9) rfl dX2_size_8 ?_
  obtain ⟨t11, hc11, h⟩ := bd1_to h
  refine go_0 (st1 := [.int t11, .int t4]) (run_S (As := [.long E_right]) (rest := [.int t4]) X hS (mX9_size g l  E_right t11 hc11) okX9_size wd3_52 ⟨Nat.le_of_ble_eq_true rfl, Nat.le_of_ble_eq_true rfl⟩ ⟨rfl, rfl⟩ nil_P nil_D (nil_F hS hA) rfl hl.1 rfl (Nat.le_of_ble_eq_true rfl) dX2_size_11 ⟨Nat.zero_le _, Nat.zero_le _⟩) hS hA hP rfl (fun H locs hP hS => ?_)
  refine lv_iadd hx hb dX2_size_14 ?_
  have h : some (t4 + t11) = some r := h
  cases h
  exact hret _ _ _ _ hP hD hS dX2_size_15
set_option maxHeartbeats 4000000 in
set_option maxRecDepth 100000 in
theorem mX11_reverse (g : GP) (l : Launch) (aX aT aT_characters aE aH aH_lefts aH_rights aS aS_lefts aS_rights aS_filled aA aA_letters aA_lengths aK aB aB_first aQ aQ_weights aQ_possible aC aC_variables aC_relations aC_numbers aA2 aA2_letters aA2_lengths aN aN_lefts aN_rights aN_parents aN_rules aN_depths aE2 : Nat) (T_size : Int32) (T_characters : Nat → Int32) (E_left : Int64) (E_right : Int64) (H_size : Int32) (H_lefts : Nat → Int64) (H_rights : Nat → Int64) (S_lefts : Nat → Int64) (S_rights : Nat → Int64) (S_filled : Nat → Int32) (A_letters : Nat → Int64) (A_lengths : Nat → Int32) (B_left : Int64) (B_right : Int64) (B_found : Int32) (B_least : Int32) (B_first : Nat → Int32) (Q_letterSurplus : Int32) (Q_weights : Nat → Int32) (Q_possible : Nat → Int32) (C_size : Int32) (C_variables : Nat → Int32) (C_relations : Nat → Int32) (C_numbers : Nat → Int32) (A2_letters : Nat → Int64) (A2_lengths : Nat → Int32) (N_size : Int32) (N_solved : Int32) (N_dropped : Int32) (N_lefts : Nat → Int64) (N_rights : Nat → Int64) (N_parents : Nat → Int32) (N_rules : Nat → Int32) (N_depths : Nat → Int32) (E2_left : Int64) (E2_right : Int64)  (r : Int32) (E_left_o : Int64) (E_right_o : Int64) (H_size_o : Int32) (H_lefts_o : Nat → Int64) (H_rights_o : Nat → Int64) (h : fX_reverse E_left E_right H_size H_lefts H_rights = some (r, E_left_o, E_right_o, H_size_o, H_lefts_o, H_rights_o)) : Ct g l yX11_reverse cX11_reverse 1 (some .int) rmX11_reverse [.ref aX] (wX11 g aX aT aT_characters aE aH aH_lefts aH_rights aS aS_lefts aS_rights aS_filled aA aA_letters aA_lengths aK aB aB_first aQ aQ_weights aQ_possible aC aC_variables aC_relations aC_numbers aA2 aA2_letters aA2_lengths aN aN_lefts aN_rights aN_parents aN_rules aN_depths aE2 T_size T_characters E_left E_right H_size H_lefts H_rights S_lefts S_rights S_filled A_letters A_lengths B_left B_right B_found B_least B_first Q_letterSurplus Q_weights Q_possible C_size C_variables C_relations C_numbers A2_letters A2_lengths N_size N_solved N_dropped N_lefts N_rights N_parents N_rules N_depths E2_left E2_right) (some (.int r)) (wX11 g aX aT aT_characters aE aH aH_lefts aH_rights aS aS_lefts aS_rights aS_filled aA aA_letters aA_lengths aK aB aB_first aQ aQ_weights aQ_possible aC aC_variables aC_relations aC_numbers aA2 aA2_letters aA2_lengths aN aN_lefts aN_rights aN_parents aN_rules aN_depths aE2 T_size T_characters E_left_o E_right_o H_size_o H_lefts_o H_rights_o S_lefts S_rights S_filled A_letters A_lengths B_left B_right B_found B_least B_first Q_letterSurplus Q_weights Q_possible C_size C_variables C_relations C_numbers A2_letters A2_lengths N_size N_solved N_dropped N_lefts N_rights N_parents N_rules N_depths E2_left E2_right) := by
  refine Ct.introI (by decide) (Nat.le_of_ble_eq_true rfl) ?_
  intro p e s m below meth c A QQ ls hyp hret
  obtain ⟨hx, hb, hml, hts, hown, hA, hE, hP, hD, hl⟩ := hyp
  have hK := hE.1
  have hS : va_S A s.heap s.heap [] := va_S.rf
  have X : Here g p s m c cX11_reverse 1 ([.ref aX] : List Value).toArray RX11 A := ⟨⟨hx, hb, hml, hown, hts⟩, hE, hA⟩
  have hl : lv_has ls 1 [(0, .ref aX)] := hl
  obtain ⟨H, hH⟩ : ∃ H, H = s.heap := ⟨_, rfl⟩
  obtain ⟨locs, hlocs⟩ : ∃ l : List Loc, l = [] := ⟨_, rfl⟩
  rw [show W p l e rmX11_reverse s m ([.ref aX] : List Value).toArray below meth c s.heap [] 0 0 QQ (F0 m 0 ls []) = W p l e rmX11_reverse s m ([.ref aX] : List Value).toArray below meth c H locs 0 0 QQ (F0 m 0 ls []) by rw [hH, hlocs]]
  have hP : va_P g.1 vwCl (wX11 g aX aT aT_characters aE aH aH_lefts aH_rights aS aS_lefts aS_rights aS_filled aA aA_letters aA_lengths aK aB aB_first aQ aQ_weights aQ_possible aC aC_variables aC_relations aC_numbers aA2 aA2_letters aA2_lengths aN aN_lefts aN_rights aN_parents aN_rules aN_depths aE2 T_size T_characters E_left E_right H_size H_lefts H_rights S_lefts S_rights S_filled A_letters A_lengths B_left B_right B_found B_least B_first Q_letterSurplus Q_weights Q_possible C_size C_variables C_relations C_numbers A2_letters A2_lengths N_size N_solved N_dropped N_lefts N_rights N_parents N_rules N_depths E2_left E2_right) H := by rw [hH]; exact hP
  have hD : va_D A (wX11 g aX aT aT_characters aE aH aH_lefts aH_rights aS aS_lefts aS_rights aS_filled aA aA_letters aA_lengths aK aB aB_first aQ aQ_weights aQ_possible aC aC_variables aC_relations aC_numbers aA2 aA2_letters aA2_lengths aN aN_lefts aN_rights aN_parents aN_rules aN_depths aE2 T_size T_characters E_left E_right H_size H_lefts H_rights S_lefts S_rights S_filled A_letters A_lengths B_left B_right B_found B_least B_first Q_letterSurplus Q_weights Q_possible C_size C_variables C_relations C_numbers A2_letters A2_lengths N_size N_solved N_dropped N_lefts N_rights N_parents N_rules N_depths E2_left E2_right) := hD
  have hS : va_S A s.heap H locs := by rw [hH, hlocs]; exact hS
  clear hH hlocs
  refine lv_aload_n hx hb dX11_reverse_0 rfl (lv_at hl 0 rfl) ?_
  refine va_get (D := g.1) (ci := 10) (v := .ref aH) (C := RX11) (T := TX11) (N := 10) hx hb hts inBX11 hown hK hP 0 rfl rfl 3 (by decide) (hts _ wd1_235) (fun _ h9 => h9) rfl dX11_reverse_1 ?_
  refine lv_aload_n hx hb dX11_reverse_4 rfl (lv_at hl 0 rfl) ?_
  refine va_get (D := g.1) (ci := 10) (v := .ref aE) (C := RX11) (T := TX11) (N := 10) hx hb hts inBX11 hown hK hP 0 rfl rfl 1 (by decide) (hts _ wd1_233) (fun _ h9 => h9) rfl dX11_reverse_5 ?_
  obtain ⟨H_size_8, H_lefts_8, H_rights_8, hc8, h⟩ := bd3_to h
  refine go_P (st1 := []) (W1 := (wX11 g aX aT aT_characters aE aH aH_lefts aH_rights aS aS_lefts aS_rights aS_filled aA aA_letters aA_lengths aK aB aB_first aQ aQ_weights aQ_possible aC aC_variables aC_relations aC_numbers aA2 aA2_letters aA2_lengths aN aN_lefts aN_rights aN_parents aN_rules aN_depths aE2 T_size T_characters E_left E_right H_size_8 H_lefts_8 H_rights_8 S_lefts S_rights S_filled A_letters A_lengths B_left B_right B_found B_least B_first Q_letterSurplus Q_weights Q_possible C_size C_variables C_relations C_numbers A2_letters A2_lengths N_size N_solved N_dropped N_lefts N_rights N_parents N_rules N_depths E2_left E2_right)) (run_V (As := [.ref aE]) (rest := []) X hS (mX4_remember g l  aH aH_lefts aH_rights aE H_size H_lefts H_rights E_left E_right H_size_8 H_lefts_8 H_rights_8 hc8) okX4_remember wd3_22 ⟨Nat.le_of_ble_eq_true rfl, Nat.le_of_ble_eq_true rfl⟩ ⟨rfl, rfl⟩ (va_recv hK hP (ci := 4) (q0 := 4) rfl rfl) (sub_P hP [4, 5, 6, 3] rfl) (hD.sub [4, 5, 6, 3] (by decide) rfl) (va_free hD hS hA [4, 5, 6, 3] rfl) rfl hl.1 rfl (Nat.le_of_ble_eq_true rfl) dX11_reverse_8 ⟨Nat.zero_le _, Nat.zero_le _⟩) hS (va_free hD hS hA [4, 5, 6, 3] rfl) hP hD [4, 5, 6, 3] [0, 1, 2, 7, 8, 9, 10, 11, 12, 13, 14, 15, 16, 17, 18, 19, 20, 21, 22, 23, 24, 25, 26, 27, 28, 29, 30, 31, 32, 33] [0, 1, 2, 33, 30, 31, 32, 3, 4, 5, 6, 7, 8, 9, 10, 11, 12, 13, 14, 15, 16, 17, 18, 19, 20, 21, 22, 23, 24, 25, 26, 27, 28, 29] rfl rfl (by decide) (by decide) rfl (by decide) rfl (fun H locs hP hD hS => ?_)
  refine lv_aload_n hx hb dX11_reverse_11 rfl (lv_at hl 0 rfl) ?_
  refine va_get (D := g.1) (ci := 10) (v := .ref aE) (C := RX11) (T := TX11) (N := 10) hx hb hts inBX11 hown hK hP 0 rfl rfl 1 (by decide) (hts _ wd1_233) (fun _ h9 => h9) rfl dX11_reverse_12 ?_
  obtain ⟨E_left_15, E_right_15, hc15, h⟩ := bd2_to h
  refine go_P (st1 := []) (W1 := (wX11 g aX aT aT_characters aE aH aH_lefts aH_rights aS aS_lefts aS_rights aS_filled aA aA_letters aA_lengths aK aB aB_first aQ aQ_weights aQ_possible aC aC_variables aC_relations aC_numbers aA2 aA2_letters aA2_lengths aN aN_lefts aN_rights aN_parents aN_rules aN_depths aE2 T_size T_characters E_left_15 E_right_15 H_size_8 H_lefts_8 H_rights_8 S_lefts S_rights S_filled A_letters A_lengths B_left B_right B_found B_least B_first Q_letterSurplus Q_weights Q_possible C_size C_variables C_relations C_numbers A2_letters A2_lengths N_size N_solved N_dropped N_lefts N_rights N_parents N_rules N_depths E2_left E2_right)) (run_V (As := []) (rest := []) X hS (mX2_turn g l  aE E_left E_right E_left_15 E_right_15 hc15) okX2_turn wd3_39 ⟨Nat.le_of_ble_eq_true rfl, Nat.le_of_ble_eq_true rfl⟩ ⟨rfl, rfl⟩ (va_recv hK hP (ci := 2) (q0 := 3) rfl rfl) (sub_P hP [3] rfl) (hD.sub [3] (by decide) rfl) (va_free hD hS hA [3] rfl) rfl hl.1 rfl (Nat.le_of_ble_eq_true rfl) dX11_reverse_15 ⟨Nat.zero_le _, Nat.zero_le _⟩) hS (va_free hD hS hA [3] rfl) hP hD [3] [0, 1, 2, 4, 5, 6, 7, 8, 9, 10, 11, 12, 13, 14, 15, 16, 17, 18, 19, 20, 21, 22, 23, 24, 25, 26, 27, 28, 29, 30, 31, 32, 33] [0, 1, 2, 33, 3, 4, 5, 6, 7, 8, 9, 10, 11, 12, 13, 14, 15, 16, 17, 18, 19, 20, 21, 22, 23, 24, 25, 26, 27, 28, 29, 30, 31, 32] rfl rfl (by decide) (by decide) rfl (by decide) rfl (fun H locs hP hD hS => ?_)
  refine lv_aload_n hx hb dX11_reverse_18 rfl (lv_at hl 0 rfl) ?_
  refine va_get (D := g.1) (ci := 10) (v := .ref aE) (C := RX11) (T := TX11) (N := 10) hx hb hts inBX11 hown hK hP 0 rfl rfl 1 (by decide) (hts _ wd1_233) (fun _ h9 => h9) rfl dX11_reverse_19 ?_
  obtain ⟨t22, hc22, h⟩ := bd1_to h
  refine go_P (st1 := [.int t22]) (W1 := (wX11 g aX aT aT_characters aE aH aH_lefts aH_rights aS aS_lefts aS_rights aS_filled aA aA_letters aA_lengths aK aB aB_first aQ aQ_weights aQ_possible aC aC_variables aC_relations aC_numbers aA2 aA2_letters aA2_lengths aN aN_lefts aN_rights aN_parents aN_rules aN_depths aE2 T_size T_characters E_left_15 E_right_15 H_size_8 H_lefts_8 H_rights_8 S_lefts S_rights S_filled A_letters A_lengths B_left B_right B_found B_least B_first Q_letterSurplus Q_weights Q_possible C_size C_variables C_relations C_numbers A2_letters A2_lengths N_size N_solved N_dropped N_lefts N_rights N_parents N_rules N_depths E2_left E2_right)) (run_V (As := []) (rest := []) X hS (mX2_size g l  aE E_left_15 E_right_15 t22 hc22) okX2_size wd3_48 ⟨Nat.le_of_ble_eq_true rfl, Nat.le_of_ble_eq_true rfl⟩ ⟨rfl, rfl⟩ (va_recv hK hP (ci := 2) (q0 := 3) rfl rfl) (sub_P hP [3] rfl) (hD.sub [3] (by decide) rfl) (va_free hD hS hA [3] rfl) rfl hl.1 rfl (Nat.le_of_ble_eq_true rfl) dX11_reverse_22 ⟨Nat.zero_le _, Nat.zero_le _⟩) hS (va_free hD hS hA [3] rfl) hP hD [3] [0, 1, 2, 4, 5, 6, 7, 8, 9, 10, 11, 12, 13, 14, 15, 16, 17, 18, 19, 20, 21, 22, 23, 24, 25, 26, 27, 28, 29, 30, 31, 32, 33] [0, 1, 2, 33, 3, 4, 5, 6, 7, 8, 9, 10, 11, 12, 13, 14, 15, 16, 17, 18, 19, 20, 21, 22, 23, 24, 25, 26, 27, 28, 29, 30, 31, 32] rfl rfl (by decide) (by decide) rfl (by decide) rfl (fun H locs hP hD hS => ?_)
  have h : some (t22, E_left_15, E_right_15, H_size_8, H_lefts_8, H_rights_8) = some (r, E_left_o, E_right_o, H_size_o, H_lefts_o, H_rights_o) := h
  cases h
  exact hret _ _ _ _ hP hD hS dX11_reverse_25
set_option maxHeartbeats 4000000 in
set_option maxRecDepth 100000 in
theorem mX9_head (g : GP) (l : Launch)  (x0 : Int64) (r : Int32) (h : fZ_head x0 = some r) : Ct g l yX9_head cX9_head 2 (some .int) rmX9_head [.long x0] [] (some (.int r)) [] := by
  refine Ct.introI (by decide) (Nat.le_of_ble_eq_true rfl) ?_
  intro p e s m below meth c A QQ ls hyp hret
  obtain ⟨hx, hb, hml, hts, hown, hA, hE, hP, hD, hl⟩ := hyp
  have hK := hE.1
  have hS : va_S A s.heap s.heap [] := va_S.rf
  have X : Here g p s m c cX9_head 2 ([.long x0] : List Value).toArray RX9 A := ⟨⟨hx, hb, hml, hown, hts⟩, hE, hA⟩
  have hl : lv_has ls 2 [(0, .long x0)] := hl
  obtain ⟨H, hH⟩ : ∃ H, H = s.heap := ⟨_, rfl⟩
  obtain ⟨locs, hlocs⟩ : ∃ l : List Loc, l = [] := ⟨_, rfl⟩
  rw [show W p l e rmX9_head s m ([.long x0] : List Value).toArray below meth c s.heap [] 0 0 QQ (F0 m 0 ls []) = W p l e rmX9_head s m ([.long x0] : List Value).toArray below meth c H locs 0 0 QQ (F0 m 0 ls []) by rw [hH, hlocs]]
  have hP : va_P g.1 vwCl [] H := by rw [hH]; exact hP
  have hD : va_D A [] := hD
  have hS : va_S A s.heap H locs := by rw [hH, hlocs]; exact hS
  clear hH hlocs
  refine lv_lload_n hx hb dX9_head_0 rfl (lv_at hl 0 rfl) ?_
  refine lv_l2i (v := (Int64.toInt32 x0)) hx hb dX9_head_1 rfl ?_
  refine lv_bipush (v := (7 : Int32)) hx hb dX9_head_2 (by decide) ?_
  refine lv_iand hx hb dX9_head_4 ?_
  have h : some ((Int64.toInt32 x0) &&& (7 : Int32)) = some r := h
  cases h
  exact hret _ _ _ _ hP hD hS dX9_head_5
set_option maxHeartbeats 4000000 in
set_option maxRecDepth 100000 in
theorem mX9_tail (g : GP) (l : Launch)  (x0 : Int64) (r : Int64) (h : fZ_tail x0 = some r) : Ct g l yX9_tail cX9_tail 2 (some .long) rmX9_tail [.long x0] [] (some (.long r)) [] := by
  refine Ct.introL (by decide) (Nat.le_of_ble_eq_true rfl) ?_
  intro p e s m below meth c A QQ ls hyp hret
  obtain ⟨hx, hb, hml, hts, hown, hA, hE, hP, hD, hl⟩ := hyp
  have hK := hE.1
  have hS : va_S A s.heap s.heap [] := va_S.rf
  have X : Here g p s m c cX9_tail 2 ([.long x0] : List Value).toArray RX9 A := ⟨⟨hx, hb, hml, hown, hts⟩, hE, hA⟩
  have hl : lv_has ls 2 [(0, .long x0)] := hl
  obtain ⟨H, hH⟩ : ∃ H, H = s.heap := ⟨_, rfl⟩
  obtain ⟨locs, hlocs⟩ : ∃ l : List Loc, l = [] := ⟨_, rfl⟩
  rw [show W p l e rmX9_tail s m ([.long x0] : List Value).toArray below meth c s.heap [] 0 0 QQ (F0 m 0 ls []) = W p l e rmX9_tail s m ([.long x0] : List Value).toArray below meth c H locs 0 0 QQ (F0 m 0 ls []) by rw [hH, hlocs]]
  have hP : va_P g.1 vwCl [] H := by rw [hH]; exact hP
  have hD : va_D A [] := hD
  have hS : va_S A s.heap H locs := by rw [hH, hlocs]; exact hS
  clear hH hlocs
  refine lv_lload_n hx hb dX9_tail_0 rfl (lv_at hl 0 rfl) ?_
  refine lv_iconst (v := (3 : Int32)) hx hb dX9_tail_1 (by decide) ?_
  refine lv_lushr (v := (ushrL x0 (3 : Int32))) hx hb dX9_tail_2 rfl ?_
  have h : some (ushrL x0 (3 : Int32)) = some r := h
  cases h
  exact hret _ _ _ _ hP hD hS dX9_tail_3
set_option maxHeartbeats 4000000 in
set_option maxRecDepth 100000 in
theorem mX2_cancelHeads (g : GP) (l : Launch) (aE : Nat) (E_left : Int64) (E_right : Int64)  (r : Int32) (E_left_o : Int64) (E_right_o : Int64) (h : fE_cancelHeads E_left E_right = some (r, E_left_o, E_right_o)) : Ct g l yX2_cancelHeads cX2_cancelHeads 2 (some .int) rmX2_cancelHeads [.ref aE] (wX2 g aE E_left E_right) (some (.int r)) (wX2 g aE E_left_o E_right_o) := by
  refine Ct.introI (by decide) (Nat.le_of_ble_eq_true rfl) ?_
  intro p e s m below meth c A QQ ls hyp hret
  obtain ⟨hx, hb, hml, hts, hown, hA, hE, hP, hD, hl⟩ := hyp
  have hK := hE.1
  have hS : va_S A s.heap s.heap [] := va_S.rf
  have X : Here g p s m c cX2_cancelHeads 2 ([.ref aE] : List Value).toArray RX2 A := ⟨⟨hx, hb, hml, hown, hts⟩, hE, hA⟩
  have L2 : ∀ (n2 : Nat), ∀ (E_left : Int64) (E_right : Int64) (v1 : Int32) (ls : Array Slot) (H : Heap) (locs : List Loc), lv_has ls 2 [(0, .ref aE), (1, .int v1)] → va_P g.1 vwCl (wX2 g aE E_left E_right) H → va_D A (wX2 g aE E_left E_right) → va_S A s.heap H locs → fx3 (fE_cancelHeads_2) n2 E_left E_right v1 = some (r, E_left_o, E_right_o) → W p l e rmX2_cancelHeads s m ([.ref aE] : List Value).toArray below meth c H locs 0 0 QQ (F0 m 2 ls []) := by
    intro n2
    induction n2 with
    | zero => intro E_left E_right v1 ls H locs hl hP hD hS h; exact fx3_0 h
    | succ n2 ih2 =>
      intro E_left E_right v1 ls H locs hl hP hD hS h
      have h := (fx3_s (fE_cancelHeads_2) n2 E_left E_right v1).symm.trans h
      refine lv_iload_n hx hb dX2_cancelHeads_2 rfl (lv_at hl 1 rfl) ?_
      refine lv_bipush (v := (12 : Int32)) hx hb dX2_cancelHeads_3 (by decide) ?_
      refine lv_icmp_ge (tgt := 58) hx hb dX2_cancelHeads_5 (by decide) (fun q5 => ?_) (fun q5 => ?_)
      · have h := ifT h q5
        refine lv_iload_n hx hb dX2_cancelHeads_58 rfl (lv_at hl 1 rfl) ?_
        have h : some (v1, E_left, E_right) = some (r, E_left_o, E_right_o) := h
        cases h
        exact hret _ _ _ _ hP hD hS dX2_cancelHeads_59
      have h := ifF h q5
      refine lv_aload_n hx hb dX2_cancelHeads_8 rfl (lv_at hl 0 rfl) ?_
      refine va_get (D := g.1) (ci := 2) (v := .long E_left) (C := RX2) (T := TX2) (N := 2) hx hb hts inBX2 hown hK hP 0 rfl rfl 0 (by decide) (hts _ wd1_48) (fun _ h9 => h9) rfl dX2_cancelHeads_9 ?_
      refine lv_lconst (v := (0 : Int64)) hx hb dX2_cancelHeads_12 (by decide) ?_
      refine W.lcmp hx hb dX2_cancelHeads_13 ?_
      refine lv_if_eq (tgt := 58) hx hb dX2_cancelHeads_14 (by decide) (fun q14 => ?_) (fun q14 => ?_)
      · have h := ifT h q14
        refine lv_iload_n hx hb dX2_cancelHeads_58 rfl (lv_at hl 1 rfl) ?_
        have h : some (v1, E_left, E_right) = some (r, E_left_o, E_right_o) := h
        cases h
        exact hret _ _ _ _ hP hD hS dX2_cancelHeads_59
      have h := ifF h q14
      refine lv_aload_n hx hb dX2_cancelHeads_17 rfl (lv_at hl 0 rfl) ?_
      refine va_get (D := g.1) (ci := 2) (v := .long E_left) (C := RX2) (T := TX2) (N := 2) hx hb hts inBX2 hown hK hP 0 rfl rfl 0 (by decide) (hts _ wd1_48) (fun _ h9 => h9) rfl dX2_cancelHeads_18 ?_
      obtain ⟨t21, hc21, h⟩ := bd1_to h
      refine go_0 (st1 := [.int t21]) (run_S (As := [.long E_left]) (rest := []) X hS (mX9_head g l  E_left t21 hc21) okX9_head wd3_65 ⟨Nat.le_of_ble_eq_true rfl, Nat.le_of_ble_eq_true rfl⟩ ⟨rfl, rfl⟩ nil_P nil_D (nil_F hS hA) rfl hl.1 rfl (Nat.le_of_ble_eq_true rfl) dX2_cancelHeads_21 ⟨Nat.zero_le _, Nat.zero_le _⟩) hS hA hP rfl (fun H locs hP hS => ?_)
      refine lv_aload_n hx hb dX2_cancelHeads_24 rfl (lv_at hl 0 rfl) ?_
      refine va_get (D := g.1) (ci := 2) (v := .long E_right) (C := RX2) (T := TX2) (N := 2) hx hb hts inBX2 hown hK hP 0 rfl rfl 1 (by decide) (hts _ wd1_55) (fun _ h9 => h9) rfl dX2_cancelHeads_25 ?_
      obtain ⟨t28, hc28, h⟩ := bd1_to h
      refine go_0 (st1 := [.int t28, .int t21]) (run_S (As := [.long E_right]) (rest := [.int t21]) X hS (mX9_head g l  E_right t28 hc28) okX9_head wd3_65 ⟨Nat.le_of_ble_eq_true rfl, Nat.le_of_ble_eq_true rfl⟩ ⟨rfl, rfl⟩ nil_P nil_D (nil_F hS hA) rfl hl.1 rfl (Nat.le_of_ble_eq_true rfl) dX2_cancelHeads_28 ⟨Nat.zero_le _, Nat.zero_le _⟩) hS hA hP rfl (fun H locs hP hS => ?_)
      refine lv_icmp_ne (tgt := 58) hx hb dX2_cancelHeads_31 (by decide) (fun q31 => ?_) (fun q31 => ?_)
      · have h := ifF h q31
        refine lv_iload_n hx hb dX2_cancelHeads_58 rfl (lv_at hl 1 rfl) ?_
        have h : some (v1, E_left, E_right) = some (r, E_left_o, E_right_o) := h
        cases h
        exact hret _ _ _ _ hP hD hS dX2_cancelHeads_59
      have h := ifT h q31
      refine lv_aload_n hx hb dX2_cancelHeads_34 rfl (lv_at hl 0 rfl) ?_
      refine lv_aload_n hx hb dX2_cancelHeads_35 rfl (lv_at hl 0 rfl) ?_
      refine va_get (D := g.1) (ci := 2) (v := .long E_left) (C := RX2) (T := TX2) (N := 2) hx hb hts inBX2 hown hK hP 0 rfl rfl 0 (by decide) (hts _ wd1_48) (fun _ h9 => h9) rfl dX2_cancelHeads_36 ?_
      obtain ⟨t39, hc39, h⟩ := bd1_to h
      refine go_0 (st1 := [.long t39, .ref aE]) (run_S (As := [.long E_left]) (rest := [.ref aE]) X hS (mX9_tail g l  E_left t39 hc39) okX9_tail wd3_68 ⟨Nat.le_of_ble_eq_true rfl, Nat.le_of_ble_eq_true rfl⟩ ⟨rfl, rfl⟩ nil_P nil_D (nil_F hS hA) rfl hl.1 rfl (Nat.le_of_ble_eq_true rfl) dX2_cancelHeads_39 ⟨Nat.zero_le _, Nat.zero_le _⟩) hS hA hP rfl (fun H locs hP hS => ?_)
      refine lv_aload_n hx hb dX2_cancelHeads_42 rfl (lv_at hl 0 rfl) ?_
      refine va_get (D := g.1) (ci := 2) (v := .long E_right) (C := RX2) (T := TX2) (N := 2) hx hb hts inBX2 hown hK hP 0 rfl rfl 1 (by decide) (hts _ wd1_55) (fun _ h9 => h9) rfl dX2_cancelHeads_43 ?_
      obtain ⟨t46, hc46, h⟩ := bd1_to h
      refine go_0 (st1 := [.long t46, .long t39, .ref aE]) (run_S (As := [.long E_right]) (rest := [.long t39, .ref aE]) X hS (mX9_tail g l  E_right t46 hc46) okX9_tail wd3_68 ⟨Nat.le_of_ble_eq_true rfl, Nat.le_of_ble_eq_true rfl⟩ ⟨rfl, rfl⟩ nil_P nil_D (nil_F hS hA) rfl hl.1 rfl (Nat.le_of_ble_eq_true rfl) dX2_cancelHeads_46 ⟨Nat.zero_le _, Nat.zero_le _⟩) hS hA hP rfl (fun H locs hP hS => ?_)
      obtain ⟨E_left_49, E_right_49, hc49, h⟩ := bd2_to h
      refine go_A (st1 := []) (run_V (As := [.long t39, .long t46]) (rest := []) X hS (mX2_set g l  aE E_left E_right t39 t46 E_left_49 E_right_49 hc49) okX2_set wd3_34 ⟨Nat.le_of_ble_eq_true rfl, Nat.le_of_ble_eq_true rfl⟩ ⟨rfl, rfl⟩ (va_recv hK hP (ci := 2) (q0 := 0) rfl rfl) hP hD (all_F hS hA hD) rfl hl.1 rfl (Nat.le_of_ble_eq_true rfl) dX2_cancelHeads_49 ⟨Nat.zero_le _, Nat.zero_le _⟩) hS (all_F hS hA hD) rfl (fun H locs hP hD hS => ?_)
      obtain ⟨t52, et52⟩ : ∃ y : Int32, y = v1 + (1 : Int32) := ⟨_, rfl⟩
      refine lv_iinc (v := t52) (lv' := [(1, .int t52), (0, .ref aE)]) hx hb dX2_cancelHeads_52 hl (k := 1) rfl (by rw [et52]; rfl) (by decide) rfl (fun ls hl => ?_)
      have h := st_to h et52
      refine lv_goto (tgt := 2) hx hb dX2_cancelHeads_55 (by decide) ?_
      exact ih2 E_left_49 E_right_49 t52 ls H locs (lv_sub hl [1, 0] rfl) hP hD hS h
  have hl : lv_has ls 2 [(0, .ref aE)] := hl
  obtain ⟨H, hH⟩ : ∃ H, H = s.heap := ⟨_, rfl⟩
  obtain ⟨locs, hlocs⟩ : ∃ l : List Loc, l = [] := ⟨_, rfl⟩
  rw [show W p l e rmX2_cancelHeads s m ([.ref aE] : List Value).toArray below meth c s.heap [] 0 0 QQ (F0 m 0 ls []) = W p l e rmX2_cancelHeads s m ([.ref aE] : List Value).toArray below meth c H locs 0 0 QQ (F0 m 0 ls []) by rw [hH, hlocs]]
  have hP : va_P g.1 vwCl (wX2 g aE E_left E_right) H := by rw [hH]; exact hP
  have hD : va_D A (wX2 g aE E_left E_right) := hD
  have hS : va_S A s.heap H locs := by rw [hH, hlocs]; exact hS
  clear hH hlocs
  refine lv_iconst (v := (0 : Int32)) hx hb dX2_cancelHeads_0 (by decide) ?_
  refine lv_istore_n (lv' := [(1, .int (0 : Int32)), (0, .ref aE)]) hx hb dX2_cancelHeads_1 rfl hl (by decide) rfl (fun ls hl => ?_)
  exact L2 FU E_left E_right (0 : Int32) ls H locs (lv_sub hl [1, 0] rfl) hP hD hS h
set_option maxHeartbeats 4000000 in
set_option maxRecDepth 100000 in
theorem mX2_cancelEnds (g : GP) (l : Launch) (aE : Nat) (E_left : Int64) (E_right : Int64)  (r : Int32) (E_left_o : Int64) (E_right_o : Int64) (h : fE_cancelEnds E_left E_right = some (r, E_left_o, E_right_o)) : Ct g l yX2_cancelEnds cX2_cancelEnds 2 (some .int) rmX2_cancelEnds [.ref aE] (wX2 g aE E_left E_right) (some (.int r)) (wX2 g aE E_left_o E_right_o) := by
  refine Ct.introI (by decide) (Nat.le_of_ble_eq_true rfl) ?_
  intro p e s m below meth c A QQ ls hyp hret
  obtain ⟨hx, hb, hml, hts, hown, hA, hE, hP, hD, hl⟩ := hyp
  have hK := hE.1
  have hS : va_S A s.heap s.heap [] := va_S.rf
  have X : Here g p s m c cX2_cancelEnds 2 ([.ref aE] : List Value).toArray RX2 A := ⟨⟨hx, hb, hml, hown, hts⟩, hE, hA⟩
  have hl : lv_has ls 2 [(0, .ref aE)] := hl
  obtain ⟨H, hH⟩ : ∃ H, H = s.heap := ⟨_, rfl⟩
  obtain ⟨locs, hlocs⟩ : ∃ l : List Loc, l = [] := ⟨_, rfl⟩
  rw [show W p l e rmX2_cancelEnds s m ([.ref aE] : List Value).toArray below meth c s.heap [] 0 0 QQ (F0 m 0 ls []) = W p l e rmX2_cancelEnds s m ([.ref aE] : List Value).toArray below meth c H locs 0 0 QQ (F0 m 0 ls []) by rw [hH, hlocs]]
  have hP : va_P g.1 vwCl (wX2 g aE E_left E_right) H := by rw [hH]; exact hP
  have hD : va_D A (wX2 g aE E_left E_right) := hD
  have hS : va_S A s.heap H locs := by rw [hH, hlocs]; exact hS
  clear hH hlocs
  refine lv_aload_n hx hb dX2_cancelEnds_0 rfl (lv_at hl 0 rfl) ?_
  obtain ⟨t1, E_left_1, E_right_1, hc1, h⟩ := bd3_to h
  refine go_A (st1 := [.int t1]) (run_V (As := []) (rest := []) X hS (mX2_cancelHeads g l  aE E_left E_right t1 E_left_1 E_right_1 hc1) okX2_cancelHeads wd3_61 ⟨Nat.le_of_ble_eq_true rfl, Nat.le_of_ble_eq_true rfl⟩ ⟨rfl, rfl⟩ (va_recv hK hP (ci := 2) (q0 := 0) rfl rfl) hP hD (all_F hS hA hD) rfl hl.1 rfl (Nat.le_of_ble_eq_true rfl) dX2_cancelEnds_1 ⟨Nat.zero_le _, Nat.zero_le _⟩) hS (all_F hS hA hD) rfl (fun H locs hP hD hS => ?_)
  refine lv_istore_n (lv' := [(1, .int t1), (0, .ref aE)]) hx hb dX2_cancelEnds_4 rfl hl (by decide) rfl (fun ls hl => ?_)
  refine lv_aload_n hx hb dX2_cancelEnds_5 rfl (lv_at hl 1 rfl) ?_
  obtain ⟨E_left_6, E_right_6, hc6, h⟩ := bd2_to h
  refine go_A (st1 := []) (run_V (As := []) (rest := []) X hS (mX2_turn g l  aE E_left_1 E_right_1 E_left_6 E_right_6 hc6) okX2_turn wd3_71 ⟨Nat.le_of_ble_eq_true rfl, Nat.le_of_ble_eq_true rfl⟩ ⟨rfl, rfl⟩ (va_recv hK hP (ci := 2) (q0 := 0) rfl rfl) hP hD (all_F hS hA hD) rfl hl.1 rfl (Nat.le_of_ble_eq_true rfl) dX2_cancelEnds_6 ⟨Nat.zero_le _, Nat.zero_le _⟩) hS (all_F hS hA hD) rfl (fun H locs hP hD hS => ?_)
  refine lv_iload_n hx hb dX2_cancelEnds_9 rfl (lv_at hl 0 rfl) ?_
  refine lv_aload_n hx hb dX2_cancelEnds_10 rfl (lv_at hl 1 rfl) ?_
  obtain ⟨t11, E_left_11, E_right_11, hc11, h⟩ := bd3_to h
  refine go_A (st1 := [.int t11, .int t1]) (run_V (As := []) (rest := [.int t1]) X hS (mX2_cancelHeads g l  aE E_left_6 E_right_6 t11 E_left_11 E_right_11 hc11) okX2_cancelHeads wd3_61 ⟨Nat.le_of_ble_eq_true rfl, Nat.le_of_ble_eq_true rfl⟩ ⟨rfl, rfl⟩ (va_recv hK hP (ci := 2) (q0 := 0) rfl rfl) hP hD (all_F hS hA hD) rfl hl.1 rfl (Nat.le_of_ble_eq_true rfl) dX2_cancelEnds_11 ⟨Nat.zero_le _, Nat.zero_le _⟩) hS (all_F hS hA hD) rfl (fun H locs hP hD hS => ?_)
  refine lv_iadd hx hb dX2_cancelEnds_14 ?_
  refine lv_topi (fun t15 et15 => ?_)
  have h := st_to h et15
  refine lv_istore_n (lv' := [(1, .int t15), (0, .ref aE)]) hx hb dX2_cancelEnds_15 rfl hl (by decide) rfl (fun ls hl => ?_)
  refine lv_aload_n hx hb dX2_cancelEnds_16 rfl (lv_at hl 1 rfl) ?_
  obtain ⟨E_left_17, E_right_17, hc17, h⟩ := bd2_to h
  refine go_A (st1 := []) (run_V (As := []) (rest := []) X hS (mX2_turn g l  aE E_left_11 E_right_11 E_left_17 E_right_17 hc17) okX2_turn wd3_71 ⟨Nat.le_of_ble_eq_true rfl, Nat.le_of_ble_eq_true rfl⟩ ⟨rfl, rfl⟩ (va_recv hK hP (ci := 2) (q0 := 0) rfl rfl) hP hD (all_F hS hA hD) rfl hl.1 rfl (Nat.le_of_ble_eq_true rfl) dX2_cancelEnds_17 ⟨Nat.zero_le _, Nat.zero_le _⟩) hS (all_F hS hA hD) rfl (fun H locs hP hD hS => ?_)
  refine lv_iload_n hx hb dX2_cancelEnds_20 rfl (lv_at hl 0 rfl) ?_
  have h : some (t15, E_left_17, E_right_17) = some (r, E_left_o, E_right_o) := h
  cases h
  exact hret _ _ _ _ hP hD hS dX2_cancelEnds_21
set_option maxHeartbeats 4000000 in
set_option maxRecDepth 100000 in
theorem mX11_cancel (g : GP) (l : Launch) (aX aT aT_characters aE aH aH_lefts aH_rights aS aS_lefts aS_rights aS_filled aA aA_letters aA_lengths aK aB aB_first aQ aQ_weights aQ_possible aC aC_variables aC_relations aC_numbers aA2 aA2_letters aA2_lengths aN aN_lefts aN_rights aN_parents aN_rules aN_depths aE2 : Nat) (T_size : Int32) (T_characters : Nat → Int32) (E_left : Int64) (E_right : Int64) (H_size : Int32) (H_lefts : Nat → Int64) (H_rights : Nat → Int64) (S_lefts : Nat → Int64) (S_rights : Nat → Int64) (S_filled : Nat → Int32) (A_letters : Nat → Int64) (A_lengths : Nat → Int32) (B_left : Int64) (B_right : Int64) (B_found : Int32) (B_least : Int32) (B_first : Nat → Int32) (Q_letterSurplus : Int32) (Q_weights : Nat → Int32) (Q_possible : Nat → Int32) (C_size : Int32) (C_variables : Nat → Int32) (C_relations : Nat → Int32) (C_numbers : Nat → Int32) (A2_letters : Nat → Int64) (A2_lengths : Nat → Int32) (N_size : Int32) (N_solved : Int32) (N_dropped : Int32) (N_lefts : Nat → Int64) (N_rights : Nat → Int64) (N_parents : Nat → Int32) (N_rules : Nat → Int32) (N_depths : Nat → Int32) (E2_left : Int64) (E2_right : Int64)  (r : Int32) (E_left_o : Int64) (E_right_o : Int64) (H_size_o : Int32) (H_lefts_o : Nat → Int64) (H_rights_o : Nat → Int64) (h : fX_cancel E_left E_right H_size H_lefts H_rights = some (r, E_left_o, E_right_o, H_size_o, H_lefts_o, H_rights_o)) : Ct g l yX11_cancel cX11_cancel 1 (some .int) rmX11_cancel [.ref aX] (wX11 g aX aT aT_characters aE aH aH_lefts aH_rights aS aS_lefts aS_rights aS_filled aA aA_letters aA_lengths aK aB aB_first aQ aQ_weights aQ_possible aC aC_variables aC_relations aC_numbers aA2 aA2_letters aA2_lengths aN aN_lefts aN_rights aN_parents aN_rules aN_depths aE2 T_size T_characters E_left E_right H_size H_lefts H_rights S_lefts S_rights S_filled A_letters A_lengths B_left B_right B_found B_least B_first Q_letterSurplus Q_weights Q_possible C_size C_variables C_relations C_numbers A2_letters A2_lengths N_size N_solved N_dropped N_lefts N_rights N_parents N_rules N_depths E2_left E2_right) (some (.int r)) (wX11 g aX aT aT_characters aE aH aH_lefts aH_rights aS aS_lefts aS_rights aS_filled aA aA_letters aA_lengths aK aB aB_first aQ aQ_weights aQ_possible aC aC_variables aC_relations aC_numbers aA2 aA2_letters aA2_lengths aN aN_lefts aN_rights aN_parents aN_rules aN_depths aE2 T_size T_characters E_left_o E_right_o H_size_o H_lefts_o H_rights_o S_lefts S_rights S_filled A_letters A_lengths B_left B_right B_found B_least B_first Q_letterSurplus Q_weights Q_possible C_size C_variables C_relations C_numbers A2_letters A2_lengths N_size N_solved N_dropped N_lefts N_rights N_parents N_rules N_depths E2_left E2_right) := by
  refine Ct.introI (by decide) (Nat.le_of_ble_eq_true rfl) ?_
  intro p e s m below meth c A QQ ls hyp hret
  obtain ⟨hx, hb, hml, hts, hown, hA, hE, hP, hD, hl⟩ := hyp
  have hK := hE.1
  have hS : va_S A s.heap s.heap [] := va_S.rf
  have X : Here g p s m c cX11_cancel 1 ([.ref aX] : List Value).toArray RX11 A := ⟨⟨hx, hb, hml, hown, hts⟩, hE, hA⟩
  have hl : lv_has ls 1 [(0, .ref aX)] := hl
  obtain ⟨H, hH⟩ : ∃ H, H = s.heap := ⟨_, rfl⟩
  obtain ⟨locs, hlocs⟩ : ∃ l : List Loc, l = [] := ⟨_, rfl⟩
  rw [show W p l e rmX11_cancel s m ([.ref aX] : List Value).toArray below meth c s.heap [] 0 0 QQ (F0 m 0 ls []) = W p l e rmX11_cancel s m ([.ref aX] : List Value).toArray below meth c H locs 0 0 QQ (F0 m 0 ls []) by rw [hH, hlocs]]
  have hP : va_P g.1 vwCl (wX11 g aX aT aT_characters aE aH aH_lefts aH_rights aS aS_lefts aS_rights aS_filled aA aA_letters aA_lengths aK aB aB_first aQ aQ_weights aQ_possible aC aC_variables aC_relations aC_numbers aA2 aA2_letters aA2_lengths aN aN_lefts aN_rights aN_parents aN_rules aN_depths aE2 T_size T_characters E_left E_right H_size H_lefts H_rights S_lefts S_rights S_filled A_letters A_lengths B_left B_right B_found B_least B_first Q_letterSurplus Q_weights Q_possible C_size C_variables C_relations C_numbers A2_letters A2_lengths N_size N_solved N_dropped N_lefts N_rights N_parents N_rules N_depths E2_left E2_right) H := by rw [hH]; exact hP
  have hD : va_D A (wX11 g aX aT aT_characters aE aH aH_lefts aH_rights aS aS_lefts aS_rights aS_filled aA aA_letters aA_lengths aK aB aB_first aQ aQ_weights aQ_possible aC aC_variables aC_relations aC_numbers aA2 aA2_letters aA2_lengths aN aN_lefts aN_rights aN_parents aN_rules aN_depths aE2 T_size T_characters E_left E_right H_size H_lefts H_rights S_lefts S_rights S_filled A_letters A_lengths B_left B_right B_found B_least B_first Q_letterSurplus Q_weights Q_possible C_size C_variables C_relations C_numbers A2_letters A2_lengths N_size N_solved N_dropped N_lefts N_rights N_parents N_rules N_depths E2_left E2_right) := hD
  have hS : va_S A s.heap H locs := by rw [hH, hlocs]; exact hS
  clear hH hlocs
  refine lv_aload_n hx hb dX11_cancel_0 rfl (lv_at hl 0 rfl) ?_
  refine va_get (D := g.1) (ci := 10) (v := .ref aH) (C := RX11) (T := TX11) (N := 10) hx hb hts inBX11 hown hK hP 0 rfl rfl 3 (by decide) (hts _ wd1_235) (fun _ h9 => h9) rfl dX11_cancel_1 ?_
  refine lv_aload_n hx hb dX11_cancel_4 rfl (lv_at hl 0 rfl) ?_
  refine va_get (D := g.1) (ci := 10) (v := .ref aE) (C := RX11) (T := TX11) (N := 10) hx hb hts inBX11 hown hK hP 0 rfl rfl 1 (by decide) (hts _ wd1_233) (fun _ h9 => h9) rfl dX11_cancel_5 ?_
  obtain ⟨H_size_8, H_lefts_8, H_rights_8, hc8, h⟩ := bd3_to h
  refine go_P (st1 := []) (W1 := (wX11 g aX aT aT_characters aE aH aH_lefts aH_rights aS aS_lefts aS_rights aS_filled aA aA_letters aA_lengths aK aB aB_first aQ aQ_weights aQ_possible aC aC_variables aC_relations aC_numbers aA2 aA2_letters aA2_lengths aN aN_lefts aN_rights aN_parents aN_rules aN_depths aE2 T_size T_characters E_left E_right H_size_8 H_lefts_8 H_rights_8 S_lefts S_rights S_filled A_letters A_lengths B_left B_right B_found B_least B_first Q_letterSurplus Q_weights Q_possible C_size C_variables C_relations C_numbers A2_letters A2_lengths N_size N_solved N_dropped N_lefts N_rights N_parents N_rules N_depths E2_left E2_right)) (run_V (As := [.ref aE]) (rest := []) X hS (mX4_remember g l  aH aH_lefts aH_rights aE H_size H_lefts H_rights E_left E_right H_size_8 H_lefts_8 H_rights_8 hc8) okX4_remember wd3_22 ⟨Nat.le_of_ble_eq_true rfl, Nat.le_of_ble_eq_true rfl⟩ ⟨rfl, rfl⟩ (va_recv hK hP (ci := 4) (q0 := 4) rfl rfl) (sub_P hP [4, 5, 6, 3] rfl) (hD.sub [4, 5, 6, 3] (by decide) rfl) (va_free hD hS hA [4, 5, 6, 3] rfl) rfl hl.1 rfl (Nat.le_of_ble_eq_true rfl) dX11_cancel_8 ⟨Nat.zero_le _, Nat.zero_le _⟩) hS (va_free hD hS hA [4, 5, 6, 3] rfl) hP hD [4, 5, 6, 3] [0, 1, 2, 7, 8, 9, 10, 11, 12, 13, 14, 15, 16, 17, 18, 19, 20, 21, 22, 23, 24, 25, 26, 27, 28, 29, 30, 31, 32, 33] [0, 1, 2, 33, 30, 31, 32, 3, 4, 5, 6, 7, 8, 9, 10, 11, 12, 13, 14, 15, 16, 17, 18, 19, 20, 21, 22, 23, 24, 25, 26, 27, 28, 29] rfl rfl (by decide) (by decide) rfl (by decide) rfl (fun H locs hP hD hS => ?_)
  refine lv_aload_n hx hb dX11_cancel_11 rfl (lv_at hl 0 rfl) ?_
  refine va_get (D := g.1) (ci := 10) (v := .ref aE) (C := RX11) (T := TX11) (N := 10) hx hb hts inBX11 hown hK hP 0 rfl rfl 1 (by decide) (hts _ wd1_233) (fun _ h9 => h9) rfl dX11_cancel_12 ?_
  obtain ⟨t15, E_left_15, E_right_15, hc15, h⟩ := bd3_to h
  refine go_P (st1 := [.int t15]) (W1 := (wX11 g aX aT aT_characters aE aH aH_lefts aH_rights aS aS_lefts aS_rights aS_filled aA aA_letters aA_lengths aK aB aB_first aQ aQ_weights aQ_possible aC aC_variables aC_relations aC_numbers aA2 aA2_letters aA2_lengths aN aN_lefts aN_rights aN_parents aN_rules aN_depths aE2 T_size T_characters E_left_15 E_right_15 H_size_8 H_lefts_8 H_rights_8 S_lefts S_rights S_filled A_letters A_lengths B_left B_right B_found B_least B_first Q_letterSurplus Q_weights Q_possible C_size C_variables C_relations C_numbers A2_letters A2_lengths N_size N_solved N_dropped N_lefts N_rights N_parents N_rules N_depths E2_left E2_right)) (run_V (As := []) (rest := []) X hS (mX2_cancelEnds g l  aE E_left E_right t15 E_left_15 E_right_15 hc15) okX2_cancelEnds wd3_57 ⟨Nat.le_of_ble_eq_true rfl, Nat.le_of_ble_eq_true rfl⟩ ⟨rfl, rfl⟩ (va_recv hK hP (ci := 2) (q0 := 3) rfl rfl) (sub_P hP [3] rfl) (hD.sub [3] (by decide) rfl) (va_free hD hS hA [3] rfl) rfl hl.1 rfl (Nat.le_of_ble_eq_true rfl) dX11_cancel_15 ⟨Nat.zero_le _, Nat.zero_le _⟩) hS (va_free hD hS hA [3] rfl) hP hD [3] [0, 1, 2, 4, 5, 6, 7, 8, 9, 10, 11, 12, 13, 14, 15, 16, 17, 18, 19, 20, 21, 22, 23, 24, 25, 26, 27, 28, 29, 30, 31, 32, 33] [0, 1, 2, 33, 3, 4, 5, 6, 7, 8, 9, 10, 11, 12, 13, 14, 15, 16, 17, 18, 19, 20, 21, 22, 23, 24, 25, 26, 27, 28, 29, 30, 31, 32] rfl rfl (by decide) (by decide) rfl (by decide) rfl (fun H locs hP hD hS => ?_)
  have h : some (t15, E_left_15, E_right_15, H_size_8, H_lefts_8, H_rights_8) = some (r, E_left_o, E_right_o, H_size_o, H_lefts_o, H_rights_o) := h
  cases h
  exact hret _ _ _ _ hP hD hS dX11_cancel_18
set_option maxHeartbeats 4000000 in
set_option maxRecDepth 100000 in
theorem mX9_exchanged (g : GP) (l : Launch)  (x0 : Int64) (r : Int64) (h : fZ_exchanged x0 = some r) : Ct g l yX9_exchanged cX9_exchanged 7 (some .long) rmX9_exchanged [.long x0] [] (some (.long r)) [] := by
  refine Ct.introL (by decide) (Nat.le_of_ble_eq_true rfl) ?_
  intro p e s m below meth c A QQ ls hyp hret
  obtain ⟨hx, hb, hml, hts, hown, hA, hE, hP, hD, hl⟩ := hyp
  have hK := hE.1
  have hS : va_S A s.heap s.heap [] := va_S.rf
  have X : Here g p s m c cX9_exchanged 7 ([.long x0] : List Value).toArray RX9 A := ⟨⟨hx, hb, hml, hown, hts⟩, hE, hA⟩
  have L5 : ∀ (n5 : Nat), ∀ (v2 : Int64) (v4 : Int32) (ls : Array Slot) (H : Heap) (locs : List Loc), lv_has ls 7 [(0, .long x0), (2, .long v2), (4, .int v4)] → va_P g.1 vwCl [] H → va_D A [] → va_S A s.heap H locs → fx2 (fZ_exchanged_5 x0) n5 v2 v4 = some r → W p l e rmX9_exchanged s m ([.long x0] : List Value).toArray below meth c H locs 0 0 QQ (F0 m 5 ls []) := by
    intro n5
    induction n5 with
    | zero => intro v2 v4 ls H locs hl hP hD hS h; exact fx2_0 h
    | succ n5 ih5 =>
      intro v2 v4 ls H locs hl hP hD hS h
      have h := (fx2_s (fZ_exchanged_5 x0) n5 v2 v4).symm.trans h
      have B54 : ∀ (v4 : Int32) (s0 : Int64) (s1 : Int32) (ls : Array Slot) (H : Heap) (locs : List Loc), lv_has ls 7 [(0, .long x0), (4, .int v4)] → va_P g.1 vwCl [] H → va_D A [] → va_S A s.heap H locs → fZ_exchanged_54 (fx2 (fZ_exchanged_5 x0) n5) x0 v4 s0 s1 = some r → W p l e rmX9_exchanged s m ([.long x0] : List Value).toArray below meth c H locs 0 0 QQ (F0 m 54 ls [.int s1, .long s0]) := by
        intro v4 s0 s1 ls H locs hl hP hD hS h
        refine lv_iload hx hb dX9_exchanged_54 (lv_at hl 1 rfl) ?_
        obtain ⟨t56, hc56, h⟩ := bd1_to h
        refine go_0 (st1 := [.long t56, .long s0]) (run_S (As := [.int s1, .int v4]) (rest := [.long s0]) X hS (mX9_one g l  s1 v4 t56 hc56) okX9_one wd3_83 ⟨Nat.le_of_ble_eq_true rfl, Nat.le_of_ble_eq_true rfl⟩ ⟨rfl, rfl⟩ nil_P nil_D (nil_F hS hA) rfl hl.1 rfl (Nat.le_of_ble_eq_true rfl) dX9_exchanged_56 ⟨Nat.zero_le _, Nat.zero_le _⟩) hS hA hP rfl (fun H locs hP hS => ?_)
        refine lv_lor hx hb dX9_exchanged_59 ?_
        refine lv_topl (fun t60 et60 => ?_)
        have h := st_to h et60
        refine lv_lstore_n (lv' := [(2, .long t60), (0, .long x0), (4, .int v4)]) hx hb dX9_exchanged_60 rfl hl (by decide) rfl (fun ls hl => ?_)
        obtain ⟨t61, et61⟩ : ∃ y : Int32, y = v4 + (1 : Int32) := ⟨_, rfl⟩
        refine lv_iinc (v := t61) (lv' := [(4, .int t61), (2, .long t60), (0, .long x0)]) hx hb dX9_exchanged_61 hl (k := 2) rfl (by rw [et61]; rfl) (by decide) rfl (fun ls hl => ?_)
        have h := st_to h et61
        refine lv_goto (tgt := 5) hx hb dX9_exchanged_64 (by decide) ?_
        exact ih5 t60 t61 ls H locs (lv_sub hl [2, 1, 0] rfl) hP hD hS h
      have B37 : ∀ (v2 : Int64) (v4 : Int32) (v5 : Int32) (s0 : Int32) (ls : Array Slot) (H : Heap) (locs : List Loc), lv_has ls 7 [(0, .long x0), (2, .long v2), (4, .int v4), (5, .int v5)] → va_P g.1 vwCl [] H → va_D A [] → va_S A s.heap H locs → fZ_exchanged_37 (fx2 (fZ_exchanged_5 x0) n5) x0 v2 v4 v5 s0 = some r → W p l e rmX9_exchanged s m ([.long x0] : List Value).toArray below meth c H locs 0 0 QQ (F0 m 37 ls [.int s0]) := by
        intro v2 v4 v5 s0 ls H locs hl hP hD hS h
        refine lv_istore (lv' := [(6, .int s0), (0, .long x0), (2, .long v2), (4, .int v4), (5, .int v5)]) hx hb dX9_exchanged_37 hl (by decide) rfl (fun ls hl => ?_)
        refine lv_lload_n hx hb dX9_exchanged_39 rfl (lv_at hl 2 rfl) ?_
        refine lv_iload hx hb dX9_exchanged_40 (lv_at hl 0 rfl) ?_
        refine lv_if_eq (tgt := 52) hx hb dX9_exchanged_42 (by decide) (fun q42 => ?_) (fun q42 => ?_)
        · have h := ifT h q42
          refine lv_iload hx hb dX9_exchanged_52 (lv_at hl 4 rfl) ?_
          exact B54 v4 v2 v5 ls H locs (lv_sub hl [1, 3] rfl) hP hD hS h
        have h := ifF h q42
        refine lv_iconst (v := (3 : Int32)) hx hb dX9_exchanged_45 (by decide) ?_
        refine lv_iload hx hb dX9_exchanged_46 (lv_at hl 4 rfl) ?_
        refine lv_isub hx hb dX9_exchanged_48 ?_
        refine lv_goto (tgt := 54) hx hb dX9_exchanged_49 (by decide) ?_
        exact B54 v4 v2 (((3 : Int32) - v5)) ls H locs (lv_sub hl [1, 3] rfl) hP hD hS h
      refine lv_iload hx hb dX9_exchanged_5 (lv_at hl 2 rfl) ?_
      refine lv_bipush (v := (13 : Int32)) hx hb dX9_exchanged_7 (by decide) ?_
      refine lv_icmp_ge (tgt := 67) hx hb dX9_exchanged_9 (by decide) (fun q9 => ?_) (fun q9 => ?_)
      · have h := ifT h q9
        refine lv_lload_n hx hb dX9_exchanged_67 rfl (lv_at hl 1 rfl) ?_
        have h : some v2 = some r := h
        cases h
        exact hret _ _ _ _ hP hD hS dX9_exchanged_68
      have h := ifF h q9
      refine lv_lload_n hx hb dX9_exchanged_12 rfl (lv_at hl 0 rfl) ?_
      refine lv_iload hx hb dX9_exchanged_13 (lv_at hl 2 rfl) ?_
      obtain ⟨t15, hc15, h⟩ := bd1_to h
      refine go_0 (st1 := [.int t15]) (run_S (As := [.long x0, .int v4]) (rest := []) X hS (mX9_symbol g l  x0 v4 t15 hc15) okX9_symbol wd3_47 ⟨Nat.le_of_ble_eq_true rfl, Nat.le_of_ble_eq_true rfl⟩ ⟨rfl, rfl⟩ nil_P nil_D (nil_F hS hA) rfl hl.1 rfl (Nat.le_of_ble_eq_true rfl) dX9_exchanged_15 ⟨Nat.zero_le _, Nat.zero_le _⟩) hS hA hP rfl (fun H locs hP hS => ?_)
      refine lv_istore (lv' := [(5, .int t15), (0, .long x0), (2, .long v2), (4, .int v4)]) hx hb dX9_exchanged_18 hl (by decide) rfl (fun ls hl => ?_)
      refine lv_iload hx hb dX9_exchanged_20 (lv_at hl 0 rfl) ?_
      refine lv_iconst (v := (1 : Int32)) hx hb dX9_exchanged_22 (by decide) ?_
      refine lv_icmp_eq (tgt := 32) hx hb dX9_exchanged_23 (by decide) (fun q23 => ?_) (fun q23 => ?_)
      · have h := ifT h q23
        refine lv_iconst (v := (1 : Int32)) hx hb dX9_exchanged_32 (by decide) ?_
        refine lv_goto (tgt := 37) hx hb dX9_exchanged_33 (by decide) ?_
        exact B37 v2 v4 t15 (1 : Int32) ls H locs (lv_sub hl [1, 2, 3, 0] rfl) hP hD hS h
      have h := ifF h q23
      refine lv_iload hx hb dX9_exchanged_26 (lv_at hl 0 rfl) ?_
      refine lv_iconst (v := (2 : Int32)) hx hb dX9_exchanged_28 (by decide) ?_
      refine lv_icmp_ne (tgt := 36) hx hb dX9_exchanged_29 (by decide) (fun q29 => ?_) (fun q29 => ?_)
      · have h := ifF h q29
        refine lv_iconst (v := (0 : Int32)) hx hb dX9_exchanged_36 (by decide) ?_
        exact B37 v2 v4 t15 (0 : Int32) ls H locs (lv_sub hl [1, 2, 3, 0] rfl) hP hD hS h
      have h := ifT h q29
      refine lv_iconst (v := (1 : Int32)) hx hb dX9_exchanged_32 (by decide) ?_
      refine lv_goto (tgt := 37) hx hb dX9_exchanged_33 (by decide) ?_
      exact B37 v2 v4 t15 (1 : Int32) ls H locs (lv_sub hl [1, 2, 3, 0] rfl) hP hD hS h
  have hl : lv_has ls 7 [(0, .long x0)] := hl
  obtain ⟨H, hH⟩ : ∃ H, H = s.heap := ⟨_, rfl⟩
  obtain ⟨locs, hlocs⟩ : ∃ l : List Loc, l = [] := ⟨_, rfl⟩
  rw [show W p l e rmX9_exchanged s m ([.long x0] : List Value).toArray below meth c s.heap [] 0 0 QQ (F0 m 0 ls []) = W p l e rmX9_exchanged s m ([.long x0] : List Value).toArray below meth c H locs 0 0 QQ (F0 m 0 ls []) by rw [hH, hlocs]]
  have hP : va_P g.1 vwCl [] H := by rw [hH]; exact hP
  have hD : va_D A [] := hD
  have hS : va_S A s.heap H locs := by rw [hH, hlocs]; exact hS
  clear hH hlocs
  refine lv_lconst (v := (0 : Int64)) hx hb dX9_exchanged_0 (by decide) ?_
  refine lv_lstore_n (lv' := [(2, .long (0 : Int64)), (0, .long x0)]) hx hb dX9_exchanged_1 rfl hl (by decide) rfl (fun ls hl => ?_)
  refine lv_iconst (v := (0 : Int32)) hx hb dX9_exchanged_2 (by decide) ?_
  refine lv_istore (lv' := [(4, .int (0 : Int32)), (2, .long (0 : Int64)), (0, .long x0)]) hx hb dX9_exchanged_3 hl (by decide) rfl (fun ls hl => ?_)
  exact L5 FU (0 : Int64) (0 : Int32) ls H locs (lv_sub hl [2, 1, 0] rfl) hP hD hS h
set_option maxHeartbeats 4000000 in
set_option maxRecDepth 100000 in
theorem mX2_exchange (g : GP) (l : Launch) (aE : Nat) (E_left : Int64) (E_right : Int64)  (E_left_o : Int64) (E_right_o : Int64) (h : fE_exchange E_left E_right = some (E_left_o, E_right_o)) : Ct g l yX2_exchange cX2_exchange 1 none rmX2_exchange [.ref aE] (wX2 g aE E_left E_right) none (wX2 g aE E_left_o E_right_o) := by
  refine Ct.introV (by decide) (Nat.le_of_ble_eq_true rfl) ?_
  intro p e s m below meth c A QQ ls hyp hret
  obtain ⟨hx, hb, hml, hts, hown, hA, hE, hP, hD, hl⟩ := hyp
  have hK := hE.1
  have hS : va_S A s.heap s.heap [] := va_S.rf
  have X : Here g p s m c cX2_exchange 1 ([.ref aE] : List Value).toArray RX2 A := ⟨⟨hx, hb, hml, hown, hts⟩, hE, hA⟩
  have hl : lv_has ls 1 [(0, .ref aE)] := hl
  obtain ⟨H, hH⟩ : ∃ H, H = s.heap := ⟨_, rfl⟩
  obtain ⟨locs, hlocs⟩ : ∃ l : List Loc, l = [] := ⟨_, rfl⟩
  rw [show W p l e rmX2_exchange s m ([.ref aE] : List Value).toArray below meth c s.heap [] 0 0 QQ (F0 m 0 ls []) = W p l e rmX2_exchange s m ([.ref aE] : List Value).toArray below meth c H locs 0 0 QQ (F0 m 0 ls []) by rw [hH, hlocs]]
  have hP : va_P g.1 vwCl (wX2 g aE E_left E_right) H := by rw [hH]; exact hP
  have hD : va_D A (wX2 g aE E_left E_right) := hD
  have hS : va_S A s.heap H locs := by rw [hH, hlocs]; exact hS
  clear hH hlocs
  refine lv_aload_n hx hb dX2_exchange_0 rfl (lv_at hl 0 rfl) ?_
  refine lv_aload_n hx hb dX2_exchange_1 rfl (lv_at hl 0 rfl) ?_
  refine va_get (D := g.1) (ci := 2) (v := .long E_left) (C := RX2) (T := TX2) (N := 2) hx hb hts inBX2 hown hK hP 0 rfl rfl 0 (by decide) (hts _ wd1_48) (fun _ h9 => h9) rfl dX2_exchange_2 ?_
  obtain ⟨t5, hc5, h⟩ := bd1_to h
  refine go_0 (st1 := [.long t5, .ref aE]) (run_S (As := [.long E_left]) (rest := [.ref aE]) X hS (mX9_exchanged g l  E_left t5 hc5) okX9_exchanged wd3_80 ⟨Nat.le_of_ble_eq_true rfl, Nat.le_of_ble_eq_true rfl⟩ ⟨rfl, rfl⟩ nil_P nil_D (nil_F hS hA) rfl hl.1 rfl (Nat.le_of_ble_eq_true rfl) dX2_exchange_5 ⟨Nat.zero_le _, Nat.zero_le _⟩) hS hA hP rfl (fun H locs hP hS => ?_)
  refine lv_aload_n hx hb dX2_exchange_8 rfl (lv_at hl 0 rfl) ?_
  refine va_get (D := g.1) (ci := 2) (v := .long E_right) (C := RX2) (T := TX2) (N := 2) hx hb hts inBX2 hown hK hP 0 rfl rfl 1 (by decide) (hts _ wd1_55) (fun _ h9 => h9) rfl dX2_exchange_9 ?_
  obtain ⟨t12, hc12, h⟩ := bd1_to h
  refine go_0 (st1 := [.long t12, .long t5, .ref aE]) (run_S (As := [.long E_right]) (rest := [.long t5, .ref aE]) X hS (mX9_exchanged g l  E_right t12 hc12) okX9_exchanged wd3_80 ⟨Nat.le_of_ble_eq_true rfl, Nat.le_of_ble_eq_true rfl⟩ ⟨rfl, rfl⟩ nil_P nil_D (nil_F hS hA) rfl hl.1 rfl (Nat.le_of_ble_eq_true rfl) dX2_exchange_12 ⟨Nat.zero_le _, Nat.zero_le _⟩) hS hA hP rfl (fun H locs hP hS => ?_)
  obtain ⟨E_left_15, E_right_15, hc15, h⟩ := bd2_to h
  refine go_A (st1 := []) (run_V (As := [.long t5, .long t12]) (rest := []) X hS (mX2_set g l  aE E_left E_right t5 t12 E_left_15 E_right_15 hc15) okX2_set wd3_34 ⟨Nat.le_of_ble_eq_true rfl, Nat.le_of_ble_eq_true rfl⟩ ⟨rfl, rfl⟩ (va_recv hK hP (ci := 2) (q0 := 0) rfl rfl) hP hD (all_F hS hA hD) rfl hl.1 rfl (Nat.le_of_ble_eq_true rfl) dX2_exchange_15 ⟨Nat.zero_le _, Nat.zero_le _⟩) hS (all_F hS hA hD) rfl (fun H locs hP hD hS => ?_)
  have h : some (E_left_15, E_right_15) = some (E_left_o, E_right_o) := h
  cases h
  exact hret _ _ _ _ hP hD hS dX2_exchange_18
set_option maxHeartbeats 4000000 in
set_option maxRecDepth 100000 in
theorem mX2_total (g : GP) (l : Launch) (aE : Nat) (E_left : Int64) (E_right : Int64) (x1 : Int32) (r : Int32) (h : fE_total E_left E_right x1 = some r) : Ct g l yX2_total cX2_total 2 (some .int) rmX2_total [.ref aE, .int x1] (wX2 g aE E_left E_right) (some (.int r)) (wX2 g aE E_left E_right) := by
  refine Ct.introI (by decide) (Nat.le_of_ble_eq_true rfl) ?_
  intro p e s m below meth c A QQ ls hyp hret
  obtain ⟨hx, hb, hml, hts, hown, hA, hE, hP, hD, hl⟩ := hyp
  have hK := hE.1
  have hS : va_S A s.heap s.heap [] := va_S.rf
  have X : Here g p s m c cX2_total 2 ([.ref aE, .int x1] : List Value).toArray RX2 A := ⟨⟨hx, hb, hml, hown, hts⟩, hE, hA⟩
  have hl : lv_has ls 2 [(0, .ref aE), (1, .int x1)] := hl
  obtain ⟨H, hH⟩ : ∃ H, H = s.heap := ⟨_, rfl⟩
  obtain ⟨locs, hlocs⟩ : ∃ l : List Loc, l = [] := ⟨_, rfl⟩
  rw [show W p l e rmX2_total s m ([.ref aE, .int x1] : List Value).toArray below meth c s.heap [] 0 0 QQ (F0 m 0 ls []) = W p l e rmX2_total s m ([.ref aE, .int x1] : List Value).toArray below meth c H locs 0 0 QQ (F0 m 0 ls []) by rw [hH, hlocs]]
  have hP : va_P g.1 vwCl (wX2 g aE E_left E_right) H := by rw [hH]; exact hP
  have hD : va_D A (wX2 g aE E_left E_right) := hD
  have hS : va_S A s.heap H locs := by rw [hH, hlocs]; exact hS
  clear hH hlocs
  refine lv_aload_n hx hb dX2_total_0 rfl (lv_at hl 0 rfl) ?_
  refine va_get (D := g.1) (ci := 2) (v := .long E_left) (C := RX2) (T := TX2) (N := 2) hx hb hts inBX2 hown hK hP 0 rfl rfl 0 (by decide) (hts _ wd1_48) (fun _ h9 => h9) rfl dX2_total_1 ?_
  refine lv_iload_n hx hb dX2_total_4 rfl (lv_at hl 1 rfl) ?_
  obtain ⟨t5, hc5, h⟩ := bd1_to h
  refine go_0 (st1 := [.int t5]) (run_S (As := [.long E_left, .int x1]) (rest := []) X hS (mX9_countOf g l  E_left x1 t5 hc5) okX9_countOf wd3_88 ⟨Nat.le_of_ble_eq_true rfl, Nat.le_of_ble_eq_true rfl⟩ ⟨rfl, rfl⟩ nil_P nil_D (nil_F hS hA) rfl hl.1 rfl (Nat.le_of_ble_eq_true rfl) dX2_total_5 ⟨Nat.zero_le _, Nat.zero_le _⟩) hS hA hP rfl (fun H locs hP hS => ?_)
  refine lv_aload_n hx hb dX2_total_8 rfl (lv_at hl 0 rfl) ?_
  refine va_get (D := g.1) (ci := 2) (v := .long E_right) (C := RX2) (T := TX2) (N := 2) hx hb hts inBX2 hown hK hP 0 rfl rfl 1 (by decide) (hts _ wd1_55) (fun _ h9 => h9) rfl dX2_total_9 ?_
  refine lv_iload_n hx hb dX2_total_12 rfl (lv_at hl 1 rfl) ?_
  obtain ⟨t13, hc13, h⟩ := bd1_to h
  refine go_0 (st1 := [.int t13, .int t5]) (run_S (As := [.long E_right, .int x1]) (rest := [.int t5]) X hS (mX9_countOf g l  E_right x1 t13 hc13) okX9_countOf wd3_88 ⟨Nat.le_of_ble_eq_true rfl, Nat.le_of_ble_eq_true rfl⟩ ⟨rfl, rfl⟩ nil_P nil_D (nil_F hS hA) rfl hl.1 rfl (Nat.le_of_ble_eq_true rfl) dX2_total_13 ⟨Nat.zero_le _, Nat.zero_le _⟩) hS hA hP rfl (fun H locs hP hS => ?_)
  refine lv_iadd hx hb dX2_total_16 ?_
  have h : some (t5 + t13) = some r := h
  cases h
  exact hret _ _ _ _ hP hD hS dX2_total_17
