set_option maxHeartbeats 4000000 in
set_option maxRecDepth 100000 in
theorem mX3_add (g : GP) (l : Launch) (aT aT_characters : Nat) (T_size : Int32) (T_characters : Nat → Int32) (x1 : Int32) (r : Int32) (T_size_o : Int32) (T_characters_o : Nat → Int32) (h : fT_add T_size T_characters x1 = some (r, T_size_o, T_characters_o)) : Ct g l yX3_add cX3_add 2 (some .boolean) rmX3_add [.ref aT, .int x1] (wX3 g aT aT_characters T_size T_characters) (some (.int r)) (wX3 g aT aT_characters T_size_o T_characters_o) := by
  refine Ct.introZ (by decide) (Nat.le_of_ble_eq_true rfl) ?_
  intro p e s m below meth c A QQ ls hyp hret
  obtain ⟨hx, hb, hml, hts, hown, hA, hE, hP, hD, hl⟩ := hyp
  have hK := hE.1
  have hS : va_S A s.heap s.heap [] := va_S.rf
  have X : Here g p s m c cX3_add 2 ([.ref aT, .int x1] : List Value).toArray RX3 A := ⟨⟨hx, hb, hml, hown, hts⟩, hE, hA⟩
  have hl : lv_has ls 2 [(0, .ref aT), (1, .int x1)] := hl
  obtain ⟨H, hH⟩ : ∃ H, H = s.heap := ⟨_, rfl⟩
  obtain ⟨locs, hlocs⟩ : ∃ l : List Loc, l = [] := ⟨_, rfl⟩
  rw [show W p l e rmX3_add s m ([.ref aT, .int x1] : List Value).toArray below meth c s.heap [] 0 0 QQ (F0 m 0 ls []) = W p l e rmX3_add s m ([.ref aT, .int x1] : List Value).toArray below meth c H locs 0 0 QQ (F0 m 0 ls []) by rw [hH, hlocs]]
  have hP : va_P g.1 vwCl (wX3 g aT aT_characters T_size T_characters) H := by rw [hH]; exact hP
  have hD : va_D A (wX3 g aT aT_characters T_size T_characters) := hD
  have hS : va_S A s.heap H locs := by rw [hH, hlocs]; exact hS
  clear hH hlocs
  refine lv_aload_n hx hb dX3_add_0 rfl (lv_at hl 0 rfl) ?_
  refine va_get (D := g.1) (ci := 3) (v := .int T_size) (C := RX3) (T := TX3) (N := 2) hx hb hts inBX3 hown hK hP 0 rfl rfl 1 (by decide) (hts _ wd1_35) (fun _ h9 => h9) rfl dX3_add_1 ?_
  refine lv_if_lt (tgt := 16) hx hb dX3_add_4 (by decide) (fun q4 => ?_) (fun q4 => ?_)
  · have h := ifT h q4
    refine lv_iconst (v := (0 : Int32)) hx hb dX3_add_16 (by decide) ?_
    have h : some ((0 : Int32), T_size, T_characters) = some (r, T_size_o, T_characters_o) := h
    cases h
    exact hret _ _ _ _ rfl hP hD hS dX3_add_17
  have h := ifF h q4
  refine lv_aload_n hx hb dX3_add_7 rfl (lv_at hl 0 rfl) ?_
  refine va_get (D := g.1) (ci := 3) (v := .int T_size) (C := RX3) (T := TX3) (N := 2) hx hb hts inBX3 hown hK hP 0 rfl rfl 1 (by decide) (hts _ wd1_35) (fun _ h9 => h9) rfl dX3_add_8 ?_
  refine lv_bipush (v := (40 : Int32)) hx hb dX3_add_11 (by decide) ?_
  refine lv_icmp_lt (tgt := 18) hx hb dX3_add_13 (by decide) (fun q13 => ?_) (fun q13 => ?_)
  · have h := ifT h q13
    refine lv_aload_n hx hb dX3_add_18 rfl (lv_at hl 0 rfl) ?_
    refine va_get (D := g.1) (ci := 3) (v := .ref aT_characters) (C := RX3) (T := TX3) (N := 2) hx hb hts inBX3 hown hK hP 0 rfl rfl 0 (by decide) (hts _ wd1_34) (fun _ h9 => h9) rfl dX3_add_19 ?_
    refine lv_aload_n hx hb dX3_add_22 rfl (lv_at hl 0 rfl) ?_
    refine va_get (D := g.1) (ci := 3) (v := .int T_size) (C := RX3) (T := TX3) (N := 2) hx hb hts inBX3 hown hK hP 0 rfl rfl 1 (by decide) (hts _ wd1_35) (fun _ h9 => h9) rfl dX3_add_23 ?_
    refine lv_iload_n hx hb dX3_add_26 rfl (lv_at hl 1 rfl) ?_
    have hin := sti_in h
    refine va_cast hx hb hK hP hD hS 1 2 rfl rfl hin dX3_add_27 (fun H locs hP hD hS => ?_)
    obtain ⟨T_characters_27, eT_characters_27⟩ : ∃ y : Nat → Int32, y = upd T_characters (Int32.toNatClampNeg T_size) (vp_nar .char x1) := ⟨_, rfl⟩
    have h := sti_to h eT_characters_27
    have hP : va_P g.1 vwCl (wX3 g aT aT_characters T_size T_characters_27) H := by rw [eT_characters_27]; exact hP
    have hD : va_D A (wX3 g aT aT_characters T_size T_characters_27) := by rw [eT_characters_27]; exact hD
    refine lv_aload_n hx hb dX3_add_28 rfl (lv_at hl 0 rfl) ?_
    refine lv_dup hx hb dX3_add_29 rfl ?_
    refine va_get (D := g.1) (ci := 3) (v := .int T_size) (C := RX3) (T := TX3) (N := 2) hx hb hts inBX3 hown hK hP 0 rfl rfl 1 (by decide) (hts _ wd1_35) (fun _ h9 => h9) rfl dX3_add_30 ?_
    refine lv_iconst (v := (1 : Int32)) hx hb dX3_add_33 (by decide) ?_
    refine lv_iadd hx hb dX3_add_34 ?_
    refine lv_topi (fun t35 et35 => ?_)
    have h := st_to h et35
    refine va_put (D := g.1) (ci := 3) (v := .int t35) (ty := .int) (C := RX3) (T := TX3) (N := 2) hx hb hts inBX3 tyX3 tyX3_ok nmX3 hown hK hP hD hS 0 rfl rfl 1 (by decide) (hts _ wd1_35) (fun _ h9 => h9) rfl (tyX3_ok 1 (by decide)) rfl rfl (Nat.le_of_ble_eq_true rfl) dX3_add_35 (fun H locs hP hD hS => ?_)
    have hP : va_P g.1 vwCl (wX3 g aT aT_characters t35 T_characters_27) H := hP
    have hD : va_D A (wX3 g aT aT_characters t35 T_characters_27) := hD
    refine lv_iconst (v := (1 : Int32)) hx hb dX3_add_38 (by decide) ?_
    have h : some ((1 : Int32), t35, T_characters_27) = some (r, T_size_o, T_characters_o) := h
    cases h
    exact hret _ _ _ _ rfl hP hD hS dX3_add_39
  have h := ifF h q13
  refine lv_iconst (v := (0 : Int32)) hx hb dX3_add_16 (by decide) ?_
  have h : some ((0 : Int32), T_size, T_characters) = some (r, T_size_o, T_characters_o) := h
  cases h
  exact hret _ _ _ _ rfl hP hD hS dX3_add_17
set_option maxHeartbeats 4000000 in
set_option maxRecDepth 100000 in
theorem mX3_size (g : GP) (l : Launch) (aT aT_characters : Nat) (T_size : Int32) (T_characters : Nat → Int32)  (r : Int32) (h : fT_size T_size = some r) : Ct g l yX3_size cX3_size 1 (some .int) rmX3_size [.ref aT] (wX3 g aT aT_characters T_size T_characters) (some (.int r)) (wX3 g aT aT_characters T_size T_characters) := by
  refine Ct.introI (by decide) (Nat.le_of_ble_eq_true rfl) ?_
  intro p e s m below meth c A QQ ls hyp hret
  obtain ⟨hx, hb, hml, hts, hown, hA, hE, hP, hD, hl⟩ := hyp
  have hK := hE.1
  have hS : va_S A s.heap s.heap [] := va_S.rf
  have X : Here g p s m c cX3_size 1 ([.ref aT] : List Value).toArray RX3 A := ⟨⟨hx, hb, hml, hown, hts⟩, hE, hA⟩
  have hl : lv_has ls 1 [(0, .ref aT)] := hl
  obtain ⟨H, hH⟩ : ∃ H, H = s.heap := ⟨_, rfl⟩
  obtain ⟨locs, hlocs⟩ : ∃ l : List Loc, l = [] := ⟨_, rfl⟩
  rw [show W p l e rmX3_size s m ([.ref aT] : List Value).toArray below meth c s.heap [] 0 0 QQ (F0 m 0 ls []) = W p l e rmX3_size s m ([.ref aT] : List Value).toArray below meth c H locs 0 0 QQ (F0 m 0 ls []) by rw [hH, hlocs]]
  have hP : va_P g.1 vwCl (wX3 g aT aT_characters T_size T_characters) H := by rw [hH]; exact hP
  have hD : va_D A (wX3 g aT aT_characters T_size T_characters) := hD
  have hS : va_S A s.heap H locs := by rw [hH, hlocs]; exact hS
  clear hH hlocs
  refine lv_aload_n hx hb dX3_size_0 rfl (lv_at hl 0 rfl) ?_
  refine va_get (D := g.1) (ci := 3) (v := .int T_size) (C := RX3) (T := TX3) (N := 2) hx hb hts inBX3 hown hK hP 0 rfl rfl 1 (by decide) (hts _ wd1_35) (fun _ h9 => h9) rfl dX3_size_1 ?_
  have h : some T_size = some r := h
  cases h
  exact hret _ _ _ _ hP hD hS dX3_size_4
set_option maxHeartbeats 4000000 in
set_option maxRecDepth 100000 in
theorem mX11_append (g : GP) (l : Launch) (aX aT aT_characters aE aH aH_lefts aH_rights aS aS_lefts aS_rights aS_filled aA aA_letters aA_lengths aK aB aB_first aQ aQ_weights aQ_possible aC aC_variables aC_relations aC_numbers aA2 aA2_letters aA2_lengths aN aN_lefts aN_rights aN_parents aN_rules aN_depths aE2 : Nat) (T_size : Int32) (T_characters : Nat → Int32) (E_left : Int64) (E_right : Int64) (H_size : Int32) (H_lefts : Nat → Int64) (H_rights : Nat → Int64) (S_lefts : Nat → Int64) (S_rights : Nat → Int64) (S_filled : Nat → Int32) (A_letters : Nat → Int64) (A_lengths : Nat → Int32) (B_left : Int64) (B_right : Int64) (B_found : Int32) (B_least : Int32) (B_first : Nat → Int32) (Q_letterSurplus : Int32) (Q_weights : Nat → Int32) (Q_possible : Nat → Int32) (C_size : Int32) (C_variables : Nat → Int32) (C_relations : Nat → Int32) (C_numbers : Nat → Int32) (A2_letters : Nat → Int64) (A2_lengths : Nat → Int32) (N_size : Int32) (N_solved : Int32) (N_dropped : Int32) (N_lefts : Nat → Int64) (N_rights : Nat → Int64) (N_parents : Nat → Int32) (N_rules : Nat → Int32) (N_depths : Nat → Int32) (E2_left : Int64) (E2_right : Int64) (x1 : Int32) (r : Int32) (T_size_o : Int32) (T_characters_o : Nat → Int32) (h : fX_append T_size T_characters x1 = some (r, T_size_o, T_characters_o)) : Ct g l yX11_append cX11_append 2 (some .int) rmX11_append [.ref aX, .int x1] (wX11 g aX aT aT_characters aE aH aH_lefts aH_rights aS aS_lefts aS_rights aS_filled aA aA_letters aA_lengths aK aB aB_first aQ aQ_weights aQ_possible aC aC_variables aC_relations aC_numbers aA2 aA2_letters aA2_lengths aN aN_lefts aN_rights aN_parents aN_rules aN_depths aE2 T_size T_characters E_left E_right H_size H_lefts H_rights S_lefts S_rights S_filled A_letters A_lengths B_left B_right B_found B_least B_first Q_letterSurplus Q_weights Q_possible C_size C_variables C_relations C_numbers A2_letters A2_lengths N_size N_solved N_dropped N_lefts N_rights N_parents N_rules N_depths E2_left E2_right) (some (.int r)) (wX11 g aX aT aT_characters aE aH aH_lefts aH_rights aS aS_lefts aS_rights aS_filled aA aA_letters aA_lengths aK aB aB_first aQ aQ_weights aQ_possible aC aC_variables aC_relations aC_numbers aA2 aA2_letters aA2_lengths aN aN_lefts aN_rights aN_parents aN_rules aN_depths aE2 T_size_o T_characters_o E_left E_right H_size H_lefts H_rights S_lefts S_rights S_filled A_letters A_lengths B_left B_right B_found B_least B_first Q_letterSurplus Q_weights Q_possible C_size C_variables C_relations C_numbers A2_letters A2_lengths N_size N_solved N_dropped N_lefts N_rights N_parents N_rules N_depths E2_left E2_right) := by
  refine Ct.introI (by decide) (Nat.le_of_ble_eq_true rfl) ?_
  intro p e s m below meth c A QQ ls hyp hret
  obtain ⟨hx, hb, hml, hts, hown, hA, hE, hP, hD, hl⟩ := hyp
  have hK := hE.1
  have hS : va_S A s.heap s.heap [] := va_S.rf
  have X : Here g p s m c cX11_append 2 ([.ref aX, .int x1] : List Value).toArray RX11 A := ⟨⟨hx, hb, hml, hown, hts⟩, hE, hA⟩
  have hl : lv_has ls 2 [(0, .ref aX), (1, .int x1)] := hl
  obtain ⟨H, hH⟩ : ∃ H, H = s.heap := ⟨_, rfl⟩
  obtain ⟨locs, hlocs⟩ : ∃ l : List Loc, l = [] := ⟨_, rfl⟩
  rw [show W p l e rmX11_append s m ([.ref aX, .int x1] : List Value).toArray below meth c s.heap [] 0 0 QQ (F0 m 0 ls []) = W p l e rmX11_append s m ([.ref aX, .int x1] : List Value).toArray below meth c H locs 0 0 QQ (F0 m 0 ls []) by rw [hH, hlocs]]
  have hP : va_P g.1 vwCl (wX11 g aX aT aT_characters aE aH aH_lefts aH_rights aS aS_lefts aS_rights aS_filled aA aA_letters aA_lengths aK aB aB_first aQ aQ_weights aQ_possible aC aC_variables aC_relations aC_numbers aA2 aA2_letters aA2_lengths aN aN_lefts aN_rights aN_parents aN_rules aN_depths aE2 T_size T_characters E_left E_right H_size H_lefts H_rights S_lefts S_rights S_filled A_letters A_lengths B_left B_right B_found B_least B_first Q_letterSurplus Q_weights Q_possible C_size C_variables C_relations C_numbers A2_letters A2_lengths N_size N_solved N_dropped N_lefts N_rights N_parents N_rules N_depths E2_left E2_right) H := by rw [hH]; exact hP
  have hD : va_D A (wX11 g aX aT aT_characters aE aH aH_lefts aH_rights aS aS_lefts aS_rights aS_filled aA aA_letters aA_lengths aK aB aB_first aQ aQ_weights aQ_possible aC aC_variables aC_relations aC_numbers aA2 aA2_letters aA2_lengths aN aN_lefts aN_rights aN_parents aN_rules aN_depths aE2 T_size T_characters E_left E_right H_size H_lefts H_rights S_lefts S_rights S_filled A_letters A_lengths B_left B_right B_found B_least B_first Q_letterSurplus Q_weights Q_possible C_size C_variables C_relations C_numbers A2_letters A2_lengths N_size N_solved N_dropped N_lefts N_rights N_parents N_rules N_depths E2_left E2_right) := hD
  have hS : va_S A s.heap H locs := by rw [hH, hlocs]; exact hS
  clear hH hlocs
  refine lv_iload_n hx hb dX11_append_0 rfl (lv_at hl 1 rfl) ?_
  refine lv_if_lt (tgt := 11) hx hb dX11_append_1 (by decide) (fun q1 => ?_) (fun q1 => ?_)
  · have h := ifT h q1
    refine lv_bipush (v := ((-2) : Int32)) hx hb dX11_append_11 (by decide) ?_
    have h : some (((-2) : Int32), T_size, T_characters) = some (r, T_size_o, T_characters_o) := h
    cases h
    exact hret _ _ _ _ hP hD hS dX11_append_13
  have h := ifF h q1
  refine lv_iload_n hx hb dX11_append_4 rfl (lv_at hl 1 rfl) ?_
  refine lv_sipush (v := (255 : Int32)) hx hb dX11_append_5 (by decide) ?_
  refine lv_icmp_le (tgt := 14) hx hb dX11_append_8 (by decide) (fun q8 => ?_) (fun q8 => ?_)
  · have h := ifT h q8
    refine lv_aload_n hx hb dX11_append_14 rfl (lv_at hl 0 rfl) ?_
    refine va_get (D := g.1) (ci := 10) (v := .ref aT) (C := RX11) (T := TX11) (N := 10) hx hb hts inBX11 hown hK hP 0 rfl rfl 0 (by decide) (hts _ wd1_232) (fun _ h9 => h9) rfl dX11_append_15 ?_
    refine lv_iload_n hx hb dX11_append_18 rfl (lv_at hl 1 rfl) ?_
    refine lv_i2c (v := (i2c x1)) hx hb dX11_append_19 rfl ?_
    obtain ⟨t20, T_size_20, T_characters_20, hc20, h⟩ := bd3_to h
    refine go_P (st1 := [.int t20]) (W1 := (wX11 g aX aT aT_characters aE aH aH_lefts aH_rights aS aS_lefts aS_rights aS_filled aA aA_letters aA_lengths aK aB aB_first aQ aQ_weights aQ_possible aC aC_variables aC_relations aC_numbers aA2 aA2_letters aA2_lengths aN aN_lefts aN_rights aN_parents aN_rules aN_depths aE2 T_size_20 T_characters_20 E_left E_right H_size H_lefts H_rights S_lefts S_rights S_filled A_letters A_lengths B_left B_right B_found B_least B_first Q_letterSurplus Q_weights Q_possible C_size C_variables C_relations C_numbers A2_letters A2_lengths N_size N_solved N_dropped N_lefts N_rights N_parents N_rules N_depths E2_left E2_right)) (run_V (As := [.int (i2c x1)]) (rest := []) X hS (mX3_add g l  aT aT_characters T_size T_characters (i2c x1) t20 T_size_20 T_characters_20 hc20) okX3_add wd2_27 ⟨Nat.le_of_ble_eq_true rfl, Nat.le_of_ble_eq_true rfl⟩ ⟨rfl, rfl⟩ (va_recv hK hP (ci := 3) (q0 := 1) rfl rfl) (sub_P hP [1, 2] rfl) (hD.sub [1, 2] (by decide) rfl) (va_free hD hS hA [1, 2] rfl) rfl hl.1 rfl (Nat.le_of_ble_eq_true rfl) dX11_append_20 ⟨Nat.zero_le _, Nat.zero_le _⟩) hS (va_free hD hS hA [1, 2] rfl) hP hD [1, 2] [0, 3, 4, 5, 6, 7, 8, 9, 10, 11, 12, 13, 14, 15, 16, 17, 18, 19, 20, 21, 22, 23, 24, 25, 26, 27, 28, 29, 30, 31, 32, 33] [0, 32, 33, 1, 2, 3, 4, 5, 6, 7, 8, 9, 10, 11, 12, 13, 14, 15, 16, 17, 18, 19, 20, 21, 22, 23, 24, 25, 26, 27, 28, 29, 30, 31] rfl rfl (by decide) (by decide) rfl (by decide) rfl (fun H locs hP hD hS => ?_)
    refine lv_if_eq (tgt := 36) hx hb dX11_append_23 (by decide) (fun q23 => ?_) (fun q23 => ?_)
    · have h := ifT h q23
      refine lv_bipush (v := ((-4) : Int32)) hx hb dX11_append_36 (by decide) ?_
      have h : some (((-4) : Int32), T_size_20, T_characters_20) = some (r, T_size_o, T_characters_o) := h
      cases h
      exact hret _ _ _ _ hP hD hS dX11_append_38
    have h := ifF h q23
    refine lv_aload_n hx hb dX11_append_26 rfl (lv_at hl 0 rfl) ?_
    refine va_get (D := g.1) (ci := 10) (v := .ref aT) (C := RX11) (T := TX11) (N := 10) hx hb hts inBX11 hown hK hP 0 rfl rfl 0 (by decide) (hts _ wd1_232) (fun _ h9 => h9) rfl dX11_append_27 ?_
    obtain ⟨t30, hc30, h⟩ := bd1_to h
    refine go_P (st1 := [.int t30]) (W1 := (wX11 g aX aT aT_characters aE aH aH_lefts aH_rights aS aS_lefts aS_rights aS_filled aA aA_letters aA_lengths aK aB aB_first aQ aQ_weights aQ_possible aC aC_variables aC_relations aC_numbers aA2 aA2_letters aA2_lengths aN aN_lefts aN_rights aN_parents aN_rules aN_depths aE2 T_size_20 T_characters_20 E_left E_right H_size H_lefts H_rights S_lefts S_rights S_filled A_letters A_lengths B_left B_right B_found B_least B_first Q_letterSurplus Q_weights Q_possible C_size C_variables C_relations C_numbers A2_letters A2_lengths N_size N_solved N_dropped N_lefts N_rights N_parents N_rules N_depths E2_left E2_right)) (run_V (As := []) (rest := []) X hS (mX3_size g l  aT aT_characters T_size_20 T_characters_20 t30 hc30) okX3_size wd2_31 ⟨Nat.le_of_ble_eq_true rfl, Nat.le_of_ble_eq_true rfl⟩ ⟨rfl, rfl⟩ (va_recv hK hP (ci := 3) (q0 := 1) rfl rfl) (sub_P hP [1, 2] rfl) (hD.sub [1, 2] (by decide) rfl) (va_free hD hS hA [1, 2] rfl) rfl hl.1 rfl (Nat.le_of_ble_eq_true rfl) dX11_append_30 ⟨Nat.zero_le _, Nat.zero_le _⟩) hS (va_free hD hS hA [1, 2] rfl) hP hD [1, 2] [0, 3, 4, 5, 6, 7, 8, 9, 10, 11, 12, 13, 14, 15, 16, 17, 18, 19, 20, 21, 22, 23, 24, 25, 26, 27, 28, 29, 30, 31, 32, 33] [0, 32, 33, 1, 2, 3, 4, 5, 6, 7, 8, 9, 10, 11, 12, 13, 14, 15, 16, 17, 18, 19, 20, 21, 22, 23, 24, 25, 26, 27, 28, 29, 30, 31] rfl rfl (by decide) (by decide) rfl (by decide) rfl (fun H locs hP hD hS => ?_)
    refine lv_goto (tgt := 38) hx hb dX11_append_33 (by decide) ?_
    have h : some (t30, T_size_20, T_characters_20) = some (r, T_size_o, T_characters_o) := h
    cases h
    exact hret _ _ _ _ hP hD hS dX11_append_38
  have h := ifF h q8
  refine lv_bipush (v := ((-2) : Int32)) hx hb dX11_append_11 (by decide) ?_
  have h : some (((-2) : Int32), T_size, T_characters) = some (r, T_size_o, T_characters_o) := h
  cases h
  exact hret _ _ _ _ hP hD hS dX11_append_13
set_option maxHeartbeats 4000000 in
set_option maxRecDepth 100000 in
theorem mX3_empty (g : GP) (l : Launch) (aT aT_characters : Nat) (T_size : Int32) (T_characters : Nat → Int32)  (T_size_o : Int32) (h : fT_empty = some T_size_o) : Ct g l yX3_empty cX3_empty 1 none rmX3_empty [.ref aT] (wX3 g aT aT_characters T_size T_characters) none (wX3 g aT aT_characters T_size_o T_characters) := by
  refine Ct.introV (by decide) (Nat.le_of_ble_eq_true rfl) ?_
  intro p e s m below meth c A QQ ls hyp hret
  obtain ⟨hx, hb, hml, hts, hown, hA, hE, hP, hD, hl⟩ := hyp
  have hK := hE.1
  have hS : va_S A s.heap s.heap [] := va_S.rf
  have X : Here g p s m c cX3_empty 1 ([.ref aT] : List Value).toArray RX3 A := ⟨⟨hx, hb, hml, hown, hts⟩, hE, hA⟩
  have hl : lv_has ls 1 [(0, .ref aT)] := hl
  obtain ⟨H, hH⟩ : ∃ H, H = s.heap := ⟨_, rfl⟩
  obtain ⟨locs, hlocs⟩ : ∃ l : List Loc, l = [] := ⟨_, rfl⟩
  rw [show W p l e rmX3_empty s m ([.ref aT] : List Value).toArray below meth c s.heap [] 0 0 QQ (F0 m 0 ls []) = W p l e rmX3_empty s m ([.ref aT] : List Value).toArray below meth c H locs 0 0 QQ (F0 m 0 ls []) by rw [hH, hlocs]]
  have hP : va_P g.1 vwCl (wX3 g aT aT_characters T_size T_characters) H := by rw [hH]; exact hP
  have hD : va_D A (wX3 g aT aT_characters T_size T_characters) := hD
  have hS : va_S A s.heap H locs := by rw [hH, hlocs]; exact hS
  clear hH hlocs
  refine lv_aload_n hx hb dX3_empty_0 rfl (lv_at hl 0 rfl) ?_
  refine lv_iconst (v := (0 : Int32)) hx hb dX3_empty_1 (by decide) ?_
  refine va_put (D := g.1) (ci := 3) (v := .int (0 : Int32)) (ty := .int) (C := RX3) (T := TX3) (N := 2) hx hb hts inBX3 tyX3 tyX3_ok nmX3 hown hK hP hD hS 0 rfl rfl 1 (by decide) (hts _ wd1_35) (fun _ h9 => h9) rfl (tyX3_ok 1 (by decide)) rfl rfl (Nat.le_of_ble_eq_true rfl) dX3_empty_2 (fun H locs hP hD hS => ?_)
  have hP : va_P g.1 vwCl (wX3 g aT aT_characters (0 : Int32) T_characters) H := hP
  have hD : va_D A (wX3 g aT aT_characters (0 : Int32) T_characters) := hD
  have h : some (0 : Int32) = some T_size_o := h
  cases h
  exact hret _ _ _ _ hP hD hS dX3_empty_5
set_option maxHeartbeats 4000000 in
set_option maxRecDepth 100000 in
theorem mX11_clearText (g : GP) (l : Launch) (aX aT aT_characters aE aH aH_lefts aH_rights aS aS_lefts aS_rights aS_filled aA aA_letters aA_lengths aK aB aB_first aQ aQ_weights aQ_possible aC aC_variables aC_relations aC_numbers aA2 aA2_letters aA2_lengths aN aN_lefts aN_rights aN_parents aN_rules aN_depths aE2 : Nat) (T_size : Int32) (T_characters : Nat → Int32) (E_left : Int64) (E_right : Int64) (H_size : Int32) (H_lefts : Nat → Int64) (H_rights : Nat → Int64) (S_lefts : Nat → Int64) (S_rights : Nat → Int64) (S_filled : Nat → Int32) (A_letters : Nat → Int64) (A_lengths : Nat → Int32) (B_left : Int64) (B_right : Int64) (B_found : Int32) (B_least : Int32) (B_first : Nat → Int32) (Q_letterSurplus : Int32) (Q_weights : Nat → Int32) (Q_possible : Nat → Int32) (C_size : Int32) (C_variables : Nat → Int32) (C_relations : Nat → Int32) (C_numbers : Nat → Int32) (A2_letters : Nat → Int64) (A2_lengths : Nat → Int32) (N_size : Int32) (N_solved : Int32) (N_dropped : Int32) (N_lefts : Nat → Int64) (N_rights : Nat → Int64) (N_parents : Nat → Int32) (N_rules : Nat → Int32) (N_depths : Nat → Int32) (E2_left : Int64) (E2_right : Int64)  (r : Int32) (T_size_o : Int32) (h : fX_clearText T_size = some (r, T_size_o)) : Ct g l yX11_clearText cX11_clearText 2 (some .int) rmX11_clearText [.ref aX] (wX11 g aX aT aT_characters aE aH aH_lefts aH_rights aS aS_lefts aS_rights aS_filled aA aA_letters aA_lengths aK aB aB_first aQ aQ_weights aQ_possible aC aC_variables aC_relations aC_numbers aA2 aA2_letters aA2_lengths aN aN_lefts aN_rights aN_parents aN_rules aN_depths aE2 T_size T_characters E_left E_right H_size H_lefts H_rights S_lefts S_rights S_filled A_letters A_lengths B_left B_right B_found B_least B_first Q_letterSurplus Q_weights Q_possible C_size C_variables C_relations C_numbers A2_letters A2_lengths N_size N_solved N_dropped N_lefts N_rights N_parents N_rules N_depths E2_left E2_right) (some (.int r)) (wX11 g aX aT aT_characters aE aH aH_lefts aH_rights aS aS_lefts aS_rights aS_filled aA aA_letters aA_lengths aK aB aB_first aQ aQ_weights aQ_possible aC aC_variables aC_relations aC_numbers aA2 aA2_letters aA2_lengths aN aN_lefts aN_rights aN_parents aN_rules aN_depths aE2 T_size_o T_characters E_left E_right H_size H_lefts H_rights S_lefts S_rights S_filled A_letters A_lengths B_left B_right B_found B_least B_first Q_letterSurplus Q_weights Q_possible C_size C_variables C_relations C_numbers A2_letters A2_lengths N_size N_solved N_dropped N_lefts N_rights N_parents N_rules N_depths E2_left E2_right) := by
  refine Ct.introI (by decide) (Nat.le_of_ble_eq_true rfl) ?_
  intro p e s m below meth c A QQ ls hyp hret
  obtain ⟨hx, hb, hml, hts, hown, hA, hE, hP, hD, hl⟩ := hyp
  have hK := hE.1
  have hS : va_S A s.heap s.heap [] := va_S.rf
  have X : Here g p s m c cX11_clearText 2 ([.ref aX] : List Value).toArray RX11 A := ⟨⟨hx, hb, hml, hown, hts⟩, hE, hA⟩
  have hl : lv_has ls 2 [(0, .ref aX)] := hl
  obtain ⟨H, hH⟩ : ∃ H, H = s.heap := ⟨_, rfl⟩
  obtain ⟨locs, hlocs⟩ : ∃ l : List Loc, l = [] := ⟨_, rfl⟩
  rw [show W p l e rmX11_clearText s m ([.ref aX] : List Value).toArray below meth c s.heap [] 0 0 QQ (F0 m 0 ls []) = W p l e rmX11_clearText s m ([.ref aX] : List Value).toArray below meth c H locs 0 0 QQ (F0 m 0 ls []) by rw [hH, hlocs]]
  have hP : va_P g.1 vwCl (wX11 g aX aT aT_characters aE aH aH_lefts aH_rights aS aS_lefts aS_rights aS_filled aA aA_letters aA_lengths aK aB aB_first aQ aQ_weights aQ_possible aC aC_variables aC_relations aC_numbers aA2 aA2_letters aA2_lengths aN aN_lefts aN_rights aN_parents aN_rules aN_depths aE2 T_size T_characters E_left E_right H_size H_lefts H_rights S_lefts S_rights S_filled A_letters A_lengths B_left B_right B_found B_least B_first Q_letterSurplus Q_weights Q_possible C_size C_variables C_relations C_numbers A2_letters A2_lengths N_size N_solved N_dropped N_lefts N_rights N_parents N_rules N_depths E2_left E2_right) H := by rw [hH]; exact hP
  have hD : va_D A (wX11 g aX aT aT_characters aE aH aH_lefts aH_rights aS aS_lefts aS_rights aS_filled aA aA_letters aA_lengths aK aB aB_first aQ aQ_weights aQ_possible aC aC_variables aC_relations aC_numbers aA2 aA2_letters aA2_lengths aN aN_lefts aN_rights aN_parents aN_rules aN_depths aE2 T_size T_characters E_left E_right H_size H_lefts H_rights S_lefts S_rights S_filled A_letters A_lengths B_left B_right B_found B_least B_first Q_letterSurplus Q_weights Q_possible C_size C_variables C_relations C_numbers A2_letters A2_lengths N_size N_solved N_dropped N_lefts N_rights N_parents N_rules N_depths E2_left E2_right) := hD
  have hS : va_S A s.heap H locs := by rw [hH, hlocs]; exact hS
  clear hH hlocs
  refine lv_aload_n hx hb dX11_clearText_0 rfl (lv_at hl 0 rfl) ?_
  refine va_get (D := g.1) (ci := 10) (v := .ref aT) (C := RX11) (T := TX11) (N := 10) hx hb hts inBX11 hown hK hP 0 rfl rfl 0 (by decide) (hts _ wd1_232) (fun _ h9 => h9) rfl dX11_clearText_1 ?_
  obtain ⟨t4, hc4, h⟩ := bd1_to h
  refine go_P (st1 := [.int t4]) (W1 := (wX11 g aX aT aT_characters aE aH aH_lefts aH_rights aS aS_lefts aS_rights aS_filled aA aA_letters aA_lengths aK aB aB_first aQ aQ_weights aQ_possible aC aC_variables aC_relations aC_numbers aA2 aA2_letters aA2_lengths aN aN_lefts aN_rights aN_parents aN_rules aN_depths aE2 T_size T_characters E_left E_right H_size H_lefts H_rights S_lefts S_rights S_filled A_letters A_lengths B_left B_right B_found B_least B_first Q_letterSurplus Q_weights Q_possible C_size C_variables C_relations C_numbers A2_letters A2_lengths N_size N_solved N_dropped N_lefts N_rights N_parents N_rules N_depths E2_left E2_right)) (run_V (As := []) (rest := []) X hS (mX3_size g l  aT aT_characters T_size T_characters t4 hc4) okX3_size wd2_31 ⟨Nat.le_of_ble_eq_true rfl, Nat.le_of_ble_eq_true rfl⟩ ⟨rfl, rfl⟩ (va_recv hK hP (ci := 3) (q0 := 1) rfl rfl) (sub_P hP [1, 2] rfl) (hD.sub [1, 2] (by decide) rfl) (va_free hD hS hA [1, 2] rfl) rfl hl.1 rfl (Nat.le_of_ble_eq_true rfl) dX11_clearText_4 ⟨Nat.zero_le _, Nat.zero_le _⟩) hS (va_free hD hS hA [1, 2] rfl) hP hD [1, 2] [0, 3, 4, 5, 6, 7, 8, 9, 10, 11, 12, 13, 14, 15, 16, 17, 18, 19, 20, 21, 22, 23, 24, 25, 26, 27, 28, 29, 30, 31, 32, 33] [0, 32, 33, 1, 2, 3, 4, 5, 6, 7, 8, 9, 10, 11, 12, 13, 14, 15, 16, 17, 18, 19, 20, 21, 22, 23, 24, 25, 26, 27, 28, 29, 30, 31] rfl rfl (by decide) (by decide) rfl (by decide) rfl (fun H locs hP hD hS => ?_)
  refine lv_istore_n (lv' := [(1, .int t4), (0, .ref aX)]) hx hb dX11_clearText_7 rfl hl (by decide) rfl (fun ls hl => ?_)
  refine lv_aload_n hx hb dX11_clearText_8 rfl (lv_at hl 1 rfl) ?_
  refine va_get (D := g.1) (ci := 10) (v := .ref aT) (C := RX11) (T := TX11) (N := 10) hx hb hts inBX11 hown hK hP 0 rfl rfl 0 (by decide) (hts _ wd1_232) (fun _ h9 => h9) rfl dX11_clearText_9 ?_
  obtain ⟨T_size_12, hc12, h⟩ := bd1_to h
  refine go_P (st1 := []) (W1 := (wX11 g aX aT aT_characters aE aH aH_lefts aH_rights aS aS_lefts aS_rights aS_filled aA aA_letters aA_lengths aK aB aB_first aQ aQ_weights aQ_possible aC aC_variables aC_relations aC_numbers aA2 aA2_letters aA2_lengths aN aN_lefts aN_rights aN_parents aN_rules aN_depths aE2 T_size_12 T_characters E_left E_right H_size H_lefts H_rights S_lefts S_rights S_filled A_letters A_lengths B_left B_right B_found B_least B_first Q_letterSurplus Q_weights Q_possible C_size C_variables C_relations C_numbers A2_letters A2_lengths N_size N_solved N_dropped N_lefts N_rights N_parents N_rules N_depths E2_left E2_right)) (run_V (As := []) (rest := []) X hS (mX3_empty g l  aT aT_characters T_size T_characters T_size_12 hc12) okX3_empty wd2_39 ⟨Nat.le_of_ble_eq_true rfl, Nat.le_of_ble_eq_true rfl⟩ ⟨rfl, rfl⟩ (va_recv hK hP (ci := 3) (q0 := 1) rfl rfl) (sub_P hP [1, 2] rfl) (hD.sub [1, 2] (by decide) rfl) (va_free hD hS hA [1, 2] rfl) rfl hl.1 rfl (Nat.le_of_ble_eq_true rfl) dX11_clearText_12 ⟨Nat.zero_le _, Nat.zero_le _⟩) hS (va_free hD hS hA [1, 2] rfl) hP hD [1, 2] [0, 3, 4, 5, 6, 7, 8, 9, 10, 11, 12, 13, 14, 15, 16, 17, 18, 19, 20, 21, 22, 23, 24, 25, 26, 27, 28, 29, 30, 31, 32, 33] [0, 32, 33, 1, 2, 3, 4, 5, 6, 7, 8, 9, 10, 11, 12, 13, 14, 15, 16, 17, 18, 19, 20, 21, 22, 23, 24, 25, 26, 27, 28, 29, 30, 31] rfl rfl (by decide) (by decide) rfl (by decide) rfl (fun H locs hP hD hS => ?_)
  refine lv_iload_n hx hb dX11_clearText_15 rfl (lv_at hl 0 rfl) ?_
  have h : some (t4, T_size_12) = some (r, T_size_o) := h
  cases h
  exact hret _ _ _ _ hP hD hS dX11_clearText_16
set_option maxHeartbeats 4000000 in
set_option maxRecDepth 100000 in
theorem mX3_at (g : GP) (l : Launch) (aT aT_characters : Nat) (T_size : Int32) (T_characters : Nat → Int32) (x1 : Int32) (r : Int32) (h : fT_at T_size T_characters x1 = some r) : Ct g l yX3_at cX3_at 2 (some .char) rmX3_at [.ref aT, .int x1] (wX3 g aT aT_characters T_size T_characters) (some (.int r)) (wX3 g aT aT_characters T_size T_characters) := by
  refine Ct.introZ (by decide) (Nat.le_of_ble_eq_true rfl) ?_
  intro p e s m below meth c A QQ ls hyp hret
  obtain ⟨hx, hb, hml, hts, hown, hA, hE, hP, hD, hl⟩ := hyp
  have hK := hE.1
  have hS : va_S A s.heap s.heap [] := va_S.rf
  have X : Here g p s m c cX3_at 2 ([.ref aT, .int x1] : List Value).toArray RX3 A := ⟨⟨hx, hb, hml, hown, hts⟩, hE, hA⟩
  have hl : lv_has ls 2 [(0, .ref aT), (1, .int x1)] := hl
  obtain ⟨H, hH⟩ : ∃ H, H = s.heap := ⟨_, rfl⟩
  obtain ⟨locs, hlocs⟩ : ∃ l : List Loc, l = [] := ⟨_, rfl⟩
  rw [show W p l e rmX3_at s m ([.ref aT, .int x1] : List Value).toArray below meth c s.heap [] 0 0 QQ (F0 m 0 ls []) = W p l e rmX3_at s m ([.ref aT, .int x1] : List Value).toArray below meth c H locs 0 0 QQ (F0 m 0 ls []) by rw [hH, hlocs]]
  have hP : va_P g.1 vwCl (wX3 g aT aT_characters T_size T_characters) H := by rw [hH]; exact hP
  have hD : va_D A (wX3 g aT aT_characters T_size T_characters) := hD
  have hS : va_S A s.heap H locs := by rw [hH, hlocs]; exact hS
  clear hH hlocs
  refine lv_iload_n hx hb dX3_at_0 rfl (lv_at hl 1 rfl) ?_
  refine lv_if_lt (tgt := 18) hx hb dX3_at_1 (by decide) (fun q1 => ?_) (fun q1 => ?_)
  · have h := ifT h q1
    refine lv_iconst (v := (0 : Int32)) hx hb dX3_at_18 (by decide) ?_
    refine lv_goto (tgt := 28) hx hb dX3_at_19 (by decide) ?_
    have z28 := ckc_is h
    have h := ckc_to h
    have h : some (0 : Int32) = some r := h
    cases h
    exact hret _ _ _ _ (nc_nar z28) hP hD hS dX3_at_28
  have h := ifF h q1
  refine lv_iload_n hx hb dX3_at_4 rfl (lv_at hl 1 rfl) ?_
  refine lv_aload_n hx hb dX3_at_5 rfl (lv_at hl 0 rfl) ?_
  refine va_get (D := g.1) (ci := 3) (v := .int T_size) (C := RX3) (T := TX3) (N := 2) hx hb hts inBX3 hown hK hP 0 rfl rfl 1 (by decide) (hts _ wd1_35) (fun _ h9 => h9) rfl dX3_at_6 ?_
  refine lv_icmp_ge (tgt := 18) hx hb dX3_at_9 (by decide) (fun q9 => ?_) (fun q9 => ?_)
  · have h := ifT h q9
    refine lv_iconst (v := (0 : Int32)) hx hb dX3_at_18 (by decide) ?_
    refine lv_goto (tgt := 28) hx hb dX3_at_19 (by decide) ?_
    have z28 := ckc_is h
    have h := ckc_to h
    have h : some (0 : Int32) = some r := h
    cases h
    exact hret _ _ _ _ (nc_nar z28) hP hD hS dX3_at_28
  have h := ifF h q9
  refine lv_iload_n hx hb dX3_at_12 rfl (lv_at hl 1 rfl) ?_
  refine lv_bipush (v := (40 : Int32)) hx hb dX3_at_13 (by decide) ?_
  refine lv_icmp_lt (tgt := 22) hx hb dX3_at_15 (by decide) (fun q15 => ?_) (fun q15 => ?_)
  · have h := ifT h q15
    refine lv_aload_n hx hb dX3_at_22 rfl (lv_at hl 0 rfl) ?_
    refine va_get (D := g.1) (ci := 3) (v := .ref aT_characters) (C := RX3) (T := TX3) (N := 2) hx hb hts inBX3 hown hK hP 0 rfl rfl 0 (by decide) (hts _ wd1_34) (fun _ h9 => h9) rfl dX3_at_23 ?_
    refine lv_iload_n hx hb dX3_at_26 rfl (lv_at hl 1 rfl) ?_
    have hin := ld_in h
    refine va_cald hx hb hK hP 1 2 rfl rfl hin dX3_at_27 ?_
    refine lv_topi (fun t27 et27 => ?_)
    have h := ld_to h et27
    have z28 := ckc_is h
    have h := ckc_to h
    have h : some t27 = some r := h
    cases h
    exact hret _ _ _ _ (nc_nar z28) hP hD hS dX3_at_28
  have h := ifF h q15
  refine lv_iconst (v := (0 : Int32)) hx hb dX3_at_18 (by decide) ?_
  refine lv_goto (tgt := 28) hx hb dX3_at_19 (by decide) ?_
  have z28 := ckc_is h
  have h := ckc_to h
  have h : some (0 : Int32) = some r := h
  cases h
  exact hret _ _ _ _ (nc_nar z28) hP hD hS dX3_at_28
set_option maxHeartbeats 4000000 in
set_option maxRecDepth 100000 in
theorem mJ0_isLatin1_aae02 (g : GP) (l : Launch)   (r : Int32) (h : fJS_isLatin1_aae02 = some r) : Ct g l yJ0_isLatin1_aae02 cJ0_isLatin1_aae02 1 (some .boolean) rmJ0_isLatin1_aae02 [.ref (g.2.2.1 0)] [] (some (.int r)) [] := by
  refine Ct.introZ (by decide) (Nat.le_of_ble_eq_true rfl) ?_
  intro p e s m below meth c A QQ ls hyp hret
  obtain ⟨hx, hb, hml, hts, hown, hA, hE, hP, hD, hl⟩ := hyp
  have hK := hE.1
  have hS : va_S A s.heap s.heap [] := va_S.rf
  have X : Here g p s m c cJ0_isLatin1_aae02 1 ([.ref (g.2.2.1 0)] : List Value).toArray RJ0 A := ⟨⟨hx, hb, hml, hown, hts⟩, hE, hA⟩
  have hl : lv_has ls 1 [(0, .ref (g.2.2.1 0))] := hl
  obtain ⟨H, hH⟩ : ∃ H, H = s.heap := ⟨_, rfl⟩
  obtain ⟨locs, hlocs⟩ : ∃ l : List Loc, l = [] := ⟨_, rfl⟩
  rw [show W p l e rmJ0_isLatin1_aae02 s m ([.ref (g.2.2.1 0)] : List Value).toArray below meth c s.heap [] 0 0 QQ (F0 m 0 ls []) = W p l e rmJ0_isLatin1_aae02 s m ([.ref (g.2.2.1 0)] : List Value).toArray below meth c H locs 0 0 QQ (F0 m 0 ls []) by rw [hH, hlocs]]
  have hP : va_P g.1 vwCl [] H := by rw [hH]; exact hP
  have hD : va_D A [] := hD
  have hS : va_S A s.heap H locs := by rw [hH, hlocs]; exact hS
  clear hH hlocs
  refine va_gets (v := .int 1) hx hb hE.2.2.2.2.1 hS hown (hts _ wd2_75) (fun _ h9 => h9) dJ0_isLatin1_aae02_0 ?_
  refine lv_if_eq (tgt := 17) hx hb dJ0_isLatin1_aae02_3 (by decide) (fun q3 => ?_) (fun q3 => ?_)
  · have h := ifT h q3
    refine lv_iconst (v := (0 : Int32)) hx hb dJ0_isLatin1_aae02_17 (by decide) ?_
    have h : some (0 : Int32) = some r := h
    cases h
    exact hret _ _ _ _ rfl hP hD hS dJ0_isLatin1_aae02_18
  have h := ifF h q3
  refine lv_aload_n hx hb dJ0_isLatin1_aae02_6 rfl (lv_at hl 0 rfl) ?_
  refine vk_getf (v := .int 0) hx hb (hE.2.2.1.1 0 (by decide)).2.1 hS hown (hts _ wd6_71) (fun _ h9 => h9) dJ0_isLatin1_aae02_7 ?_
  refine lv_if_ne (tgt := 17) hx hb dJ0_isLatin1_aae02_10 (by decide) (fun q10 => ?_) (fun q10 => ?_)
  · have h := ifF h q10
    refine lv_iconst (v := (0 : Int32)) hx hb dJ0_isLatin1_aae02_17 (by decide) ?_
    have h : some (0 : Int32) = some r := h
    cases h
    exact hret _ _ _ _ rfl hP hD hS dJ0_isLatin1_aae02_18
  have h := ifT h q10
  refine lv_iconst (v := (1 : Int32)) hx hb dJ0_isLatin1_aae02_13 (by decide) ?_
  refine lv_goto (tgt := 18) hx hb dJ0_isLatin1_aae02_14 (by decide) ?_
  have h : some (1 : Int32) = some r := h
  cases h
  exact hret _ _ _ _ rfl hP hD hS dJ0_isLatin1_aae02_18
set_option maxHeartbeats 4000000 in
set_option maxRecDepth 100000 in
theorem mJ0_coder_7d493 (g : GP) (l : Launch)   (r : Int32) (h : fJS_coder_7d493 = some r) : Ct g l yJ0_coder_7d493 cJ0_coder_7d493 1 (some .byte) rmJ0_coder_7d493 [.ref (g.2.2.1 0)] [] (some (.int r)) [] := by
  refine Ct.introZ (by decide) (Nat.le_of_ble_eq_true rfl) ?_
  intro p e s m below meth c A QQ ls hyp hret
  obtain ⟨hx, hb, hml, hts, hown, hA, hE, hP, hD, hl⟩ := hyp
  have hK := hE.1
  have hS : va_S A s.heap s.heap [] := va_S.rf
  have X : Here g p s m c cJ0_coder_7d493 1 ([.ref (g.2.2.1 0)] : List Value).toArray RJ0 A := ⟨⟨hx, hb, hml, hown, hts⟩, hE, hA⟩
  have hl : lv_has ls 1 [(0, .ref (g.2.2.1 0))] := hl
  obtain ⟨H, hH⟩ : ∃ H, H = s.heap := ⟨_, rfl⟩
  obtain ⟨locs, hlocs⟩ : ∃ l : List Loc, l = [] := ⟨_, rfl⟩
  rw [show W p l e rmJ0_coder_7d493 s m ([.ref (g.2.2.1 0)] : List Value).toArray below meth c s.heap [] 0 0 QQ (F0 m 0 ls []) = W p l e rmJ0_coder_7d493 s m ([.ref (g.2.2.1 0)] : List Value).toArray below meth c H locs 0 0 QQ (F0 m 0 ls []) by rw [hH, hlocs]]
  have hP : va_P g.1 vwCl [] H := by rw [hH]; exact hP
  have hD : va_D A [] := hD
  have hS : va_S A s.heap H locs := by rw [hH, hlocs]; exact hS
  clear hH hlocs
  refine va_gets (v := .int 1) hx hb hE.2.2.2.2.1 hS hown (hts _ wd2_75) (fun _ h9 => h9) dJ0_coder_7d493_0 ?_
  refine lv_if_eq (tgt := 13) hx hb dJ0_coder_7d493_3 (by decide) (fun q3 => ?_) (fun q3 => ?_)
  · have h := ifT h q3
    refine lv_iconst (v := (1 : Int32)) hx hb dJ0_coder_7d493_13 (by decide) ?_
    have h : some (1 : Int32) = some r := h
    cases h
    exact hret _ _ _ _ rfl hP hD hS dJ0_coder_7d493_14
  have h := ifF h q3
  refine lv_aload_n hx hb dJ0_coder_7d493_6 rfl (lv_at hl 0 rfl) ?_
  refine vk_getf (v := .int 0) hx hb (hE.2.2.1.1 0 (by decide)).2.1 hS hown (hts _ wd6_71) (fun _ h9 => h9) dJ0_coder_7d493_7 ?_
  refine lv_goto (tgt := 14) hx hb dJ0_coder_7d493_10 (by decide) ?_
  have h : some (0 : Int32) = some r := h
  cases h
  exact hret _ _ _ _ rfl hP hD hS dJ0_coder_7d493_14
set_option maxHeartbeats 4000000 in
set_option maxRecDepth 100000 in
theorem mJ0_length_8abf5 (g : GP) (l : Launch)   (r : Int32) (h : fJS_length_8abf5 = some r) : Ct g l yJ0_length_8abf5 cJ0_length_8abf5 1 (some .int) rmJ0_length_8abf5 [.ref (g.2.2.1 0)] [] (some (.int r)) [] := by
  refine Ct.introI (by decide) (Nat.le_of_ble_eq_true rfl) ?_
  intro p e s m below meth c A QQ ls hyp hret
  obtain ⟨hx, hb, hml, hts, hown, hA, hE, hP, hD, hl⟩ := hyp
  have hK := hE.1
  have hS : va_S A s.heap s.heap [] := va_S.rf
  have X : Here g p s m c cJ0_length_8abf5 1 ([.ref (g.2.2.1 0)] : List Value).toArray RJ0 A := ⟨⟨hx, hb, hml, hown, hts⟩, hE, hA⟩
  have hl : lv_has ls 1 [(0, .ref (g.2.2.1 0))] := hl
  obtain ⟨H, hH⟩ : ∃ H, H = s.heap := ⟨_, rfl⟩
  obtain ⟨locs, hlocs⟩ : ∃ l : List Loc, l = [] := ⟨_, rfl⟩
  rw [show W p l e rmJ0_length_8abf5 s m ([.ref (g.2.2.1 0)] : List Value).toArray below meth c s.heap [] 0 0 QQ (F0 m 0 ls []) = W p l e rmJ0_length_8abf5 s m ([.ref (g.2.2.1 0)] : List Value).toArray below meth c H locs 0 0 QQ (F0 m 0 ls []) by rw [hH, hlocs]]
  have hP : va_P g.1 vwCl [] H := by rw [hH]; exact hP
  have hD : va_D A [] := hD
  have hS : va_S A s.heap H locs := by rw [hH, hlocs]; exact hS
  clear hH hlocs
  refine lv_aload_n hx hb dJ0_length_8abf5_0 rfl (lv_at hl 0 rfl) ?_
  refine vk_getf (v := .ref (g.2.2.2 0)) hx hb (hE.2.2.1.1 0 (by decide)).2.2.1 hS hown (hts _ wd6_72) (fun _ h9 => h9) dJ0_length_8abf5_1 ?_
  refine va_tlen (v := (6 : Int32)) hx hb (hE.2.2.1.1 0 (by decide)).2.2.2 hS (by decide) dJ0_length_8abf5_4 ?_
  refine lv_aload_n hx hb dJ0_length_8abf5_5 rfl (lv_at hl 0 rfl) ?_
  obtain ⟨t6, hc6, h⟩ := bd1_to h
  refine go_0 (st1 := [.int t6, .int (6 : Int32)]) (run_V (As := []) (rest := [.int (6 : Int32)]) X hS (mJ0_coder_7d493 g l  t6 hc6) okJ0_coder_7d493 wd2_81 ⟨Nat.le_of_ble_eq_true rfl, Nat.le_of_ble_eq_true rfl⟩ ⟨rfl, rfl⟩ (vk_recv hE.2.2.1 (i := 0) (by decide) hS) nil_P nil_D (nil_F hS hA) rfl hl.1 rfl (Nat.le_of_ble_eq_true rfl) dJ0_length_8abf5_6 ⟨Nat.zero_le _, Nat.zero_le _⟩) hS hA hP rfl (fun H locs hP hS => ?_)
  refine lv_ishr hx hb dJ0_length_8abf5_9 ?_
  have h : some (shr (6 : Int32) t6) = some r := h
  cases h
  exact hret _ _ _ _ hP hD hS dJ0_length_8abf5_10
set_option maxHeartbeats 4000000 in
set_option maxRecDepth 100000 in
theorem mJ1_canEncode_9a6ad (g : GP) (l : Launch)  (x0 : Int32) (r : Int32) (h : fJL_canEncode_9a6ad x0 = some r) : Ct g l yJ1_canEncode_9a6ad cJ1_canEncode_9a6ad 1 (some .boolean) rmJ1_canEncode_9a6ad [.int x0] [] (some (.int r)) [] := by
  refine Ct.introZ (by decide) (Nat.le_of_ble_eq_true rfl) ?_
  intro p e s m below meth c A QQ ls hyp hret
  obtain ⟨hx, hb, hml, hts, hown, hA, hE, hP, hD, hl⟩ := hyp
  have hK := hE.1
  have hS : va_S A s.heap s.heap [] := va_S.rf
  have X : Here g p s m c cJ1_canEncode_9a6ad 1 ([.int x0] : List Value).toArray RJ1 A := ⟨⟨hx, hb, hml, hown, hts⟩, hE, hA⟩
  have hl : lv_has ls 1 [(0, .int x0)] := hl
  obtain ⟨H, hH⟩ : ∃ H, H = s.heap := ⟨_, rfl⟩
  obtain ⟨locs, hlocs⟩ : ∃ l : List Loc, l = [] := ⟨_, rfl⟩
  rw [show W p l e rmJ1_canEncode_9a6ad s m ([.int x0] : List Value).toArray below meth c s.heap [] 0 0 QQ (F0 m 0 ls []) = W p l e rmJ1_canEncode_9a6ad s m ([.int x0] : List Value).toArray below meth c H locs 0 0 QQ (F0 m 0 ls []) by rw [hH, hlocs]]
  have hP : va_P g.1 vwCl [] H := by rw [hH]; exact hP
  have hD : va_D A [] := hD
  have hS : va_S A s.heap H locs := by rw [hH, hlocs]; exact hS
  clear hH hlocs
  refine lv_iload_n hx hb dJ1_canEncode_9a6ad_0 rfl (lv_at hl 0 rfl) ?_
  refine lv_if_lt (tgt := 15) hx hb dJ1_canEncode_9a6ad_1 (by decide) (fun q1 => ?_) (fun q1 => ?_)
  · have h := ifT h q1
    refine lv_iconst (v := (0 : Int32)) hx hb dJ1_canEncode_9a6ad_15 (by decide) ?_
    have h : some (0 : Int32) = some r := h
    cases h
    exact hret _ _ _ _ rfl hP hD hS dJ1_canEncode_9a6ad_16
  have h := ifF h q1
  refine lv_iload_n hx hb dJ1_canEncode_9a6ad_4 rfl (lv_at hl 0 rfl) ?_
  refine lv_sipush (v := (255 : Int32)) hx hb dJ1_canEncode_9a6ad_5 (by decide) ?_
  refine lv_icmp_gt (tgt := 15) hx hb dJ1_canEncode_9a6ad_8 (by decide) (fun q8 => ?_) (fun q8 => ?_)
  · have h := ifT h q8
    refine lv_iconst (v := (0 : Int32)) hx hb dJ1_canEncode_9a6ad_15 (by decide) ?_
    have h : some (0 : Int32) = some r := h
    cases h
    exact hret _ _ _ _ rfl hP hD hS dJ1_canEncode_9a6ad_16
  have h := ifF h q8
  refine lv_iconst (v := (1 : Int32)) hx hb dJ1_canEncode_9a6ad_11 (by decide) ?_
  refine lv_goto (tgt := 16) hx hb dJ1_canEncode_9a6ad_12 (by decide) ?_
  have h : some (1 : Int32) = some r := h
  cases h
  exact hret _ _ _ _ rfl hP hD hS dJ1_canEncode_9a6ad_16
set_option maxHeartbeats 4000000 in
set_option maxRecDepth 100000 in
theorem mJ1_indexOfChar_4cfef (g : GP) (l : Launch)  (x1 : Int32) (x2 : Int32) (x3 : Int32) (r : Int32) (h : fJL_indexOfChar_4cfef x1 x2 x3 = some r) : Ct g l yJ1_indexOfChar_4cfef cJ1_indexOfChar_4cfef 6 (some .int) rmJ1_indexOfChar_4cfef [.ref (g.2.2.2 0), .int x1, .int x2, .int x3] [] (some (.int r)) [] := by
  refine Ct.introI (by decide) (Nat.le_of_ble_eq_true rfl) ?_
  intro p e s m below meth c A QQ ls hyp hret
  obtain ⟨hx, hb, hml, hts, hown, hA, hE, hP, hD, hl⟩ := hyp
  have hK := hE.1
  have hS : va_S A s.heap s.heap [] := va_S.rf
  have X : Here g p s m c cJ1_indexOfChar_4cfef 6 ([.ref (g.2.2.2 0), .int x1, .int x2, .int x3] : List Value).toArray RJ1 A := ⟨⟨hx, hb, hml, hown, hts⟩, hE, hA⟩
  have L7 : ∀ (n7 : Nat), ∀ (v4 : Int32) (v5 : Int32) (ls : Array Slot) (H : Heap) (locs : List Loc), lv_has ls 6 [(0, .ref (g.2.2.2 0)), (3, .int x3), (4, .int v4), (5, .int v5)] → va_P g.1 vwCl [] H → va_D A [] → va_S A s.heap H locs → fx1 (fJL_indexOfChar_4cfef_7 x3 v4) n7 v5 = some r → W p l e rmJ1_indexOfChar_4cfef s m ([.ref (g.2.2.2 0), .int x1, .int x2, .int x3] : List Value).toArray below meth c H locs 0 0 QQ (F0 m 7 ls []) := by
    intro n7
    induction n7 with
    | zero => intro v4 v5 ls H locs hl hP hD hS h; exact fx1_0 h
    | succ n7 ih7 =>
      intro v4 v5 ls H locs hl hP hD hS h
      have h := (fx1_s (fJL_indexOfChar_4cfef_7 x3 v4) n7 v5).symm.trans h
      refine lv_iload hx hb dJ1_indexOfChar_4cfef_7 (lv_at hl 3 rfl) ?_
      refine lv_iload_n hx hb dJ1_indexOfChar_4cfef_9 rfl (lv_at hl 1 rfl) ?_
      refine lv_icmp_ge (tgt := 31) hx hb dJ1_indexOfChar_4cfef_10 (by decide) (fun q10 => ?_) (fun q10 => ?_)
      · have h := ifT h q10
        refine lv_iconst (v := ((-1) : Int32)) hx hb dJ1_indexOfChar_4cfef_31 (by decide) ?_
        have h : some ((-1) : Int32) = some r := h
        cases h
        exact hret _ _ _ _ hP hD hS dJ1_indexOfChar_4cfef_32
      have h := ifF h q10
      refine lv_aload_n hx hb dJ1_indexOfChar_4cfef_13 rfl (lv_at hl 0 rfl) ?_
      refine lv_iload hx hb dJ1_indexOfChar_4cfef_14 (lv_at hl 3 rfl) ?_
      have hin := ld_in h
      refine va_tb (v := .int (sc_bytes.getD (Int32.toNatClampNeg v5) 0)) hx hb (hE.2.2.1.1 0 (by decide)).2.2.2 hS hin rfl dJ1_indexOfChar_4cfef_16 ?_
      refine lv_topi (fun t16 et16 => ?_)
      have h := ld_to h et16
      refine lv_iload hx hb dJ1_indexOfChar_4cfef_17 (lv_at hl 2 rfl) ?_
      refine lv_icmp_ne (tgt := 25) hx hb dJ1_indexOfChar_4cfef_19 (by decide) (fun q19 => ?_) (fun q19 => ?_)
      · have h := ifF h q19
        obtain ⟨t25, et25⟩ : ∃ y : Int32, y = v5 + (1 : Int32) := ⟨_, rfl⟩
        refine lv_iinc (v := t25) (lv' := [(5, .int t25), (0, .ref (g.2.2.2 0)), (3, .int x3), (4, .int v4)]) hx hb dJ1_indexOfChar_4cfef_25 hl (k := 3) rfl (by rw [et25]; rfl) (by decide) rfl (fun ls hl => ?_)
        have h := st_to h et25
        refine lv_goto (tgt := 7) hx hb dJ1_indexOfChar_4cfef_28 (by decide) ?_
        exact ih7 v4 t25 ls H locs (lv_sub hl [1, 2, 3, 0] rfl) hP hD hS h
      have h := ifT h q19
      refine lv_iload hx hb dJ1_indexOfChar_4cfef_22 (lv_at hl 3 rfl) ?_
      have h : some v5 = some r := h
      cases h
      exact hret _ _ _ _ hP hD hS dJ1_indexOfChar_4cfef_24
  have hl : lv_has ls 6 [(0, .ref (g.2.2.2 0)), (1, .int x1), (2, .int x2), (3, .int x3)] := hl
  obtain ⟨H, hH⟩ : ∃ H, H = s.heap := ⟨_, rfl⟩
  obtain ⟨locs, hlocs⟩ : ∃ l : List Loc, l = [] := ⟨_, rfl⟩
  rw [show W p l e rmJ1_indexOfChar_4cfef s m ([.ref (g.2.2.2 0), .int x1, .int x2, .int x3] : List Value).toArray below meth c s.heap [] 0 0 QQ (F0 m 0 ls []) = W p l e rmJ1_indexOfChar_4cfef s m ([.ref (g.2.2.2 0), .int x1, .int x2, .int x3] : List Value).toArray below meth c H locs 0 0 QQ (F0 m 0 ls []) by rw [hH, hlocs]]
  have hP : va_P g.1 vwCl [] H := by rw [hH]; exact hP
  have hD : va_D A [] := hD
  have hS : va_S A s.heap H locs := by rw [hH, hlocs]; exact hS
  clear hH hlocs
  refine lv_iload_n hx hb dJ1_indexOfChar_4cfef_0 rfl (lv_at hl 1 rfl) ?_
  refine lv_i2b (v := (i2b x1)) hx hb dJ1_indexOfChar_4cfef_1 rfl ?_
  refine lv_topi (fun t2 et2 => ?_)
  have h := st_to h et2
  refine lv_istore (lv' := [(4, .int t2), (0, .ref (g.2.2.2 0)), (1, .int x1), (2, .int x2), (3, .int x3)]) hx hb dJ1_indexOfChar_4cfef_2 hl (by decide) rfl (fun ls hl => ?_)
  refine lv_iload_n hx hb dJ1_indexOfChar_4cfef_4 rfl (lv_at hl 3 rfl) ?_
  refine lv_istore (lv' := [(5, .int x2), (4, .int t2), (0, .ref (g.2.2.2 0)), (1, .int x1), (2, .int x2), (3, .int x3)]) hx hb dJ1_indexOfChar_4cfef_5 hl (by decide) rfl (fun ls hl => ?_)
  exact L7 FU t2 x2 ls H locs (lv_sub hl [2, 5, 1, 0] rfl) hP hD hS h
set_option maxHeartbeats 4000000 in
set_option maxRecDepth 100000 in
theorem mJ1_indexOf_4cfef (g : GP) (l : Launch)  (x1 : Int32) (x2 : Int32) (x3 : Int32) (r : Int32) (h : fJL_indexOf_4cfef x1 x2 x3 = some r) : Ct g l yJ1_indexOf_4cfef cJ1_indexOf_4cfef 4 (some .int) rmJ1_indexOf_4cfef [.ref (g.2.2.2 0), .int x1, .int x2, .int x3] [] (some (.int r)) [] := by
  refine Ct.introI (by decide) (Nat.le_of_ble_eq_true rfl) ?_
  intro p e s m below meth c A QQ ls hyp hret
  obtain ⟨hx, hb, hml, hts, hown, hA, hE, hP, hD, hl⟩ := hyp
  have hK := hE.1
  have hS : va_S A s.heap s.heap [] := va_S.rf
  have X : Here g p s m c cJ1_indexOf_4cfef 4 ([.ref (g.2.2.2 0), .int x1, .int x2, .int x3] : List Value).toArray RJ1 A := ⟨⟨hx, hb, hml, hown, hts⟩, hE, hA⟩
  have hl : lv_has ls 4 [(0, .ref (g.2.2.2 0)), (1, .int x1), (2, .int x2), (3, .int x3)] := hl
  obtain ⟨H, hH⟩ : ∃ H, H = s.heap := ⟨_, rfl⟩
  obtain ⟨locs, hlocs⟩ : ∃ l : List Loc, l = [] := ⟨_, rfl⟩
  rw [show W p l e rmJ1_indexOf_4cfef s m ([.ref (g.2.2.2 0), .int x1, .int x2, .int x3] : List Value).toArray below meth c s.heap [] 0 0 QQ (F0 m 0 ls []) = W p l e rmJ1_indexOf_4cfef s m ([.ref (g.2.2.2 0), .int x1, .int x2, .int x3] : List Value).toArray below meth c H locs 0 0 QQ (F0 m 0 ls []) by rw [hH, hlocs]]
  have hP : va_P g.1 vwCl [] H := by rw [hH]; exact hP
  have hD : va_D A [] := hD
  have hS : va_S A s.heap H locs := by rw [hH, hlocs]; exact hS
  clear hH hlocs
  refine lv_iload_n hx hb dJ1_indexOf_4cfef_0 rfl (lv_at hl 1 rfl) ?_
  obtain ⟨t1, hc1, h⟩ := bd1_to h
  refine go_0 (st1 := [.int t1]) (run_S (As := [.int x1]) (rest := []) X hS (mJ1_canEncode_9a6ad g l  x1 t1 hc1) okJ1_canEncode_9a6ad wd2_88 ⟨Nat.le_of_ble_eq_true rfl, Nat.le_of_ble_eq_true rfl⟩ ⟨rfl, rfl⟩ nil_P nil_D (nil_F hS hA) rfl hl.1 rfl (Nat.le_of_ble_eq_true rfl) dJ1_indexOf_4cfef_1 ⟨Nat.zero_le _, Nat.zero_le _⟩) hS hA hP rfl (fun H locs hP hS => ?_)
  refine lv_if_ne (tgt := 9) hx hb dJ1_indexOf_4cfef_4 (by decide) (fun q4 => ?_) (fun q4 => ?_)
  · have h := ifF h q4
    refine lv_iload_n hx hb dJ1_indexOf_4cfef_9 rfl (lv_at hl 2 rfl) ?_
    refine lv_iconst (v := (0 : Int32)) hx hb dJ1_indexOf_4cfef_10 (by decide) ?_
    refine va_mmax hx hb (by rw [hml]; exact hl.1.symm) hown (hts _ wd2_91) (hts _ wd2_92) (hts _ wd1_16) (hts _ wd2_93) (Nat.le_of_ble_eq_true rfl) (Nat.le_of_ble_eq_true rfl) (Nat.zero_le _) (Nat.zero_le _) dJ1_indexOf_4cfef_11 ?_
    refine lv_topi (fun t14 et14 => ?_)
    have h := st_to h et14
    refine lv_istore_n (lv' := [(2, .int t14), (0, .ref (g.2.2.2 0)), (1, .int x1), (3, .int x3)]) hx hb dJ1_indexOf_4cfef_14 rfl hl (by decide) rfl (fun ls hl => ?_)
    refine lv_iload_n hx hb dJ1_indexOf_4cfef_15 rfl (lv_at hl 3 rfl) ?_
    refine lv_aload_n hx hb dJ1_indexOf_4cfef_16 rfl (lv_at hl 1 rfl) ?_
    refine va_tlen (v := (6 : Int32)) hx hb (hE.2.2.1.1 0 (by decide)).2.2.2 hS (by decide) dJ1_indexOf_4cfef_17 ?_
    refine va_mmin hx hb (by rw [hml]; exact hl.1.symm) hown (hts _ wd2_94) (hts _ wd2_95) (hts _ wd1_16) (hts _ wd2_96) (Nat.le_of_ble_eq_true rfl) (Nat.le_of_ble_eq_true rfl) (Nat.zero_le _) (Nat.zero_le _) dJ1_indexOf_4cfef_18 ?_
    refine lv_topi (fun t21 et21 => ?_)
    have h := st_to h et21
    refine lv_istore_n (lv' := [(3, .int t21), (2, .int t14), (0, .ref (g.2.2.2 0)), (1, .int x1)]) hx hb dJ1_indexOf_4cfef_21 rfl hl (by decide) rfl (fun ls hl => ?_)
    refine lv_iload_n hx hb dJ1_indexOf_4cfef_22 rfl (lv_at hl 1 rfl) ?_
    refine lv_iload_n hx hb dJ1_indexOf_4cfef_23 rfl (lv_at hl 0 rfl) ?_
    refine lv_icmp_lt (tgt := 29) hx hb dJ1_indexOf_4cfef_24 (by decide) (fun q24 => ?_) (fun q24 => ?_)
    · have h := ifT h q24
      refine lv_aload_n hx hb dJ1_indexOf_4cfef_29 rfl (lv_at hl 2 rfl) ?_
      refine lv_iload_n hx hb dJ1_indexOf_4cfef_30 rfl (lv_at hl 3 rfl) ?_
      refine lv_iload_n hx hb dJ1_indexOf_4cfef_31 rfl (lv_at hl 1 rfl) ?_
      refine lv_iload_n hx hb dJ1_indexOf_4cfef_32 rfl (lv_at hl 0 rfl) ?_
      obtain ⟨t33, hc33, h⟩ := bd1_to h
      refine go_0 (st1 := [.int t33]) (run_S (As := [.ref (g.2.2.2 0), .int x1, .int t14, .int t21]) (rest := []) X hS (mJ1_indexOfChar_4cfef g l  x1 t14 t21 t33 hc33) okJ1_indexOfChar_4cfef wd2_97 ⟨Nat.le_of_ble_eq_true rfl, Nat.le_of_ble_eq_true rfl⟩ ⟨rfl, rfl⟩ nil_P nil_D (nil_F hS hA) rfl hl.1 rfl (Nat.le_of_ble_eq_true rfl) dJ1_indexOf_4cfef_33 ⟨Nat.zero_le _, Nat.zero_le _⟩) hS hA hP rfl (fun H locs hP hS => ?_)
      have h : some t33 = some r := h
      cases h
      exact hret _ _ _ _ hP hD hS dJ1_indexOf_4cfef_36
    have h := ifF h q24
    refine lv_iconst (v := ((-1) : Int32)) hx hb dJ1_indexOf_4cfef_27 (by decide) ?_
    have h : some ((-1) : Int32) = some r := h
    cases h
    exact hret _ _ _ _ hP hD hS dJ1_indexOf_4cfef_28
  have h := ifT h q4
  refine lv_iconst (v := ((-1) : Int32)) hx hb dJ1_indexOf_4cfef_7 (by decide) ?_
  have h : some ((-1) : Int32) = some r := h
  cases h
  exact hret _ _ _ _ hP hD hS dJ1_indexOf_4cfef_8
set_option maxHeartbeats 4000000 in
set_option maxRecDepth 100000 in
theorem mJ0_indexOf_7cf53 (g : GP) (l : Launch)  (x1 : Int32) (x2 : Int32) (r : Int32) (h : fJS_indexOf_7cf53 x1 x2 = some r) : Ct g l yJ0_indexOf_7cf53 cJ0_indexOf_7cf53 3 (some .int) rmJ0_indexOf_7cf53 [.ref (g.2.2.1 0), .int x1, .int x2] [] (some (.int r)) [] := by
  refine Ct.introI (by decide) (Nat.le_of_ble_eq_true rfl) ?_
  intro p e s m below meth c A QQ ls hyp hret
  obtain ⟨hx, hb, hml, hts, hown, hA, hE, hP, hD, hl⟩ := hyp
  have hK := hE.1
  have hS : va_S A s.heap s.heap [] := va_S.rf
  have X : Here g p s m c cJ0_indexOf_7cf53 3 ([.ref (g.2.2.1 0), .int x1, .int x2] : List Value).toArray RJ0 A := ⟨⟨hx, hb, hml, hown, hts⟩, hE, hA⟩
  have hl : lv_has ls 3 [(0, .ref (g.2.2.1 0)), (1, .int x1), (2, .int x2)] := hl
  obtain ⟨H, hH⟩ : ∃ H, H = s.heap := ⟨_, rfl⟩
  obtain ⟨locs, hlocs⟩ : ∃ l : List Loc, l = [] := ⟨_, rfl⟩
  rw [show W p l e rmJ0_indexOf_7cf53 s m ([.ref (g.2.2.1 0), .int x1, .int x2] : List Value).toArray below meth c s.heap [] 0 0 QQ (F0 m 0 ls []) = W p l e rmJ0_indexOf_7cf53 s m ([.ref (g.2.2.1 0), .int x1, .int x2] : List Value).toArray below meth c H locs 0 0 QQ (F0 m 0 ls []) by rw [hH, hlocs]]
  have hP : va_P g.1 vwCl [] H := by rw [hH]; exact hP
  have hD : va_D A [] := hD
  have hS : va_S A s.heap H locs := by rw [hH, hlocs]; exact hS
  clear hH hlocs
  refine lv_aload_n hx hb dJ0_indexOf_7cf53_0 rfl (lv_at hl 0 rfl) ?_
  obtain ⟨t1, hc1, h⟩ := bd1_to h
  refine go_0 (st1 := [.int t1]) (run_V (As := []) (rest := []) X hS (mJ0_isLatin1_aae02 g l  t1 hc1) okJ0_isLatin1_aae02 wd2_71 ⟨Nat.le_of_ble_eq_true rfl, Nat.le_of_ble_eq_true rfl⟩ ⟨rfl, rfl⟩ (vk_recv hE.2.2.1 (i := 0) (by decide) hS) nil_P nil_D (nil_F hS hA) rfl hl.1 rfl (Nat.le_of_ble_eq_true rfl) dJ0_indexOf_7cf53_1 ⟨Nat.zero_le _, Nat.zero_le _⟩) hS hA hP rfl (fun H locs hP hS => ?_)
  refine lv_if_eq (tgt := 23) hx hb dJ0_indexOf_7cf53_4 (by decide) (fun q4 => ?_) (fun q4 => ?_)
  · have h := ifT h q4
    refine lv_aload_n hx hb dJ0_indexOf_7cf53_23 rfl (lv_at hl 0 rfl) ?_
    refine vk_getf (v := .ref (g.2.2.2 0)) hx hb (hE.2.2.1.1 0 (by decide)).2.2.1 hS hown (hts _ wd6_72) (fun _ h9 => h9) dJ0_indexOf_7cf53_24 ?_
    refine lv_iload_n hx hb dJ0_indexOf_7cf53_27 rfl (lv_at hl 1 rfl) ?_
    refine lv_iload_n hx hb dJ0_indexOf_7cf53_28 rfl (lv_at hl 2 rfl) ?_
    refine lv_aload_n hx hb dJ0_indexOf_7cf53_29 rfl (lv_at hl 0 rfl) ?_
    obtain ⟨t30, hc30, h⟩ := bd1_to h
    refine go_0 (st1 := [.int t30, .int x2, .int x1, .ref (g.2.2.2 0)]) (run_V (As := []) (rest := [.int x2, .int x1, .ref (g.2.2.2 0)]) X hS (mJ0_length_8abf5 g l  t30 hc30) okJ0_length_8abf5 wd2_77 ⟨Nat.le_of_ble_eq_true rfl, Nat.le_of_ble_eq_true rfl⟩ ⟨rfl, rfl⟩ (vk_recv hE.2.2.1 (i := 0) (by decide) hS) nil_P nil_D (nil_F hS hA) rfl hl.1 rfl (Nat.le_of_ble_eq_true rfl) dJ0_indexOf_7cf53_30 ⟨Nat.zero_le _, Nat.zero_le _⟩) hS hA hP rfl (fun H locs hP hS => ?_)
    cases h
  have h := ifF h q4
  refine lv_aload_n hx hb dJ0_indexOf_7cf53_7 rfl (lv_at hl 0 rfl) ?_
  refine vk_getf (v := .ref (g.2.2.2 0)) hx hb (hE.2.2.1.1 0 (by decide)).2.2.1 hS hown (hts _ wd6_72) (fun _ h9 => h9) dJ0_indexOf_7cf53_8 ?_
  refine lv_iload_n hx hb dJ0_indexOf_7cf53_11 rfl (lv_at hl 1 rfl) ?_
  refine lv_iload_n hx hb dJ0_indexOf_7cf53_12 rfl (lv_at hl 2 rfl) ?_
  refine lv_aload_n hx hb dJ0_indexOf_7cf53_13 rfl (lv_at hl 0 rfl) ?_
  obtain ⟨t14, hc14, h⟩ := bd1_to h
  refine go_0 (st1 := [.int t14, .int x2, .int x1, .ref (g.2.2.2 0)]) (run_V (As := []) (rest := [.int x2, .int x1, .ref (g.2.2.2 0)]) X hS (mJ0_length_8abf5 g l  t14 hc14) okJ0_length_8abf5 wd2_77 ⟨Nat.le_of_ble_eq_true rfl, Nat.le_of_ble_eq_true rfl⟩ ⟨rfl, rfl⟩ (vk_recv hE.2.2.1 (i := 0) (by decide) hS) nil_P nil_D (nil_F hS hA) rfl hl.1 rfl (Nat.le_of_ble_eq_true rfl) dJ0_indexOf_7cf53_14 ⟨Nat.zero_le _, Nat.zero_le _⟩) hS hA hP rfl (fun H locs hP hS => ?_)
  obtain ⟨t17, hc17, h⟩ := bd1_to h
  refine go_0 (st1 := [.int t17]) (run_S (As := [.ref (g.2.2.2 0), .int x1, .int x2, .int t14]) (rest := []) X hS (mJ1_indexOf_4cfef g l  x1 x2 t14 t17 hc17) okJ1_indexOf_4cfef wd2_85 ⟨Nat.le_of_ble_eq_true rfl, Nat.le_of_ble_eq_true rfl⟩ ⟨rfl, rfl⟩ nil_P nil_D (nil_F hS hA) rfl hl.1 rfl (Nat.le_of_ble_eq_true rfl) dJ0_indexOf_7cf53_17 ⟨Nat.zero_le _, Nat.zero_le _⟩) hS hA hP rfl (fun H locs hP hS => ?_)
  refine lv_goto (tgt := 36) hx hb dJ0_indexOf_7cf53_20 (by decide) ?_
  have h : some t17 = some r := h
  cases h
  exact hret _ _ _ _ hP hD hS dJ0_indexOf_7cf53_36
set_option maxHeartbeats 4000000 in
set_option maxRecDepth 100000 in
theorem mJ0_indexOf_0f7a4 (g : GP) (l : Launch)  (x1 : Int32) (r : Int32) (h : fJS_indexOf_0f7a4 x1 = some r) : Ct g l yJ0_indexOf_0f7a4 cJ0_indexOf_0f7a4 2 (some .int) rmJ0_indexOf_0f7a4 [.ref (g.2.2.1 0), .int x1] [] (some (.int r)) [] := by
  refine Ct.introI (by decide) (Nat.le_of_ble_eq_true rfl) ?_
  intro p e s m below meth c A QQ ls hyp hret
  obtain ⟨hx, hb, hml, hts, hown, hA, hE, hP, hD, hl⟩ := hyp
  have hK := hE.1
  have hS : va_S A s.heap s.heap [] := va_S.rf
  have X : Here g p s m c cJ0_indexOf_0f7a4 2 ([.ref (g.2.2.1 0), .int x1] : List Value).toArray RJ0 A := ⟨⟨hx, hb, hml, hown, hts⟩, hE, hA⟩
  have hl : lv_has ls 2 [(0, .ref (g.2.2.1 0)), (1, .int x1)] := hl
  obtain ⟨H, hH⟩ : ∃ H, H = s.heap := ⟨_, rfl⟩
  obtain ⟨locs, hlocs⟩ : ∃ l : List Loc, l = [] := ⟨_, rfl⟩
  rw [show W p l e rmJ0_indexOf_0f7a4 s m ([.ref (g.2.2.1 0), .int x1] : List Value).toArray below meth c s.heap [] 0 0 QQ (F0 m 0 ls []) = W p l e rmJ0_indexOf_0f7a4 s m ([.ref (g.2.2.1 0), .int x1] : List Value).toArray below meth c H locs 0 0 QQ (F0 m 0 ls []) by rw [hH, hlocs]]
  have hP : va_P g.1 vwCl [] H := by rw [hH]; exact hP
  have hD : va_D A [] := hD
  have hS : va_S A s.heap H locs := by rw [hH, hlocs]; exact hS
  clear hH hlocs
  refine lv_aload_n hx hb dJ0_indexOf_0f7a4_0 rfl (lv_at hl 0 rfl) ?_
  refine lv_iload_n hx hb dJ0_indexOf_0f7a4_1 rfl (lv_at hl 1 rfl) ?_
  refine lv_iconst (v := (0 : Int32)) hx hb dJ0_indexOf_0f7a4_2 (by decide) ?_
  obtain ⟨t3, hc3, h⟩ := bd1_to h
  refine go_0 (st1 := [.int t3]) (run_V (As := [.int x1, .int (0 : Int32)]) (rest := []) X hS (mJ0_indexOf_7cf53 g l  x1 (0 : Int32) t3 hc3) okJ0_indexOf_7cf53 wd2_67 ⟨Nat.le_of_ble_eq_true rfl, Nat.le_of_ble_eq_true rfl⟩ ⟨rfl, rfl⟩ (vk_recv hE.2.2.1 (i := 0) (by decide) hS) nil_P nil_D (nil_F hS hA) rfl hl.1 rfl (Nat.le_of_ble_eq_true rfl) dJ0_indexOf_0f7a4_3 ⟨Nat.zero_le _, Nat.zero_le _⟩) hS hA hP rfl (fun H locs hP hS => ?_)
  have h : some t3 = some r := h
  cases h
  exact hret _ _ _ _ hP hD hS dJ0_indexOf_0f7a4_6
set_option maxHeartbeats 4000000 in
set_option maxRecDepth 100000 in
theorem mX9_symbolOf (g : GP) (l : Launch)  (x0 : Int32) (r : Int32) (h : fZ_symbolOf x0 = some r) : Ct g l yX9_symbolOf cX9_symbolOf 1 (some .int) rmX9_symbolOf [.int x0] [] (some (.int r)) [] := by
  refine Ct.introI (by decide) (Nat.le_of_ble_eq_true rfl) ?_
  intro p e s m below meth c A QQ ls hyp hret
  obtain ⟨hx, hb, hml, hts, hown, hA, hE, hP, hD, hl⟩ := hyp
  have hK := hE.1
  have hS : va_S A s.heap s.heap [] := va_S.rf
  have X : Here g p s m c cX9_symbolOf 1 ([.int x0] : List Value).toArray RX9 A := ⟨⟨hx, hb, hml, hown, hts⟩, hE, hA⟩
  have hl : lv_has ls 1 [(0, .int x0)] := hl
  obtain ⟨H, hH⟩ : ∃ H, H = s.heap := ⟨_, rfl⟩
  obtain ⟨locs, hlocs⟩ : ∃ l : List Loc, l = [] := ⟨_, rfl⟩
  rw [show W p l e rmX9_symbolOf s m ([.int x0] : List Value).toArray below meth c s.heap [] 0 0 QQ (F0 m 0 ls []) = W p l e rmX9_symbolOf s m ([.int x0] : List Value).toArray below meth c H locs 0 0 QQ (F0 m 0 ls []) by rw [hH, hlocs]]
  have hP : va_P g.1 vwCl [] H := by rw [hH]; exact hP
  have hD : va_D A [] := hD
  have hS : va_S A s.heap H locs := by rw [hH, hlocs]; exact hS
  clear hH hlocs
  refine va_ldcS hx hb hown hE.2.2.2.1 dX9_symbolOf_0 ?_
  refine lv_iload_n hx hb dX9_symbolOf_2 rfl (lv_at hl 0 rfl) ?_
  obtain ⟨t3, hc3, h⟩ := bd1_to h
  refine go_0 (st1 := [.int t3]) (run_V (As := [.int x0]) (rest := []) X hS (mJ0_indexOf_0f7a4 g l  x0 t3 hc3) okJ0_indexOf_0f7a4 wd2_63 ⟨Nat.le_of_ble_eq_true rfl, Nat.le_of_ble_eq_true rfl⟩ ⟨rfl, rfl⟩ (vk_recv hE.2.2.1 (i := 0) (by decide) hS) nil_P nil_D (nil_F hS hA) rfl hl.1 rfl (Nat.le_of_ble_eq_true rfl) dX9_symbolOf_3 ⟨Nat.zero_le _, Nat.zero_le _⟩) hS hA hP rfl (fun H locs hP hS => ?_)
  refine lv_iconst (v := (1 : Int32)) hx hb dX9_symbolOf_6 (by decide) ?_
  refine lv_iadd hx hb dX9_symbolOf_7 ?_
  have h : some (t3 + (1 : Int32)) = some r := h
  cases h
  exact hret _ _ _ _ hP hD hS dX9_symbolOf_8
set_option maxHeartbeats 4000000 in
set_option maxRecDepth 100000 in
theorem mX3_endOfSide (g : GP) (l : Launch) (aT aT_characters : Nat) (T_size : Int32) (T_characters : Nat → Int32) (x1 : Int32) (r : Int32) (h : fT_endOfSide T_size T_characters x1 = some r) : Ct g l yX3_endOfSide cX3_endOfSide 3 (some .int) rmX3_endOfSide [.ref aT, .int x1] (wX3 g aT aT_characters T_size T_characters) (some (.int r)) (wX3 g aT aT_characters T_size T_characters) := by
  refine Ct.introI (by decide) (Nat.le_of_ble_eq_true rfl) ?_
  intro p e s m below meth c A QQ ls hyp hret
  obtain ⟨hx, hb, hml, hts, hown, hA, hE, hP, hD, hl⟩ := hyp
  have hK := hE.1
  have hS : va_S A s.heap s.heap [] := va_S.rf
  have X : Here g p s m c cX3_endOfSide 3 ([.ref aT, .int x1] : List Value).toArray RX3 A := ⟨⟨hx, hb, hml, hown, hts⟩, hE, hA⟩
  have L2 : ∀ (n2 : Nat), ∀ (v2 : Int32) (ls : Array Slot) (H : Heap) (locs : List Loc), lv_has ls 3 [(0, .ref aT), (1, .int x1), (2, .int v2)] → va_P g.1 vwCl (wX3 g aT aT_characters T_size T_characters) H → va_D A (wX3 g aT aT_characters T_size T_characters) → va_S A s.heap H locs → fx1 (fT_endOfSide_2 T_size T_characters x1) n2 v2 = some r → W p l e rmX3_endOfSide s m ([.ref aT, .int x1] : List Value).toArray below meth c H locs 0 0 QQ (F0 m 2 ls []) := by
    intro n2
    induction n2 with
    | zero => intro v2 ls H locs hl hP hD hS h; exact fx1_0 h
    | succ n2 ih2 =>
      intro v2 ls H locs hl hP hD hS h
      have h := (fx1_s (fT_endOfSide_2 T_size T_characters x1) n2 v2).symm.trans h
      refine lv_iload_n hx hb dX3_endOfSide_2 rfl (lv_at hl 2 rfl) ?_
      refine lv_iload_n hx hb dX3_endOfSide_3 rfl (lv_at hl 1 rfl) ?_
      refine lv_bipush (v := (8 : Int32)) hx hb dX3_endOfSide_4 (by decide) ?_
      refine lv_iadd hx hb dX3_endOfSide_6 ?_
      refine lv_icmp_ge (tgt := 27) hx hb dX3_endOfSide_7 (by decide) (fun q7 => ?_) (fun q7 => ?_)
      · have h := ifT h q7
        refine lv_iload_n hx hb dX3_endOfSide_27 rfl (lv_at hl 2 rfl) ?_
        have h : some v2 = some r := h
        cases h
        exact hret _ _ _ _ hP hD hS dX3_endOfSide_28
      have h := ifF h q7
      refine lv_aload_n hx hb dX3_endOfSide_10 rfl (lv_at hl 0 rfl) ?_
      refine lv_iload_n hx hb dX3_endOfSide_11 rfl (lv_at hl 2 rfl) ?_
      obtain ⟨t12, hc12, h⟩ := bd1_to h
      refine go_A (st1 := [.int t12]) (run_V (As := [.int v2]) (rest := []) X hS (mX3_at g l  aT aT_characters T_size T_characters v2 t12 hc12) okX3_at wd2_55 ⟨Nat.le_of_ble_eq_true rfl, Nat.le_of_ble_eq_true rfl⟩ ⟨rfl, rfl⟩ (va_recv hK hP (ci := 3) (q0 := 0) rfl rfl) hP hD (all_F hS hA hD) rfl hl.1 rfl (Nat.le_of_ble_eq_true rfl) dX3_endOfSide_12 ⟨Nat.zero_le _, Nat.zero_le _⟩) hS (all_F hS hA hD) rfl (fun H locs hP hD hS => ?_)
      obtain ⟨t15, hc15, h⟩ := bd1_to h
      refine go_0 (st1 := [.int t15]) (run_S (As := [.int t12]) (rest := []) X hS (mX9_symbolOf g l  t12 t15 hc15) okX9_symbolOf wd2_59 ⟨Nat.le_of_ble_eq_true rfl, Nat.le_of_ble_eq_true rfl⟩ ⟨rfl, rfl⟩ nil_P nil_D (nil_F hS hA) rfl hl.1 rfl (Nat.le_of_ble_eq_true rfl) dX3_endOfSide_15 ⟨Nat.zero_le _, Nat.zero_le _⟩) hS hA hP rfl (fun H locs hP hS => ?_)
      refine lv_if_eq (tgt := 27) hx hb dX3_endOfSide_18 (by decide) (fun q18 => ?_) (fun q18 => ?_)
      · have h := ifT h q18
        refine lv_iload_n hx hb dX3_endOfSide_27 rfl (lv_at hl 2 rfl) ?_
        have h : some v2 = some r := h
        cases h
        exact hret _ _ _ _ hP hD hS dX3_endOfSide_28
      have h := ifF h q18
      obtain ⟨t21, et21⟩ : ∃ y : Int32, y = v2 + (1 : Int32) := ⟨_, rfl⟩
      refine lv_iinc (v := t21) (lv' := [(2, .int t21), (0, .ref aT), (1, .int x1)]) hx hb dX3_endOfSide_21 hl (k := 2) rfl (by rw [et21]; rfl) (by decide) rfl (fun ls hl => ?_)
      have h := st_to h et21
      refine lv_goto (tgt := 2) hx hb dX3_endOfSide_24 (by decide) ?_
      exact ih2 t21 ls H locs (lv_sub hl [1, 2, 0] rfl) hP hD hS h
  have hl : lv_has ls 3 [(0, .ref aT), (1, .int x1)] := hl
  obtain ⟨H, hH⟩ : ∃ H, H = s.heap := ⟨_, rfl⟩
  obtain ⟨locs, hlocs⟩ : ∃ l : List Loc, l = [] := ⟨_, rfl⟩
  rw [show W p l e rmX3_endOfSide s m ([.ref aT, .int x1] : List Value).toArray below meth c s.heap [] 0 0 QQ (F0 m 0 ls []) = W p l e rmX3_endOfSide s m ([.ref aT, .int x1] : List Value).toArray below meth c H locs 0 0 QQ (F0 m 0 ls []) by rw [hH, hlocs]]
  have hP : va_P g.1 vwCl (wX3 g aT aT_characters T_size T_characters) H := by rw [hH]; exact hP
  have hD : va_D A (wX3 g aT aT_characters T_size T_characters) := hD
  have hS : va_S A s.heap H locs := by rw [hH, hlocs]; exact hS
  clear hH hlocs
  refine lv_iload_n hx hb dX3_endOfSide_0 rfl (lv_at hl 1 rfl) ?_
  refine lv_istore_n (lv' := [(2, .int x1), (0, .ref aT), (1, .int x1)]) hx hb dX3_endOfSide_1 rfl hl (by decide) rfl (fun ls hl => ?_)
  exact L2 FU x1 ls H locs (lv_sub hl [1, 2, 0] rfl) hP hD hS h
set_option maxHeartbeats 4000000 in
set_option maxRecDepth 100000 in
theorem mX9_isVariableSymbol (g : GP) (l : Launch)  (x0 : Int32) (r : Int32) (h : fZ_isVariableSymbol x0 = some r) : Ct g l yX9_isVariableSymbol cX9_isVariableSymbol 1 (some .boolean) rmX9_isVariableSymbol [.int x0] [] (some (.int r)) [] := by
  refine Ct.introZ (by decide) (Nat.le_of_ble_eq_true rfl) ?_
  intro p e s m below meth c A QQ ls hyp hret
  obtain ⟨hx, hb, hml, hts, hown, hA, hE, hP, hD, hl⟩ := hyp
  have hK := hE.1
  have hS : va_S A s.heap s.heap [] := va_S.rf
  have X : Here g p s m c cX9_isVariableSymbol 1 ([.int x0] : List Value).toArray RX9 A := ⟨⟨hx, hb, hml, hown, hts⟩, hE, hA⟩
  have hl : lv_has ls 1 [(0, .int x0)] := hl
  obtain ⟨H, hH⟩ : ∃ H, H = s.heap := ⟨_, rfl⟩
  obtain ⟨locs, hlocs⟩ : ∃ l : List Loc, l = [] := ⟨_, rfl⟩
  rw [show W p l e rmX9_isVariableSymbol s m ([.int x0] : List Value).toArray below meth c s.heap [] 0 0 QQ (F0 m 0 ls []) = W p l e rmX9_isVariableSymbol s m ([.int x0] : List Value).toArray below meth c H locs 0 0 QQ (F0 m 0 ls []) by rw [hH, hlocs]]
  have hP : va_P g.1 vwCl [] H := by rw [hH]; exact hP
  have hD : va_D A [] := hD
  have hS : va_S A s.heap H locs := by rw [hH, hlocs]; exact hS
  clear hH hlocs
  refine lv_iload_n hx hb dX9_isVariableSymbol_0 rfl (lv_at hl 0 rfl) ?_
  refine lv_iconst (v := (3 : Int32)) hx hb dX9_isVariableSymbol_1 (by decide) ?_
  refine lv_icmp_lt (tgt := 15) hx hb dX9_isVariableSymbol_2 (by decide) (fun q2 => ?_) (fun q2 => ?_)
  · have h := ifT h q2
    refine lv_iconst (v := (0 : Int32)) hx hb dX9_isVariableSymbol_15 (by decide) ?_
    have h : some (0 : Int32) = some r := h
    cases h
    exact hret _ _ _ _ rfl hP hD hS dX9_isVariableSymbol_16
  have h := ifF h q2
  refine lv_iload_n hx hb dX9_isVariableSymbol_5 rfl (lv_at hl 0 rfl) ?_
  refine lv_bipush (v := (7 : Int32)) hx hb dX9_isVariableSymbol_6 (by decide) ?_
  refine lv_icmp_ge (tgt := 15) hx hb dX9_isVariableSymbol_8 (by decide) (fun q8 => ?_) (fun q8 => ?_)
  · have h := ifT h q8
    refine lv_iconst (v := (0 : Int32)) hx hb dX9_isVariableSymbol_15 (by decide) ?_
    have h : some (0 : Int32) = some r := h
    cases h
    exact hret _ _ _ _ rfl hP hD hS dX9_isVariableSymbol_16
  have h := ifF h q8
  refine lv_iconst (v := (1 : Int32)) hx hb dX9_isVariableSymbol_11 (by decide) ?_
  refine lv_goto (tgt := 16) hx hb dX9_isVariableSymbol_12 (by decide) ?_
  have h : some (1 : Int32) = some r := h
  cases h
  exact hret _ _ _ _ rfl hP hD hS dX9_isVariableSymbol_16
set_option maxHeartbeats 4000000 in
set_option maxRecDepth 100000 in
theorem mX3_fits (g : GP) (l : Launch)  (x0 : Int32) (x1 : Int32) (r : Int32) (h : fT_fits x0 x1 = some r) : Ct g l yX3_fits cX3_fits 2 (some .boolean) rmX3_fits [.int x0, .int x1] [] (some (.int r)) [] := by
  refine Ct.introZ (by decide) (Nat.le_of_ble_eq_true rfl) ?_
  intro p e s m below meth c A QQ ls hyp hret
  obtain ⟨hx, hb, hml, hts, hown, hA, hE, hP, hD, hl⟩ := hyp
  have hK := hE.1
  have hS : va_S A s.heap s.heap [] := va_S.rf
  have X : Here g p s m c cX3_fits 2 ([.int x0, .int x1] : List Value).toArray RX3 A := ⟨⟨hx, hb, hml, hown, hts⟩, hE, hA⟩
  have hl : lv_has ls 2 [(0, .int x0), (1, .int x1)] := hl
  obtain ⟨H, hH⟩ : ∃ H, H = s.heap := ⟨_, rfl⟩
  obtain ⟨locs, hlocs⟩ : ∃ l : List Loc, l = [] := ⟨_, rfl⟩
  rw [show W p l e rmX3_fits s m ([.int x0, .int x1] : List Value).toArray below meth c s.heap [] 0 0 QQ (F0 m 0 ls []) = W p l e rmX3_fits s m ([.int x0, .int x1] : List Value).toArray below meth c H locs 0 0 QQ (F0 m 0 ls []) by rw [hH, hlocs]]
  have hP : va_P g.1 vwCl [] H := by rw [hH]; exact hP
  have hD : va_D A [] := hD
  have hS : va_S A s.heap H locs := by rw [hH, hlocs]; exact hS
  clear hH hlocs
  refine lv_iload_n hx hb dX3_fits_0 rfl (lv_at hl 0 rfl) ?_
  by_cases q1_0 : x0 = (0 : Int32)
  · have h := ifT h q1_0
    refine lv_tableIn (off := 27) (tgt := 28) hx hb dX3_fits_1 (by rw [q1_0]; decide) (by rw [q1_0]; decide) (by rw [q1_0]; rfl) (by decide) ?_
    refine lv_iload_n hx hb dX3_fits_28 rfl (lv_at hl 1 rfl) ?_
    refine lv_bipush (v := (59 : Int32)) hx hb dX3_fits_29 (by decide) ?_
    refine lv_icmp_ne (tgt := 38) hx hb dX3_fits_31 (by decide) (fun q31 => ?_) (fun q31 => ?_)
    · have h := ifF h q31
      refine lv_iconst (v := (0 : Int32)) hx hb dX3_fits_38 (by decide) ?_
      have h : some (0 : Int32) = some r := h
      cases h
      exact hret _ _ _ _ rfl hP hD hS dX3_fits_39
    have h := ifT h q31
    refine lv_iconst (v := (1 : Int32)) hx hb dX3_fits_34 (by decide) ?_
    refine lv_goto (tgt := 39) hx hb dX3_fits_35 (by decide) ?_
    have h : some (1 : Int32) = some r := h
    cases h
    exact hret _ _ _ _ rfl hP hD hS dX3_fits_39
  have h := ifF h q1_0
  by_cases q1_1 : x0 = (1 : Int32)
  · have h := ifT h q1_1
    refine lv_tableIn (off := 39) (tgt := 40) hx hb dX3_fits_1 (by rw [q1_1]; decide) (by rw [q1_1]; decide) (by rw [q1_1]; rfl) (by decide) ?_
    refine lv_iload_n hx hb dX3_fits_40 rfl (lv_at hl 1 rfl) ?_
    obtain ⟨t41, hc41, h⟩ := bd1_to h
    refine go_0 (st1 := [.int t41]) (run_S (As := [.int x1]) (rest := []) X hS (mX9_symbolOf g l  x1 t41 hc41) okX9_symbolOf wd2_59 ⟨Nat.le_of_ble_eq_true rfl, Nat.le_of_ble_eq_true rfl⟩ ⟨rfl, rfl⟩ nil_P nil_D (nil_F hS hA) rfl hl.1 rfl (Nat.le_of_ble_eq_true rfl) dX3_fits_41 ⟨Nat.zero_le _, Nat.zero_le _⟩) hS hA hP rfl (fun H locs hP hS => ?_)
    obtain ⟨t44, hc44, h⟩ := bd1_to h
    refine go_0 (st1 := [.int t44]) (run_S (As := [.int t41]) (rest := []) X hS (mX9_isVariableSymbol g l  t41 t44 hc44) okX9_isVariableSymbol wd2_152 ⟨Nat.le_of_ble_eq_true rfl, Nat.le_of_ble_eq_true rfl⟩ ⟨rfl, rfl⟩ nil_P nil_D (nil_F hS hA) rfl hl.1 rfl (Nat.le_of_ble_eq_true rfl) dX3_fits_44 ⟨Nat.zero_le _, Nat.zero_le _⟩) hS hA hP rfl (fun H locs hP hS => ?_)
    have z47 := ckz_is h
    have h := ckz_to h
    have h : some t44 = some r := h
    cases h
    exact hret _ _ _ _ (nz_nar z47) hP hD hS dX3_fits_47
  have h := ifF h q1_1
  by_cases q1_2 : x0 = (2 : Int32)
  · have h := ifT h q1_2
    refine lv_tableIn (off := 47) (tgt := 48) hx hb dX3_fits_1 (by rw [q1_2]; decide) (by rw [q1_2]; decide) (by rw [q1_2]; rfl) (by decide) ?_
    refine lv_iload_n hx hb dX3_fits_48 rfl (lv_at hl 1 rfl) ?_
    refine lv_bipush (v := (60 : Int32)) hx hb dX3_fits_49 (by decide) ?_
    refine lv_icmp_eq (tgt := 66) hx hb dX3_fits_51 (by decide) (fun q51 => ?_) (fun q51 => ?_)
    · have h := ifT h q51
      refine lv_iconst (v := (1 : Int32)) hx hb dX3_fits_66 (by decide) ?_
      refine lv_goto (tgt := 71) hx hb dX3_fits_67 (by decide) ?_
      have h : some (1 : Int32) = some r := h
      cases h
      exact hret _ _ _ _ rfl hP hD hS dX3_fits_71
    have h := ifF h q51
    refine lv_iload_n hx hb dX3_fits_54 rfl (lv_at hl 1 rfl) ?_
    refine lv_bipush (v := (61 : Int32)) hx hb dX3_fits_55 (by decide) ?_
    refine lv_icmp_eq (tgt := 66) hx hb dX3_fits_57 (by decide) (fun q57 => ?_) (fun q57 => ?_)
    · have h := ifT h q57
      refine lv_iconst (v := (1 : Int32)) hx hb dX3_fits_66 (by decide) ?_
      refine lv_goto (tgt := 71) hx hb dX3_fits_67 (by decide) ?_
      have h : some (1 : Int32) = some r := h
      cases h
      exact hret _ _ _ _ rfl hP hD hS dX3_fits_71
    have h := ifF h q57
    refine lv_iload_n hx hb dX3_fits_60 rfl (lv_at hl 1 rfl) ?_
    refine lv_bipush (v := (62 : Int32)) hx hb dX3_fits_61 (by decide) ?_
    refine lv_icmp_ne (tgt := 70) hx hb dX3_fits_63 (by decide) (fun q63 => ?_) (fun q63 => ?_)
    · have h := ifF h q63
      refine lv_iconst (v := (0 : Int32)) hx hb dX3_fits_70 (by decide) ?_
      have h : some (0 : Int32) = some r := h
      cases h
      exact hret _ _ _ _ rfl hP hD hS dX3_fits_71
    have h := ifT h q63
    refine lv_iconst (v := (1 : Int32)) hx hb dX3_fits_66 (by decide) ?_
    refine lv_goto (tgt := 71) hx hb dX3_fits_67 (by decide) ?_
    have h : some (1 : Int32) = some r := h
    cases h
    exact hret _ _ _ _ rfl hP hD hS dX3_fits_71
  have h := ifF h q1_2
  refine lv_tableOut (tgt := 72) hx hb dX3_fits_1 (by have z0 := lv_neT (a := 0) q1_0 (by decide); have z1 := lv_neT (a := 1) q1_1 (by decide); have z2 := lv_neT (a := 2) q1_2 (by decide); omega) (by decide) ?_
  refine lv_iload_n hx hb dX3_fits_72 rfl (lv_at hl 1 rfl) ?_
  refine lv_bipush (v := (48 : Int32)) hx hb dX3_fits_73 (by decide) ?_
  refine lv_icmp_lt (tgt := 88) hx hb dX3_fits_75 (by decide) (fun q75 => ?_) (fun q75 => ?_)
  · have h := ifT h q75
    refine lv_iconst (v := (0 : Int32)) hx hb dX3_fits_88 (by decide) ?_
    have h : some (0 : Int32) = some r := h
    cases h
    exact hret _ _ _ _ rfl hP hD hS dX3_fits_89
  have h := ifF h q75
  refine lv_iload_n hx hb dX3_fits_78 rfl (lv_at hl 1 rfl) ?_
  refine lv_bipush (v := (57 : Int32)) hx hb dX3_fits_79 (by decide) ?_
  refine lv_icmp_gt (tgt := 88) hx hb dX3_fits_81 (by decide) (fun q81 => ?_) (fun q81 => ?_)
  · have h := ifT h q81
    refine lv_iconst (v := (0 : Int32)) hx hb dX3_fits_88 (by decide) ?_
    have h : some (0 : Int32) = some r := h
    cases h
    exact hret _ _ _ _ rfl hP hD hS dX3_fits_89
  have h := ifF h q81
  refine lv_iconst (v := (1 : Int32)) hx hb dX3_fits_84 (by decide) ?_
  refine lv_goto (tgt := 89) hx hb dX3_fits_85 (by decide) ?_
  have h : some (1 : Int32) = some r := h
  cases h
  exact hret _ _ _ _ rfl hP hD hS dX3_fits_89
set_option maxHeartbeats 4000000 in
set_option maxRecDepth 100000 in
theorem mX3_firstError (g : GP) (l : Launch) (aT aT_characters : Nat) (T_size : Int32) (T_characters : Nat → Int32)  (r : Int32) (h : fT_firstError T_size T_characters = some r) : Ct g l yX3_firstError cX3_firstError 5 (some .int) rmX3_firstError [.ref aT] (wX3 g aT aT_characters T_size T_characters) (some (.int r)) (wX3 g aT aT_characters T_size T_characters) := by
  refine Ct.introI (by decide) (Nat.le_of_ble_eq_true rfl) ?_
  intro p e s m below meth c A QQ ls hyp hret
  obtain ⟨hx, hb, hml, hts, hown, hA, hE, hP, hD, hl⟩ := hyp
  have hK := hE.1
  have hS : va_S A s.heap s.heap [] := va_S.rf
  have X : Here g p s m c cX3_firstError 5 ([.ref aT] : List Value).toArray RX3 A := ⟨⟨hx, hb, hml, hown, hts⟩, hE, hA⟩
  have B80 : ∀ (v2 : Int32) (ls : Array Slot) (H : Heap) (locs : List Loc), lv_has ls 5 [(0, .ref aT), (2, .int v2)] → va_P g.1 vwCl (wX3 g aT aT_characters T_size T_characters) H → va_D A (wX3 g aT aT_characters T_size T_characters) → va_S A s.heap H locs → fT_firstError_80 T_size v2 = some r → W p l e rmX3_firstError s m ([.ref aT] : List Value).toArray below meth c H locs 0 0 QQ (F0 m 80 ls []) := by
    intro v2 ls H locs hl hP hD hS h
    refine lv_iload_n hx hb dX3_firstError_80 rfl (lv_at hl 1 rfl) ?_
    refine lv_aload_n hx hb dX3_firstError_81 rfl (lv_at hl 0 rfl) ?_
    refine va_get (D := g.1) (ci := 3) (v := .int T_size) (C := RX3) (T := TX3) (N := 2) hx hb hts inBX3 hown hK hP 0 rfl rfl 1 (by decide) (hts _ wd1_35) (fun _ h9 => h9) rfl dX3_firstError_82 ?_
    refine lv_icmp_ne (tgt := 93) hx hb dX3_firstError_85 (by decide) (fun q85 => ?_) (fun q85 => ?_)
    · have h := ifF h q85
      refine lv_iload_n hx hb dX3_firstError_93 rfl (lv_at hl 1 rfl) ?_
      have h : some v2 = some r := h
      cases h
      exact hret _ _ _ _ hP hD hS dX3_firstError_94
    have h := ifT h q85
    refine lv_bipush (v := ((-9) : Int32)) hx hb dX3_firstError_88 (by decide) ?_
    refine lv_goto (tgt := 94) hx hb dX3_firstError_90 (by decide) ?_
    have h : some ((-9) : Int32) = some r := h
    cases h
    exact hret _ _ _ _ hP hD hS dX3_firstError_94
  have L28 : ∀ (n28 : Nat), ∀ (v2 : Int32) (v3 : Int32) (ls : Array Slot) (H : Heap) (locs : List Loc), lv_has ls 5 [(0, .ref aT), (2, .int v2), (3, .int v3)] → va_P g.1 vwCl (wX3 g aT aT_characters T_size T_characters) H → va_D A (wX3 g aT aT_characters T_size T_characters) → va_S A s.heap H locs → fx2 (fT_firstError_28 T_size T_characters) n28 v2 v3 = some r → W p l e rmX3_firstError s m ([.ref aT] : List Value).toArray below meth c H locs 0 0 QQ (F0 m 28 ls []) := by
    intro n28
    induction n28 with
    | zero => intro v2 v3 ls H locs hl hP hD hS h; exact fx2_0 h
    | succ n28 ih28 =>
      intro v2 v3 ls H locs hl hP hD hS h
      have h := (fx2_s (fT_firstError_28 T_size T_characters) n28 v2 v3).symm.trans h
      have L44 : ∀ (n44 : Nat), ∀ (v2 : Int32) (v3 : Int32) (v4 : Int32) (ls : Array Slot) (H : Heap) (locs : List Loc), lv_has ls 5 [(0, .ref aT), (2, .int v2), (3, .int v3), (4, .int v4)] → va_P g.1 vwCl (wX3 g aT aT_characters T_size T_characters) H → va_D A (wX3 g aT aT_characters T_size T_characters) → va_S A s.heap H locs → fx2 (fT_firstError_44 (fx2 (fT_firstError_28 T_size T_characters) n28) T_size T_characters v3) n44 v2 v4 = some r → W p l e rmX3_firstError s m ([.ref aT] : List Value).toArray below meth c H locs 0 0 QQ (F0 m 44 ls []) := by
        intro n44
        induction n44 with
        | zero => intro v2 v3 v4 ls H locs hl hP hD hS h; exact fx2_0 h
        | succ n44 ih44 =>
          intro v2 v3 v4 ls H locs hl hP hD hS h
          have h := (fx2_s (fT_firstError_44 (fx2 (fT_firstError_28 T_size T_characters) n28) T_size T_characters v3) n44 v2 v4).symm.trans h
          refine lv_iload hx hb dX3_firstError_44 (lv_at hl 3 rfl) ?_
          refine lv_iconst (v := (4 : Int32)) hx hb dX3_firstError_46 (by decide) ?_
          refine lv_icmp_ge (tgt := 74) hx hb dX3_firstError_47 (by decide) (fun q47 => ?_) (fun q47 => ?_)
          · have h := ifT h q47
            obtain ⟨t74, et74⟩ : ∃ y : Int32, y = v3 + (1 : Int32) := ⟨_, rfl⟩
            refine lv_iinc (v := t74) (lv' := [(3, .int t74), (0, .ref aT), (2, .int v2), (4, .int v4)]) hx hb dX3_firstError_74 hl (k := 2) rfl (by rw [et74]; rfl) (by decide) rfl (fun ls hl => ?_)
            have h := st_to h et74
            refine lv_goto (tgt := 28) hx hb dX3_firstError_77 (by decide) ?_
            exact ih28 v2 t74 ls H locs (lv_sub hl [1, 2, 0] rfl) hP hD hS h
          have h := ifF h q47
          refine lv_iload hx hb dX3_firstError_50 (lv_at hl 3 rfl) ?_
          refine lv_aload_n hx hb dX3_firstError_52 rfl (lv_at hl 0 rfl) ?_
          refine lv_iload_n hx hb dX3_firstError_53 rfl (lv_at hl 1 rfl) ?_
          obtain ⟨t54, hc54, h⟩ := bd1_to h
          refine go_A (st1 := [.int t54, .int v4]) (run_V (As := [.int v2]) (rest := [.int v4]) X hS (mX3_at g l  aT aT_characters T_size T_characters v2 t54 hc54) okX3_at wd2_55 ⟨Nat.le_of_ble_eq_true rfl, Nat.le_of_ble_eq_true rfl⟩ ⟨rfl, rfl⟩ (va_recv hK hP (ci := 3) (q0 := 0) rfl rfl) hP hD (all_F hS hA hD) rfl hl.1 rfl (Nat.le_of_ble_eq_true rfl) dX3_firstError_54 ⟨Nat.zero_le _, Nat.zero_le _⟩) hS (all_F hS hA hD) rfl (fun H locs hP hD hS => ?_)
          obtain ⟨t57, hc57, h⟩ := bd1_to h
          refine go_0 (st1 := [.int t57]) (run_S (As := [.int v4, .int t54]) (rest := []) X hS (mX3_fits g l  v4 t54 t57 hc57) okX3_fits wd2_149 ⟨Nat.le_of_ble_eq_true rfl, Nat.le_of_ble_eq_true rfl⟩ ⟨rfl, rfl⟩ nil_P nil_D (nil_F hS hA) rfl hl.1 rfl (Nat.le_of_ble_eq_true rfl) dX3_firstError_57 ⟨Nat.zero_le _, Nat.zero_le _⟩) hS hA hP rfl (fun H locs hP hS => ?_)
          refine lv_if_ne (tgt := 65) hx hb dX3_firstError_60 (by decide) (fun q60 => ?_) (fun q60 => ?_)
          · have h := ifF h q60
            obtain ⟨t65, et65⟩ : ∃ y : Int32, y = v2 + (1 : Int32) := ⟨_, rfl⟩
            refine lv_iinc (v := t65) (lv' := [(2, .int t65), (0, .ref aT), (3, .int v3), (4, .int v4)]) hx hb dX3_firstError_65 hl (k := 1) rfl (by rw [et65]; rfl) (by decide) rfl (fun ls hl => ?_)
            have h := st_to h et65
            obtain ⟨t68, et68⟩ : ∃ y : Int32, y = v4 + (1 : Int32) := ⟨_, rfl⟩
            refine lv_iinc (v := t68) (lv' := [(4, .int t68), (2, .int t65), (0, .ref aT), (3, .int v3)]) hx hb dX3_firstError_68 hl (k := 3) rfl (by rw [et68]; rfl) (by decide) rfl (fun ls hl => ?_)
            have h := st_to h et68
            refine lv_goto (tgt := 44) hx hb dX3_firstError_71 (by decide) ?_
            exact ih44 t65 v3 t68 ls H locs (lv_sub hl [2, 1, 3, 0] rfl) hP hD hS h
          have h := ifT h q60
          refine lv_iload_n hx hb dX3_firstError_63 rfl (lv_at hl 1 rfl) ?_
          have h : some v2 = some r := h
          cases h
          exact hret _ _ _ _ hP hD hS dX3_firstError_64
      refine lv_iload_n hx hb dX3_firstError_28 rfl (lv_at hl 2 rfl) ?_
      refine lv_iconst (v := (4 : Int32)) hx hb dX3_firstError_29 (by decide) ?_
      refine lv_icmp_ge (tgt := 80) hx hb dX3_firstError_30 (by decide) (fun q30 => ?_) (fun q30 => ?_)
      · have h := ifT h q30
        exact B80 v2 ls H locs (lv_sub hl [0, 1] rfl) hP hD hS h
      have h := ifF h q30
      refine lv_iload_n hx hb dX3_firstError_33 rfl (lv_at hl 1 rfl) ?_
      refine lv_aload_n hx hb dX3_firstError_34 rfl (lv_at hl 0 rfl) ?_
      refine va_get (D := g.1) (ci := 3) (v := .int T_size) (C := RX3) (T := TX3) (N := 2) hx hb hts inBX3 hown hK hP 0 rfl rfl 1 (by decide) (hts _ wd1_35) (fun _ h9 => h9) rfl dX3_firstError_35 ?_
      refine lv_icmp_ge (tgt := 80) hx hb dX3_firstError_38 (by decide) (fun q38 => ?_) (fun q38 => ?_)
      · have h := ifT h q38
        exact B80 v2 ls H locs (lv_sub hl [0, 1] rfl) hP hD hS h
      have h := ifF h q38
      refine lv_iconst (v := (0 : Int32)) hx hb dX3_firstError_41 (by decide) ?_
      refine lv_istore (lv' := [(4, .int (0 : Int32)), (0, .ref aT), (2, .int v2), (3, .int v3)]) hx hb dX3_firstError_42 hl (by decide) rfl (fun ls hl => ?_)
      exact L44 FU v2 v3 (0 : Int32) ls H locs (lv_sub hl [1, 2, 3, 0] rfl) hP hD hS h
  have hl : lv_has ls 5 [(0, .ref aT)] := hl
  obtain ⟨H, hH⟩ : ∃ H, H = s.heap := ⟨_, rfl⟩
  obtain ⟨locs, hlocs⟩ : ∃ l : List Loc, l = [] := ⟨_, rfl⟩
  rw [show W p l e rmX3_firstError s m ([.ref aT] : List Value).toArray below meth c s.heap [] 0 0 QQ (F0 m 0 ls []) = W p l e rmX3_firstError s m ([.ref aT] : List Value).toArray below meth c H locs 0 0 QQ (F0 m 0 ls []) by rw [hH, hlocs]]
  have hP : va_P g.1 vwCl (wX3 g aT aT_characters T_size T_characters) H := by rw [hH]; exact hP
  have hD : va_D A (wX3 g aT aT_characters T_size T_characters) := hD
  have hS : va_S A s.heap H locs := by rw [hH, hlocs]; exact hS
  clear hH hlocs
  refine lv_aload_n hx hb dX3_firstError_0 rfl (lv_at hl 0 rfl) ?_
  refine lv_iconst (v := (0 : Int32)) hx hb dX3_firstError_1 (by decide) ?_
  obtain ⟨t2, hc2, h⟩ := bd1_to h
  refine go_A (st1 := [.int t2]) (run_V (As := [.int (0 : Int32)]) (rest := []) X hS (mX3_endOfSide g l  aT aT_characters T_size T_characters (0 : Int32) t2 hc2) okX3_endOfSide wd2_51 ⟨Nat.le_of_ble_eq_true rfl, Nat.le_of_ble_eq_true rfl⟩ ⟨rfl, rfl⟩ (va_recv hK hP (ci := 3) (q0 := 0) rfl rfl) hP hD (all_F hS hA hD) rfl hl.1 rfl (Nat.le_of_ble_eq_true rfl) dX3_firstError_2 ⟨Nat.zero_le _, Nat.zero_le _⟩) hS (all_F hS hA hD) rfl (fun H locs hP hD hS => ?_)
  refine lv_istore_n (lv' := [(1, .int t2), (0, .ref aT)]) hx hb dX3_firstError_5 rfl hl (by decide) rfl (fun ls hl => ?_)
  refine lv_aload_n hx hb dX3_firstError_6 rfl (lv_at hl 1 rfl) ?_
  refine lv_iload_n hx hb dX3_firstError_7 rfl (lv_at hl 0 rfl) ?_
  obtain ⟨t8, hc8, h⟩ := bd1_to h
  refine go_A (st1 := [.int t8]) (run_V (As := [.int t2]) (rest := []) X hS (mX3_at g l  aT aT_characters T_size T_characters t2 t8 hc8) okX3_at wd2_55 ⟨Nat.le_of_ble_eq_true rfl, Nat.le_of_ble_eq_true rfl⟩ ⟨rfl, rfl⟩ (va_recv hK hP (ci := 3) (q0 := 0) rfl rfl) hP hD (all_F hS hA hD) rfl hl.1 rfl (Nat.le_of_ble_eq_true rfl) dX3_firstError_8 ⟨Nat.zero_le _, Nat.zero_le _⟩) hS (all_F hS hA hD) rfl (fun H locs hP hD hS => ?_)
  refine lv_bipush (v := (61 : Int32)) hx hb dX3_firstError_11 (by decide) ?_
  refine lv_icmp_eq (tgt := 18) hx hb dX3_firstError_13 (by decide) (fun q13 => ?_) (fun q13 => ?_)
  · have h := ifT h q13
    refine lv_aload_n hx hb dX3_firstError_18 rfl (lv_at hl 1 rfl) ?_
    refine lv_iload_n hx hb dX3_firstError_19 rfl (lv_at hl 0 rfl) ?_
    refine lv_iconst (v := (1 : Int32)) hx hb dX3_firstError_20 (by decide) ?_
    refine lv_iadd hx hb dX3_firstError_21 ?_
    obtain ⟨t22, hc22, h⟩ := bd1_to h
    refine go_A (st1 := [.int t22]) (run_V (As := [.int (t2 + (1 : Int32))]) (rest := []) X hS (mX3_endOfSide g l  aT aT_characters T_size T_characters (t2 + (1 : Int32)) t22 hc22) okX3_endOfSide wd2_51 ⟨Nat.le_of_ble_eq_true rfl, Nat.le_of_ble_eq_true rfl⟩ ⟨rfl, rfl⟩ (va_recv hK hP (ci := 3) (q0 := 0) rfl rfl) hP hD (all_F hS hA hD) rfl hl.1 rfl (Nat.le_of_ble_eq_true rfl) dX3_firstError_22 ⟨Nat.zero_le _, Nat.zero_le _⟩) hS (all_F hS hA hD) rfl (fun H locs hP hD hS => ?_)
    refine lv_istore_n (lv' := [(2, .int t22), (1, .int t2), (0, .ref aT)]) hx hb dX3_firstError_25 rfl hl (by decide) rfl (fun ls hl => ?_)
    refine lv_iconst (v := (0 : Int32)) hx hb dX3_firstError_26 (by decide) ?_
    refine lv_istore_n (lv' := [(3, .int (0 : Int32)), (2, .int t22), (1, .int t2), (0, .ref aT)]) hx hb dX3_firstError_27 rfl hl (by decide) rfl (fun ls hl => ?_)
    exact L28 FU t22 (0 : Int32) ls H locs (lv_sub hl [3, 1, 0] rfl) hP hD hS h
  have h := ifF h q13
  refine lv_iload_n hx hb dX3_firstError_16 rfl (lv_at hl 0 rfl) ?_
  have h : some t2 = some r := h
  cases h
  exact hret _ _ _ _ hP hD hS dX3_firstError_17
set_option maxHeartbeats 4000000 in
set_option maxRecDepth 100000 in
theorem mX11_errorPosition (g : GP) (l : Launch) (aX aT aT_characters aE aH aH_lefts aH_rights aS aS_lefts aS_rights aS_filled aA aA_letters aA_lengths aK aB aB_first aQ aQ_weights aQ_possible aC aC_variables aC_relations aC_numbers aA2 aA2_letters aA2_lengths aN aN_lefts aN_rights aN_parents aN_rules aN_depths aE2 : Nat) (T_size : Int32) (T_characters : Nat → Int32) (E_left : Int64) (E_right : Int64) (H_size : Int32) (H_lefts : Nat → Int64) (H_rights : Nat → Int64) (S_lefts : Nat → Int64) (S_rights : Nat → Int64) (S_filled : Nat → Int32) (A_letters : Nat → Int64) (A_lengths : Nat → Int32) (B_left : Int64) (B_right : Int64) (B_found : Int32) (B_least : Int32) (B_first : Nat → Int32) (Q_letterSurplus : Int32) (Q_weights : Nat → Int32) (Q_possible : Nat → Int32) (C_size : Int32) (C_variables : Nat → Int32) (C_relations : Nat → Int32) (C_numbers : Nat → Int32) (A2_letters : Nat → Int64) (A2_lengths : Nat → Int32) (N_size : Int32) (N_solved : Int32) (N_dropped : Int32) (N_lefts : Nat → Int64) (N_rights : Nat → Int64) (N_parents : Nat → Int32) (N_rules : Nat → Int32) (N_depths : Nat → Int32) (E2_left : Int64) (E2_right : Int64)  (r : Int32) (h : fX_errorPosition T_size T_characters = some r) : Ct g l yX11_errorPosition cX11_errorPosition 1 (some .int) rmX11_errorPosition [.ref aX] (wX11 g aX aT aT_characters aE aH aH_lefts aH_rights aS aS_lefts aS_rights aS_filled aA aA_letters aA_lengths aK aB aB_first aQ aQ_weights aQ_possible aC aC_variables aC_relations aC_numbers aA2 aA2_letters aA2_lengths aN aN_lefts aN_rights aN_parents aN_rules aN_depths aE2 T_size T_characters E_left E_right H_size H_lefts H_rights S_lefts S_rights S_filled A_letters A_lengths B_left B_right B_found B_least B_first Q_letterSurplus Q_weights Q_possible C_size C_variables C_relations C_numbers A2_letters A2_lengths N_size N_solved N_dropped N_lefts N_rights N_parents N_rules N_depths E2_left E2_right) (some (.int r)) (wX11 g aX aT aT_characters aE aH aH_lefts aH_rights aS aS_lefts aS_rights aS_filled aA aA_letters aA_lengths aK aB aB_first aQ aQ_weights aQ_possible aC aC_variables aC_relations aC_numbers aA2 aA2_letters aA2_lengths aN aN_lefts aN_rights aN_parents aN_rules aN_depths aE2 T_size T_characters E_left E_right H_size H_lefts H_rights S_lefts S_rights S_filled A_letters A_lengths B_left B_right B_found B_least B_first Q_letterSurplus Q_weights Q_possible C_size C_variables C_relations C_numbers A2_letters A2_lengths N_size N_solved N_dropped N_lefts N_rights N_parents N_rules N_depths E2_left E2_right) := by
  refine Ct.introI (by decide) (Nat.le_of_ble_eq_true rfl) ?_
  intro p e s m below meth c A QQ ls hyp hret
  obtain ⟨hx, hb, hml, hts, hown, hA, hE, hP, hD, hl⟩ := hyp
  have hK := hE.1
  have hS : va_S A s.heap s.heap [] := va_S.rf
  have X : Here g p s m c cX11_errorPosition 1 ([.ref aX] : List Value).toArray RX11 A := ⟨⟨hx, hb, hml, hown, hts⟩, hE, hA⟩
  have hl : lv_has ls 1 [(0, .ref aX)] := hl
  obtain ⟨H, hH⟩ : ∃ H, H = s.heap := ⟨_, rfl⟩
  obtain ⟨locs, hlocs⟩ : ∃ l : List Loc, l = [] := ⟨_, rfl⟩
  rw [show W p l e rmX11_errorPosition s m ([.ref aX] : List Value).toArray below meth c s.heap [] 0 0 QQ (F0 m 0 ls []) = W p l e rmX11_errorPosition s m ([.ref aX] : List Value).toArray below meth c H locs 0 0 QQ (F0 m 0 ls []) by rw [hH, hlocs]]
  have hP : va_P g.1 vwCl (wX11 g aX aT aT_characters aE aH aH_lefts aH_rights aS aS_lefts aS_rights aS_filled aA aA_letters aA_lengths aK aB aB_first aQ aQ_weights aQ_possible aC aC_variables aC_relations aC_numbers aA2 aA2_letters aA2_lengths aN aN_lefts aN_rights aN_parents aN_rules aN_depths aE2 T_size T_characters E_left E_right H_size H_lefts H_rights S_lefts S_rights S_filled A_letters A_lengths B_left B_right B_found B_least B_first Q_letterSurplus Q_weights Q_possible C_size C_variables C_relations C_numbers A2_letters A2_lengths N_size N_solved N_dropped N_lefts N_rights N_parents N_rules N_depths E2_left E2_right) H := by rw [hH]; exact hP
  have hD : va_D A (wX11 g aX aT aT_characters aE aH aH_lefts aH_rights aS aS_lefts aS_rights aS_filled aA aA_letters aA_lengths aK aB aB_first aQ aQ_weights aQ_possible aC aC_variables aC_relations aC_numbers aA2 aA2_letters aA2_lengths aN aN_lefts aN_rights aN_parents aN_rules aN_depths aE2 T_size T_characters E_left E_right H_size H_lefts H_rights S_lefts S_rights S_filled A_letters A_lengths B_left B_right B_found B_least B_first Q_letterSurplus Q_weights Q_possible C_size C_variables C_relations C_numbers A2_letters A2_lengths N_size N_solved N_dropped N_lefts N_rights N_parents N_rules N_depths E2_left E2_right) := hD
  have hS : va_S A s.heap H locs := by rw [hH, hlocs]; exact hS
  clear hH hlocs
  refine lv_aload_n hx hb dX11_errorPosition_0 rfl (lv_at hl 0 rfl) ?_
  refine va_get (D := g.1) (ci := 10) (v := .ref aT) (C := RX11) (T := TX11) (N := 10) hx hb hts inBX11 hown hK hP 0 rfl rfl 0 (by decide) (hts _ wd1_232) (fun _ h9 => h9) rfl dX11_errorPosition_1 ?_
  obtain ⟨t4, hc4, h⟩ := bd1_to h
  refine go_P (st1 := [.int t4]) (W1 := (wX11 g aX aT aT_characters aE aH aH_lefts aH_rights aS aS_lefts aS_rights aS_filled aA aA_letters aA_lengths aK aB aB_first aQ aQ_weights aQ_possible aC aC_variables aC_relations aC_numbers aA2 aA2_letters aA2_lengths aN aN_lefts aN_rights aN_parents aN_rules aN_depths aE2 T_size T_characters E_left E_right H_size H_lefts H_rights S_lefts S_rights S_filled A_letters A_lengths B_left B_right B_found B_least B_first Q_letterSurplus Q_weights Q_possible C_size C_variables C_relations C_numbers A2_letters A2_lengths N_size N_solved N_dropped N_lefts N_rights N_parents N_rules N_depths E2_left E2_right)) (run_V (As := []) (rest := []) X hS (mX3_firstError g l  aT aT_characters T_size T_characters t4 hc4) okX3_firstError wd2_47 ⟨Nat.le_of_ble_eq_true rfl, Nat.le_of_ble_eq_true rfl⟩ ⟨rfl, rfl⟩ (va_recv hK hP (ci := 3) (q0 := 1) rfl rfl) (sub_P hP [1, 2] rfl) (hD.sub [1, 2] (by decide) rfl) (va_free hD hS hA [1, 2] rfl) rfl hl.1 rfl (Nat.le_of_ble_eq_true rfl) dX11_errorPosition_4 ⟨Nat.zero_le _, Nat.zero_le _⟩) hS (va_free hD hS hA [1, 2] rfl) hP hD [1, 2] [0, 3, 4, 5, 6, 7, 8, 9, 10, 11, 12, 13, 14, 15, 16, 17, 18, 19, 20, 21, 22, 23, 24, 25, 26, 27, 28, 29, 30, 31, 32, 33] [0, 32, 33, 1, 2, 3, 4, 5, 6, 7, 8, 9, 10, 11, 12, 13, 14, 15, 16, 17, 18, 19, 20, 21, 22, 23, 24, 25, 26, 27, 28, 29, 30, 31] rfl rfl (by decide) (by decide) rfl (by decide) rfl (fun H locs hP hD hS => ?_)
  have h : some t4 = some r := h
  cases h
  exact hret _ _ _ _ hP hD hS dX11_errorPosition_7
set_option maxHeartbeats 4000000 in
set_option maxRecDepth 100000 in
theorem mX9_one (g : GP) (l : Launch)  (x0 : Int32) (x1 : Int32) (r : Int64) (h : fZ_one x0 x1 = some r) : Ct g l yX9_one cX9_one 2 (some .long) rmX9_one [.int x0, .int x1] [] (some (.long r)) [] := by
  refine Ct.introL (by decide) (Nat.le_of_ble_eq_true rfl) ?_
  intro p e s m below meth c A QQ ls hyp hret
  obtain ⟨hx, hb, hml, hts, hown, hA, hE, hP, hD, hl⟩ := hyp
  have hK := hE.1
  have hS : va_S A s.heap s.heap [] := va_S.rf
  have X : Here g p s m c cX9_one 2 ([.int x0, .int x1] : List Value).toArray RX9 A := ⟨⟨hx, hb, hml, hown, hts⟩, hE, hA⟩
  have hl : lv_has ls 2 [(0, .int x0), (1, .int x1)] := hl
  obtain ⟨H, hH⟩ : ∃ H, H = s.heap := ⟨_, rfl⟩
  obtain ⟨locs, hlocs⟩ : ∃ l : List Loc, l = [] := ⟨_, rfl⟩
  rw [show W p l e rmX9_one s m ([.int x0, .int x1] : List Value).toArray below meth c s.heap [] 0 0 QQ (F0 m 0 ls []) = W p l e rmX9_one s m ([.int x0, .int x1] : List Value).toArray below meth c H locs 0 0 QQ (F0 m 0 ls []) by rw [hH, hlocs]]
  have hP : va_P g.1 vwCl [] H := by rw [hH]; exact hP
  have hD : va_D A [] := hD
  have hS : va_S A s.heap H locs := by rw [hH, hlocs]; exact hS
  clear hH hlocs
  refine lv_iload_n hx hb dX9_one_0 rfl (lv_at hl 1 rfl) ?_
  refine lv_if_lt (tgt := 10) hx hb dX9_one_1 (by decide) (fun q1 => ?_) (fun q1 => ?_)
  · have h := ifT h q1
    refine lv_lconst (v := (0 : Int64)) hx hb dX9_one_10 (by decide) ?_
    refine lv_goto (tgt := 20) hx hb dX9_one_11 (by decide) ?_
    have h : some (0 : Int64) = some r := h
    cases h
    exact hret _ _ _ _ hP hD hS dX9_one_20
  have h := ifF h q1
  refine lv_iload_n hx hb dX9_one_4 rfl (lv_at hl 1 rfl) ?_
  refine lv_bipush (v := (13 : Int32)) hx hb dX9_one_5 (by decide) ?_
  refine lv_icmp_lt (tgt := 14) hx hb dX9_one_7 (by decide) (fun q7 => ?_) (fun q7 => ?_)
  · have h := ifT h q7
    refine lv_iload_n hx hb dX9_one_14 rfl (lv_at hl 0 rfl) ?_
    refine lv_i2l (v := (Int32.toInt64 x0)) hx hb dX9_one_15 rfl ?_
    refine lv_iconst (v := (3 : Int32)) hx hb dX9_one_16 (by decide) ?_
    refine lv_iload_n hx hb dX9_one_17 rfl (lv_at hl 1 rfl) ?_
    refine lv_imul hx hb dX9_one_18 ?_
    refine lv_lshl (v := (shlL (Int32.toInt64 x0) ((3 : Int32) * x1))) hx hb dX9_one_19 rfl ?_
    have h : some (shlL (Int32.toInt64 x0) ((3 : Int32) * x1)) = some r := h
    cases h
    exact hret _ _ _ _ hP hD hS dX9_one_20
  have h := ifF h q7
  refine lv_lconst (v := (0 : Int64)) hx hb dX9_one_10 (by decide) ?_
  refine lv_goto (tgt := 20) hx hb dX9_one_11 (by decide) ?_
  have h : some (0 : Int64) = some r := h
  cases h
  exact hret _ _ _ _ hP hD hS dX9_one_20
set_option maxHeartbeats 4000000 in
set_option maxRecDepth 100000 in
theorem mX3_packed (g : GP) (l : Launch) (aT aT_characters : Nat) (T_size : Int32) (T_characters : Nat → Int32) (x1 : Int32) (x2 : Int32) (r : Int64) (h : fT_packed T_size T_characters x1 x2 = some r) : Ct g l yX3_packed cX3_packed 6 (some .long) rmX3_packed [.ref aT, .int x1, .int x2] (wX3 g aT aT_characters T_size T_characters) (some (.long r)) (wX3 g aT aT_characters T_size T_characters) := by
  refine Ct.introL (by decide) (Nat.le_of_ble_eq_true rfl) ?_
  intro p e s m below meth c A QQ ls hyp hret
  obtain ⟨hx, hb, hml, hts, hown, hA, hE, hP, hD, hl⟩ := hyp
  have hK := hE.1
  have hS : va_S A s.heap s.heap [] := va_S.rf
  have X : Here g p s m c cX3_packed 6 ([.ref aT, .int x1, .int x2] : List Value).toArray RX3 A := ⟨⟨hx, hb, hml, hown, hts⟩, hE, hA⟩
  have L5 : ∀ (n5 : Nat), ∀ (v3 : Int64) (v5 : Int32) (ls : Array Slot) (H : Heap) (locs : List Loc), lv_has ls 6 [(0, .ref aT), (1, .int x1), (2, .int x2), (3, .long v3), (5, .int v5)] → va_P g.1 vwCl (wX3 g aT aT_characters T_size T_characters) H → va_D A (wX3 g aT aT_characters T_size T_characters) → va_S A s.heap H locs → fx2 (fT_packed_5 T_size T_characters x1 x2) n5 v3 v5 = some r → W p l e rmX3_packed s m ([.ref aT, .int x1, .int x2] : List Value).toArray below meth c H locs 0 0 QQ (F0 m 5 ls []) := by
    intro n5
    induction n5 with
    | zero => intro v3 v5 ls H locs hl hP hD hS h; exact fx2_0 h
    | succ n5 ih5 =>
      intro v3 v5 ls H locs hl hP hD hS h
      have h := (fx2_s (fT_packed_5 T_size T_characters x1 x2) n5 v3 v5).symm.trans h
      refine lv_iload hx hb dX3_packed_5 (lv_at hl 4 rfl) ?_
      refine lv_bipush (v := (12 : Int32)) hx hb dX3_packed_7 (by decide) ?_
      refine lv_icmp_ge (tgt := 45) hx hb dX3_packed_9 (by decide) (fun q9 => ?_) (fun q9 => ?_)
      · have h := ifT h q9
        refine lv_lload_n hx hb dX3_packed_45 rfl (lv_at hl 3 rfl) ?_
        have h : some v3 = some r := h
        cases h
        exact hret _ _ _ _ hP hD hS dX3_packed_46
      have h := ifF h q9
      refine lv_iload_n hx hb dX3_packed_12 rfl (lv_at hl 1 rfl) ?_
      refine lv_iload hx hb dX3_packed_13 (lv_at hl 4 rfl) ?_
      refine lv_iadd hx hb dX3_packed_15 ?_
      refine lv_iload_n hx hb dX3_packed_16 rfl (lv_at hl 2 rfl) ?_
      refine lv_icmp_ge (tgt := 45) hx hb dX3_packed_17 (by decide) (fun q17 => ?_) (fun q17 => ?_)
      · have h := ifT h q17
        refine lv_lload_n hx hb dX3_packed_45 rfl (lv_at hl 3 rfl) ?_
        have h : some v3 = some r := h
        cases h
        exact hret _ _ _ _ hP hD hS dX3_packed_46
      have h := ifF h q17
      refine lv_lload_n hx hb dX3_packed_20 rfl (lv_at hl 3 rfl) ?_
      refine lv_aload_n hx hb dX3_packed_21 rfl (lv_at hl 0 rfl) ?_
      refine lv_iload_n hx hb dX3_packed_22 rfl (lv_at hl 1 rfl) ?_
      refine lv_iload hx hb dX3_packed_23 (lv_at hl 4 rfl) ?_
      refine lv_iadd hx hb dX3_packed_25 ?_
      obtain ⟨t26, hc26, h⟩ := bd1_to h
      refine go_A (st1 := [.int t26, .long v3]) (run_V (As := [.int (x1 + v5)]) (rest := [.long v3]) X hS (mX3_at g l  aT aT_characters T_size T_characters (x1 + v5) t26 hc26) okX3_at wd2_55 ⟨Nat.le_of_ble_eq_true rfl, Nat.le_of_ble_eq_true rfl⟩ ⟨rfl, rfl⟩ (va_recv hK hP (ci := 3) (q0 := 0) rfl rfl) hP hD (all_F hS hA hD) rfl hl.1 rfl (Nat.le_of_ble_eq_true rfl) dX3_packed_26 ⟨Nat.zero_le _, Nat.zero_le _⟩) hS (all_F hS hA hD) rfl (fun H locs hP hD hS => ?_)
      obtain ⟨t29, hc29, h⟩ := bd1_to h
      refine go_0 (st1 := [.int t29, .long v3]) (run_S (As := [.int t26]) (rest := [.long v3]) X hS (mX9_symbolOf g l  t26 t29 hc29) okX9_symbolOf wd2_59 ⟨Nat.le_of_ble_eq_true rfl, Nat.le_of_ble_eq_true rfl⟩ ⟨rfl, rfl⟩ nil_P nil_D (nil_F hS hA) rfl hl.1 rfl (Nat.le_of_ble_eq_true rfl) dX3_packed_29 ⟨Nat.zero_le _, Nat.zero_le _⟩) hS hA hP rfl (fun H locs hP hS => ?_)
      refine lv_iload hx hb dX3_packed_32 (lv_at hl 4 rfl) ?_
      obtain ⟨t34, hc34, h⟩ := bd1_to h
      refine go_0 (st1 := [.long t34, .long v3]) (run_S (As := [.int t29, .int v5]) (rest := [.long v3]) X hS (mX9_one g l  t29 v5 t34 hc34) okX9_one wd2_168 ⟨Nat.le_of_ble_eq_true rfl, Nat.le_of_ble_eq_true rfl⟩ ⟨rfl, rfl⟩ nil_P nil_D (nil_F hS hA) rfl hl.1 rfl (Nat.le_of_ble_eq_true rfl) dX3_packed_34 ⟨Nat.zero_le _, Nat.zero_le _⟩) hS hA hP rfl (fun H locs hP hS => ?_)
      refine lv_lor hx hb dX3_packed_37 ?_
      refine lv_topl (fun t38 et38 => ?_)
      have h := st_to h et38
      refine lv_lstore_n (lv' := [(3, .long t38), (0, .ref aT), (1, .int x1), (2, .int x2), (5, .int v5)]) hx hb dX3_packed_38 rfl hl (by decide) rfl (fun ls hl => ?_)
      obtain ⟨t39, et39⟩ : ∃ y : Int32, y = v5 + (1 : Int32) := ⟨_, rfl⟩
      refine lv_iinc (v := t39) (lv' := [(5, .int t39), (3, .long t38), (0, .ref aT), (1, .int x1), (2, .int x2)]) hx hb dX3_packed_39 hl (k := 4) rfl (by rw [et39]; rfl) (by decide) rfl (fun ls hl => ?_)
      have h := st_to h et39
      refine lv_goto (tgt := 5) hx hb dX3_packed_42 (by decide) ?_
      exact ih5 t38 t39 ls H locs (lv_sub hl [2, 3, 4, 1, 0] rfl) hP hD hS h
  have hl : lv_has ls 6 [(0, .ref aT), (1, .int x1), (2, .int x2)] := hl
  obtain ⟨H, hH⟩ : ∃ H, H = s.heap := ⟨_, rfl⟩
  obtain ⟨locs, hlocs⟩ : ∃ l : List Loc, l = [] := ⟨_, rfl⟩
  rw [show W p l e rmX3_packed s m ([.ref aT, .int x1, .int x2] : List Value).toArray below meth c s.heap [] 0 0 QQ (F0 m 0 ls []) = W p l e rmX3_packed s m ([.ref aT, .int x1, .int x2] : List Value).toArray below meth c H locs 0 0 QQ (F0 m 0 ls []) by rw [hH, hlocs]]
  have hP : va_P g.1 vwCl (wX3 g aT aT_characters T_size T_characters) H := by rw [hH]; exact hP
  have hD : va_D A (wX3 g aT aT_characters T_size T_characters) := hD
  have hS : va_S A s.heap H locs := by rw [hH, hlocs]; exact hS
  clear hH hlocs
  refine lv_lconst (v := (0 : Int64)) hx hb dX3_packed_0 (by decide) ?_
  refine lv_lstore_n (lv' := [(3, .long (0 : Int64)), (0, .ref aT), (1, .int x1), (2, .int x2)]) hx hb dX3_packed_1 rfl hl (by decide) rfl (fun ls hl => ?_)
  refine lv_iconst (v := (0 : Int32)) hx hb dX3_packed_2 (by decide) ?_
  refine lv_istore (lv' := [(5, .int (0 : Int32)), (3, .long (0 : Int64)), (0, .ref aT), (1, .int x1), (2, .int x2)]) hx hb dX3_packed_3 hl (by decide) rfl (fun ls hl => ?_)
  exact L5 FU (0 : Int64) (0 : Int32) ls H locs (lv_sub hl [2, 3, 4, 1, 0] rfl) hP hD hS h
set_option maxHeartbeats 4000000 in
set_option maxRecDepth 100000 in
theorem mX2_set (g : GP) (l : Launch) (aE : Nat) (E_left : Int64) (E_right : Int64) (x1 : Int64) (x3 : Int64) (E_left_o : Int64) (E_right_o : Int64) (h : fE_set x1 x3 = some (E_left_o, E_right_o)) : Ct g l yX2_set cX2_set 5 none rmX2_set [.ref aE, .long x1, .long x3] (wX2 g aE E_left E_right) none (wX2 g aE E_left_o E_right_o) := by
  refine Ct.introV (by decide) (Nat.le_of_ble_eq_true rfl) ?_
  intro p e s m below meth c A QQ ls hyp hret
  obtain ⟨hx, hb, hml, hts, hown, hA, hE, hP, hD, hl⟩ := hyp
  have hK := hE.1
  have hS : va_S A s.heap s.heap [] := va_S.rf
  have X : Here g p s m c cX2_set 5 ([.ref aE, .long x1, .long x3] : List Value).toArray RX2 A := ⟨⟨hx, hb, hml, hown, hts⟩, hE, hA⟩
  have hl : lv_has ls 5 [(0, .ref aE), (1, .long x1), (3, .long x3)] := hl
  obtain ⟨H, hH⟩ : ∃ H, H = s.heap := ⟨_, rfl⟩
  obtain ⟨locs, hlocs⟩ : ∃ l : List Loc, l = [] := ⟨_, rfl⟩
  rw [show W p l e rmX2_set s m ([.ref aE, .long x1, .long x3] : List Value).toArray below meth c s.heap [] 0 0 QQ (F0 m 0 ls []) = W p l e rmX2_set s m ([.ref aE, .long x1, .long x3] : List Value).toArray below meth c H locs 0 0 QQ (F0 m 0 ls []) by rw [hH, hlocs]]
  have hP : va_P g.1 vwCl (wX2 g aE E_left E_right) H := by rw [hH]; exact hP
  have hD : va_D A (wX2 g aE E_left E_right) := hD
  have hS : va_S A s.heap H locs := by rw [hH, hlocs]; exact hS
  clear hH hlocs
  refine lv_aload_n hx hb dX2_set_0 rfl (lv_at hl 0 rfl) ?_
  refine lv_lload_n hx hb dX2_set_1 rfl (lv_at hl 1 rfl) ?_
  refine va_put (D := g.1) (ci := 2) (v := .long x1) (ty := .long) (C := RX2) (T := TX2) (N := 2) hx hb hts inBX2 tyX2 tyX2_ok nmX2 hown hK hP hD hS 0 rfl rfl 0 (by decide) (hts _ wd1_48) (fun _ h9 => h9) rfl (tyX2_ok 0 (by decide)) rfl rfl (Nat.le_of_ble_eq_true rfl) dX2_set_2 (fun H locs hP hD hS => ?_)
  have hP : va_P g.1 vwCl (wX2 g aE x1 E_right) H := hP
  have hD : va_D A (wX2 g aE x1 E_right) := hD
  refine lv_aload_n hx hb dX2_set_5 rfl (lv_at hl 0 rfl) ?_
  refine lv_lload_n hx hb dX2_set_6 rfl (lv_at hl 2 rfl) ?_
  refine va_put (D := g.1) (ci := 2) (v := .long x3) (ty := .long) (C := RX2) (T := TX2) (N := 2) hx hb hts inBX2 tyX2 tyX2_ok nmX2 hown hK hP hD hS 0 rfl rfl 1 (by decide) (hts _ wd1_55) (fun _ h9 => h9) rfl (tyX2_ok 1 (by decide)) rfl rfl (Nat.le_of_ble_eq_true rfl) dX2_set_7 (fun H locs hP hD hS => ?_)
  have hP : va_P g.1 vwCl (wX2 g aE x1 x3) H := hP
  have hD : va_D A (wX2 g aE x1 x3) := hD
  have h : some (x1, x3) = some (E_left_o, E_right_o) := h
  cases h
  exact hret _ _ _ _ hP hD hS dX2_set_10
set_option maxHeartbeats 4000000 in
set_option maxRecDepth 100000 in
theorem mX3_readEquation (g : GP) (l : Launch) (aT aT_characters aE : Nat) (T_size : Int32) (T_characters : Nat → Int32) (E_left : Int64) (E_right : Int64)  (E_left_o : Int64) (E_right_o : Int64) (h : fT_readEquation T_size T_characters = some (E_left_o, E_right_o)) : Ct g l yX3_readEquation cX3_readEquation 3 none rmX3_readEquation [.ref aT, .ref aE] ((wX3 g aT aT_characters T_size T_characters) ++ (wX2 g aE E_left E_right)) none ((wX3 g aT aT_characters T_size T_characters) ++ (wX2 g aE E_left_o E_right_o)) := by
  refine Ct.introV (by decide) (Nat.le_of_ble_eq_true rfl) ?_
  intro p e s m below meth c A QQ ls hyp hret
  obtain ⟨hx, hb, hml, hts, hown, hA, hE, hP, hD, hl⟩ := hyp
  have hK := hE.1
  have hS : va_S A s.heap s.heap [] := va_S.rf
  have X : Here g p s m c cX3_readEquation 3 ([.ref aT, .ref aE] : List Value).toArray RX3 A := ⟨⟨hx, hb, hml, hown, hts⟩, hE, hA⟩
  have hl : lv_has ls 3 [(0, .ref aT), (1, .ref aE)] := hl
  obtain ⟨H, hH⟩ : ∃ H, H = s.heap := ⟨_, rfl⟩
  obtain ⟨locs, hlocs⟩ : ∃ l : List Loc, l = [] := ⟨_, rfl⟩
  rw [show W p l e rmX3_readEquation s m ([.ref aT, .ref aE] : List Value).toArray below meth c s.heap [] 0 0 QQ (F0 m 0 ls []) = W p l e rmX3_readEquation s m ([.ref aT, .ref aE] : List Value).toArray below meth c H locs 0 0 QQ (F0 m 0 ls []) by rw [hH, hlocs]]
  have hP : va_P g.1 vwCl ((wX3 g aT aT_characters T_size T_characters) ++ (wX2 g aE E_left E_right)) H := by rw [hH]; exact hP
  have hD : va_D A ((wX3 g aT aT_characters T_size T_characters) ++ (wX2 g aE E_left E_right)) := hD
  have hS : va_S A s.heap H locs := by rw [hH, hlocs]; exact hS
  clear hH hlocs
  refine lv_aload_n hx hb dX3_readEquation_0 rfl (lv_at hl 0 rfl) ?_
  refine lv_iconst (v := (0 : Int32)) hx hb dX3_readEquation_1 (by decide) ?_
  obtain ⟨t2, hc2, h⟩ := bd1_to h
  refine go_P (st1 := [.int t2]) (W1 := ((wX3 g aT aT_characters T_size T_characters) ++ (wX2 g aE E_left E_right))) (run_V (As := [.int (0 : Int32)]) (rest := []) X hS (mX3_endOfSide g l  aT aT_characters T_size T_characters (0 : Int32) t2 hc2) okX3_endOfSide wd2_51 ⟨Nat.le_of_ble_eq_true rfl, Nat.le_of_ble_eq_true rfl⟩ ⟨rfl, rfl⟩ (va_recv hK hP (ci := 3) (q0 := 0) rfl rfl) (sub_P hP [0, 1] rfl) (hD.sub [0, 1] (by decide) rfl) (va_free hD hS hA [0, 1] rfl) rfl hl.1 rfl (Nat.le_of_ble_eq_true rfl) dX3_readEquation_2 ⟨Nat.zero_le _, Nat.zero_le _⟩) hS (va_free hD hS hA [0, 1] rfl) hP hD [0, 1] [2] [1, 2, 0] rfl rfl (by decide) (by decide) rfl (by decide) rfl (fun H locs hP hD hS => ?_)
  refine lv_istore_n (lv' := [(2, .int t2), (0, .ref aT), (1, .ref aE)]) hx hb dX3_readEquation_5 rfl hl (by decide) rfl (fun ls hl => ?_)
  refine lv_aload_n hx hb dX3_readEquation_6 rfl (lv_at hl 2 rfl) ?_
  refine lv_aload_n hx hb dX3_readEquation_7 rfl (lv_at hl 1 rfl) ?_
  refine lv_iconst (v := (0 : Int32)) hx hb dX3_readEquation_8 (by decide) ?_
  refine lv_iload_n hx hb dX3_readEquation_9 rfl (lv_at hl 0 rfl) ?_
  obtain ⟨t10, hc10, h⟩ := bd1_to h
  refine go_P (st1 := [.long t10, .ref aE]) (W1 := ((wX3 g aT aT_characters T_size T_characters) ++ (wX2 g aE E_left E_right))) (run_V (As := [.int (0 : Int32), .int t2]) (rest := [.ref aE]) X hS (mX3_packed g l  aT aT_characters T_size T_characters (0 : Int32) t2 t10 hc10) okX3_packed wd2_164 ⟨Nat.le_of_ble_eq_true rfl, Nat.le_of_ble_eq_true rfl⟩ ⟨rfl, rfl⟩ (va_recv hK hP (ci := 3) (q0 := 0) rfl rfl) (sub_P hP [0, 1] rfl) (hD.sub [0, 1] (by decide) rfl) (va_free hD hS hA [0, 1] rfl) rfl hl.1 rfl (Nat.le_of_ble_eq_true rfl) dX3_readEquation_10 ⟨Nat.zero_le _, Nat.zero_le _⟩) hS (va_free hD hS hA [0, 1] rfl) hP hD [0, 1] [2] [1, 2, 0] rfl rfl (by decide) (by decide) rfl (by decide) rfl (fun H locs hP hD hS => ?_)
  refine lv_aload_n hx hb dX3_readEquation_13 rfl (lv_at hl 1 rfl) ?_
  refine lv_iload_n hx hb dX3_readEquation_14 rfl (lv_at hl 0 rfl) ?_
  refine lv_iconst (v := (1 : Int32)) hx hb dX3_readEquation_15 (by decide) ?_
  refine lv_iadd hx hb dX3_readEquation_16 ?_
  refine lv_aload_n hx hb dX3_readEquation_17 rfl (lv_at hl 1 rfl) ?_
  refine lv_iload_n hx hb dX3_readEquation_18 rfl (lv_at hl 0 rfl) ?_
  refine lv_iconst (v := (1 : Int32)) hx hb dX3_readEquation_19 (by decide) ?_
  refine lv_iadd hx hb dX3_readEquation_20 ?_
  obtain ⟨t21, hc21, h⟩ := bd1_to h
  refine go_P (st1 := [.int t21, .int (t2 + (1 : Int32)), .ref aT, .long t10, .ref aE]) (W1 := ((wX3 g aT aT_characters T_size T_characters) ++ (wX2 g aE E_left E_right))) (run_V (As := [.int (t2 + (1 : Int32))]) (rest := [.int (t2 + (1 : Int32)), .ref aT, .long t10, .ref aE]) X hS (mX3_endOfSide g l  aT aT_characters T_size T_characters (t2 + (1 : Int32)) t21 hc21) okX3_endOfSide wd2_51 ⟨Nat.le_of_ble_eq_true rfl, Nat.le_of_ble_eq_true rfl⟩ ⟨rfl, rfl⟩ (va_recv hK hP (ci := 3) (q0 := 0) rfl rfl) (sub_P hP [0, 1] rfl) (hD.sub [0, 1] (by decide) rfl) (va_free hD hS hA [0, 1] rfl) rfl hl.1 rfl (Nat.le_of_ble_eq_true rfl) dX3_readEquation_21 ⟨Nat.zero_le _, Nat.zero_le _⟩) hS (va_free hD hS hA [0, 1] rfl) hP hD [0, 1] [2] [1, 2, 0] rfl rfl (by decide) (by decide) rfl (by decide) rfl (fun H locs hP hD hS => ?_)
  obtain ⟨t24, hc24, h⟩ := bd1_to h
  refine go_P (st1 := [.long t24, .long t10, .ref aE]) (W1 := ((wX3 g aT aT_characters T_size T_characters) ++ (wX2 g aE E_left E_right))) (run_V (As := [.int (t2 + (1 : Int32)), .int t21]) (rest := [.long t10, .ref aE]) X hS (mX3_packed g l  aT aT_characters T_size T_characters (t2 + (1 : Int32)) t21 t24 hc24) okX3_packed wd2_164 ⟨Nat.le_of_ble_eq_true rfl, Nat.le_of_ble_eq_true rfl⟩ ⟨rfl, rfl⟩ (va_recv hK hP (ci := 3) (q0 := 0) rfl rfl) (sub_P hP [0, 1] rfl) (hD.sub [0, 1] (by decide) rfl) (va_free hD hS hA [0, 1] rfl) rfl hl.1 rfl (Nat.le_of_ble_eq_true rfl) dX3_readEquation_24 ⟨Nat.zero_le _, Nat.zero_le _⟩) hS (va_free hD hS hA [0, 1] rfl) hP hD [0, 1] [2] [1, 2, 0] rfl rfl (by decide) (by decide) rfl (by decide) rfl (fun H locs hP hD hS => ?_)
  obtain ⟨E_left_27, E_right_27, hc27, h⟩ := bd2_to h
  refine go_P (st1 := []) (W1 := ((wX3 g aT aT_characters T_size T_characters) ++ (wX2 g aE E_left_27 E_right_27))) (run_V (As := [.long t10, .long t24]) (rest := []) X hS (mX2_set g l  aE E_left E_right t10 t24 E_left_27 E_right_27 hc27) okX2_set wd2_171 ⟨Nat.le_of_ble_eq_true rfl, Nat.le_of_ble_eq_true rfl⟩ ⟨rfl, rfl⟩ (va_recv hK hP (ci := 2) (q0 := 2) rfl rfl) (sub_P hP [2] rfl) (hD.sub [2] (by decide) rfl) (va_free hD hS hA [2] rfl) rfl hl.1 rfl (Nat.le_of_ble_eq_true rfl) dX3_readEquation_27 ⟨Nat.zero_le _, Nat.zero_le _⟩) hS (va_free hD hS hA [2] rfl) hP hD [2] [0, 1] [0, 1, 2] rfl rfl (by decide) (by decide) rfl (by decide) rfl (fun H locs hP hD hS => ?_)
  have h : some (E_left_27, E_right_27) = some (E_left_o, E_right_o) := h
  cases h
  exact hret _ _ _ _ hP hD hS dX3_readEquation_30
set_option maxHeartbeats 4000000 in
set_option maxRecDepth 100000 in
theorem mX5_empty (g : GP) (l : Launch) (aC aC_variables aC_relations aC_numbers : Nat) (C_size : Int32) (C_variables : Nat → Int32) (C_relations : Nat → Int32) (C_numbers : Nat → Int32)  (C_size_o : Int32) (h : fC_empty = some C_size_o) : Ct g l yX5_empty cX5_empty 1 none rmX5_empty [.ref aC] (wX5 g aC aC_variables aC_relations aC_numbers C_size C_variables C_relations C_numbers) none (wX5 g aC aC_variables aC_relations aC_numbers C_size_o C_variables C_relations C_numbers) := by
  refine Ct.introV (by decide) (Nat.le_of_ble_eq_true rfl) ?_
  intro p e s m below meth c A QQ ls hyp hret
  obtain ⟨hx, hb, hml, hts, hown, hA, hE, hP, hD, hl⟩ := hyp
  have hK := hE.1
  have hS : va_S A s.heap s.heap [] := va_S.rf
  have X : Here g p s m c cX5_empty 1 ([.ref aC] : List Value).toArray RX5 A := ⟨⟨hx, hb, hml, hown, hts⟩, hE, hA⟩
  have hl : lv_has ls 1 [(0, .ref aC)] := hl
  obtain ⟨H, hH⟩ : ∃ H, H = s.heap := ⟨_, rfl⟩
  obtain ⟨locs, hlocs⟩ : ∃ l : List Loc, l = [] := ⟨_, rfl⟩
  rw [show W p l e rmX5_empty s m ([.ref aC] : List Value).toArray below meth c s.heap [] 0 0 QQ (F0 m 0 ls []) = W p l e rmX5_empty s m ([.ref aC] : List Value).toArray below meth c H locs 0 0 QQ (F0 m 0 ls []) by rw [hH, hlocs]]
  have hP : va_P g.1 vwCl (wX5 g aC aC_variables aC_relations aC_numbers C_size C_variables C_relations C_numbers) H := by rw [hH]; exact hP
  have hD : va_D A (wX5 g aC aC_variables aC_relations aC_numbers C_size C_variables C_relations C_numbers) := hD
  have hS : va_S A s.heap H locs := by rw [hH, hlocs]; exact hS
  clear hH hlocs
  refine lv_aload_n hx hb dX5_empty_0 rfl (lv_at hl 0 rfl) ?_
  refine lv_iconst (v := (0 : Int32)) hx hb dX5_empty_1 (by decide) ?_
  refine va_put (D := g.1) (ci := 5) (v := .int (0 : Int32)) (ty := .int) (C := RX5) (T := TX5) (N := 4) hx hb hts inBX5 tyX5 tyX5_ok nmX5 hown hK hP hD hS 0 rfl rfl 3 (by decide) (hts _ wd1_76) (fun _ h9 => h9) rfl (tyX5_ok 3 (by decide)) rfl rfl (Nat.le_of_ble_eq_true rfl) dX5_empty_2 (fun H locs hP hD hS => ?_)
  have hP : va_P g.1 vwCl (wX5 g aC aC_variables aC_relations aC_numbers (0 : Int32) C_variables C_relations C_numbers) H := hP
  have hD : va_D A (wX5 g aC aC_variables aC_relations aC_numbers (0 : Int32) C_variables C_relations C_numbers) := hD
  have h : some (0 : Int32) = some C_size_o := h
  cases h
  exact hret _ _ _ _ hP hD hS dX5_empty_5
set_option maxHeartbeats 4000000 in
set_option maxRecDepth 100000 in
theorem mX5_add (g : GP) (l : Launch) (aC aC_variables aC_relations aC_numbers : Nat) (C_size : Int32) (C_variables : Nat → Int32) (C_relations : Nat → Int32) (C_numbers : Nat → Int32) (x1 : Int32) (x2 : Int32) (x3 : Int32) (C_size_o : Int32) (C_variables_o : Nat → Int32) (C_relations_o : Nat → Int32) (C_numbers_o : Nat → Int32) (h : fC_add C_size C_variables C_relations C_numbers x1 x2 x3 = some (C_size_o, C_variables_o, C_relations_o, C_numbers_o)) : Ct g l yX5_add cX5_add 4 none rmX5_add [.ref aC, .int x1, .int x2, .int x3] (wX5 g aC aC_variables aC_relations aC_numbers C_size C_variables C_relations C_numbers) none (wX5 g aC aC_variables aC_relations aC_numbers C_size_o C_variables_o C_relations_o C_numbers_o) := by
  refine Ct.introV (by decide) (Nat.le_of_ble_eq_true rfl) ?_
  intro p e s m below meth c A QQ ls hyp hret
  obtain ⟨hx, hb, hml, hts, hown, hA, hE, hP, hD, hl⟩ := hyp
  have hK := hE.1
  have hS : va_S A s.heap s.heap [] := va_S.rf
  have X : Here g p s m c cX5_add 4 ([.ref aC, .int x1, .int x2, .int x3] : List Value).toArray RX5 A := ⟨⟨hx, hb, hml, hown, hts⟩, hE, hA⟩
  have hl : lv_has ls 4 [(0, .ref aC), (1, .int x1), (2, .int x2), (3, .int x3)] := hl
  obtain ⟨H, hH⟩ : ∃ H, H = s.heap := ⟨_, rfl⟩
  obtain ⟨locs, hlocs⟩ : ∃ l : List Loc, l = [] := ⟨_, rfl⟩
  rw [show W p l e rmX5_add s m ([.ref aC, .int x1, .int x2, .int x3] : List Value).toArray below meth c s.heap [] 0 0 QQ (F0 m 0 ls []) = W p l e rmX5_add s m ([.ref aC, .int x1, .int x2, .int x3] : List Value).toArray below meth c H locs 0 0 QQ (F0 m 0 ls []) by rw [hH, hlocs]]
  have hP : va_P g.1 vwCl (wX5 g aC aC_variables aC_relations aC_numbers C_size C_variables C_relations C_numbers) H := by rw [hH]; exact hP
  have hD : va_D A (wX5 g aC aC_variables aC_relations aC_numbers C_size C_variables C_relations C_numbers) := hD
  have hS : va_S A s.heap H locs := by rw [hH, hlocs]; exact hS
  clear hH hlocs
  refine lv_aload_n hx hb dX5_add_0 rfl (lv_at hl 0 rfl) ?_
  refine va_get (D := g.1) (ci := 5) (v := .int C_size) (C := RX5) (T := TX5) (N := 4) hx hb hts inBX5 hown hK hP 0 rfl rfl 3 (by decide) (hts _ wd1_76) (fun _ h9 => h9) rfl dX5_add_1 ?_
  refine lv_if_lt (tgt := 15) hx hb dX5_add_4 (by decide) (fun q4 => ?_) (fun q4 => ?_)
  · have h := ifT h q4
    have h : some (C_size, C_variables, C_relations, C_numbers) = some (C_size_o, C_variables_o, C_relations_o, C_numbers_o) := h
    cases h
    exact hret _ _ _ _ hP hD hS dX5_add_15
  have h := ifF h q4
  refine lv_aload_n hx hb dX5_add_7 rfl (lv_at hl 0 rfl) ?_
  refine va_get (D := g.1) (ci := 5) (v := .int C_size) (C := RX5) (T := TX5) (N := 4) hx hb hts inBX5 hown hK hP 0 rfl rfl 3 (by decide) (hts _ wd1_76) (fun _ h9 => h9) rfl dX5_add_8 ?_
  refine lv_iconst (v := (4 : Int32)) hx hb dX5_add_11 (by decide) ?_
  refine lv_icmp_lt (tgt := 16) hx hb dX5_add_12 (by decide) (fun q12 => ?_) (fun q12 => ?_)
  · have h := ifT h q12
    refine lv_aload_n hx hb dX5_add_16 rfl (lv_at hl 0 rfl) ?_
    refine va_get (D := g.1) (ci := 5) (v := .ref aC_variables) (C := RX5) (T := TX5) (N := 4) hx hb hts inBX5 hown hK hP 0 rfl rfl 0 (by decide) (hts _ wd1_73) (fun _ h9 => h9) rfl dX5_add_17 ?_
    refine lv_aload_n hx hb dX5_add_20 rfl (lv_at hl 0 rfl) ?_
    refine va_get (D := g.1) (ci := 5) (v := .int C_size) (C := RX5) (T := TX5) (N := 4) hx hb hts inBX5 hown hK hP 0 rfl rfl 3 (by decide) (hts _ wd1_76) (fun _ h9 => h9) rfl dX5_add_21 ?_
    refine lv_iload_n hx hb dX5_add_24 rfl (lv_at hl 1 rfl) ?_
    have hin := sti_in h
    refine va_iast hx hb hK hP hD hS 1 0 rfl rfl hin dX5_add_25 (fun H locs hP hD hS => ?_)
    obtain ⟨C_variables_25, eC_variables_25⟩ : ∃ y : Nat → Int32, y = upd C_variables (Int32.toNatClampNeg C_size) x1 := ⟨_, rfl⟩
    have h := sti_to h eC_variables_25
    have hP : va_P g.1 vwCl (wX5 g aC aC_variables aC_relations aC_numbers C_size C_variables_25 C_relations C_numbers) H := by rw [eC_variables_25]; exact hP
    have hD : va_D A (wX5 g aC aC_variables aC_relations aC_numbers C_size C_variables_25 C_relations C_numbers) := by rw [eC_variables_25]; exact hD
    refine lv_aload_n hx hb dX5_add_26 rfl (lv_at hl 0 rfl) ?_
    refine va_get (D := g.1) (ci := 5) (v := .ref aC_relations) (C := RX5) (T := TX5) (N := 4) hx hb hts inBX5 hown hK hP 0 rfl rfl 1 (by decide) (hts _ wd1_74) (fun _ h9 => h9) rfl dX5_add_27 ?_
    refine lv_aload_n hx hb dX5_add_30 rfl (lv_at hl 0 rfl) ?_
    refine va_get (D := g.1) (ci := 5) (v := .int C_size) (C := RX5) (T := TX5) (N := 4) hx hb hts inBX5 hown hK hP 0 rfl rfl 3 (by decide) (hts _ wd1_76) (fun _ h9 => h9) rfl dX5_add_31 ?_
    refine lv_iload_n hx hb dX5_add_34 rfl (lv_at hl 2 rfl) ?_
    have hin := sti_in h
    refine va_cast hx hb hK hP hD hS 2 2 rfl rfl hin dX5_add_35 (fun H locs hP hD hS => ?_)
    obtain ⟨C_relations_35, eC_relations_35⟩ : ∃ y : Nat → Int32, y = upd C_relations (Int32.toNatClampNeg C_size) (vp_nar .char x2) := ⟨_, rfl⟩
    have h := sti_to h eC_relations_35
    have hP : va_P g.1 vwCl (wX5 g aC aC_variables aC_relations aC_numbers C_size C_variables_25 C_relations_35 C_numbers) H := by rw [eC_relations_35]; exact hP
    have hD : va_D A (wX5 g aC aC_variables aC_relations aC_numbers C_size C_variables_25 C_relations_35 C_numbers) := by rw [eC_relations_35]; exact hD
    refine lv_aload_n hx hb dX5_add_36 rfl (lv_at hl 0 rfl) ?_
    refine va_get (D := g.1) (ci := 5) (v := .ref aC_numbers) (C := RX5) (T := TX5) (N := 4) hx hb hts inBX5 hown hK hP 0 rfl rfl 2 (by decide) (hts _ wd1_75) (fun _ h9 => h9) rfl dX5_add_37 ?_
    refine lv_aload_n hx hb dX5_add_40 rfl (lv_at hl 0 rfl) ?_
    refine va_get (D := g.1) (ci := 5) (v := .int C_size) (C := RX5) (T := TX5) (N := 4) hx hb hts inBX5 hown hK hP 0 rfl rfl 3 (by decide) (hts _ wd1_76) (fun _ h9 => h9) rfl dX5_add_41 ?_
    refine lv_iload_n hx hb dX5_add_44 rfl (lv_at hl 3 rfl) ?_
    have hin := sti_in h
    refine va_iast hx hb hK hP hD hS 3 0 rfl rfl hin dX5_add_45 (fun H locs hP hD hS => ?_)
    obtain ⟨C_numbers_45, eC_numbers_45⟩ : ∃ y : Nat → Int32, y = upd C_numbers (Int32.toNatClampNeg C_size) x3 := ⟨_, rfl⟩
    have h := sti_to h eC_numbers_45
    have hP : va_P g.1 vwCl (wX5 g aC aC_variables aC_relations aC_numbers C_size C_variables_25 C_relations_35 C_numbers_45) H := by rw [eC_numbers_45]; exact hP
    have hD : va_D A (wX5 g aC aC_variables aC_relations aC_numbers C_size C_variables_25 C_relations_35 C_numbers_45) := by rw [eC_numbers_45]; exact hD
    refine lv_aload_n hx hb dX5_add_46 rfl (lv_at hl 0 rfl) ?_
    refine lv_dup hx hb dX5_add_47 rfl ?_
    refine va_get (D := g.1) (ci := 5) (v := .int C_size) (C := RX5) (T := TX5) (N := 4) hx hb hts inBX5 hown hK hP 0 rfl rfl 3 (by decide) (hts _ wd1_76) (fun _ h9 => h9) rfl dX5_add_48 ?_
    refine lv_iconst (v := (1 : Int32)) hx hb dX5_add_51 (by decide) ?_
    refine lv_iadd hx hb dX5_add_52 ?_
    refine lv_topi (fun t53 et53 => ?_)
    have h := st_to h et53
    refine va_put (D := g.1) (ci := 5) (v := .int t53) (ty := .int) (C := RX5) (T := TX5) (N := 4) hx hb hts inBX5 tyX5 tyX5_ok nmX5 hown hK hP hD hS 0 rfl rfl 3 (by decide) (hts _ wd1_76) (fun _ h9 => h9) rfl (tyX5_ok 3 (by decide)) rfl rfl (Nat.le_of_ble_eq_true rfl) dX5_add_53 (fun H locs hP hD hS => ?_)
    have hP : va_P g.1 vwCl (wX5 g aC aC_variables aC_relations aC_numbers t53 C_variables_25 C_relations_35 C_numbers_45) H := hP
    have hD : va_D A (wX5 g aC aC_variables aC_relations aC_numbers t53 C_variables_25 C_relations_35 C_numbers_45) := hD
    have h : some (t53, C_variables_25, C_relations_35, C_numbers_45) = some (C_size_o, C_variables_o, C_relations_o, C_numbers_o) := h
    cases h
    exact hret _ _ _ _ hP hD hS dX5_add_56
  have h := ifF h q12
  have h : some (C_size, C_variables, C_relations, C_numbers) = some (C_size_o, C_variables_o, C_relations_o, C_numbers_o) := h
  cases h
  exact hret _ _ _ _ hP hD hS dX5_add_15
set_option maxHeartbeats 4000000 in
set_option maxRecDepth 100000 in
theorem mX3_readConstraints (g : GP) (l : Launch) (aT aT_characters aC aC_variables aC_relations aC_numbers : Nat) (T_size : Int32) (T_characters : Nat → Int32) (C_size : Int32) (C_variables : Nat → Int32) (C_relations : Nat → Int32) (C_numbers : Nat → Int32)  (C_size_o : Int32) (C_variables_o : Nat → Int32) (C_relations_o : Nat → Int32) (C_numbers_o : Nat → Int32) (h : fT_readConstraints T_size T_characters C_variables C_relations C_numbers = some (C_size_o, C_variables_o, C_relations_o, C_numbers_o)) : Ct g l yX3_readConstraints cX3_readConstraints 5 none rmX3_readConstraints [.ref aT, .ref aC] ((wX3 g aT aT_characters T_size T_characters) ++ (wX5 g aC aC_variables aC_relations aC_numbers C_size C_variables C_relations C_numbers)) none ((wX3 g aT aT_characters T_size T_characters) ++ (wX5 g aC aC_variables aC_relations aC_numbers C_size_o C_variables_o C_relations_o C_numbers_o)) := by
  refine Ct.introV (by decide) (Nat.le_of_ble_eq_true rfl) ?_
  intro p e s m below meth c A QQ ls hyp hret
  obtain ⟨hx, hb, hml, hts, hown, hA, hE, hP, hD, hl⟩ := hyp
  have hK := hE.1
  have hS : va_S A s.heap s.heap [] := va_S.rf
  have X : Here g p s m c cX3_readConstraints 5 ([.ref aT, .ref aC] : List Value).toArray RX3 A := ⟨⟨hx, hb, hml, hown, hts⟩, hE, hA⟩
  have L18 : ∀ (n18 : Nat), ∀ (C_size : Int32) (C_variables : Nat → Int32) (C_relations : Nat → Int32) (C_numbers : Nat → Int32) (v2 : Int32) (v3 : Int32) (ls : Array Slot) (H : Heap) (locs : List Loc), lv_has ls 5 [(0, .ref aT), (1, .ref aC), (2, .int v2), (3, .int v3)] → va_P g.1 vwCl ((wX3 g aT aT_characters T_size T_characters) ++ (wX5 g aC aC_variables aC_relations aC_numbers C_size C_variables C_relations C_numbers)) H → va_D A ((wX3 g aT aT_characters T_size T_characters) ++ (wX5 g aC aC_variables aC_relations aC_numbers C_size C_variables C_relations C_numbers)) → va_S A s.heap H locs → fx6 (fT_readConstraints_18 T_size T_characters) n18 C_size C_variables C_relations C_numbers v2 v3 = some (C_size_o, C_variables_o, C_relations_o, C_numbers_o) → W p l e rmX3_readConstraints s m ([.ref aT, .ref aC] : List Value).toArray below meth c H locs 0 0 QQ (F0 m 18 ls []) := by
    intro n18
    induction n18 with
    | zero => intro C_size C_variables C_relations C_numbers v2 v3 ls H locs hl hP hD hS h; exact fx6_0 h
    | succ n18 ih18 =>
      intro C_size C_variables C_relations C_numbers v2 v3 ls H locs hl hP hD hS h
      have h := (fx6_s (fT_readConstraints_18 T_size T_characters) n18 C_size C_variables C_relations C_numbers v2 v3).symm.trans h
      refine lv_iload_n hx hb dX3_readConstraints_18 rfl (lv_at hl 3 rfl) ?_
      refine lv_iconst (v := (4 : Int32)) hx hb dX3_readConstraints_19 (by decide) ?_
      refine lv_icmp_ge (tgt := 77) hx hb dX3_readConstraints_20 (by decide) (fun q20 => ?_) (fun q20 => ?_)
      · have h := ifT h q20
        have h : some (C_size, C_variables, C_relations, C_numbers) = some (C_size_o, C_variables_o, C_relations_o, C_numbers_o) := h
        cases h
        exact hret _ _ _ _ hP hD hS dX3_readConstraints_77
      have h := ifF h q20
      refine lv_iload_n hx hb dX3_readConstraints_23 rfl (lv_at hl 2 rfl) ?_
      refine lv_aload_n hx hb dX3_readConstraints_24 rfl (lv_at hl 0 rfl) ?_
      refine va_get (D := g.1) (ci := 3) (v := .int T_size) (C := RX3) (T := TX3) (N := 2) hx hb hts inBX3 hown hK hP 0 rfl rfl 1 (by decide) (hts _ wd1_35) (fun _ h9 => h9) rfl dX3_readConstraints_25 ?_
      refine lv_icmp_ge (tgt := 77) hx hb dX3_readConstraints_28 (by decide) (fun q28 => ?_) (fun q28 => ?_)
      · have h := ifT h q28
        have h : some (C_size, C_variables, C_relations, C_numbers) = some (C_size_o, C_variables_o, C_relations_o, C_numbers_o) := h
        cases h
        exact hret _ _ _ _ hP hD hS dX3_readConstraints_77
      have h := ifF h q28
      refine lv_aload_n hx hb dX3_readConstraints_31 rfl (lv_at hl 0 rfl) ?_
      refine lv_iload_n hx hb dX3_readConstraints_32 rfl (lv_at hl 2 rfl) ?_
      refine lv_iconst (v := (1 : Int32)) hx hb dX3_readConstraints_33 (by decide) ?_
      refine lv_iadd hx hb dX3_readConstraints_34 ?_
      obtain ⟨t35, hc35, h⟩ := bd1_to h
      refine go_P (st1 := [.int t35]) (W1 := ((wX3 g aT aT_characters T_size T_characters) ++ (wX5 g aC aC_variables aC_relations aC_numbers C_size C_variables C_relations C_numbers))) (run_V (As := [.int (v2 + (1 : Int32))]) (rest := []) X hS (mX3_at g l  aT aT_characters T_size T_characters (v2 + (1 : Int32)) t35 hc35) okX3_at wd2_55 ⟨Nat.le_of_ble_eq_true rfl, Nat.le_of_ble_eq_true rfl⟩ ⟨rfl, rfl⟩ (va_recv hK hP (ci := 3) (q0 := 0) rfl rfl) (sub_P hP [0, 1] rfl) (hD.sub [0, 1] (by decide) rfl) (va_free hD hS hA [0, 1] rfl) rfl hl.1 rfl (Nat.le_of_ble_eq_true rfl) dX3_readConstraints_35 ⟨Nat.zero_le _, Nat.zero_le _⟩) hS (va_free hD hS hA [0, 1] rfl) hP hD [0, 1] [2, 3, 4, 5] [4, 5, 0, 1, 2, 3] rfl rfl (by decide) (by decide) rfl (by decide) rfl (fun H locs hP hD hS => ?_)
      obtain ⟨t38, hc38, h⟩ := bd1_to h
      refine go_0 (st1 := [.int t38]) (run_S (As := [.int t35]) (rest := []) X hS (mX9_symbolOf g l  t35 t38 hc38) okX9_symbolOf wd2_59 ⟨Nat.le_of_ble_eq_true rfl, Nat.le_of_ble_eq_true rfl⟩ ⟨rfl, rfl⟩ nil_P nil_D (nil_F hS hA) rfl hl.1 rfl (Nat.le_of_ble_eq_true rfl) dX3_readConstraints_38 ⟨Nat.zero_le _, Nat.zero_le _⟩) hS hA hP rfl (fun H locs hP hS => ?_)
      refine lv_iconst (v := (3 : Int32)) hx hb dX3_readConstraints_41 (by decide) ?_
      refine lv_isub hx hb dX3_readConstraints_42 ?_
      refine lv_topi (fun t43 et43 => ?_)
      have h := st_to h et43
      refine lv_istore (lv' := [(4, .int t43), (0, .ref aT), (1, .ref aC), (2, .int v2), (3, .int v3)]) hx hb dX3_readConstraints_43 hl (by decide) rfl (fun ls hl => ?_)
      refine lv_aload_n hx hb dX3_readConstraints_45 rfl (lv_at hl 2 rfl) ?_
      refine lv_iload hx hb dX3_readConstraints_46 (lv_at hl 0 rfl) ?_
      refine lv_aload_n hx hb dX3_readConstraints_48 rfl (lv_at hl 1 rfl) ?_
      refine lv_iload_n hx hb dX3_readConstraints_49 rfl (lv_at hl 3 rfl) ?_
      refine lv_iconst (v := (2 : Int32)) hx hb dX3_readConstraints_50 (by decide) ?_
      refine lv_iadd hx hb dX3_readConstraints_51 ?_
      obtain ⟨t52, hc52, h⟩ := bd1_to h
      refine go_P (st1 := [.int t52, .int t43, .ref aC]) (W1 := ((wX3 g aT aT_characters T_size T_characters) ++ (wX5 g aC aC_variables aC_relations aC_numbers C_size C_variables C_relations C_numbers))) (run_V (As := [.int (v2 + (2 : Int32))]) (rest := [.int t43, .ref aC]) X hS (mX3_at g l  aT aT_characters T_size T_characters (v2 + (2 : Int32)) t52 hc52) okX3_at wd2_55 ⟨Nat.le_of_ble_eq_true rfl, Nat.le_of_ble_eq_true rfl⟩ ⟨rfl, rfl⟩ (va_recv hK hP (ci := 3) (q0 := 0) rfl rfl) (sub_P hP [0, 1] rfl) (hD.sub [0, 1] (by decide) rfl) (va_free hD hS hA [0, 1] rfl) rfl hl.1 rfl (Nat.le_of_ble_eq_true rfl) dX3_readConstraints_52 ⟨Nat.zero_le _, Nat.zero_le _⟩) hS (va_free hD hS hA [0, 1] rfl) hP hD [0, 1] [2, 3, 4, 5] [4, 5, 0, 1, 2, 3] rfl rfl (by decide) (by decide) rfl (by decide) rfl (fun H locs hP hD hS => ?_)
      refine lv_aload_n hx hb dX3_readConstraints_55 rfl (lv_at hl 1 rfl) ?_
      refine lv_iload_n hx hb dX3_readConstraints_56 rfl (lv_at hl 3 rfl) ?_
      refine lv_iconst (v := (3 : Int32)) hx hb dX3_readConstraints_57 (by decide) ?_
      refine lv_iadd hx hb dX3_readConstraints_58 ?_
      obtain ⟨t59, hc59, h⟩ := bd1_to h
      refine go_P (st1 := [.int t59, .int t52, .int t43, .ref aC]) (W1 := ((wX3 g aT aT_characters T_size T_characters) ++ (wX5 g aC aC_variables aC_relations aC_numbers C_size C_variables C_relations C_numbers))) (run_V (As := [.int (v2 + (3 : Int32))]) (rest := [.int t52, .int t43, .ref aC]) X hS (mX3_at g l  aT aT_characters T_size T_characters (v2 + (3 : Int32)) t59 hc59) okX3_at wd2_55 ⟨Nat.le_of_ble_eq_true rfl, Nat.le_of_ble_eq_true rfl⟩ ⟨rfl, rfl⟩ (va_recv hK hP (ci := 3) (q0 := 0) rfl rfl) (sub_P hP [0, 1] rfl) (hD.sub [0, 1] (by decide) rfl) (va_free hD hS hA [0, 1] rfl) rfl hl.1 rfl (Nat.le_of_ble_eq_true rfl) dX3_readConstraints_59 ⟨Nat.zero_le _, Nat.zero_le _⟩) hS (va_free hD hS hA [0, 1] rfl) hP hD [0, 1] [2, 3, 4, 5] [4, 5, 0, 1, 2, 3] rfl rfl (by decide) (by decide) rfl (by decide) rfl (fun H locs hP hD hS => ?_)
      refine lv_bipush (v := (48 : Int32)) hx hb dX3_readConstraints_62 (by decide) ?_
      refine lv_isub hx hb dX3_readConstraints_64 ?_
      obtain ⟨C_size_65, C_variables_65, C_relations_65, C_numbers_65, hc65, h⟩ := bd4_to h
      refine go_P (st1 := []) (W1 := ((wX3 g aT aT_characters T_size T_characters) ++ (wX5 g aC aC_variables aC_relations aC_numbers C_size_65 C_variables_65 C_relations_65 C_numbers_65))) (run_V (As := [.int t43, .int t52, .int (t59 - (48 : Int32))]) (rest := []) X hS (mX5_add g l  aC aC_variables aC_relations aC_numbers C_size C_variables C_relations C_numbers t43 t52 (t59 - (48 : Int32)) C_size_65 C_variables_65 C_relations_65 C_numbers_65 hc65) okX5_add wd2_183 ⟨Nat.le_of_ble_eq_true rfl, Nat.le_of_ble_eq_true rfl⟩ ⟨rfl, rfl⟩ (va_recv hK hP (ci := 5) (q0 := 2) rfl rfl) (sub_P hP [2, 3, 4, 5] rfl) (hD.sub [2, 3, 4, 5] (by decide) rfl) (va_free hD hS hA [2, 3, 4, 5] rfl) rfl hl.1 rfl (Nat.le_of_ble_eq_true rfl) dX3_readConstraints_65 ⟨Nat.zero_le _, Nat.zero_le _⟩) hS (va_free hD hS hA [2, 3, 4, 5] rfl) hP hD [2, 3, 4, 5] [0, 1] [0, 1, 2, 3, 4, 5] rfl rfl (by decide) (by decide) rfl (by decide) rfl (fun H locs hP hD hS => ?_)
      obtain ⟨t68, et68⟩ : ∃ y : Int32, y = v2 + (4 : Int32) := ⟨_, rfl⟩
      refine lv_iinc (v := t68) (lv' := [(2, .int t68), (4, .int t43), (0, .ref aT), (1, .ref aC), (3, .int v3)]) hx hb dX3_readConstraints_68 hl (k := 3) rfl (by rw [et68]; rfl) (by decide) rfl (fun ls hl => ?_)
      have h := st_to h et68
      obtain ⟨t71, et71⟩ : ∃ y : Int32, y = v3 + (1 : Int32) := ⟨_, rfl⟩
      refine lv_iinc (v := t71) (lv' := [(3, .int t71), (2, .int t68), (4, .int t43), (0, .ref aT), (1, .ref aC)]) hx hb dX3_readConstraints_71 hl (k := 4) rfl (by rw [et71]; rfl) (by decide) rfl (fun ls hl => ?_)
      have h := st_to h et71
      refine lv_goto (tgt := 18) hx hb dX3_readConstraints_74 (by decide) ?_
      exact ih18 C_size_65 C_variables_65 C_relations_65 C_numbers_65 t68 t71 ls H locs (lv_sub hl [3, 4, 1, 0] rfl) hP hD hS h
  have hl : lv_has ls 5 [(0, .ref aT), (1, .ref aC)] := hl
  obtain ⟨H, hH⟩ : ∃ H, H = s.heap := ⟨_, rfl⟩
  obtain ⟨locs, hlocs⟩ : ∃ l : List Loc, l = [] := ⟨_, rfl⟩
  rw [show W p l e rmX3_readConstraints s m ([.ref aT, .ref aC] : List Value).toArray below meth c s.heap [] 0 0 QQ (F0 m 0 ls []) = W p l e rmX3_readConstraints s m ([.ref aT, .ref aC] : List Value).toArray below meth c H locs 0 0 QQ (F0 m 0 ls []) by rw [hH, hlocs]]
  have hP : va_P g.1 vwCl ((wX3 g aT aT_characters T_size T_characters) ++ (wX5 g aC aC_variables aC_relations aC_numbers C_size C_variables C_relations C_numbers)) H := by rw [hH]; exact hP
  have hD : va_D A ((wX3 g aT aT_characters T_size T_characters) ++ (wX5 g aC aC_variables aC_relations aC_numbers C_size C_variables C_relations C_numbers)) := hD
  have hS : va_S A s.heap H locs := by rw [hH, hlocs]; exact hS
  clear hH hlocs
  refine lv_aload_n hx hb dX3_readConstraints_0 rfl (lv_at hl 1 rfl) ?_
  obtain ⟨C_size_1, hc1, h⟩ := bd1_to h
  refine go_P (st1 := []) (W1 := ((wX3 g aT aT_characters T_size T_characters) ++ (wX5 g aC aC_variables aC_relations aC_numbers C_size_1 C_variables C_relations C_numbers))) (run_V (As := []) (rest := []) X hS (mX5_empty g l  aC aC_variables aC_relations aC_numbers C_size C_variables C_relations C_numbers C_size_1 hc1) okX5_empty wd2_179 ⟨Nat.le_of_ble_eq_true rfl, Nat.le_of_ble_eq_true rfl⟩ ⟨rfl, rfl⟩ (va_recv hK hP (ci := 5) (q0 := 2) rfl rfl) (sub_P hP [2, 3, 4, 5] rfl) (hD.sub [2, 3, 4, 5] (by decide) rfl) (va_free hD hS hA [2, 3, 4, 5] rfl) rfl hl.1 rfl (Nat.le_of_ble_eq_true rfl) dX3_readConstraints_1 ⟨Nat.zero_le _, Nat.zero_le _⟩) hS (va_free hD hS hA [2, 3, 4, 5] rfl) hP hD [2, 3, 4, 5] [0, 1] [0, 1, 2, 3, 4, 5] rfl rfl (by decide) (by decide) rfl (by decide) rfl (fun H locs hP hD hS => ?_)
  refine lv_aload_n hx hb dX3_readConstraints_4 rfl (lv_at hl 0 rfl) ?_
  refine lv_aload_n hx hb dX3_readConstraints_5 rfl (lv_at hl 0 rfl) ?_
  refine lv_iconst (v := (0 : Int32)) hx hb dX3_readConstraints_6 (by decide) ?_
  obtain ⟨t7, hc7, h⟩ := bd1_to h
  refine go_P (st1 := [.int t7, .ref aT]) (W1 := ((wX3 g aT aT_characters T_size T_characters) ++ (wX5 g aC aC_variables aC_relations aC_numbers C_size_1 C_variables C_relations C_numbers))) (run_V (As := [.int (0 : Int32)]) (rest := [.ref aT]) X hS (mX3_endOfSide g l  aT aT_characters T_size T_characters (0 : Int32) t7 hc7) okX3_endOfSide wd2_51 ⟨Nat.le_of_ble_eq_true rfl, Nat.le_of_ble_eq_true rfl⟩ ⟨rfl, rfl⟩ (va_recv hK hP (ci := 3) (q0 := 0) rfl rfl) (sub_P hP [0, 1] rfl) (hD.sub [0, 1] (by decide) rfl) (va_free hD hS hA [0, 1] rfl) rfl hl.1 rfl (Nat.le_of_ble_eq_true rfl) dX3_readConstraints_7 ⟨Nat.zero_le _, Nat.zero_le _⟩) hS (va_free hD hS hA [0, 1] rfl) hP hD [0, 1] [2, 3, 4, 5] [4, 5, 0, 1, 2, 3] rfl rfl (by decide) (by decide) rfl (by decide) rfl (fun H locs hP hD hS => ?_)
  refine lv_iconst (v := (1 : Int32)) hx hb dX3_readConstraints_10 (by decide) ?_
  refine lv_iadd hx hb dX3_readConstraints_11 ?_
  obtain ⟨t12, hc12, h⟩ := bd1_to h
  refine go_P (st1 := [.int t12]) (W1 := ((wX3 g aT aT_characters T_size T_characters) ++ (wX5 g aC aC_variables aC_relations aC_numbers C_size_1 C_variables C_relations C_numbers))) (run_V (As := [.int (t7 + (1 : Int32))]) (rest := []) X hS (mX3_endOfSide g l  aT aT_characters T_size T_characters (t7 + (1 : Int32)) t12 hc12) okX3_endOfSide wd2_51 ⟨Nat.le_of_ble_eq_true rfl, Nat.le_of_ble_eq_true rfl⟩ ⟨rfl, rfl⟩ (va_recv hK hP (ci := 3) (q0 := 0) rfl rfl) (sub_P hP [0, 1] rfl) (hD.sub [0, 1] (by decide) rfl) (va_free hD hS hA [0, 1] rfl) rfl hl.1 rfl (Nat.le_of_ble_eq_true rfl) dX3_readConstraints_12 ⟨Nat.zero_le _, Nat.zero_le _⟩) hS (va_free hD hS hA [0, 1] rfl) hP hD [0, 1] [2, 3, 4, 5] [4, 5, 0, 1, 2, 3] rfl rfl (by decide) (by decide) rfl (by decide) rfl (fun H locs hP hD hS => ?_)
  refine lv_istore_n (lv' := [(2, .int t12), (0, .ref aT), (1, .ref aC)]) hx hb dX3_readConstraints_15 rfl hl (by decide) rfl (fun ls hl => ?_)
  refine lv_iconst (v := (0 : Int32)) hx hb dX3_readConstraints_16 (by decide) ?_
  refine lv_istore_n (lv' := [(3, .int (0 : Int32)), (2, .int t12), (0, .ref aT), (1, .ref aC)]) hx hb dX3_readConstraints_17 rfl hl (by decide) rfl (fun ls hl => ?_)
  exact L18 FU C_size_1 C_variables C_relations C_numbers t12 (0 : Int32) ls H locs (lv_sub hl [2, 3, 1, 0] rfl) hP hD hS h
set_option maxHeartbeats 4000000 in
set_option maxRecDepth 100000 in
theorem mX4_forget (g : GP) (l : Launch) (aH aH_lefts aH_rights : Nat) (H_size : Int32) (H_lefts : Nat → Int64) (H_rights : Nat → Int64)  (H_size_o : Int32) (h : fH_forget = some H_size_o) : Ct g l yX4_forget cX4_forget 1 none rmX4_forget [.ref aH] (wX4 g aH aH_lefts aH_rights H_size H_lefts H_rights) none (wX4 g aH aH_lefts aH_rights H_size_o H_lefts H_rights) := by
  refine Ct.introV (by decide) (Nat.le_of_ble_eq_true rfl) ?_
  intro p e s m below meth c A QQ ls hyp hret
  obtain ⟨hx, hb, hml, hts, hown, hA, hE, hP, hD, hl⟩ := hyp
  have hK := hE.1
  have hS : va_S A s.heap s.heap [] := va_S.rf
  have X : Here g p s m c cX4_forget 1 ([.ref aH] : List Value).toArray RX4 A := ⟨⟨hx, hb, hml, hown, hts⟩, hE, hA⟩
  have hl : lv_has ls 1 [(0, .ref aH)] := hl
  obtain ⟨H, hH⟩ : ∃ H, H = s.heap := ⟨_, rfl⟩
  obtain ⟨locs, hlocs⟩ : ∃ l : List Loc, l = [] := ⟨_, rfl⟩
  rw [show W p l e rmX4_forget s m ([.ref aH] : List Value).toArray below meth c s.heap [] 0 0 QQ (F0 m 0 ls []) = W p l e rmX4_forget s m ([.ref aH] : List Value).toArray below meth c H locs 0 0 QQ (F0 m 0 ls []) by rw [hH, hlocs]]
  have hP : va_P g.1 vwCl (wX4 g aH aH_lefts aH_rights H_size H_lefts H_rights) H := by rw [hH]; exact hP
  have hD : va_D A (wX4 g aH aH_lefts aH_rights H_size H_lefts H_rights) := hD
  have hS : va_S A s.heap H locs := by rw [hH, hlocs]; exact hS
  clear hH hlocs
  refine lv_aload_n hx hb dX4_forget_0 rfl (lv_at hl 0 rfl) ?_
  refine lv_iconst (v := (0 : Int32)) hx hb dX4_forget_1 (by decide) ?_
  refine va_put (D := g.1) (ci := 4) (v := .int (0 : Int32)) (ty := .int) (C := RX4) (T := TX4) (N := 3) hx hb hts inBX4 tyX4 tyX4_ok nmX4 hown hK hP hD hS 0 rfl rfl 2 (by decide) (hts _ wd1_95) (fun _ h9 => h9) rfl (tyX4_ok 2 (by decide)) rfl rfl (Nat.le_of_ble_eq_true rfl) dX4_forget_2 (fun H locs hP hD hS => ?_)
  have hP : va_P g.1 vwCl (wX4 g aH aH_lefts aH_rights (0 : Int32) H_lefts H_rights) H := hP
  have hD : va_D A (wX4 g aH aH_lefts aH_rights (0 : Int32) H_lefts H_rights) := hD
  have h : some (0 : Int32) = some H_size_o := h
  cases h
  exact hret _ _ _ _ hP hD hS dX4_forget_5
set_option maxHeartbeats 4000000 in
set_option maxRecDepth 100000 in
theorem mX10_empty (g : GP) (l : Launch) (aS aS_lefts aS_rights aS_filled : Nat) (S_lefts : Nat → Int64) (S_rights : Nat → Int64) (S_filled : Nat → Int32)  (S_filled_o : Nat → Int32) (h : fS_empty S_filled = some S_filled_o) : Ct g l yX10_empty cX10_empty 2 none rmX10_empty [.ref aS] (wX10 g aS aS_lefts aS_rights aS_filled S_lefts S_rights S_filled) none (wX10 g aS aS_lefts aS_rights aS_filled S_lefts S_rights S_filled_o) := by
  refine Ct.introV (by decide) (Nat.le_of_ble_eq_true rfl) ?_
  intro p e s m below meth c A QQ ls hyp hret
  obtain ⟨hx, hb, hml, hts, hown, hA, hE, hP, hD, hl⟩ := hyp
  have hK := hE.1
  have hS : va_S A s.heap s.heap [] := va_S.rf
  have X : Here g p s m c cX10_empty 2 ([.ref aS] : List Value).toArray RX10 A := ⟨⟨hx, hb, hml, hown, hts⟩, hE, hA⟩
  have L2 : ∀ (n2 : Nat), ∀ (S_filled : Nat → Int32) (v1 : Int32) (ls : Array Slot) (H : Heap) (locs : List Loc), lv_has ls 2 [(0, .ref aS), (1, .int v1)] → va_P g.1 vwCl (wX10 g aS aS_lefts aS_rights aS_filled S_lefts S_rights S_filled) H → va_D A (wX10 g aS aS_lefts aS_rights aS_filled S_lefts S_rights S_filled) → va_S A s.heap H locs → fx2 (fS_empty_2) n2 S_filled v1 = some S_filled_o → W p l e rmX10_empty s m ([.ref aS] : List Value).toArray below meth c H locs 0 0 QQ (F0 m 2 ls []) := by
    intro n2
    induction n2 with
    | zero => intro S_filled v1 ls H locs hl hP hD hS h; exact fx2_0 h
    | succ n2 ih2 =>
      intro S_filled v1 ls H locs hl hP hD hS h
      have h := (fx2_s (fS_empty_2) n2 S_filled v1).symm.trans h
      refine lv_iload_n hx hb dX10_empty_2 rfl (lv_at hl 1 rfl) ?_
      refine lv_iconst (v := (2 : Int32)) hx hb dX10_empty_3 (by decide) ?_
      refine lv_icmp_ge (tgt := 20) hx hb dX10_empty_4 (by decide) (fun q4 => ?_) (fun q4 => ?_)
      · have h := ifT h q4
        have h : some S_filled = some S_filled_o := h
        cases h
        exact hret _ _ _ _ hP hD hS dX10_empty_20
      have h := ifF h q4
      refine lv_aload_n hx hb dX10_empty_7 rfl (lv_at hl 0 rfl) ?_
      refine va_get (D := g.1) (ci := 9) (v := .ref aS_filled) (C := RX10) (T := TX10) (N := 3) hx hb hts inBX10 hown hK hP 0 rfl rfl 2 (by decide) (hts _ wd1_112) (fun _ h9 => h9) rfl dX10_empty_8 ?_
      refine lv_iload_n hx hb dX10_empty_11 rfl (lv_at hl 1 rfl) ?_
      refine lv_iconst (v := (0 : Int32)) hx hb dX10_empty_12 (by decide) ?_
      have hin := sti_in h
      refine va_zast hx hb hK hP hD hS 3 3 rfl rfl hin dX10_empty_13 (fun H locs hP hD hS => ?_)
      obtain ⟨S_filled_13, eS_filled_13⟩ : ∃ y : Nat → Int32, y = upd S_filled (Int32.toNatClampNeg v1) (vp_nar .boolean (0 : Int32)) := ⟨_, rfl⟩
      have h := sti_to h eS_filled_13
      have hP : va_P g.1 vwCl (wX10 g aS aS_lefts aS_rights aS_filled S_lefts S_rights S_filled_13) H := by rw [eS_filled_13]; exact hP
      have hD : va_D A (wX10 g aS aS_lefts aS_rights aS_filled S_lefts S_rights S_filled_13) := by rw [eS_filled_13]; exact hD
      obtain ⟨t14, et14⟩ : ∃ y : Int32, y = v1 + (1 : Int32) := ⟨_, rfl⟩
      refine lv_iinc (v := t14) (lv' := [(1, .int t14), (0, .ref aS)]) hx hb dX10_empty_14 hl (k := 1) rfl (by rw [et14]; rfl) (by decide) rfl (fun ls hl => ?_)
      have h := st_to h et14
      refine lv_goto (tgt := 2) hx hb dX10_empty_17 (by decide) ?_
      exact ih2 S_filled_13 t14 ls H locs (lv_sub hl [1, 0] rfl) hP hD hS h
  have hl : lv_has ls 2 [(0, .ref aS)] := hl
  obtain ⟨H, hH⟩ : ∃ H, H = s.heap := ⟨_, rfl⟩
  obtain ⟨locs, hlocs⟩ : ∃ l : List Loc, l = [] := ⟨_, rfl⟩
  rw [show W p l e rmX10_empty s m ([.ref aS] : List Value).toArray below meth c s.heap [] 0 0 QQ (F0 m 0 ls []) = W p l e rmX10_empty s m ([.ref aS] : List Value).toArray below meth c H locs 0 0 QQ (F0 m 0 ls []) by rw [hH, hlocs]]
  have hP : va_P g.1 vwCl (wX10 g aS aS_lefts aS_rights aS_filled S_lefts S_rights S_filled) H := by rw [hH]; exact hP
  have hD : va_D A (wX10 g aS aS_lefts aS_rights aS_filled S_lefts S_rights S_filled) := hD
  have hS : va_S A s.heap H locs := by rw [hH, hlocs]; exact hS
  clear hH hlocs
  refine lv_iconst (v := (0 : Int32)) hx hb dX10_empty_0 (by decide) ?_
  refine lv_istore_n (lv' := [(1, .int (0 : Int32)), (0, .ref aS)]) hx hb dX10_empty_1 rfl hl (by decide) rfl (fun ls hl => ?_)
  exact L2 FU S_filled (0 : Int32) ls H locs (lv_sub hl [1, 0] rfl) hP hD hS h
set_option maxHeartbeats 4000000 in
set_option maxRecDepth 100000 in
theorem mX5_size (g : GP) (l : Launch) (aC aC_variables aC_relations aC_numbers : Nat) (C_size : Int32) (C_variables : Nat → Int32) (C_relations : Nat → Int32) (C_numbers : Nat → Int32)  (r : Int32) (h : fC_size C_size = some r) : Ct g l yX5_size cX5_size 1 (some .int) rmX5_size [.ref aC] (wX5 g aC aC_variables aC_relations aC_numbers C_size C_variables C_relations C_numbers) (some (.int r)) (wX5 g aC aC_variables aC_relations aC_numbers C_size C_variables C_relations C_numbers) := by
  refine Ct.introI (by decide) (Nat.le_of_ble_eq_true rfl) ?_
  intro p e s m below meth c A QQ ls hyp hret
  obtain ⟨hx, hb, hml, hts, hown, hA, hE, hP, hD, hl⟩ := hyp
  have hK := hE.1
  have hS : va_S A s.heap s.heap [] := va_S.rf
  have X : Here g p s m c cX5_size 1 ([.ref aC] : List Value).toArray RX5 A := ⟨⟨hx, hb, hml, hown, hts⟩, hE, hA⟩
  have hl : lv_has ls 1 [(0, .ref aC)] := hl
  obtain ⟨H, hH⟩ : ∃ H, H = s.heap := ⟨_, rfl⟩
  obtain ⟨locs, hlocs⟩ : ∃ l : List Loc, l = [] := ⟨_, rfl⟩
  rw [show W p l e rmX5_size s m ([.ref aC] : List Value).toArray below meth c s.heap [] 0 0 QQ (F0 m 0 ls []) = W p l e rmX5_size s m ([.ref aC] : List Value).toArray below meth c H locs 0 0 QQ (F0 m 0 ls []) by rw [hH, hlocs]]
  have hP : va_P g.1 vwCl (wX5 g aC aC_variables aC_relations aC_numbers C_size C_variables C_relations C_numbers) H := by rw [hH]; exact hP
  have hD : va_D A (wX5 g aC aC_variables aC_relations aC_numbers C_size C_variables C_relations C_numbers) := hD
  have hS : va_S A s.heap H locs := by rw [hH, hlocs]; exact hS
  clear hH hlocs
  refine lv_aload_n hx hb dX5_size_0 rfl (lv_at hl 0 rfl) ?_
  refine va_get (D := g.1) (ci := 5) (v := .int C_size) (C := RX5) (T := TX5) (N := 4) hx hb hts inBX5 hown hK hP 0 rfl rfl 3 (by decide) (hts _ wd1_76) (fun _ h9 => h9) rfl dX5_size_1 ?_
  have h : some C_size = some r := h
  cases h
  exact hret _ _ _ _ hP hD hS dX5_size_4
