set_option maxHeartbeats 4000000 in
set_option maxRecDepth 100000 in
theorem mX12_satisfies (g : GP) (l : Launch) (aM aM_text aM_now aM_trial aM_read aM_diary aM_kept aM_isKept aM_constraint aM_readConstraint aM_word aM_size aM_number aM_firstOne aM_node aM_parent aM_rule aM_child aM_proof aM_witness aM_witnessSize aM_built aM_copyRow : Nat) (M_length : Int32) (M_acts : Int32) (M_next : Int32) (M_many : Int32) (M_readMany : Int32) (M_found : Int32) (M_shortest : Int32) (M_nodes : Int32) (M_solved : Int32) (M_dropped : Int32) (M_fits : Int32) (M_proofSize : Int32) (M_tooLong : Int32) (M_text : Nat → Int32) (M_now : Nat → Int32) (M_trial : Nat → Int32) (M_read : Nat → Int32) (M_diary : Nat → Int32) (M_kept : Nat → Int32) (M_isKept : Nat → Int32) (M_constraint : Nat → Int32) (M_readConstraint : Nat → Int32) (M_word : Nat → Int32) (M_size : Nat → Int32) (M_number : Nat → Int32) (M_firstOne : Nat → Int32) (M_node : Nat → Int32) (M_parent : Nat → Int32) (M_rule : Nat → Int32) (M_child : Nat → Int32) (M_proof : Nat → Int32) (M_witness : Nat → Int32) (M_witnessSize : Nat → Int32) (M_built : Nat → Int32) (M_copyRow : Nat → Int32) (x1 : Int32) (x2 : Int32) (x3 : Int32) (x4 : Int32) (r : Int32) (M_word_o : Nat → Int32) (M_size_o : Nat → Int32) (M_number_o : Nat → Int32) (h : fM_satisfies M_many M_now M_constraint M_word M_size M_number x1 x2 x3 x4 = some (r, M_word_o, M_size_o, M_number_o)) : Ct g l yX12_satisfies cX12_satisfies 5 (some .int) rmX12_satisfies [.ref aM, .int x1, .int x2, .int x3, .int x4] (wX12 g aM aM_text aM_now aM_trial aM_read aM_diary aM_kept aM_isKept aM_constraint aM_readConstraint aM_word aM_size aM_number aM_firstOne aM_node aM_parent aM_rule aM_child aM_proof aM_witness aM_witnessSize aM_built aM_copyRow M_length M_acts M_next M_many M_readMany M_found M_shortest M_nodes M_solved M_dropped M_fits M_proofSize M_tooLong M_text M_now M_trial M_read M_diary M_kept M_isKept M_constraint M_readConstraint M_word M_size M_number M_firstOne M_node M_parent M_rule M_child M_proof M_witness M_witnessSize M_built M_copyRow) (some (.int r)) (wX12 g aM aM_text aM_now aM_trial aM_read aM_diary aM_kept aM_isKept aM_constraint aM_readConstraint aM_word aM_size aM_number aM_firstOne aM_node aM_parent aM_rule aM_child aM_proof aM_witness aM_witnessSize aM_built aM_copyRow M_length M_acts M_next M_many M_readMany M_found M_shortest M_nodes M_solved M_dropped M_fits M_proofSize M_tooLong M_text M_now M_trial M_read M_diary M_kept M_isKept M_constraint M_readConstraint M_word_o M_size_o M_number_o M_firstOne M_node M_parent M_rule M_child M_proof M_witness M_witnessSize M_built M_copyRow) := by
  refine Ct.introI (by decide) (Nat.le_of_ble_eq_true rfl) ?_
  intro p e s m below meth c A QQ ls hyp hret
  obtain ⟨hx, hb, hml, hts, hown, hA, hE, hP, hD, hl⟩ := hyp
  have hK := hE.1
  have hS : va_S A s.heap s.heap [] := va_S.rf
  have X : Here g p s m c cX12_satisfies 5 ([.ref aM, .int x1, .int x2, .int x3, .int x4] : List Value).toArray RX12 A := ⟨⟨hx, hb, hml, hown, hts⟩, hE, hA⟩
  have hl : lv_has ls 5 [(0, .ref aM), (1, .int x1), (2, .int x2), (3, .int x3), (4, .int x4)] := hl
  obtain ⟨H, hH⟩ : ∃ H, H = s.heap := ⟨_, rfl⟩
  obtain ⟨locs, hlocs⟩ : ∃ l : List Loc, l = [] := ⟨_, rfl⟩
  rw [show W p l e rmX12_satisfies s m ([.ref aM, .int x1, .int x2, .int x3, .int x4] : List Value).toArray below meth c s.heap [] 0 0 QQ (F0 m 0 ls []) = W p l e rmX12_satisfies s m ([.ref aM, .int x1, .int x2, .int x3, .int x4] : List Value).toArray below meth c H locs 0 0 QQ (F0 m 0 ls []) by rw [hH, hlocs]]
  have hP : va_P g.1 vwCl (wX12 g aM aM_text aM_now aM_trial aM_read aM_diary aM_kept aM_isKept aM_constraint aM_readConstraint aM_word aM_size aM_number aM_firstOne aM_node aM_parent aM_rule aM_child aM_proof aM_witness aM_witnessSize aM_built aM_copyRow M_length M_acts M_next M_many M_readMany M_found M_shortest M_nodes M_solved M_dropped M_fits M_proofSize M_tooLong M_text M_now M_trial M_read M_diary M_kept M_isKept M_constraint M_readConstraint M_word M_size M_number M_firstOne M_node M_parent M_rule M_child M_proof M_witness M_witnessSize M_built M_copyRow) H := by rw [hH]; exact hP
  have hD : va_D A (wX12 g aM aM_text aM_now aM_trial aM_read aM_diary aM_kept aM_isKept aM_constraint aM_readConstraint aM_word aM_size aM_number aM_firstOne aM_node aM_parent aM_rule aM_child aM_proof aM_witness aM_witnessSize aM_built aM_copyRow M_length M_acts M_next M_many M_readMany M_found M_shortest M_nodes M_solved M_dropped M_fits M_proofSize M_tooLong M_text M_now M_trial M_read M_diary M_kept M_isKept M_constraint M_readConstraint M_word M_size M_number M_firstOne M_node M_parent M_rule M_child M_proof M_witness M_witnessSize M_built M_copyRow) := hD
  have hS : va_S A s.heap H locs := by rw [hH, hlocs]; exact hS
  clear hH hlocs
  refine lv_iload_n hx hb dX12_satisfies_0 rfl (lv_at hl 1 rfl) ?_
  refine lv_i2l (v := (Int32.toInt64 x1)) hx hb dX12_satisfies_1 rfl ?_
  refine lv_lconst (v := (0 : Int64)) hx hb dX12_satisfies_2 (by decide) ?_
  refine lv_ldc2 (v := (62 : Int64)) hx hb hown (hts _ wd5_95) dX12_satisfies_3 ?_
  obtain ⟨t6, hc6, h⟩ := bd1_to h
  refine go_0 (st1 := [.int t6]) (run_S (As := [.long (Int32.toInt64 x1), .long (0 : Int64), .long (62 : Int64)]) (rest := []) X hS (mX12_in g l  (Int32.toInt64 x1) (0 : Int64) (62 : Int64) t6 hc6) okX12_in wd5_67 ⟨Nat.le_of_ble_eq_true rfl, Nat.le_of_ble_eq_true rfl⟩ ⟨rfl, rfl⟩ nil_P nil_D (nil_F hS hA) rfl hl.1 rfl (Nat.le_of_ble_eq_true rfl) dX12_satisfies_6 ⟨Nat.zero_le _, Nat.zero_le _⟩) hS hA hP rfl (fun H locs hP hS => ?_)
  refine lv_if_eq (tgt := 49) hx hb dX12_satisfies_9 (by decide) (fun q9 => ?_) (fun q9 => ?_)
  · have h := ifT h q9
    refine lv_bipush (v := ((-2) : Int32)) hx hb dX12_satisfies_49 (by decide) ?_
    have h : some (((-2) : Int32), M_word, M_size, M_number) = some (r, M_word_o, M_size_o, M_number_o) := h
    cases h
    exact hret _ _ _ _ hP hD hS dX12_satisfies_51
  have h := ifF h q9
  refine lv_iload_n hx hb dX12_satisfies_12 rfl (lv_at hl 2 rfl) ?_
  refine lv_i2l (v := (Int32.toInt64 x2)) hx hb dX12_satisfies_13 rfl ?_
  refine lv_lconst (v := (0 : Int64)) hx hb dX12_satisfies_14 (by decide) ?_
  refine lv_ldc2 (v := (62 : Int64)) hx hb hown (hts _ wd5_95) dX12_satisfies_15 ?_
  obtain ⟨t18, hc18, h⟩ := bd1_to h
  refine go_0 (st1 := [.int t18]) (run_S (As := [.long (Int32.toInt64 x2), .long (0 : Int64), .long (62 : Int64)]) (rest := []) X hS (mX12_in g l  (Int32.toInt64 x2) (0 : Int64) (62 : Int64) t18 hc18) okX12_in wd5_67 ⟨Nat.le_of_ble_eq_true rfl, Nat.le_of_ble_eq_true rfl⟩ ⟨rfl, rfl⟩ nil_P nil_D (nil_F hS hA) rfl hl.1 rfl (Nat.le_of_ble_eq_true rfl) dX12_satisfies_18 ⟨Nat.zero_le _, Nat.zero_le _⟩) hS hA hP rfl (fun H locs hP hS => ?_)
  refine lv_if_eq (tgt := 49) hx hb dX12_satisfies_21 (by decide) (fun q21 => ?_) (fun q21 => ?_)
  · have h := ifT h q21
    refine lv_bipush (v := ((-2) : Int32)) hx hb dX12_satisfies_49 (by decide) ?_
    have h : some (((-2) : Int32), M_word, M_size, M_number) = some (r, M_word_o, M_size_o, M_number_o) := h
    cases h
    exact hret _ _ _ _ hP hD hS dX12_satisfies_51
  have h := ifF h q21
  refine lv_iload_n hx hb dX12_satisfies_24 rfl (lv_at hl 3 rfl) ?_
  refine lv_i2l (v := (Int32.toInt64 x3)) hx hb dX12_satisfies_25 rfl ?_
  refine lv_lconst (v := (0 : Int64)) hx hb dX12_satisfies_26 (by decide) ?_
  refine lv_ldc2 (v := (62 : Int64)) hx hb hown (hts _ wd5_95) dX12_satisfies_27 ?_
  obtain ⟨t30, hc30, h⟩ := bd1_to h
  refine go_0 (st1 := [.int t30]) (run_S (As := [.long (Int32.toInt64 x3), .long (0 : Int64), .long (62 : Int64)]) (rest := []) X hS (mX12_in g l  (Int32.toInt64 x3) (0 : Int64) (62 : Int64) t30 hc30) okX12_in wd5_67 ⟨Nat.le_of_ble_eq_true rfl, Nat.le_of_ble_eq_true rfl⟩ ⟨rfl, rfl⟩ nil_P nil_D (nil_F hS hA) rfl hl.1 rfl (Nat.le_of_ble_eq_true rfl) dX12_satisfies_30 ⟨Nat.zero_le _, Nat.zero_le _⟩) hS hA hP rfl (fun H locs hP hS => ?_)
  refine lv_if_eq (tgt := 49) hx hb dX12_satisfies_33 (by decide) (fun q33 => ?_) (fun q33 => ?_)
  · have h := ifT h q33
    refine lv_bipush (v := ((-2) : Int32)) hx hb dX12_satisfies_49 (by decide) ?_
    have h : some (((-2) : Int32), M_word, M_size, M_number) = some (r, M_word_o, M_size_o, M_number_o) := h
    cases h
    exact hret _ _ _ _ hP hD hS dX12_satisfies_51
  have h := ifF h q33
  refine lv_iload hx hb dX12_satisfies_36 (lv_at hl 4 rfl) ?_
  refine lv_i2l (v := (Int32.toInt64 x4)) hx hb dX12_satisfies_38 rfl ?_
  refine lv_lconst (v := (0 : Int64)) hx hb dX12_satisfies_39 (by decide) ?_
  refine lv_ldc2 (v := (62 : Int64)) hx hb hown (hts _ wd5_95) dX12_satisfies_40 ?_
  obtain ⟨t43, hc43, h⟩ := bd1_to h
  refine go_0 (st1 := [.int t43]) (run_S (As := [.long (Int32.toInt64 x4), .long (0 : Int64), .long (62 : Int64)]) (rest := []) X hS (mX12_in g l  (Int32.toInt64 x4) (0 : Int64) (62 : Int64) t43 hc43) okX12_in wd5_67 ⟨Nat.le_of_ble_eq_true rfl, Nat.le_of_ble_eq_true rfl⟩ ⟨rfl, rfl⟩ nil_P nil_D (nil_F hS hA) rfl hl.1 rfl (Nat.le_of_ble_eq_true rfl) dX12_satisfies_43 ⟨Nat.zero_le _, Nat.zero_le _⟩) hS hA hP rfl (fun H locs hP hS => ?_)
  refine lv_if_ne (tgt := 52) hx hb dX12_satisfies_46 (by decide) (fun q46 => ?_) (fun q46 => ?_)
  · have h := ifF h q46
    refine lv_aload_n hx hb dX12_satisfies_52 rfl (lv_at hl 0 rfl) ?_
    refine va_get (D := g.1) (ci := 11) (v := .ref aM_number) (C := RX12) (T := TX12) (N := 35) hx hb hts inBX12 hown hK hP 0 rfl rfl 16 (by decide) (hts _ wd4_212) (fun _ h9 => h9) rfl dX12_satisfies_53 ?_
    refine lv_iconst (v := (0 : Int32)) hx hb dX12_satisfies_56 (by decide) ?_
    refine lv_iload_n hx hb dX12_satisfies_57 rfl (lv_at hl 1 rfl) ?_
    have hin := sti_in h
    refine va_iast hx hb hK hP hD hS 12 0 rfl rfl hin dX12_satisfies_58 (fun H locs hP hD hS => ?_)
    obtain ⟨M_number_58, eM_number_58⟩ : ∃ y : Nat → Int32, y = upd M_number (Int32.toNatClampNeg (0 : Int32)) x1 := ⟨_, rfl⟩
    have h := sti_to h eM_number_58
    have hP : va_P g.1 vwCl (wX12 g aM aM_text aM_now aM_trial aM_read aM_diary aM_kept aM_isKept aM_constraint aM_readConstraint aM_word aM_size aM_number aM_firstOne aM_node aM_parent aM_rule aM_child aM_proof aM_witness aM_witnessSize aM_built aM_copyRow M_length M_acts M_next M_many M_readMany M_found M_shortest M_nodes M_solved M_dropped M_fits M_proofSize M_tooLong M_text M_now M_trial M_read M_diary M_kept M_isKept M_constraint M_readConstraint M_word M_size M_number_58 M_firstOne M_node M_parent M_rule M_child M_proof M_witness M_witnessSize M_built M_copyRow) H := by rw [eM_number_58]; exact hP
    have hD : va_D A (wX12 g aM aM_text aM_now aM_trial aM_read aM_diary aM_kept aM_isKept aM_constraint aM_readConstraint aM_word aM_size aM_number aM_firstOne aM_node aM_parent aM_rule aM_child aM_proof aM_witness aM_witnessSize aM_built aM_copyRow M_length M_acts M_next M_many M_readMany M_found M_shortest M_nodes M_solved M_dropped M_fits M_proofSize M_tooLong M_text M_now M_trial M_read M_diary M_kept M_isKept M_constraint M_readConstraint M_word M_size M_number_58 M_firstOne M_node M_parent M_rule M_child M_proof M_witness M_witnessSize M_built M_copyRow) := by rw [eM_number_58]; exact hD
    refine lv_aload_n hx hb dX12_satisfies_59 rfl (lv_at hl 0 rfl) ?_
    refine va_get (D := g.1) (ci := 11) (v := .ref aM_number) (C := RX12) (T := TX12) (N := 35) hx hb hts inBX12 hown hK hP 0 rfl rfl 16 (by decide) (hts _ wd4_212) (fun _ h9 => h9) rfl dX12_satisfies_60 ?_
    refine lv_iconst (v := (1 : Int32)) hx hb dX12_satisfies_63 (by decide) ?_
    refine lv_iload_n hx hb dX12_satisfies_64 rfl (lv_at hl 2 rfl) ?_
    have hin := sti_in h
    refine va_iast hx hb hK hP hD hS 12 0 rfl rfl hin dX12_satisfies_65 (fun H locs hP hD hS => ?_)
    obtain ⟨M_number_65, eM_number_65⟩ : ∃ y : Nat → Int32, y = upd M_number_58 (Int32.toNatClampNeg (1 : Int32)) x2 := ⟨_, rfl⟩
    have h := sti_to h eM_number_65
    have hP : va_P g.1 vwCl (wX12 g aM aM_text aM_now aM_trial aM_read aM_diary aM_kept aM_isKept aM_constraint aM_readConstraint aM_word aM_size aM_number aM_firstOne aM_node aM_parent aM_rule aM_child aM_proof aM_witness aM_witnessSize aM_built aM_copyRow M_length M_acts M_next M_many M_readMany M_found M_shortest M_nodes M_solved M_dropped M_fits M_proofSize M_tooLong M_text M_now M_trial M_read M_diary M_kept M_isKept M_constraint M_readConstraint M_word M_size M_number_65 M_firstOne M_node M_parent M_rule M_child M_proof M_witness M_witnessSize M_built M_copyRow) H := by rw [eM_number_65]; exact hP
    have hD : va_D A (wX12 g aM aM_text aM_now aM_trial aM_read aM_diary aM_kept aM_isKept aM_constraint aM_readConstraint aM_word aM_size aM_number aM_firstOne aM_node aM_parent aM_rule aM_child aM_proof aM_witness aM_witnessSize aM_built aM_copyRow M_length M_acts M_next M_many M_readMany M_found M_shortest M_nodes M_solved M_dropped M_fits M_proofSize M_tooLong M_text M_now M_trial M_read M_diary M_kept M_isKept M_constraint M_readConstraint M_word M_size M_number_65 M_firstOne M_node M_parent M_rule M_child M_proof M_witness M_witnessSize M_built M_copyRow) := by rw [eM_number_65]; exact hD
    refine lv_aload_n hx hb dX12_satisfies_66 rfl (lv_at hl 0 rfl) ?_
    refine va_get (D := g.1) (ci := 11) (v := .ref aM_number) (C := RX12) (T := TX12) (N := 35) hx hb hts inBX12 hown hK hP 0 rfl rfl 16 (by decide) (hts _ wd4_212) (fun _ h9 => h9) rfl dX12_satisfies_67 ?_
    refine lv_iconst (v := (2 : Int32)) hx hb dX12_satisfies_70 (by decide) ?_
    refine lv_iload_n hx hb dX12_satisfies_71 rfl (lv_at hl 3 rfl) ?_
    have hin := sti_in h
    refine va_iast hx hb hK hP hD hS 12 0 rfl rfl hin dX12_satisfies_72 (fun H locs hP hD hS => ?_)
    obtain ⟨M_number_72, eM_number_72⟩ : ∃ y : Nat → Int32, y = upd M_number_65 (Int32.toNatClampNeg (2 : Int32)) x3 := ⟨_, rfl⟩
    have h := sti_to h eM_number_72
    have hP : va_P g.1 vwCl (wX12 g aM aM_text aM_now aM_trial aM_read aM_diary aM_kept aM_isKept aM_constraint aM_readConstraint aM_word aM_size aM_number aM_firstOne aM_node aM_parent aM_rule aM_child aM_proof aM_witness aM_witnessSize aM_built aM_copyRow M_length M_acts M_next M_many M_readMany M_found M_shortest M_nodes M_solved M_dropped M_fits M_proofSize M_tooLong M_text M_now M_trial M_read M_diary M_kept M_isKept M_constraint M_readConstraint M_word M_size M_number_72 M_firstOne M_node M_parent M_rule M_child M_proof M_witness M_witnessSize M_built M_copyRow) H := by rw [eM_number_72]; exact hP
    have hD : va_D A (wX12 g aM aM_text aM_now aM_trial aM_read aM_diary aM_kept aM_isKept aM_constraint aM_readConstraint aM_word aM_size aM_number aM_firstOne aM_node aM_parent aM_rule aM_child aM_proof aM_witness aM_witnessSize aM_built aM_copyRow M_length M_acts M_next M_many M_readMany M_found M_shortest M_nodes M_solved M_dropped M_fits M_proofSize M_tooLong M_text M_now M_trial M_read M_diary M_kept M_isKept M_constraint M_readConstraint M_word M_size M_number_72 M_firstOne M_node M_parent M_rule M_child M_proof M_witness M_witnessSize M_built M_copyRow) := by rw [eM_number_72]; exact hD
    refine lv_aload_n hx hb dX12_satisfies_73 rfl (lv_at hl 0 rfl) ?_
    refine va_get (D := g.1) (ci := 11) (v := .ref aM_number) (C := RX12) (T := TX12) (N := 35) hx hb hts inBX12 hown hK hP 0 rfl rfl 16 (by decide) (hts _ wd4_212) (fun _ h9 => h9) rfl dX12_satisfies_74 ?_
    refine lv_iconst (v := (3 : Int32)) hx hb dX12_satisfies_77 (by decide) ?_
    refine lv_iload hx hb dX12_satisfies_78 (lv_at hl 4 rfl) ?_
    have hin := sti_in h
    refine va_iast hx hb hK hP hD hS 12 0 rfl rfl hin dX12_satisfies_80 (fun H locs hP hD hS => ?_)
    obtain ⟨M_number_80, eM_number_80⟩ : ∃ y : Nat → Int32, y = upd M_number_72 (Int32.toNatClampNeg (3 : Int32)) x4 := ⟨_, rfl⟩
    have h := sti_to h eM_number_80
    have hP : va_P g.1 vwCl (wX12 g aM aM_text aM_now aM_trial aM_read aM_diary aM_kept aM_isKept aM_constraint aM_readConstraint aM_word aM_size aM_number aM_firstOne aM_node aM_parent aM_rule aM_child aM_proof aM_witness aM_witnessSize aM_built aM_copyRow M_length M_acts M_next M_many M_readMany M_found M_shortest M_nodes M_solved M_dropped M_fits M_proofSize M_tooLong M_text M_now M_trial M_read M_diary M_kept M_isKept M_constraint M_readConstraint M_word M_size M_number_80 M_firstOne M_node M_parent M_rule M_child M_proof M_witness M_witnessSize M_built M_copyRow) H := by rw [eM_number_80]; exact hP
    have hD : va_D A (wX12 g aM aM_text aM_now aM_trial aM_read aM_diary aM_kept aM_isKept aM_constraint aM_readConstraint aM_word aM_size aM_number aM_firstOne aM_node aM_parent aM_rule aM_child aM_proof aM_witness aM_witnessSize aM_built aM_copyRow M_length M_acts M_next M_many M_readMany M_found M_shortest M_nodes M_solved M_dropped M_fits M_proofSize M_tooLong M_text M_now M_trial M_read M_diary M_kept M_isKept M_constraint M_readConstraint M_word M_size M_number_80 M_firstOne M_node M_parent M_rule M_child M_proof M_witness M_witnessSize M_built M_copyRow) := by rw [eM_number_80]; exact hD
    refine lv_aload_n hx hb dX12_satisfies_81 rfl (lv_at hl 0 rfl) ?_
    refine lv_aload_n hx hb dX12_satisfies_82 rfl (lv_at hl 0 rfl) ?_
    refine va_get (D := g.1) (ci := 11) (v := .ref aM_now) (C := RX12) (T := TX12) (N := 35) hx hb hts inBX12 hown hK hP 0 rfl rfl 2 (by decide) (hts _ wd4_198) (fun _ h9 => h9) rfl dX12_satisfies_83 ?_
    obtain ⟨t86, M_word_86, M_size_86, hc86, h⟩ := bd3_to h
    refine go_A (st1 := [.int t86]) (run_V (As := [.ref aM_now]) (rest := []) X hS (mX12_isSolution_now g l  aM aM_text aM_now aM_trial aM_read aM_diary aM_kept aM_isKept aM_constraint aM_readConstraint aM_word aM_size aM_number aM_firstOne aM_node aM_parent aM_rule aM_child aM_proof aM_witness aM_witnessSize aM_built aM_copyRow M_length M_acts M_next M_many M_readMany M_found M_shortest M_nodes M_solved M_dropped M_fits M_proofSize M_tooLong M_text M_now M_trial M_read M_diary M_kept M_isKept M_constraint M_readConstraint M_word M_size M_number_80 M_firstOne M_node M_parent M_rule M_child M_proof M_witness M_witnessSize M_built M_copyRow t86 M_word_86 M_size_86 hc86) okX12_isSolution wd5_178 ⟨Nat.le_of_ble_eq_true rfl, Nat.le_of_ble_eq_true rfl⟩ ⟨rfl, rfl⟩ (va_recv hK hP (ci := 11) (q0 := 0) rfl rfl) hP hD (all_F hS hA hD) rfl hl.1 rfl (Nat.le_of_ble_eq_true rfl) dX12_satisfies_86 ⟨Nat.zero_le _, Nat.zero_le _⟩) hS (all_F hS hA hD) rfl (fun H locs hP hD hS => ?_)
    refine lv_if_eq (tgt := 96) hx hb dX12_satisfies_89 (by decide) (fun q89 => ?_) (fun q89 => ?_)
    · have h := ifT h q89
      refine lv_iconst (v := (0 : Int32)) hx hb dX12_satisfies_96 (by decide) ?_
      have h : some ((0 : Int32), M_word_86, M_size_86, M_number_80) = some (r, M_word_o, M_size_o, M_number_o) := h
      cases h
      exact hret _ _ _ _ hP hD hS dX12_satisfies_97
    have h := ifF h q89
    refine lv_iconst (v := (1 : Int32)) hx hb dX12_satisfies_92 (by decide) ?_
    refine lv_goto (tgt := 97) hx hb dX12_satisfies_93 (by decide) ?_
    have h : some ((1 : Int32), M_word_86, M_size_86, M_number_80) = some (r, M_word_o, M_size_o, M_number_o) := h
    cases h
    exact hret _ _ _ _ hP hD hS dX12_satisfies_97
  have h := ifT h q46
  refine lv_bipush (v := ((-2) : Int32)) hx hb dX12_satisfies_49 (by decide) ?_
  have h : some (((-2) : Int32), M_word, M_size, M_number) = some (r, M_word_o, M_size_o, M_number_o) := h
  cases h
  exact hret _ _ _ _ hP hD hS dX12_satisfies_51
set_option maxHeartbeats 4000000 in
set_option maxRecDepth 100000 in
theorem mX12_isUsed (g : GP) (l : Launch) (aR0 : Nat) (R0 : Nat → Int32) (x1 : Int32) (r : Int32) (h : fM_isUsed R0 x1 = some r) : Ct g l yX12_isUsed cX12_isUsed 2 (some .boolean) rmX12_isUsed [.ref aR0, .int x1] [(aR0, .inl (g.2.1 0, 26, .inl R0))] (some (.int r)) [(aR0, .inl (g.2.1 0, 26, .inl R0))] := by
  refine Ct.introZ (by decide) (Nat.le_of_ble_eq_true rfl) ?_
  intro p e s m below meth c A QQ ls hyp hret
  obtain ⟨hx, hb, hml, hts, hown, hA, hE, hP, hD, hl⟩ := hyp
  have hK := hE.1
  have hS : va_S A s.heap s.heap [] := va_S.rf
  have X : Here g p s m c cX12_isUsed 2 ([.ref aR0, .int x1] : List Value).toArray RX12 A := ⟨⟨hx, hb, hml, hown, hts⟩, hE, hA⟩
  have hl : lv_has ls 2 [(0, .ref aR0), (1, .int x1)] := hl
  obtain ⟨H, hH⟩ : ∃ H, H = s.heap := ⟨_, rfl⟩
  obtain ⟨locs, hlocs⟩ : ∃ l : List Loc, l = [] := ⟨_, rfl⟩
  rw [show W p l e rmX12_isUsed s m ([.ref aR0, .int x1] : List Value).toArray below meth c s.heap [] 0 0 QQ (F0 m 0 ls []) = W p l e rmX12_isUsed s m ([.ref aR0, .int x1] : List Value).toArray below meth c H locs 0 0 QQ (F0 m 0 ls []) by rw [hH, hlocs]]
  have hP : va_P g.1 vwCl [(aR0, .inl (g.2.1 0, 26, .inl R0))] H := by rw [hH]; exact hP
  have hD : va_D A [(aR0, .inl (g.2.1 0, 26, .inl R0))] := hD
  have hS : va_S A s.heap H locs := by rw [hH, hlocs]; exact hS
  clear hH hlocs
  refine lv_aload_n hx hb dX12_isUsed_0 rfl (lv_at hl 0 rfl) ?_
  refine lv_iconst (v := (0 : Int32)) hx hb dX12_isUsed_1 (by decide) ?_
  refine lv_iload_n hx hb dX12_isUsed_2 rfl (lv_at hl 1 rfl) ?_
  refine lv_iconst (v := (2 : Int32)) hx hb dX12_isUsed_3 (by decide) ?_
  refine lv_iadd hx hb dX12_isUsed_4 ?_
  obtain ⟨t5, hc5, h⟩ := bd1_to h
  refine go_A (st1 := [.int t5]) (run_S (As := [.ref aR0, .int (0 : Int32), .int (x1 + (2 : Int32))]) (rest := []) X hS (mX12_countOf g l  aR0 R0 (0 : Int32) (x1 + (2 : Int32)) t5 hc5) okX12_countOf wd5_124 ⟨Nat.le_of_ble_eq_true rfl, Nat.le_of_ble_eq_true rfl⟩ ⟨rfl, rfl⟩ hP hD (all_F hS hA hD) rfl hl.1 rfl (Nat.le_of_ble_eq_true rfl) dX12_isUsed_5 ⟨Nat.zero_le _, Nat.zero_le _⟩) hS (all_F hS hA hD) rfl (fun H locs hP hD hS => ?_)
  refine lv_aload_n hx hb dX12_isUsed_8 rfl (lv_at hl 0 rfl) ?_
  refine lv_iconst (v := (1 : Int32)) hx hb dX12_isUsed_9 (by decide) ?_
  refine lv_iload_n hx hb dX12_isUsed_10 rfl (lv_at hl 1 rfl) ?_
  refine lv_iconst (v := (2 : Int32)) hx hb dX12_isUsed_11 (by decide) ?_
  refine lv_iadd hx hb dX12_isUsed_12 ?_
  obtain ⟨t13, hc13, h⟩ := bd1_to h
  refine go_A (st1 := [.int t13, .int t5]) (run_S (As := [.ref aR0, .int (1 : Int32), .int (x1 + (2 : Int32))]) (rest := [.int t5]) X hS (mX12_countOf g l  aR0 R0 (1 : Int32) (x1 + (2 : Int32)) t13 hc13) okX12_countOf wd5_124 ⟨Nat.le_of_ble_eq_true rfl, Nat.le_of_ble_eq_true rfl⟩ ⟨rfl, rfl⟩ hP hD (all_F hS hA hD) rfl hl.1 rfl (Nat.le_of_ble_eq_true rfl) dX12_isUsed_13 ⟨Nat.zero_le _, Nat.zero_le _⟩) hS (all_F hS hA hD) rfl (fun H locs hP hD hS => ?_)
  refine lv_iadd hx hb dX12_isUsed_16 ?_
  refine lv_if_le (tgt := 24) hx hb dX12_isUsed_17 (by decide) (fun q17 => ?_) (fun q17 => ?_)
  · have h := ifT h q17
    refine lv_iconst (v := (0 : Int32)) hx hb dX12_isUsed_24 (by decide) ?_
    have h : some (0 : Int32) = some r := h
    cases h
    exact hret _ _ _ _ rfl hP hD hS dX12_isUsed_25
  have h := ifF h q17
  refine lv_iconst (v := (1 : Int32)) hx hb dX12_isUsed_20 (by decide) ?_
  refine lv_goto (tgt := 25) hx hb dX12_isUsed_21 (by decide) ?_
  have h : some (1 : Int32) = some r := h
  cases h
  exact hret _ _ _ _ rfl hP hD hS dX12_isUsed_25
set_option maxHeartbeats 4000000 in
set_option maxRecDepth 100000 in
theorem mX12_goOn_copyRow (g : GP) (l : Launch) (aM aM_text aM_now aM_trial aM_read aM_diary aM_kept aM_isKept aM_constraint aM_readConstraint aM_word aM_size aM_number aM_firstOne aM_node aM_parent aM_rule aM_child aM_proof aM_witness aM_witnessSize aM_built aM_copyRow : Nat) (M_length : Int32) (M_acts : Int32) (M_next : Int32) (M_many : Int32) (M_readMany : Int32) (M_found : Int32) (M_shortest : Int32) (M_nodes : Int32) (M_solved : Int32) (M_dropped : Int32) (M_fits : Int32) (M_proofSize : Int32) (M_tooLong : Int32) (M_text : Nat → Int32) (M_now : Nat → Int32) (M_trial : Nat → Int32) (M_read : Nat → Int32) (M_diary : Nat → Int32) (M_kept : Nat → Int32) (M_isKept : Nat → Int32) (M_constraint : Nat → Int32) (M_readConstraint : Nat → Int32) (M_word : Nat → Int32) (M_size : Nat → Int32) (M_number : Nat → Int32) (M_firstOne : Nat → Int32) (M_node : Nat → Int32) (M_parent : Nat → Int32) (M_rule : Nat → Int32) (M_child : Nat → Int32) (M_proof : Nat → Int32) (M_witness : Nat → Int32) (M_witnessSize : Nat → Int32) (M_built : Nat → Int32) (M_copyRow : Nat → Int32) (x2 : Int32) (r : Int32) (M_number_o : Nat → Int32) (h : fM_goOn M_number M_copyRow x2 = some (r, M_number_o)) : Ct g l yX12_goOn cX12_goOn 4 (some .boolean) rmX12_goOn [.ref aM, .ref aM_copyRow, .int x2] (wX12 g aM aM_text aM_now aM_trial aM_read aM_diary aM_kept aM_isKept aM_constraint aM_readConstraint aM_word aM_size aM_number aM_firstOne aM_node aM_parent aM_rule aM_child aM_proof aM_witness aM_witnessSize aM_built aM_copyRow M_length M_acts M_next M_many M_readMany M_found M_shortest M_nodes M_solved M_dropped M_fits M_proofSize M_tooLong M_text M_now M_trial M_read M_diary M_kept M_isKept M_constraint M_readConstraint M_word M_size M_number M_firstOne M_node M_parent M_rule M_child M_proof M_witness M_witnessSize M_built M_copyRow) (some (.int r)) (wX12 g aM aM_text aM_now aM_trial aM_read aM_diary aM_kept aM_isKept aM_constraint aM_readConstraint aM_word aM_size aM_number aM_firstOne aM_node aM_parent aM_rule aM_child aM_proof aM_witness aM_witnessSize aM_built aM_copyRow M_length M_acts M_next M_many M_readMany M_found M_shortest M_nodes M_solved M_dropped M_fits M_proofSize M_tooLong M_text M_now M_trial M_read M_diary M_kept M_isKept M_constraint M_readConstraint M_word M_size M_number_o M_firstOne M_node M_parent M_rule M_child M_proof M_witness M_witnessSize M_built M_copyRow) := by
  refine Ct.introZ (by decide) (Nat.le_of_ble_eq_true rfl) ?_
  intro p e s m below meth c A QQ ls hyp hret
  obtain ⟨hx, hb, hml, hts, hown, hA, hE, hP, hD, hl⟩ := hyp
  have hK := hE.1
  have hS : va_S A s.heap s.heap [] := va_S.rf
  have X : Here g p s m c cX12_goOn 4 ([.ref aM, .ref aM_copyRow, .int x2] : List Value).toArray RX12 A := ⟨⟨hx, hb, hml, hown, hts⟩, hE, hA⟩
  have B53 : ∀ (M_number : Nat → Int32) (v3 : Int32) (ls : Array Slot) (H : Heap) (locs : List Loc), lv_has ls 4 [(3, .int v3)] → va_P g.1 vwCl (wX12 g aM aM_text aM_now aM_trial aM_read aM_diary aM_kept aM_isKept aM_constraint aM_readConstraint aM_word aM_size aM_number aM_firstOne aM_node aM_parent aM_rule aM_child aM_proof aM_witness aM_witnessSize aM_built aM_copyRow M_length M_acts M_next M_many M_readMany M_found M_shortest M_nodes M_solved M_dropped M_fits M_proofSize M_tooLong M_text M_now M_trial M_read M_diary M_kept M_isKept M_constraint M_readConstraint M_word M_size M_number M_firstOne M_node M_parent M_rule M_child M_proof M_witness M_witnessSize M_built M_copyRow) H → va_D A (wX12 g aM aM_text aM_now aM_trial aM_read aM_diary aM_kept aM_isKept aM_constraint aM_readConstraint aM_word aM_size aM_number aM_firstOne aM_node aM_parent aM_rule aM_child aM_proof aM_witness aM_witnessSize aM_built aM_copyRow M_length M_acts M_next M_many M_readMany M_found M_shortest M_nodes M_solved M_dropped M_fits M_proofSize M_tooLong M_text M_now M_trial M_read M_diary M_kept M_isKept M_constraint M_readConstraint M_word M_size M_number M_firstOne M_node M_parent M_rule M_child M_proof M_witness M_witnessSize M_built M_copyRow) → va_S A s.heap H locs → fM_goOn_53 M_number v3 = some (r, M_number_o) → W p l e rmX12_goOn s m ([.ref aM, .ref aM_copyRow, .int x2] : List Value).toArray below meth c H locs 0 0 QQ (F0 m 53 ls []) := by
    intro M_number v3 ls H locs hl hP hD hS h
    refine lv_iload_n hx hb dX12_goOn_53 rfl (lv_at hl 0 rfl) ?_
    refine lv_if_lt (tgt := 61) hx hb dX12_goOn_54 (by decide) (fun q54 => ?_) (fun q54 => ?_)
    · have h := ifT h q54
      refine lv_iconst (v := (0 : Int32)) hx hb dX12_goOn_61 (by decide) ?_
      have h : some ((0 : Int32), M_number) = some (r, M_number_o) := h
      cases h
      exact hret _ _ _ _ rfl hP hD hS dX12_goOn_62
    have h := ifF h q54
    refine lv_iconst (v := (1 : Int32)) hx hb dX12_goOn_57 (by decide) ?_
    refine lv_goto (tgt := 62) hx hb dX12_goOn_58 (by decide) ?_
    have h : some ((1 : Int32), M_number) = some (r, M_number_o) := h
    cases h
    exact hret _ _ _ _ rfl hP hD hS dX12_goOn_62
  have B39 : ∀ (M_number : Nat → Int32) (v3 : Int32) (ls : Array Slot) (H : Heap) (locs : List Loc), lv_has ls 4 [(0, .ref aM), (3, .int v3)] → va_P g.1 vwCl (wX12 g aM aM_text aM_now aM_trial aM_read aM_diary aM_kept aM_isKept aM_constraint aM_readConstraint aM_word aM_size aM_number aM_firstOne aM_node aM_parent aM_rule aM_child aM_proof aM_witness aM_witnessSize aM_built aM_copyRow M_length M_acts M_next M_many M_readMany M_found M_shortest M_nodes M_solved M_dropped M_fits M_proofSize M_tooLong M_text M_now M_trial M_read M_diary M_kept M_isKept M_constraint M_readConstraint M_word M_size M_number M_firstOne M_node M_parent M_rule M_child M_proof M_witness M_witnessSize M_built M_copyRow) H → va_D A (wX12 g aM aM_text aM_now aM_trial aM_read aM_diary aM_kept aM_isKept aM_constraint aM_readConstraint aM_word aM_size aM_number aM_firstOne aM_node aM_parent aM_rule aM_child aM_proof aM_witness aM_witnessSize aM_built aM_copyRow M_length M_acts M_next M_many M_readMany M_found M_shortest M_nodes M_solved M_dropped M_fits M_proofSize M_tooLong M_text M_now M_trial M_read M_diary M_kept M_isKept M_constraint M_readConstraint M_word M_size M_number M_firstOne M_node M_parent M_rule M_child M_proof M_witness M_witnessSize M_built M_copyRow) → va_S A s.heap H locs → fM_goOn_39 M_number v3 = some (r, M_number_o) → W p l e rmX12_goOn s m ([.ref aM, .ref aM_copyRow, .int x2] : List Value).toArray below meth c H locs 0 0 QQ (F0 m 39 ls []) := by
    intro M_number v3 ls H locs hl hP hD hS h
    refine lv_iload_n hx hb dX12_goOn_39 rfl (lv_at hl 1 rfl) ?_
    refine lv_if_lt (tgt := 53) hx hb dX12_goOn_40 (by decide) (fun q40 => ?_) (fun q40 => ?_)
    · have h := ifT h q40
      exact B53 M_number v3 ls H locs (lv_sub hl [1] rfl) hP hD hS h
    have h := ifF h q40
    refine lv_aload_n hx hb dX12_goOn_43 rfl (lv_at hl 0 rfl) ?_
    refine va_get (D := g.1) (ci := 11) (v := .ref aM_number) (C := RX12) (T := TX12) (N := 35) hx hb hts inBX12 hown hK hP 0 rfl rfl 16 (by decide) (hts _ wd4_212) (fun _ h9 => h9) rfl dX12_goOn_44 ?_
    refine lv_iload_n hx hb dX12_goOn_47 rfl (lv_at hl 1 rfl) ?_
    refine lv_dup2_11 hx hb dX12_goOn_48 rfl rfl ?_
    have hin := ld_in h
    refine va_iald hx hb hK hP 12 0 rfl rfl hin dX12_goOn_49 ?_
    refine lv_topi (fun t49 et49 => ?_)
    have h := ld_to h et49
    refine lv_iconst (v := (1 : Int32)) hx hb dX12_goOn_50 (by decide) ?_
    refine lv_iadd hx hb dX12_goOn_51 ?_
    have hin := sti_in h
    refine va_iast hx hb hK hP hD hS 12 0 rfl rfl hin dX12_goOn_52 (fun H locs hP hD hS => ?_)
    obtain ⟨M_number_52, eM_number_52⟩ : ∃ y : Nat → Int32, y = upd M_number (Int32.toNatClampNeg v3) (t49 + (1 : Int32)) := ⟨_, rfl⟩
    have h := sti_to h eM_number_52
    have hP : va_P g.1 vwCl (wX12 g aM aM_text aM_now aM_trial aM_read aM_diary aM_kept aM_isKept aM_constraint aM_readConstraint aM_word aM_size aM_number aM_firstOne aM_node aM_parent aM_rule aM_child aM_proof aM_witness aM_witnessSize aM_built aM_copyRow M_length M_acts M_next M_many M_readMany M_found M_shortest M_nodes M_solved M_dropped M_fits M_proofSize M_tooLong M_text M_now M_trial M_read M_diary M_kept M_isKept M_constraint M_readConstraint M_word M_size M_number_52 M_firstOne M_node M_parent M_rule M_child M_proof M_witness M_witnessSize M_built M_copyRow) H := by rw [eM_number_52]; exact hP
    have hD : va_D A (wX12 g aM aM_text aM_now aM_trial aM_read aM_diary aM_kept aM_isKept aM_constraint aM_readConstraint aM_word aM_size aM_number aM_firstOne aM_node aM_parent aM_rule aM_child aM_proof aM_witness aM_witnessSize aM_built aM_copyRow M_length M_acts M_next M_many M_readMany M_found M_shortest M_nodes M_solved M_dropped M_fits M_proofSize M_tooLong M_text M_now M_trial M_read M_diary M_kept M_isKept M_constraint M_readConstraint M_word M_size M_number_52 M_firstOne M_node M_parent M_rule M_child M_proof M_witness M_witnessSize M_built M_copyRow) := by rw [eM_number_52]; exact hD
    exact B53 M_number_52 v3 ls H locs (lv_sub hl [1] rfl) hP hD hS h
  have L2 : ∀ (n2 : Nat), ∀ (M_number : Nat → Int32) (v3 : Int32) (ls : Array Slot) (H : Heap) (locs : List Loc), lv_has ls 4 [(0, .ref aM), (1, .ref aM_copyRow), (2, .int x2), (3, .int v3)] → va_P g.1 vwCl (wX12 g aM aM_text aM_now aM_trial aM_read aM_diary aM_kept aM_isKept aM_constraint aM_readConstraint aM_word aM_size aM_number aM_firstOne aM_node aM_parent aM_rule aM_child aM_proof aM_witness aM_witnessSize aM_built aM_copyRow M_length M_acts M_next M_many M_readMany M_found M_shortest M_nodes M_solved M_dropped M_fits M_proofSize M_tooLong M_text M_now M_trial M_read M_diary M_kept M_isKept M_constraint M_readConstraint M_word M_size M_number M_firstOne M_node M_parent M_rule M_child M_proof M_witness M_witnessSize M_built M_copyRow) H → va_D A (wX12 g aM aM_text aM_now aM_trial aM_read aM_diary aM_kept aM_isKept aM_constraint aM_readConstraint aM_word aM_size aM_number aM_firstOne aM_node aM_parent aM_rule aM_child aM_proof aM_witness aM_witnessSize aM_built aM_copyRow M_length M_acts M_next M_many M_readMany M_found M_shortest M_nodes M_solved M_dropped M_fits M_proofSize M_tooLong M_text M_now M_trial M_read M_diary M_kept M_isKept M_constraint M_readConstraint M_word M_size M_number M_firstOne M_node M_parent M_rule M_child M_proof M_witness M_witnessSize M_built M_copyRow) → va_S A s.heap H locs → fx2 (fM_goOn_2 M_copyRow x2) n2 M_number v3 = some (r, M_number_o) → W p l e rmX12_goOn s m ([.ref aM, .ref aM_copyRow, .int x2] : List Value).toArray below meth c H locs 0 0 QQ (F0 m 2 ls []) := by
    intro n2
    induction n2 with
    | zero => intro M_number v3 ls H locs hl hP hD hS h; exact fx2_0 h
    | succ n2 ih2 =>
      intro M_number v3 ls H locs hl hP hD hS h
      have h := (fx2_s (fM_goOn_2 M_copyRow x2) n2 M_number v3).symm.trans h
      have B26 : ∀ (M_number : Nat → Int32) (v3 : Int32) (ls : Array Slot) (H : Heap) (locs : List Loc), lv_has ls 4 [(0, .ref aM), (1, .ref aM_copyRow), (2, .int x2), (3, .int v3)] → va_P g.1 vwCl (wX12 g aM aM_text aM_now aM_trial aM_read aM_diary aM_kept aM_isKept aM_constraint aM_readConstraint aM_word aM_size aM_number aM_firstOne aM_node aM_parent aM_rule aM_child aM_proof aM_witness aM_witnessSize aM_built aM_copyRow M_length M_acts M_next M_many M_readMany M_found M_shortest M_nodes M_solved M_dropped M_fits M_proofSize M_tooLong M_text M_now M_trial M_read M_diary M_kept M_isKept M_constraint M_readConstraint M_word M_size M_number M_firstOne M_node M_parent M_rule M_child M_proof M_witness M_witnessSize M_built M_copyRow) H → va_D A (wX12 g aM aM_text aM_now aM_trial aM_read aM_diary aM_kept aM_isKept aM_constraint aM_readConstraint aM_word aM_size aM_number aM_firstOne aM_node aM_parent aM_rule aM_child aM_proof aM_witness aM_witnessSize aM_built aM_copyRow M_length M_acts M_next M_many M_readMany M_found M_shortest M_nodes M_solved M_dropped M_fits M_proofSize M_tooLong M_text M_now M_trial M_read M_diary M_kept M_isKept M_constraint M_readConstraint M_word M_size M_number M_firstOne M_node M_parent M_rule M_child M_proof M_witness M_witnessSize M_built M_copyRow) → va_S A s.heap H locs → fM_goOn_26 (fx2 (fM_goOn_2 M_copyRow x2) n2) M_number M_copyRow x2 v3 = some (r, M_number_o) → W p l e rmX12_goOn s m ([.ref aM, .ref aM_copyRow, .int x2] : List Value).toArray below meth c H locs 0 0 QQ (F0 m 26 ls []) := by
        intro M_number v3 ls H locs hl hP hD hS h
        refine lv_aload_n hx hb dX12_goOn_26 rfl (lv_at hl 0 rfl) ?_
        refine va_get (D := g.1) (ci := 11) (v := .ref aM_number) (C := RX12) (T := TX12) (N := 35) hx hb hts inBX12 hown hK hP 0 rfl rfl 16 (by decide) (hts _ wd4_212) (fun _ h9 => h9) rfl dX12_goOn_27 ?_
        refine lv_iload_n hx hb dX12_goOn_30 rfl (lv_at hl 3 rfl) ?_
        refine lv_iconst (v := (0 : Int32)) hx hb dX12_goOn_31 (by decide) ?_
        have hin := sti_in h
        refine va_iast hx hb hK hP hD hS 12 0 rfl rfl hin dX12_goOn_32 (fun H locs hP hD hS => ?_)
        obtain ⟨M_number_32, eM_number_32⟩ : ∃ y : Nat → Int32, y = upd M_number (Int32.toNatClampNeg v3) (0 : Int32) := ⟨_, rfl⟩
        have h := sti_to h eM_number_32
        have hP : va_P g.1 vwCl (wX12 g aM aM_text aM_now aM_trial aM_read aM_diary aM_kept aM_isKept aM_constraint aM_readConstraint aM_word aM_size aM_number aM_firstOne aM_node aM_parent aM_rule aM_child aM_proof aM_witness aM_witnessSize aM_built aM_copyRow M_length M_acts M_next M_many M_readMany M_found M_shortest M_nodes M_solved M_dropped M_fits M_proofSize M_tooLong M_text M_now M_trial M_read M_diary M_kept M_isKept M_constraint M_readConstraint M_word M_size M_number_32 M_firstOne M_node M_parent M_rule M_child M_proof M_witness M_witnessSize M_built M_copyRow) H := by rw [eM_number_32]; exact hP
        have hD : va_D A (wX12 g aM aM_text aM_now aM_trial aM_read aM_diary aM_kept aM_isKept aM_constraint aM_readConstraint aM_word aM_size aM_number aM_firstOne aM_node aM_parent aM_rule aM_child aM_proof aM_witness aM_witnessSize aM_built aM_copyRow M_length M_acts M_next M_many M_readMany M_found M_shortest M_nodes M_solved M_dropped M_fits M_proofSize M_tooLong M_text M_now M_trial M_read M_diary M_kept M_isKept M_constraint M_readConstraint M_word M_size M_number_32 M_firstOne M_node M_parent M_rule M_child M_proof M_witness M_witnessSize M_built M_copyRow) := by rw [eM_number_32]; exact hD
        obtain ⟨t33, et33⟩ : ∃ y : Int32, y = v3 + ((-1) : Int32) := ⟨_, rfl⟩
        refine lv_iinc (v := t33) (lv' := [(3, .int t33), (0, .ref aM), (1, .ref aM_copyRow), (2, .int x2)]) hx hb dX12_goOn_33 hl (k := 3) rfl (by rw [et33]; rfl) (by decide) rfl (fun ls hl => ?_)
        have h := st_to h et33
        refine lv_goto (tgt := 2) hx hb dX12_goOn_36 (by decide) ?_
        exact ih2 M_number_32 t33 ls H locs (lv_sub hl [1, 2, 3, 0] rfl) hP hD hS h
      refine lv_iload_n hx hb dX12_goOn_2 rfl (lv_at hl 3 rfl) ?_
      refine lv_if_lt (tgt := 39) hx hb dX12_goOn_3 (by decide) (fun q3 => ?_) (fun q3 => ?_)
      · have h := ifT h q3
        exact B39 M_number v3 ls H locs (lv_sub hl [0, 3] rfl) hP hD hS h
      have h := ifF h q3
      refine lv_aload_n hx hb dX12_goOn_6 rfl (lv_at hl 1 rfl) ?_
      refine lv_iload_n hx hb dX12_goOn_7 rfl (lv_at hl 3 rfl) ?_
      obtain ⟨t8, hc8, h⟩ := bd1_to h
      refine go_P (st1 := [.int t8]) (W1 := (wX12 g aM aM_text aM_now aM_trial aM_read aM_diary aM_kept aM_isKept aM_constraint aM_readConstraint aM_word aM_size aM_number aM_firstOne aM_node aM_parent aM_rule aM_child aM_proof aM_witness aM_witnessSize aM_built aM_copyRow M_length M_acts M_next M_many M_readMany M_found M_shortest M_nodes M_solved M_dropped M_fits M_proofSize M_tooLong M_text M_now M_trial M_read M_diary M_kept M_isKept M_constraint M_readConstraint M_word M_size M_number M_firstOne M_node M_parent M_rule M_child M_proof M_witness M_witnessSize M_built M_copyRow)) (run_S (As := [.ref aM_copyRow, .int v3]) (rest := []) X hS (mX12_isUsed g l  aM_copyRow M_copyRow v3 t8 hc8) okX12_isUsed wd5_201 ⟨Nat.le_of_ble_eq_true rfl, Nat.le_of_ble_eq_true rfl⟩ ⟨rfl, rfl⟩ (sub_P hP [22] rfl) (hD.sub [22] (by decide) rfl) (va_free hD hS hA [22] rfl) rfl hl.1 rfl (Nat.le_of_ble_eq_true rfl) dX12_goOn_8 ⟨Nat.zero_le _, Nat.zero_le _⟩) hS (va_free hD hS hA [22] rfl) hP hD [22] [0, 1, 2, 3, 4, 5, 6, 7, 8, 9, 10, 11, 12, 13, 14, 15, 16, 17, 18, 19, 20, 21] [0, 1, 2, 3, 4, 5, 6, 7, 8, 9, 10, 11, 12, 13, 14, 15, 16, 17, 18, 19, 20, 21, 22] rfl rfl (by decide) (by decide) rfl (by decide) rfl (fun H locs hP hD hS => ?_)
      refine lv_if_eq (tgt := 26) hx hb dX12_goOn_11 (by decide) (fun q11 => ?_) (fun q11 => ?_)
      · have h := ifT h q11
        exact B26 M_number v3 ls H locs (lv_sub hl [0, 1, 2, 3] rfl) hP hD hS h
      have h := ifF h q11
      refine lv_aload_n hx hb dX12_goOn_14 rfl (lv_at hl 0 rfl) ?_
      refine va_get (D := g.1) (ci := 11) (v := .ref aM_number) (C := RX12) (T := TX12) (N := 35) hx hb hts inBX12 hown hK hP 0 rfl rfl 16 (by decide) (hts _ wd4_212) (fun _ h9 => h9) rfl dX12_goOn_15 ?_
      refine lv_iload_n hx hb dX12_goOn_18 rfl (lv_at hl 3 rfl) ?_
      have hin := ld_in h
      refine va_iald hx hb hK hP 12 0 rfl rfl hin dX12_goOn_19 ?_
      refine lv_topi (fun t19 et19 => ?_)
      have h := ld_to h et19
      refine lv_iload_n hx hb dX12_goOn_20 rfl (lv_at hl 2 rfl) ?_
      refine lv_iconst (v := (1 : Int32)) hx hb dX12_goOn_21 (by decide) ?_
      refine lv_isub hx hb dX12_goOn_22 ?_
      refine lv_icmp_ne (tgt := 39) hx hb dX12_goOn_23 (by decide) (fun q23 => ?_) (fun q23 => ?_)
      · have h := ifF h q23
        exact B39 M_number v3 ls H locs (lv_sub hl [0, 3] rfl) hP hD hS h
      have h := ifT h q23
      exact B26 M_number v3 ls H locs (lv_sub hl [0, 1, 2, 3] rfl) hP hD hS h
  have hl : lv_has ls 4 [(0, .ref aM), (1, .ref aM_copyRow), (2, .int x2)] := hl
  obtain ⟨H, hH⟩ : ∃ H, H = s.heap := ⟨_, rfl⟩
  obtain ⟨locs, hlocs⟩ : ∃ l : List Loc, l = [] := ⟨_, rfl⟩
  rw [show W p l e rmX12_goOn s m ([.ref aM, .ref aM_copyRow, .int x2] : List Value).toArray below meth c s.heap [] 0 0 QQ (F0 m 0 ls []) = W p l e rmX12_goOn s m ([.ref aM, .ref aM_copyRow, .int x2] : List Value).toArray below meth c H locs 0 0 QQ (F0 m 0 ls []) by rw [hH, hlocs]]
  have hP : va_P g.1 vwCl (wX12 g aM aM_text aM_now aM_trial aM_read aM_diary aM_kept aM_isKept aM_constraint aM_readConstraint aM_word aM_size aM_number aM_firstOne aM_node aM_parent aM_rule aM_child aM_proof aM_witness aM_witnessSize aM_built aM_copyRow M_length M_acts M_next M_many M_readMany M_found M_shortest M_nodes M_solved M_dropped M_fits M_proofSize M_tooLong M_text M_now M_trial M_read M_diary M_kept M_isKept M_constraint M_readConstraint M_word M_size M_number M_firstOne M_node M_parent M_rule M_child M_proof M_witness M_witnessSize M_built M_copyRow) H := by rw [hH]; exact hP
  have hD : va_D A (wX12 g aM aM_text aM_now aM_trial aM_read aM_diary aM_kept aM_isKept aM_constraint aM_readConstraint aM_word aM_size aM_number aM_firstOne aM_node aM_parent aM_rule aM_child aM_proof aM_witness aM_witnessSize aM_built aM_copyRow M_length M_acts M_next M_many M_readMany M_found M_shortest M_nodes M_solved M_dropped M_fits M_proofSize M_tooLong M_text M_now M_trial M_read M_diary M_kept M_isKept M_constraint M_readConstraint M_word M_size M_number M_firstOne M_node M_parent M_rule M_child M_proof M_witness M_witnessSize M_built M_copyRow) := hD
  have hS : va_S A s.heap H locs := by rw [hH, hlocs]; exact hS
  clear hH hlocs
  refine lv_iconst (v := (3 : Int32)) hx hb dX12_goOn_0 (by decide) ?_
  refine lv_istore_n (lv' := [(3, .int (3 : Int32)), (0, .ref aM), (1, .ref aM_copyRow), (2, .int x2)]) hx hb dX12_goOn_1 rfl hl (by decide) rfl (fun ls hl => ?_)
  exact L2 FU M_number (3 : Int32) ls H locs (lv_sub hl [1, 2, 3, 0] rfl) hP hD hS h
set_option maxHeartbeats 4000000 in
set_option maxRecDepth 100000 in
theorem mX12_goOn_now (g : GP) (l : Launch) (aM aM_text aM_now aM_trial aM_read aM_diary aM_kept aM_isKept aM_constraint aM_readConstraint aM_word aM_size aM_number aM_firstOne aM_node aM_parent aM_rule aM_child aM_proof aM_witness aM_witnessSize aM_built aM_copyRow : Nat) (M_length : Int32) (M_acts : Int32) (M_next : Int32) (M_many : Int32) (M_readMany : Int32) (M_found : Int32) (M_shortest : Int32) (M_nodes : Int32) (M_solved : Int32) (M_dropped : Int32) (M_fits : Int32) (M_proofSize : Int32) (M_tooLong : Int32) (M_text : Nat → Int32) (M_now : Nat → Int32) (M_trial : Nat → Int32) (M_read : Nat → Int32) (M_diary : Nat → Int32) (M_kept : Nat → Int32) (M_isKept : Nat → Int32) (M_constraint : Nat → Int32) (M_readConstraint : Nat → Int32) (M_word : Nat → Int32) (M_size : Nat → Int32) (M_number : Nat → Int32) (M_firstOne : Nat → Int32) (M_node : Nat → Int32) (M_parent : Nat → Int32) (M_rule : Nat → Int32) (M_child : Nat → Int32) (M_proof : Nat → Int32) (M_witness : Nat → Int32) (M_witnessSize : Nat → Int32) (M_built : Nat → Int32) (M_copyRow : Nat → Int32) (x2 : Int32) (r : Int32) (M_number_o : Nat → Int32) (h : fM_goOn M_number M_now x2 = some (r, M_number_o)) : Ct g l yX12_goOn cX12_goOn 4 (some .boolean) rmX12_goOn [.ref aM, .ref aM_now, .int x2] (wX12 g aM aM_text aM_now aM_trial aM_read aM_diary aM_kept aM_isKept aM_constraint aM_readConstraint aM_word aM_size aM_number aM_firstOne aM_node aM_parent aM_rule aM_child aM_proof aM_witness aM_witnessSize aM_built aM_copyRow M_length M_acts M_next M_many M_readMany M_found M_shortest M_nodes M_solved M_dropped M_fits M_proofSize M_tooLong M_text M_now M_trial M_read M_diary M_kept M_isKept M_constraint M_readConstraint M_word M_size M_number M_firstOne M_node M_parent M_rule M_child M_proof M_witness M_witnessSize M_built M_copyRow) (some (.int r)) (wX12 g aM aM_text aM_now aM_trial aM_read aM_diary aM_kept aM_isKept aM_constraint aM_readConstraint aM_word aM_size aM_number aM_firstOne aM_node aM_parent aM_rule aM_child aM_proof aM_witness aM_witnessSize aM_built aM_copyRow M_length M_acts M_next M_many M_readMany M_found M_shortest M_nodes M_solved M_dropped M_fits M_proofSize M_tooLong M_text M_now M_trial M_read M_diary M_kept M_isKept M_constraint M_readConstraint M_word M_size M_number_o M_firstOne M_node M_parent M_rule M_child M_proof M_witness M_witnessSize M_built M_copyRow) := by
  refine Ct.introZ (by decide) (Nat.le_of_ble_eq_true rfl) ?_
  intro p e s m below meth c A QQ ls hyp hret
  obtain ⟨hx, hb, hml, hts, hown, hA, hE, hP, hD, hl⟩ := hyp
  have hK := hE.1
  have hS : va_S A s.heap s.heap [] := va_S.rf
  have X : Here g p s m c cX12_goOn 4 ([.ref aM, .ref aM_now, .int x2] : List Value).toArray RX12 A := ⟨⟨hx, hb, hml, hown, hts⟩, hE, hA⟩
  have B53 : ∀ (M_number : Nat → Int32) (v3 : Int32) (ls : Array Slot) (H : Heap) (locs : List Loc), lv_has ls 4 [(3, .int v3)] → va_P g.1 vwCl (wX12 g aM aM_text aM_now aM_trial aM_read aM_diary aM_kept aM_isKept aM_constraint aM_readConstraint aM_word aM_size aM_number aM_firstOne aM_node aM_parent aM_rule aM_child aM_proof aM_witness aM_witnessSize aM_built aM_copyRow M_length M_acts M_next M_many M_readMany M_found M_shortest M_nodes M_solved M_dropped M_fits M_proofSize M_tooLong M_text M_now M_trial M_read M_diary M_kept M_isKept M_constraint M_readConstraint M_word M_size M_number M_firstOne M_node M_parent M_rule M_child M_proof M_witness M_witnessSize M_built M_copyRow) H → va_D A (wX12 g aM aM_text aM_now aM_trial aM_read aM_diary aM_kept aM_isKept aM_constraint aM_readConstraint aM_word aM_size aM_number aM_firstOne aM_node aM_parent aM_rule aM_child aM_proof aM_witness aM_witnessSize aM_built aM_copyRow M_length M_acts M_next M_many M_readMany M_found M_shortest M_nodes M_solved M_dropped M_fits M_proofSize M_tooLong M_text M_now M_trial M_read M_diary M_kept M_isKept M_constraint M_readConstraint M_word M_size M_number M_firstOne M_node M_parent M_rule M_child M_proof M_witness M_witnessSize M_built M_copyRow) → va_S A s.heap H locs → fM_goOn_53 M_number v3 = some (r, M_number_o) → W p l e rmX12_goOn s m ([.ref aM, .ref aM_now, .int x2] : List Value).toArray below meth c H locs 0 0 QQ (F0 m 53 ls []) := by
    intro M_number v3 ls H locs hl hP hD hS h
    refine lv_iload_n hx hb dX12_goOn_53 rfl (lv_at hl 0 rfl) ?_
    refine lv_if_lt (tgt := 61) hx hb dX12_goOn_54 (by decide) (fun q54 => ?_) (fun q54 => ?_)
    · have h := ifT h q54
      refine lv_iconst (v := (0 : Int32)) hx hb dX12_goOn_61 (by decide) ?_
      have h : some ((0 : Int32), M_number) = some (r, M_number_o) := h
      cases h
      exact hret _ _ _ _ rfl hP hD hS dX12_goOn_62
    have h := ifF h q54
    refine lv_iconst (v := (1 : Int32)) hx hb dX12_goOn_57 (by decide) ?_
    refine lv_goto (tgt := 62) hx hb dX12_goOn_58 (by decide) ?_
    have h : some ((1 : Int32), M_number) = some (r, M_number_o) := h
    cases h
    exact hret _ _ _ _ rfl hP hD hS dX12_goOn_62
  have B39 : ∀ (M_number : Nat → Int32) (v3 : Int32) (ls : Array Slot) (H : Heap) (locs : List Loc), lv_has ls 4 [(0, .ref aM), (3, .int v3)] → va_P g.1 vwCl (wX12 g aM aM_text aM_now aM_trial aM_read aM_diary aM_kept aM_isKept aM_constraint aM_readConstraint aM_word aM_size aM_number aM_firstOne aM_node aM_parent aM_rule aM_child aM_proof aM_witness aM_witnessSize aM_built aM_copyRow M_length M_acts M_next M_many M_readMany M_found M_shortest M_nodes M_solved M_dropped M_fits M_proofSize M_tooLong M_text M_now M_trial M_read M_diary M_kept M_isKept M_constraint M_readConstraint M_word M_size M_number M_firstOne M_node M_parent M_rule M_child M_proof M_witness M_witnessSize M_built M_copyRow) H → va_D A (wX12 g aM aM_text aM_now aM_trial aM_read aM_diary aM_kept aM_isKept aM_constraint aM_readConstraint aM_word aM_size aM_number aM_firstOne aM_node aM_parent aM_rule aM_child aM_proof aM_witness aM_witnessSize aM_built aM_copyRow M_length M_acts M_next M_many M_readMany M_found M_shortest M_nodes M_solved M_dropped M_fits M_proofSize M_tooLong M_text M_now M_trial M_read M_diary M_kept M_isKept M_constraint M_readConstraint M_word M_size M_number M_firstOne M_node M_parent M_rule M_child M_proof M_witness M_witnessSize M_built M_copyRow) → va_S A s.heap H locs → fM_goOn_39 M_number v3 = some (r, M_number_o) → W p l e rmX12_goOn s m ([.ref aM, .ref aM_now, .int x2] : List Value).toArray below meth c H locs 0 0 QQ (F0 m 39 ls []) := by
    intro M_number v3 ls H locs hl hP hD hS h
    refine lv_iload_n hx hb dX12_goOn_39 rfl (lv_at hl 1 rfl) ?_
    refine lv_if_lt (tgt := 53) hx hb dX12_goOn_40 (by decide) (fun q40 => ?_) (fun q40 => ?_)
    · have h := ifT h q40
      exact B53 M_number v3 ls H locs (lv_sub hl [1] rfl) hP hD hS h
    have h := ifF h q40
    refine lv_aload_n hx hb dX12_goOn_43 rfl (lv_at hl 0 rfl) ?_
    refine va_get (D := g.1) (ci := 11) (v := .ref aM_number) (C := RX12) (T := TX12) (N := 35) hx hb hts inBX12 hown hK hP 0 rfl rfl 16 (by decide) (hts _ wd4_212) (fun _ h9 => h9) rfl dX12_goOn_44 ?_
    refine lv_iload_n hx hb dX12_goOn_47 rfl (lv_at hl 1 rfl) ?_
    refine lv_dup2_11 hx hb dX12_goOn_48 rfl rfl ?_
    have hin := ld_in h
    refine va_iald hx hb hK hP 12 0 rfl rfl hin dX12_goOn_49 ?_
    refine lv_topi (fun t49 et49 => ?_)
    have h := ld_to h et49
    refine lv_iconst (v := (1 : Int32)) hx hb dX12_goOn_50 (by decide) ?_
    refine lv_iadd hx hb dX12_goOn_51 ?_
    have hin := sti_in h
    refine va_iast hx hb hK hP hD hS 12 0 rfl rfl hin dX12_goOn_52 (fun H locs hP hD hS => ?_)
    obtain ⟨M_number_52, eM_number_52⟩ : ∃ y : Nat → Int32, y = upd M_number (Int32.toNatClampNeg v3) (t49 + (1 : Int32)) := ⟨_, rfl⟩
    have h := sti_to h eM_number_52
    have hP : va_P g.1 vwCl (wX12 g aM aM_text aM_now aM_trial aM_read aM_diary aM_kept aM_isKept aM_constraint aM_readConstraint aM_word aM_size aM_number aM_firstOne aM_node aM_parent aM_rule aM_child aM_proof aM_witness aM_witnessSize aM_built aM_copyRow M_length M_acts M_next M_many M_readMany M_found M_shortest M_nodes M_solved M_dropped M_fits M_proofSize M_tooLong M_text M_now M_trial M_read M_diary M_kept M_isKept M_constraint M_readConstraint M_word M_size M_number_52 M_firstOne M_node M_parent M_rule M_child M_proof M_witness M_witnessSize M_built M_copyRow) H := by rw [eM_number_52]; exact hP
    have hD : va_D A (wX12 g aM aM_text aM_now aM_trial aM_read aM_diary aM_kept aM_isKept aM_constraint aM_readConstraint aM_word aM_size aM_number aM_firstOne aM_node aM_parent aM_rule aM_child aM_proof aM_witness aM_witnessSize aM_built aM_copyRow M_length M_acts M_next M_many M_readMany M_found M_shortest M_nodes M_solved M_dropped M_fits M_proofSize M_tooLong M_text M_now M_trial M_read M_diary M_kept M_isKept M_constraint M_readConstraint M_word M_size M_number_52 M_firstOne M_node M_parent M_rule M_child M_proof M_witness M_witnessSize M_built M_copyRow) := by rw [eM_number_52]; exact hD
    exact B53 M_number_52 v3 ls H locs (lv_sub hl [1] rfl) hP hD hS h
  have L2 : ∀ (n2 : Nat), ∀ (M_number : Nat → Int32) (v3 : Int32) (ls : Array Slot) (H : Heap) (locs : List Loc), lv_has ls 4 [(0, .ref aM), (1, .ref aM_now), (2, .int x2), (3, .int v3)] → va_P g.1 vwCl (wX12 g aM aM_text aM_now aM_trial aM_read aM_diary aM_kept aM_isKept aM_constraint aM_readConstraint aM_word aM_size aM_number aM_firstOne aM_node aM_parent aM_rule aM_child aM_proof aM_witness aM_witnessSize aM_built aM_copyRow M_length M_acts M_next M_many M_readMany M_found M_shortest M_nodes M_solved M_dropped M_fits M_proofSize M_tooLong M_text M_now M_trial M_read M_diary M_kept M_isKept M_constraint M_readConstraint M_word M_size M_number M_firstOne M_node M_parent M_rule M_child M_proof M_witness M_witnessSize M_built M_copyRow) H → va_D A (wX12 g aM aM_text aM_now aM_trial aM_read aM_diary aM_kept aM_isKept aM_constraint aM_readConstraint aM_word aM_size aM_number aM_firstOne aM_node aM_parent aM_rule aM_child aM_proof aM_witness aM_witnessSize aM_built aM_copyRow M_length M_acts M_next M_many M_readMany M_found M_shortest M_nodes M_solved M_dropped M_fits M_proofSize M_tooLong M_text M_now M_trial M_read M_diary M_kept M_isKept M_constraint M_readConstraint M_word M_size M_number M_firstOne M_node M_parent M_rule M_child M_proof M_witness M_witnessSize M_built M_copyRow) → va_S A s.heap H locs → fx2 (fM_goOn_2 M_now x2) n2 M_number v3 = some (r, M_number_o) → W p l e rmX12_goOn s m ([.ref aM, .ref aM_now, .int x2] : List Value).toArray below meth c H locs 0 0 QQ (F0 m 2 ls []) := by
    intro n2
    induction n2 with
    | zero => intro M_number v3 ls H locs hl hP hD hS h; exact fx2_0 h
    | succ n2 ih2 =>
      intro M_number v3 ls H locs hl hP hD hS h
      have h := (fx2_s (fM_goOn_2 M_now x2) n2 M_number v3).symm.trans h
      have B26 : ∀ (M_number : Nat → Int32) (v3 : Int32) (ls : Array Slot) (H : Heap) (locs : List Loc), lv_has ls 4 [(0, .ref aM), (1, .ref aM_now), (2, .int x2), (3, .int v3)] → va_P g.1 vwCl (wX12 g aM aM_text aM_now aM_trial aM_read aM_diary aM_kept aM_isKept aM_constraint aM_readConstraint aM_word aM_size aM_number aM_firstOne aM_node aM_parent aM_rule aM_child aM_proof aM_witness aM_witnessSize aM_built aM_copyRow M_length M_acts M_next M_many M_readMany M_found M_shortest M_nodes M_solved M_dropped M_fits M_proofSize M_tooLong M_text M_now M_trial M_read M_diary M_kept M_isKept M_constraint M_readConstraint M_word M_size M_number M_firstOne M_node M_parent M_rule M_child M_proof M_witness M_witnessSize M_built M_copyRow) H → va_D A (wX12 g aM aM_text aM_now aM_trial aM_read aM_diary aM_kept aM_isKept aM_constraint aM_readConstraint aM_word aM_size aM_number aM_firstOne aM_node aM_parent aM_rule aM_child aM_proof aM_witness aM_witnessSize aM_built aM_copyRow M_length M_acts M_next M_many M_readMany M_found M_shortest M_nodes M_solved M_dropped M_fits M_proofSize M_tooLong M_text M_now M_trial M_read M_diary M_kept M_isKept M_constraint M_readConstraint M_word M_size M_number M_firstOne M_node M_parent M_rule M_child M_proof M_witness M_witnessSize M_built M_copyRow) → va_S A s.heap H locs → fM_goOn_26 (fx2 (fM_goOn_2 M_now x2) n2) M_number M_now x2 v3 = some (r, M_number_o) → W p l e rmX12_goOn s m ([.ref aM, .ref aM_now, .int x2] : List Value).toArray below meth c H locs 0 0 QQ (F0 m 26 ls []) := by
        intro M_number v3 ls H locs hl hP hD hS h
        refine lv_aload_n hx hb dX12_goOn_26 rfl (lv_at hl 0 rfl) ?_
        refine va_get (D := g.1) (ci := 11) (v := .ref aM_number) (C := RX12) (T := TX12) (N := 35) hx hb hts inBX12 hown hK hP 0 rfl rfl 16 (by decide) (hts _ wd4_212) (fun _ h9 => h9) rfl dX12_goOn_27 ?_
        refine lv_iload_n hx hb dX12_goOn_30 rfl (lv_at hl 3 rfl) ?_
        refine lv_iconst (v := (0 : Int32)) hx hb dX12_goOn_31 (by decide) ?_
        have hin := sti_in h
        refine va_iast hx hb hK hP hD hS 12 0 rfl rfl hin dX12_goOn_32 (fun H locs hP hD hS => ?_)
        obtain ⟨M_number_32, eM_number_32⟩ : ∃ y : Nat → Int32, y = upd M_number (Int32.toNatClampNeg v3) (0 : Int32) := ⟨_, rfl⟩
        have h := sti_to h eM_number_32
        have hP : va_P g.1 vwCl (wX12 g aM aM_text aM_now aM_trial aM_read aM_diary aM_kept aM_isKept aM_constraint aM_readConstraint aM_word aM_size aM_number aM_firstOne aM_node aM_parent aM_rule aM_child aM_proof aM_witness aM_witnessSize aM_built aM_copyRow M_length M_acts M_next M_many M_readMany M_found M_shortest M_nodes M_solved M_dropped M_fits M_proofSize M_tooLong M_text M_now M_trial M_read M_diary M_kept M_isKept M_constraint M_readConstraint M_word M_size M_number_32 M_firstOne M_node M_parent M_rule M_child M_proof M_witness M_witnessSize M_built M_copyRow) H := by rw [eM_number_32]; exact hP
        have hD : va_D A (wX12 g aM aM_text aM_now aM_trial aM_read aM_diary aM_kept aM_isKept aM_constraint aM_readConstraint aM_word aM_size aM_number aM_firstOne aM_node aM_parent aM_rule aM_child aM_proof aM_witness aM_witnessSize aM_built aM_copyRow M_length M_acts M_next M_many M_readMany M_found M_shortest M_nodes M_solved M_dropped M_fits M_proofSize M_tooLong M_text M_now M_trial M_read M_diary M_kept M_isKept M_constraint M_readConstraint M_word M_size M_number_32 M_firstOne M_node M_parent M_rule M_child M_proof M_witness M_witnessSize M_built M_copyRow) := by rw [eM_number_32]; exact hD
        obtain ⟨t33, et33⟩ : ∃ y : Int32, y = v3 + ((-1) : Int32) := ⟨_, rfl⟩
        refine lv_iinc (v := t33) (lv' := [(3, .int t33), (0, .ref aM), (1, .ref aM_now), (2, .int x2)]) hx hb dX12_goOn_33 hl (k := 3) rfl (by rw [et33]; rfl) (by decide) rfl (fun ls hl => ?_)
        have h := st_to h et33
        refine lv_goto (tgt := 2) hx hb dX12_goOn_36 (by decide) ?_
        exact ih2 M_number_32 t33 ls H locs (lv_sub hl [1, 2, 3, 0] rfl) hP hD hS h
      refine lv_iload_n hx hb dX12_goOn_2 rfl (lv_at hl 3 rfl) ?_
      refine lv_if_lt (tgt := 39) hx hb dX12_goOn_3 (by decide) (fun q3 => ?_) (fun q3 => ?_)
      · have h := ifT h q3
        exact B39 M_number v3 ls H locs (lv_sub hl [0, 3] rfl) hP hD hS h
      have h := ifF h q3
      refine lv_aload_n hx hb dX12_goOn_6 rfl (lv_at hl 1 rfl) ?_
      refine lv_iload_n hx hb dX12_goOn_7 rfl (lv_at hl 3 rfl) ?_
      obtain ⟨t8, hc8, h⟩ := bd1_to h
      refine go_P (st1 := [.int t8]) (W1 := (wX12 g aM aM_text aM_now aM_trial aM_read aM_diary aM_kept aM_isKept aM_constraint aM_readConstraint aM_word aM_size aM_number aM_firstOne aM_node aM_parent aM_rule aM_child aM_proof aM_witness aM_witnessSize aM_built aM_copyRow M_length M_acts M_next M_many M_readMany M_found M_shortest M_nodes M_solved M_dropped M_fits M_proofSize M_tooLong M_text M_now M_trial M_read M_diary M_kept M_isKept M_constraint M_readConstraint M_word M_size M_number M_firstOne M_node M_parent M_rule M_child M_proof M_witness M_witnessSize M_built M_copyRow)) (run_S (As := [.ref aM_now, .int v3]) (rest := []) X hS (mX12_isUsed g l  aM_now M_now v3 t8 hc8) okX12_isUsed wd5_201 ⟨Nat.le_of_ble_eq_true rfl, Nat.le_of_ble_eq_true rfl⟩ ⟨rfl, rfl⟩ (sub_P hP [2] rfl) (hD.sub [2] (by decide) rfl) (va_free hD hS hA [2] rfl) rfl hl.1 rfl (Nat.le_of_ble_eq_true rfl) dX12_goOn_8 ⟨Nat.zero_le _, Nat.zero_le _⟩) hS (va_free hD hS hA [2] rfl) hP hD [2] [0, 1, 3, 4, 5, 6, 7, 8, 9, 10, 11, 12, 13, 14, 15, 16, 17, 18, 19, 20, 21, 22] [0, 1, 22, 2, 3, 4, 5, 6, 7, 8, 9, 10, 11, 12, 13, 14, 15, 16, 17, 18, 19, 20, 21] rfl rfl (by decide) (by decide) rfl (by decide) rfl (fun H locs hP hD hS => ?_)
      refine lv_if_eq (tgt := 26) hx hb dX12_goOn_11 (by decide) (fun q11 => ?_) (fun q11 => ?_)
      · have h := ifT h q11
        exact B26 M_number v3 ls H locs (lv_sub hl [0, 1, 2, 3] rfl) hP hD hS h
      have h := ifF h q11
      refine lv_aload_n hx hb dX12_goOn_14 rfl (lv_at hl 0 rfl) ?_
      refine va_get (D := g.1) (ci := 11) (v := .ref aM_number) (C := RX12) (T := TX12) (N := 35) hx hb hts inBX12 hown hK hP 0 rfl rfl 16 (by decide) (hts _ wd4_212) (fun _ h9 => h9) rfl dX12_goOn_15 ?_
      refine lv_iload_n hx hb dX12_goOn_18 rfl (lv_at hl 3 rfl) ?_
      have hin := ld_in h
      refine va_iald hx hb hK hP 12 0 rfl rfl hin dX12_goOn_19 ?_
      refine lv_topi (fun t19 et19 => ?_)
      have h := ld_to h et19
      refine lv_iload_n hx hb dX12_goOn_20 rfl (lv_at hl 2 rfl) ?_
      refine lv_iconst (v := (1 : Int32)) hx hb dX12_goOn_21 (by decide) ?_
      refine lv_isub hx hb dX12_goOn_22 ?_
      refine lv_icmp_ne (tgt := 39) hx hb dX12_goOn_23 (by decide) (fun q23 => ?_) (fun q23 => ?_)
      · have h := ifF h q23
        exact B39 M_number v3 ls H locs (lv_sub hl [0, 3] rfl) hP hD hS h
      have h := ifT h q23
      exact B26 M_number v3 ls H locs (lv_sub hl [0, 1, 2, 3] rfl) hP hD hS h
  have hl : lv_has ls 4 [(0, .ref aM), (1, .ref aM_now), (2, .int x2)] := hl
  obtain ⟨H, hH⟩ : ∃ H, H = s.heap := ⟨_, rfl⟩
  obtain ⟨locs, hlocs⟩ : ∃ l : List Loc, l = [] := ⟨_, rfl⟩
  rw [show W p l e rmX12_goOn s m ([.ref aM, .ref aM_now, .int x2] : List Value).toArray below meth c s.heap [] 0 0 QQ (F0 m 0 ls []) = W p l e rmX12_goOn s m ([.ref aM, .ref aM_now, .int x2] : List Value).toArray below meth c H locs 0 0 QQ (F0 m 0 ls []) by rw [hH, hlocs]]
  have hP : va_P g.1 vwCl (wX12 g aM aM_text aM_now aM_trial aM_read aM_diary aM_kept aM_isKept aM_constraint aM_readConstraint aM_word aM_size aM_number aM_firstOne aM_node aM_parent aM_rule aM_child aM_proof aM_witness aM_witnessSize aM_built aM_copyRow M_length M_acts M_next M_many M_readMany M_found M_shortest M_nodes M_solved M_dropped M_fits M_proofSize M_tooLong M_text M_now M_trial M_read M_diary M_kept M_isKept M_constraint M_readConstraint M_word M_size M_number M_firstOne M_node M_parent M_rule M_child M_proof M_witness M_witnessSize M_built M_copyRow) H := by rw [hH]; exact hP
  have hD : va_D A (wX12 g aM aM_text aM_now aM_trial aM_read aM_diary aM_kept aM_isKept aM_constraint aM_readConstraint aM_word aM_size aM_number aM_firstOne aM_node aM_parent aM_rule aM_child aM_proof aM_witness aM_witnessSize aM_built aM_copyRow M_length M_acts M_next M_many M_readMany M_found M_shortest M_nodes M_solved M_dropped M_fits M_proofSize M_tooLong M_text M_now M_trial M_read M_diary M_kept M_isKept M_constraint M_readConstraint M_word M_size M_number M_firstOne M_node M_parent M_rule M_child M_proof M_witness M_witnessSize M_built M_copyRow) := hD
  have hS : va_S A s.heap H locs := by rw [hH, hlocs]; exact hS
  clear hH hlocs
  refine lv_iconst (v := (3 : Int32)) hx hb dX12_goOn_0 (by decide) ?_
  refine lv_istore_n (lv' := [(3, .int (3 : Int32)), (0, .ref aM), (1, .ref aM_now), (2, .int x2)]) hx hb dX12_goOn_1 rfl hl (by decide) rfl (fun ls hl => ?_)
  exact L2 FU M_number (3 : Int32) ls H locs (lv_sub hl [1, 2, 3, 0] rfl) hP hD hS h
set_option maxHeartbeats 4000000 in
set_option maxRecDepth 100000 in
theorem mX12_lookThrough_copyRow (g : GP) (l : Launch) (aM aM_text aM_now aM_trial aM_read aM_diary aM_kept aM_isKept aM_constraint aM_readConstraint aM_word aM_size aM_number aM_firstOne aM_node aM_parent aM_rule aM_child aM_proof aM_witness aM_witnessSize aM_built aM_copyRow : Nat) (M_length : Int32) (M_acts : Int32) (M_next : Int32) (M_many : Int32) (M_readMany : Int32) (M_found : Int32) (M_shortest : Int32) (M_nodes : Int32) (M_solved : Int32) (M_dropped : Int32) (M_fits : Int32) (M_proofSize : Int32) (M_tooLong : Int32) (M_text : Nat → Int32) (M_now : Nat → Int32) (M_trial : Nat → Int32) (M_read : Nat → Int32) (M_diary : Nat → Int32) (M_kept : Nat → Int32) (M_isKept : Nat → Int32) (M_constraint : Nat → Int32) (M_readConstraint : Nat → Int32) (M_word : Nat → Int32) (M_size : Nat → Int32) (M_number : Nat → Int32) (M_firstOne : Nat → Int32) (M_node : Nat → Int32) (M_parent : Nat → Int32) (M_rule : Nat → Int32) (M_child : Nat → Int32) (M_proof : Nat → Int32) (M_witness : Nat → Int32) (M_witnessSize : Nat → Int32) (M_built : Nat → Int32) (M_copyRow : Nat → Int32) (x2 : Int32) (M_found_o : Int32) (M_shortest_o : Int32) (M_word_o : Nat → Int32) (M_size_o : Nat → Int32) (M_number_o : Nat → Int32) (M_firstOne_o : Nat → Int32) (h : fM_lookThrough M_many M_constraint M_word M_size M_number M_firstOne M_copyRow x2 = some (M_found_o, M_shortest_o, M_word_o, M_size_o, M_number_o, M_firstOne_o)) : Ct g l yX12_lookThrough cX12_lookThrough 6 none rmX12_lookThrough [.ref aM, .ref aM_copyRow, .int x2] (wX12 g aM aM_text aM_now aM_trial aM_read aM_diary aM_kept aM_isKept aM_constraint aM_readConstraint aM_word aM_size aM_number aM_firstOne aM_node aM_parent aM_rule aM_child aM_proof aM_witness aM_witnessSize aM_built aM_copyRow M_length M_acts M_next M_many M_readMany M_found M_shortest M_nodes M_solved M_dropped M_fits M_proofSize M_tooLong M_text M_now M_trial M_read M_diary M_kept M_isKept M_constraint M_readConstraint M_word M_size M_number M_firstOne M_node M_parent M_rule M_child M_proof M_witness M_witnessSize M_built M_copyRow) none (wX12 g aM aM_text aM_now aM_trial aM_read aM_diary aM_kept aM_isKept aM_constraint aM_readConstraint aM_word aM_size aM_number aM_firstOne aM_node aM_parent aM_rule aM_child aM_proof aM_witness aM_witnessSize aM_built aM_copyRow M_length M_acts M_next M_many M_readMany M_found_o M_shortest_o M_nodes M_solved M_dropped M_fits M_proofSize M_tooLong M_text M_now M_trial M_read M_diary M_kept M_isKept M_constraint M_readConstraint M_word_o M_size_o M_number_o M_firstOne_o M_node M_parent M_rule M_child M_proof M_witness M_witnessSize M_built M_copyRow) := by
  refine Ct.introV (by decide) (Nat.le_of_ble_eq_true rfl) ?_
  intro p e s m below meth c A QQ ls hyp hret
  obtain ⟨hx, hb, hml, hts, hown, hA, hE, hP, hD, hl⟩ := hyp
  have hK := hE.1
  have hS : va_S A s.heap s.heap [] := va_S.rf
  have X : Here g p s m c cX12_lookThrough 6 ([.ref aM, .ref aM_copyRow, .int x2] : List Value).toArray RX12 A := ⟨⟨hx, hb, hml, hown, hts⟩, hE, hA⟩
  have L33 : ∀ (n33 : Nat), ∀ (M_found : Int32) (M_shortest : Int32) (M_word : Nat → Int32) (M_size : Nat → Int32) (M_number : Nat → Int32) (M_firstOne : Nat → Int32) (v3 : Int32) (ls : Array Slot) (H : Heap) (locs : List Loc), lv_has ls 6 [(0, .ref aM), (1, .ref aM_copyRow), (2, .int x2), (3, .int v3)] → va_P g.1 vwCl (wX12 g aM aM_text aM_now aM_trial aM_read aM_diary aM_kept aM_isKept aM_constraint aM_readConstraint aM_word aM_size aM_number aM_firstOne aM_node aM_parent aM_rule aM_child aM_proof aM_witness aM_witnessSize aM_built aM_copyRow M_length M_acts M_next M_many M_readMany M_found M_shortest M_nodes M_solved M_dropped M_fits M_proofSize M_tooLong M_text M_now M_trial M_read M_diary M_kept M_isKept M_constraint M_readConstraint M_word M_size M_number M_firstOne M_node M_parent M_rule M_child M_proof M_witness M_witnessSize M_built M_copyRow) H → va_D A (wX12 g aM aM_text aM_now aM_trial aM_read aM_diary aM_kept aM_isKept aM_constraint aM_readConstraint aM_word aM_size aM_number aM_firstOne aM_node aM_parent aM_rule aM_child aM_proof aM_witness aM_witnessSize aM_built aM_copyRow M_length M_acts M_next M_many M_readMany M_found M_shortest M_nodes M_solved M_dropped M_fits M_proofSize M_tooLong M_text M_now M_trial M_read M_diary M_kept M_isKept M_constraint M_readConstraint M_word M_size M_number M_firstOne M_node M_parent M_rule M_child M_proof M_witness M_witnessSize M_built M_copyRow) → va_S A s.heap H locs → fx7 (fM_lookThrough_33 M_many M_constraint M_copyRow x2) n33 M_found M_shortest M_word M_size M_number M_firstOne v3 = some (M_found_o, M_shortest_o, M_word_o, M_size_o, M_number_o, M_firstOne_o) → W p l e rmX12_lookThrough s m ([.ref aM, .ref aM_copyRow, .int x2] : List Value).toArray below meth c H locs 0 0 QQ (F0 m 33 ls []) := by
    intro n33
    induction n33 with
    | zero => intro M_found M_shortest M_word M_size M_number M_firstOne v3 ls H locs hl hP hD hS h; exact fx7_0 h
    | succ n33 ih33 =>
      intro M_found M_shortest M_word M_size M_number M_firstOne v3 ls H locs hl hP hD hS h
      have h := (fx7_s (fM_lookThrough_33 M_many M_constraint M_copyRow x2) n33 M_found M_shortest M_word M_size M_number M_firstOne v3).symm.trans h
      have B148 : ∀ (M_found : Int32) (M_shortest : Int32) (M_word : Nat → Int32) (M_size : Nat → Int32) (M_number : Nat → Int32) (M_firstOne : Nat → Int32) (ls : Array Slot) (H : Heap) (locs : List Loc), lv_has ls 6 [(0, .ref aM), (1, .ref aM_copyRow), (2, .int x2)] → va_P g.1 vwCl (wX12 g aM aM_text aM_now aM_trial aM_read aM_diary aM_kept aM_isKept aM_constraint aM_readConstraint aM_word aM_size aM_number aM_firstOne aM_node aM_parent aM_rule aM_child aM_proof aM_witness aM_witnessSize aM_built aM_copyRow M_length M_acts M_next M_many M_readMany M_found M_shortest M_nodes M_solved M_dropped M_fits M_proofSize M_tooLong M_text M_now M_trial M_read M_diary M_kept M_isKept M_constraint M_readConstraint M_word M_size M_number M_firstOne M_node M_parent M_rule M_child M_proof M_witness M_witnessSize M_built M_copyRow) H → va_D A (wX12 g aM aM_text aM_now aM_trial aM_read aM_diary aM_kept aM_isKept aM_constraint aM_readConstraint aM_word aM_size aM_number aM_firstOne aM_node aM_parent aM_rule aM_child aM_proof aM_witness aM_witnessSize aM_built aM_copyRow M_length M_acts M_next M_many M_readMany M_found M_shortest M_nodes M_solved M_dropped M_fits M_proofSize M_tooLong M_text M_now M_trial M_read M_diary M_kept M_isKept M_constraint M_readConstraint M_word M_size M_number M_firstOne M_node M_parent M_rule M_child M_proof M_witness M_witnessSize M_built M_copyRow) → va_S A s.heap H locs → fM_lookThrough_148 (fx7 (fM_lookThrough_33 M_many M_constraint M_copyRow x2) n33) M_many M_found M_shortest M_constraint M_word M_size M_number M_firstOne M_copyRow x2 = some (M_found_o, M_shortest_o, M_word_o, M_size_o, M_number_o, M_firstOne_o) → W p l e rmX12_lookThrough s m ([.ref aM, .ref aM_copyRow, .int x2] : List Value).toArray below meth c H locs 0 0 QQ (F0 m 148 ls []) := by
        intro M_found M_shortest M_word M_size M_number M_firstOne ls H locs hl hP hD hS h
        refine lv_aload_n hx hb dX12_lookThrough_148 rfl (lv_at hl 0 rfl) ?_
        refine lv_aload_n hx hb dX12_lookThrough_149 rfl (lv_at hl 1 rfl) ?_
        refine lv_iconst (v := (2 : Int32)) hx hb dX12_lookThrough_150 (by decide) ?_
        refine lv_iload_n hx hb dX12_lookThrough_151 rfl (lv_at hl 2 rfl) ?_
        refine lv_ishl hx hb dX12_lookThrough_152 ?_
        refine lv_iconst (v := (1 : Int32)) hx hb dX12_lookThrough_153 (by decide) ?_
        refine lv_isub hx hb dX12_lookThrough_154 ?_
        obtain ⟨t155, M_number_155, hc155, h⟩ := bd2_to h
        refine go_A (st1 := [.int t155]) (run_V (As := [.ref aM_copyRow, .int ((shl (2 : Int32) x2) - (1 : Int32))]) (rest := []) X hS (mX12_goOn_copyRow g l  aM aM_text aM_now aM_trial aM_read aM_diary aM_kept aM_isKept aM_constraint aM_readConstraint aM_word aM_size aM_number aM_firstOne aM_node aM_parent aM_rule aM_child aM_proof aM_witness aM_witnessSize aM_built aM_copyRow M_length M_acts M_next M_many M_readMany M_found M_shortest M_nodes M_solved M_dropped M_fits M_proofSize M_tooLong M_text M_now M_trial M_read M_diary M_kept M_isKept M_constraint M_readConstraint M_word M_size M_number M_firstOne M_node M_parent M_rule M_child M_proof M_witness M_witnessSize M_built M_copyRow ((shl (2 : Int32) x2) - (1 : Int32)) t155 M_number_155 hc155) okX12_goOn wd5_197 ⟨Nat.le_of_ble_eq_true rfl, Nat.le_of_ble_eq_true rfl⟩ ⟨rfl, rfl⟩ (va_recv hK hP (ci := 11) (q0 := 0) rfl rfl) hP hD (all_F hS hA hD) rfl hl.1 rfl (Nat.le_of_ble_eq_true rfl) dX12_lookThrough_155 ⟨Nat.zero_le _, Nat.zero_le _⟩) hS (all_F hS hA hD) rfl (fun H locs hP hD hS => ?_)
        refine lv_istore_n (lv' := [(3, .int t155), (0, .ref aM), (1, .ref aM_copyRow), (2, .int x2)]) hx hb dX12_lookThrough_158 rfl hl (by decide) rfl (fun ls hl => ?_)
        refine lv_goto (tgt := 33) hx hb dX12_lookThrough_159 (by decide) ?_
        exact ih33 M_found M_shortest M_word M_size M_number_155 M_firstOne t155 ls H locs (lv_sub hl [1, 2, 3, 0] rfl) hP hD hS h
      have B135 : ∀ (M_found : Int32) (M_shortest : Int32) (M_word : Nat → Int32) (M_size : Nat → Int32) (M_number : Nat → Int32) (M_firstOne : Nat → Int32) (s1 : Int32) (ls : Array Slot) (H : Heap) (locs : List Loc), lv_has ls 6 [(0, .ref aM), (1, .ref aM_copyRow), (2, .int x2)] → va_P g.1 vwCl (wX12 g aM aM_text aM_now aM_trial aM_read aM_diary aM_kept aM_isKept aM_constraint aM_readConstraint aM_word aM_size aM_number aM_firstOne aM_node aM_parent aM_rule aM_child aM_proof aM_witness aM_witnessSize aM_built aM_copyRow M_length M_acts M_next M_many M_readMany M_found M_shortest M_nodes M_solved M_dropped M_fits M_proofSize M_tooLong M_text M_now M_trial M_read M_diary M_kept M_isKept M_constraint M_readConstraint M_word M_size M_number M_firstOne M_node M_parent M_rule M_child M_proof M_witness M_witnessSize M_built M_copyRow) H → va_D A (wX12 g aM aM_text aM_now aM_trial aM_read aM_diary aM_kept aM_isKept aM_constraint aM_readConstraint aM_word aM_size aM_number aM_firstOne aM_node aM_parent aM_rule aM_child aM_proof aM_witness aM_witnessSize aM_built aM_copyRow M_length M_acts M_next M_many M_readMany M_found M_shortest M_nodes M_solved M_dropped M_fits M_proofSize M_tooLong M_text M_now M_trial M_read M_diary M_kept M_isKept M_constraint M_readConstraint M_word M_size M_number M_firstOne M_node M_parent M_rule M_child M_proof M_witness M_witnessSize M_built M_copyRow) → va_S A s.heap H locs → fM_lookThrough_135 (fx7 (fM_lookThrough_33 M_many M_constraint M_copyRow x2) n33) M_many M_found M_constraint M_word M_size M_number M_firstOne M_copyRow x2 s1 = some (M_found_o, M_shortest_o, M_word_o, M_size_o, M_number_o, M_firstOne_o) → W p l e rmX12_lookThrough s m ([.ref aM, .ref aM_copyRow, .int x2] : List Value).toArray below meth c H locs 0 0 QQ (F0 m 135 ls [.int s1, .ref aM]) := by
        intro M_found M_shortest M_word M_size M_number M_firstOne s1 ls H locs hl hP hD hS h
        refine va_put (D := g.1) (ci := 11) (v := .int s1) (ty := .int) (C := RX12) (T := TX12) (N := 35) hx hb hts inBX12 tyX12 tyX12_ok nmX12 hown hK hP hD hS 0 rfl rfl 19 (by decide) (hts _ wd4_215) (fun _ h9 => h9) rfl (tyX12_ok 19 (by decide)) rfl rfl (Nat.le_of_ble_eq_true rfl) dX12_lookThrough_135 (fun H locs hP hD hS => ?_)
        have hP : va_P g.1 vwCl (wX12 g aM aM_text aM_now aM_trial aM_read aM_diary aM_kept aM_isKept aM_constraint aM_readConstraint aM_word aM_size aM_number aM_firstOne aM_node aM_parent aM_rule aM_child aM_proof aM_witness aM_witnessSize aM_built aM_copyRow M_length M_acts M_next M_many M_readMany M_found s1 M_nodes M_solved M_dropped M_fits M_proofSize M_tooLong M_text M_now M_trial M_read M_diary M_kept M_isKept M_constraint M_readConstraint M_word M_size M_number M_firstOne M_node M_parent M_rule M_child M_proof M_witness M_witnessSize M_built M_copyRow) H := hP
        have hD : va_D A (wX12 g aM aM_text aM_now aM_trial aM_read aM_diary aM_kept aM_isKept aM_constraint aM_readConstraint aM_word aM_size aM_number aM_firstOne aM_node aM_parent aM_rule aM_child aM_proof aM_witness aM_witnessSize aM_built aM_copyRow M_length M_acts M_next M_many M_readMany M_found s1 M_nodes M_solved M_dropped M_fits M_proofSize M_tooLong M_text M_now M_trial M_read M_diary M_kept M_isKept M_constraint M_readConstraint M_word M_size M_number M_firstOne M_node M_parent M_rule M_child M_proof M_witness M_witnessSize M_built M_copyRow) := hD
        refine lv_aload_n hx hb dX12_lookThrough_138 rfl (lv_at hl 0 rfl) ?_
        refine lv_dup hx hb dX12_lookThrough_139 rfl ?_
        refine va_get (D := g.1) (ci := 11) (v := .int M_found) (C := RX12) (T := TX12) (N := 35) hx hb hts inBX12 hown hK hP 0 rfl rfl 18 (by decide) (hts _ wd4_214) (fun _ h9 => h9) rfl dX12_lookThrough_140 ?_
        refine lv_iconst (v := (1 : Int32)) hx hb dX12_lookThrough_143 (by decide) ?_
        refine lv_iadd hx hb dX12_lookThrough_144 ?_
        refine lv_topi (fun t145 et145 => ?_)
        have h := st_to h et145
        refine va_put (D := g.1) (ci := 11) (v := .int t145) (ty := .int) (C := RX12) (T := TX12) (N := 35) hx hb hts inBX12 tyX12 tyX12_ok nmX12 hown hK hP hD hS 0 rfl rfl 18 (by decide) (hts _ wd4_214) (fun _ h9 => h9) rfl (tyX12_ok 18 (by decide)) rfl rfl (Nat.le_of_ble_eq_true rfl) dX12_lookThrough_145 (fun H locs hP hD hS => ?_)
        have hP : va_P g.1 vwCl (wX12 g aM aM_text aM_now aM_trial aM_read aM_diary aM_kept aM_isKept aM_constraint aM_readConstraint aM_word aM_size aM_number aM_firstOne aM_node aM_parent aM_rule aM_child aM_proof aM_witness aM_witnessSize aM_built aM_copyRow M_length M_acts M_next M_many M_readMany t145 s1 M_nodes M_solved M_dropped M_fits M_proofSize M_tooLong M_text M_now M_trial M_read M_diary M_kept M_isKept M_constraint M_readConstraint M_word M_size M_number M_firstOne M_node M_parent M_rule M_child M_proof M_witness M_witnessSize M_built M_copyRow) H := hP
        have hD : va_D A (wX12 g aM aM_text aM_now aM_trial aM_read aM_diary aM_kept aM_isKept aM_constraint aM_readConstraint aM_word aM_size aM_number aM_firstOne aM_node aM_parent aM_rule aM_child aM_proof aM_witness aM_witnessSize aM_built aM_copyRow M_length M_acts M_next M_many M_readMany t145 s1 M_nodes M_solved M_dropped M_fits M_proofSize M_tooLong M_text M_now M_trial M_read M_diary M_kept M_isKept M_constraint M_readConstraint M_word M_size M_number M_firstOne M_node M_parent M_rule M_child M_proof M_witness M_witnessSize M_built M_copyRow) := hD
        exact B148 t145 s1 M_word M_size M_number M_firstOne ls H locs (lv_sub hl [0, 1, 2] rfl) hP hD hS h
      have L51 : ∀ (n51 : Nat), ∀ (M_found : Int32) (M_shortest : Int32) (M_word : Nat → Int32) (M_size : Nat → Int32) (M_number : Nat → Int32) (M_firstOne : Nat → Int32) (v4 : Int32) (v5 : Int32) (ls : Array Slot) (H : Heap) (locs : List Loc), lv_has ls 6 [(0, .ref aM), (1, .ref aM_copyRow), (2, .int x2), (4, .int v4), (5, .int v5)] → va_P g.1 vwCl (wX12 g aM aM_text aM_now aM_trial aM_read aM_diary aM_kept aM_isKept aM_constraint aM_readConstraint aM_word aM_size aM_number aM_firstOne aM_node aM_parent aM_rule aM_child aM_proof aM_witness aM_witnessSize aM_built aM_copyRow M_length M_acts M_next M_many M_readMany M_found M_shortest M_nodes M_solved M_dropped M_fits M_proofSize M_tooLong M_text M_now M_trial M_read M_diary M_kept M_isKept M_constraint M_readConstraint M_word M_size M_number M_firstOne M_node M_parent M_rule M_child M_proof M_witness M_witnessSize M_built M_copyRow) H → va_D A (wX12 g aM aM_text aM_now aM_trial aM_read aM_diary aM_kept aM_isKept aM_constraint aM_readConstraint aM_word aM_size aM_number aM_firstOne aM_node aM_parent aM_rule aM_child aM_proof aM_witness aM_witnessSize aM_built aM_copyRow M_length M_acts M_next M_many M_readMany M_found M_shortest M_nodes M_solved M_dropped M_fits M_proofSize M_tooLong M_text M_now M_trial M_read M_diary M_kept M_isKept M_constraint M_readConstraint M_word M_size M_number M_firstOne M_node M_parent M_rule M_child M_proof M_witness M_witnessSize M_built M_copyRow) → va_S A s.heap H locs → fx3 (fM_lookThrough_51 (fx7 (fM_lookThrough_33 M_many M_constraint M_copyRow x2) n33) M_many M_found M_shortest M_constraint M_word M_size M_number M_copyRow x2) n51 M_firstOne v4 v5 = some (M_found_o, M_shortest_o, M_word_o, M_size_o, M_number_o, M_firstOne_o) → W p l e rmX12_lookThrough s m ([.ref aM, .ref aM_copyRow, .int x2] : List Value).toArray below meth c H locs 0 0 QQ (F0 m 51 ls []) := by
        intro n51
        induction n51 with
        | zero => intro M_found M_shortest M_word M_size M_number M_firstOne v4 v5 ls H locs hl hP hD hS h; exact fx3_0 h
        | succ n51 ih51 =>
          intro M_found M_shortest M_word M_size M_number M_firstOne v4 v5 ls H locs hl hP hD hS h
          have h := (fx3_s (fM_lookThrough_51 (fx7 (fM_lookThrough_33 M_many M_constraint M_copyRow x2) n33) M_many M_found M_shortest M_constraint M_word M_size M_number M_copyRow x2) n51 M_firstOne v4 v5).symm.trans h
          have B102 : ∀ (M_firstOne : Nat → Int32) (v4 : Int32) (v5 : Int32) (s1 : Int32) (s2 : Int32) (ls : Array Slot) (H : Heap) (locs : List Loc), lv_has ls 6 [(0, .ref aM), (1, .ref aM_copyRow), (2, .int x2), (4, .int v4), (5, .int v5)] → va_P g.1 vwCl (wX12 g aM aM_text aM_now aM_trial aM_read aM_diary aM_kept aM_isKept aM_constraint aM_readConstraint aM_word aM_size aM_number aM_firstOne aM_node aM_parent aM_rule aM_child aM_proof aM_witness aM_witnessSize aM_built aM_copyRow M_length M_acts M_next M_many M_readMany M_found M_shortest M_nodes M_solved M_dropped M_fits M_proofSize M_tooLong M_text M_now M_trial M_read M_diary M_kept M_isKept M_constraint M_readConstraint M_word M_size M_number M_firstOne M_node M_parent M_rule M_child M_proof M_witness M_witnessSize M_built M_copyRow) H → va_D A (wX12 g aM aM_text aM_now aM_trial aM_read aM_diary aM_kept aM_isKept aM_constraint aM_readConstraint aM_word aM_size aM_number aM_firstOne aM_node aM_parent aM_rule aM_child aM_proof aM_witness aM_witnessSize aM_built aM_copyRow M_length M_acts M_next M_many M_readMany M_found M_shortest M_nodes M_solved M_dropped M_fits M_proofSize M_tooLong M_text M_now M_trial M_read M_diary M_kept M_isKept M_constraint M_readConstraint M_word M_size M_number M_firstOne M_node M_parent M_rule M_child M_proof M_witness M_witnessSize M_built M_copyRow) → va_S A s.heap H locs → fM_lookThrough_102 (fx7 (fM_lookThrough_33 M_many M_constraint M_copyRow x2) n33) (fx3 (fM_lookThrough_51 (fx7 (fM_lookThrough_33 M_many M_constraint M_copyRow x2) n33) M_many M_found M_shortest M_constraint M_word M_size M_number M_copyRow x2) n51) M_many M_found M_shortest M_constraint M_word M_size M_number M_firstOne M_copyRow x2 v4 v5 s1 s2 = some (M_found_o, M_shortest_o, M_word_o, M_size_o, M_number_o, M_firstOne_o) → W p l e rmX12_lookThrough s m ([.ref aM, .ref aM_copyRow, .int x2] : List Value).toArray below meth c H locs 0 0 QQ (F0 m 102 ls [.int s2, .int s1, .ref aM_firstOne]) := by
            intro M_firstOne v4 v5 s1 s2 ls H locs hl hP hD hS h
            have hin := sti_in h
            refine va_iast hx hb hK hP hD hS 13 0 rfl rfl hin dX12_lookThrough_102 (fun H locs hP hD hS => ?_)
            obtain ⟨M_firstOne_102, eM_firstOne_102⟩ : ∃ y : Nat → Int32, y = upd M_firstOne (Int32.toNatClampNeg s1) s2 := ⟨_, rfl⟩
            have h := sti_to h eM_firstOne_102
            have hP : va_P g.1 vwCl (wX12 g aM aM_text aM_now aM_trial aM_read aM_diary aM_kept aM_isKept aM_constraint aM_readConstraint aM_word aM_size aM_number aM_firstOne aM_node aM_parent aM_rule aM_child aM_proof aM_witness aM_witnessSize aM_built aM_copyRow M_length M_acts M_next M_many M_readMany M_found M_shortest M_nodes M_solved M_dropped M_fits M_proofSize M_tooLong M_text M_now M_trial M_read M_diary M_kept M_isKept M_constraint M_readConstraint M_word M_size M_number M_firstOne_102 M_node M_parent M_rule M_child M_proof M_witness M_witnessSize M_built M_copyRow) H := by rw [eM_firstOne_102]; exact hP
            have hD : va_D A (wX12 g aM aM_text aM_now aM_trial aM_read aM_diary aM_kept aM_isKept aM_constraint aM_readConstraint aM_word aM_size aM_number aM_firstOne aM_node aM_parent aM_rule aM_child aM_proof aM_witness aM_witnessSize aM_built aM_copyRow M_length M_acts M_next M_many M_readMany M_found M_shortest M_nodes M_solved M_dropped M_fits M_proofSize M_tooLong M_text M_now M_trial M_read M_diary M_kept M_isKept M_constraint M_readConstraint M_word M_size M_number M_firstOne_102 M_node M_parent M_rule M_child M_proof M_witness M_witnessSize M_built M_copyRow) := by rw [eM_firstOne_102]; exact hD
            obtain ⟨t103, et103⟩ : ∃ y : Int32, y = v5 + (1 : Int32) := ⟨_, rfl⟩
            refine lv_iinc (v := t103) (lv' := [(5, .int t103), (0, .ref aM), (1, .ref aM_copyRow), (2, .int x2), (4, .int v4)]) hx hb dX12_lookThrough_103 hl (k := 4) rfl (by rw [et103]; rfl) (by decide) rfl (fun ls hl => ?_)
            have h := st_to h et103
            refine lv_goto (tgt := 51) hx hb dX12_lookThrough_106 (by decide) ?_
            exact ih51 M_found M_shortest M_word M_size M_number M_firstOne_102 v4 t103 ls H locs (lv_sub hl [1, 2, 3, 4, 0] rfl) hP hD hS h
          refine lv_iload hx hb dX12_lookThrough_51 (lv_at hl 4 rfl) ?_
          refine lv_iconst (v := (4 : Int32)) hx hb dX12_lookThrough_53 (by decide) ?_
          refine lv_icmp_ge (tgt := 109) hx hb dX12_lookThrough_54 (by decide) (fun q54 => ?_) (fun q54 => ?_)
          · have h := ifT h q54
            refine lv_aload_n hx hb dX12_lookThrough_109 rfl (lv_at hl 0 rfl) ?_
            refine lv_aload_n hx hb dX12_lookThrough_110 rfl (lv_at hl 0 rfl) ?_
            refine va_get (D := g.1) (ci := 11) (v := .int M_found) (C := RX12) (T := TX12) (N := 35) hx hb hts inBX12 hown hK hP 0 rfl rfl 18 (by decide) (hts _ wd4_214) (fun _ h9 => h9) rfl dX12_lookThrough_111 ?_
            refine lv_if_eq (tgt := 126) hx hb dX12_lookThrough_114 (by decide) (fun q114 => ?_) (fun q114 => ?_)
            · have h := ifT h q114
              refine lv_iload hx hb dX12_lookThrough_126 (lv_at hl 3 rfl) ?_
              refine lv_goto (tgt := 135) hx hb dX12_lookThrough_128 (by decide) ?_
              exact B135 M_found M_shortest M_word M_size M_number M_firstOne v4 ls H locs (lv_sub hl [0, 1, 2] rfl) hP hD hS h
            have h := ifF h q114
            refine lv_iload hx hb dX12_lookThrough_117 (lv_at hl 3 rfl) ?_
            refine lv_aload_n hx hb dX12_lookThrough_119 rfl (lv_at hl 0 rfl) ?_
            refine va_get (D := g.1) (ci := 11) (v := .int M_shortest) (C := RX12) (T := TX12) (N := 35) hx hb hts inBX12 hown hK hP 0 rfl rfl 19 (by decide) (hts _ wd4_215) (fun _ h9 => h9) rfl dX12_lookThrough_120 ?_
            refine lv_icmp_ge (tgt := 131) hx hb dX12_lookThrough_123 (by decide) (fun q123 => ?_) (fun q123 => ?_)
            · have h := ifT h q123
              refine lv_aload_n hx hb dX12_lookThrough_131 rfl (lv_at hl 0 rfl) ?_
              refine va_get (D := g.1) (ci := 11) (v := .int M_shortest) (C := RX12) (T := TX12) (N := 35) hx hb hts inBX12 hown hK hP 0 rfl rfl 19 (by decide) (hts _ wd4_215) (fun _ h9 => h9) rfl dX12_lookThrough_132 ?_
              exact B135 M_found M_shortest M_word M_size M_number M_firstOne M_shortest ls H locs (lv_sub hl [0, 1, 2] rfl) hP hD hS h
            have h := ifF h q123
            refine lv_iload hx hb dX12_lookThrough_126 (lv_at hl 3 rfl) ?_
            refine lv_goto (tgt := 135) hx hb dX12_lookThrough_128 (by decide) ?_
            exact B135 M_found M_shortest M_word M_size M_number M_firstOne v4 ls H locs (lv_sub hl [0, 1, 2] rfl) hP hD hS h
          have h := ifF h q54
          refine lv_iload hx hb dX12_lookThrough_57 (lv_at hl 3 rfl) ?_
          refine lv_aload_n hx hb dX12_lookThrough_59 rfl (lv_at hl 0 rfl) ?_
          refine va_get (D := g.1) (ci := 11) (v := .ref aM_number) (C := RX12) (T := TX12) (N := 35) hx hb hts inBX12 hown hK hP 0 rfl rfl 16 (by decide) (hts _ wd4_212) (fun _ h9 => h9) rfl dX12_lookThrough_60 ?_
          refine lv_iload hx hb dX12_lookThrough_63 (lv_at hl 4 rfl) ?_
          have hin := ld_in h
          refine va_iald hx hb hK hP 12 0 rfl rfl hin dX12_lookThrough_65 ?_
          refine lv_topi (fun t65 et65 => ?_)
          have h := ld_to h et65
          obtain ⟨t66, hc66, h⟩ := bd1_to h
          refine go_0 (st1 := [.int t66, .int v4]) (run_S (As := [.int t65]) (rest := [.int v4]) X hS (mX12_lengthOf g l  t65 t66 hc66) okX12_lengthOf wd5_182 ⟨Nat.le_of_ble_eq_true rfl, Nat.le_of_ble_eq_true rfl⟩ ⟨rfl, rfl⟩ nil_P nil_D (nil_F hS hA) rfl hl.1 rfl (Nat.le_of_ble_eq_true rfl) dX12_lookThrough_66 ⟨Nat.zero_le _, Nat.zero_le _⟩) hS hA hP rfl (fun H locs hP hS => ?_)
          refine lv_iadd hx hb dX12_lookThrough_69 ?_
          refine lv_topi (fun t70 et70 => ?_)
          have h := st_to h et70
          refine lv_istore (lv' := [(4, .int t70), (0, .ref aM), (1, .ref aM_copyRow), (2, .int x2), (5, .int v5)]) hx hb dX12_lookThrough_70 hl (by decide) rfl (fun ls hl => ?_)
          refine lv_aload_n hx hb dX12_lookThrough_72 rfl (lv_at hl 1 rfl) ?_
          refine va_get (D := g.1) (ci := 11) (v := .ref aM_firstOne) (C := RX12) (T := TX12) (N := 35) hx hb hts inBX12 hown hK hP 0 rfl rfl 17 (by decide) (hts _ wd4_213) (fun _ h9 => h9) rfl dX12_lookThrough_73 ?_
          refine lv_iload hx hb dX12_lookThrough_76 (lv_at hl 4 rfl) ?_
          refine lv_aload_n hx hb dX12_lookThrough_78 rfl (lv_at hl 1 rfl) ?_
          refine va_get (D := g.1) (ci := 11) (v := .int M_found) (C := RX12) (T := TX12) (N := 35) hx hb hts inBX12 hown hK hP 0 rfl rfl 18 (by decide) (hts _ wd4_214) (fun _ h9 => h9) rfl dX12_lookThrough_79 ?_
          refine lv_if_ne (tgt := 95) hx hb dX12_lookThrough_82 (by decide) (fun q82 => ?_) (fun q82 => ?_)
          · have h := ifF h q82
            refine lv_aload_n hx hb dX12_lookThrough_95 rfl (lv_at hl 1 rfl) ?_
            refine va_get (D := g.1) (ci := 11) (v := .ref aM_firstOne) (C := RX12) (T := TX12) (N := 35) hx hb hts inBX12 hown hK hP 0 rfl rfl 17 (by decide) (hts _ wd4_213) (fun _ h9 => h9) rfl dX12_lookThrough_96 ?_
            refine lv_iload hx hb dX12_lookThrough_99 (lv_at hl 4 rfl) ?_
            have hin := ld_in h
            refine va_iald hx hb hK hP 13 0 rfl rfl hin dX12_lookThrough_101 ?_
            refine lv_topi (fun t101 et101 => ?_)
            have h := ld_to h et101
            exact B102 M_firstOne t70 v5 v5 t101 ls H locs (lv_sub hl [1, 2, 3, 0, 4] rfl) hP hD hS h
          have h := ifT h q82
          refine lv_aload_n hx hb dX12_lookThrough_85 rfl (lv_at hl 1 rfl) ?_
          refine va_get (D := g.1) (ci := 11) (v := .ref aM_number) (C := RX12) (T := TX12) (N := 35) hx hb hts inBX12 hown hK hP 0 rfl rfl 16 (by decide) (hts _ wd4_212) (fun _ h9 => h9) rfl dX12_lookThrough_86 ?_
          refine lv_iload hx hb dX12_lookThrough_89 (lv_at hl 4 rfl) ?_
          have hin := ld_in h
          refine va_iald hx hb hK hP 12 0 rfl rfl hin dX12_lookThrough_91 ?_
          refine lv_topi (fun t91 et91 => ?_)
          have h := ld_to h et91
          refine lv_goto (tgt := 102) hx hb dX12_lookThrough_92 (by decide) ?_
          exact B102 M_firstOne t70 v5 v5 t91 ls H locs (lv_sub hl [1, 2, 3, 0, 4] rfl) hP hD hS h
      refine lv_iload_n hx hb dX12_lookThrough_33 rfl (lv_at hl 3 rfl) ?_
      refine lv_if_eq (tgt := 162) hx hb dX12_lookThrough_34 (by decide) (fun q34 => ?_) (fun q34 => ?_)
      · have h := ifT h q34
        have h : some (M_found, M_shortest, M_word, M_size, M_number, M_firstOne) = some (M_found_o, M_shortest_o, M_word_o, M_size_o, M_number_o, M_firstOne_o) := h
        cases h
        exact hret _ _ _ _ hP hD hS dX12_lookThrough_162
      have h := ifF h q34
      refine lv_aload_n hx hb dX12_lookThrough_37 rfl (lv_at hl 0 rfl) ?_
      refine lv_aload_n hx hb dX12_lookThrough_38 rfl (lv_at hl 1 rfl) ?_
      obtain ⟨t39, M_word_39, M_size_39, hc39, h⟩ := bd3_to h
      refine go_A (st1 := [.int t39]) (run_V (As := [.ref aM_copyRow]) (rest := []) X hS (mX12_isSolution_copyRow g l  aM aM_text aM_now aM_trial aM_read aM_diary aM_kept aM_isKept aM_constraint aM_readConstraint aM_word aM_size aM_number aM_firstOne aM_node aM_parent aM_rule aM_child aM_proof aM_witness aM_witnessSize aM_built aM_copyRow M_length M_acts M_next M_many M_readMany M_found M_shortest M_nodes M_solved M_dropped M_fits M_proofSize M_tooLong M_text M_now M_trial M_read M_diary M_kept M_isKept M_constraint M_readConstraint M_word M_size M_number M_firstOne M_node M_parent M_rule M_child M_proof M_witness M_witnessSize M_built M_copyRow t39 M_word_39 M_size_39 hc39) okX12_isSolution wd5_178 ⟨Nat.le_of_ble_eq_true rfl, Nat.le_of_ble_eq_true rfl⟩ ⟨rfl, rfl⟩ (va_recv hK hP (ci := 11) (q0 := 0) rfl rfl) hP hD (all_F hS hA hD) rfl hl.1 rfl (Nat.le_of_ble_eq_true rfl) dX12_lookThrough_39 ⟨Nat.zero_le _, Nat.zero_le _⟩) hS (all_F hS hA hD) rfl (fun H locs hP hD hS => ?_)
      refine lv_if_eq (tgt := 148) hx hb dX12_lookThrough_42 (by decide) (fun q42 => ?_) (fun q42 => ?_)
      · have h := ifT h q42
        exact B148 M_found M_shortest M_word_39 M_size_39 M_number M_firstOne ls H locs (lv_sub hl [0, 1, 2] rfl) hP hD hS h
      have h := ifF h q42
      refine lv_iconst (v := (0 : Int32)) hx hb dX12_lookThrough_45 (by decide) ?_
      refine lv_istore (lv' := [(4, .int (0 : Int32)), (0, .ref aM), (1, .ref aM_copyRow), (2, .int x2), (3, .int v3)]) hx hb dX12_lookThrough_46 hl (by decide) rfl (fun ls hl => ?_)
      refine lv_iconst (v := (0 : Int32)) hx hb dX12_lookThrough_48 (by decide) ?_
      refine lv_istore (lv' := [(5, .int (0 : Int32)), (4, .int (0 : Int32)), (0, .ref aM), (1, .ref aM_copyRow), (2, .int x2), (3, .int v3)]) hx hb dX12_lookThrough_49 hl (by decide) rfl (fun ls hl => ?_)
      exact L51 FU M_found M_shortest M_word_39 M_size_39 M_number M_firstOne (0 : Int32) (0 : Int32) ls H locs (lv_sub hl [2, 3, 4, 1, 0] rfl) hP hD hS h
  have L13 : ∀ (n13 : Nat), ∀ (M_found : Int32) (M_shortest : Int32) (M_word : Nat → Int32) (M_size : Nat → Int32) (M_number : Nat → Int32) (M_firstOne : Nat → Int32) (v3 : Int32) (ls : Array Slot) (H : Heap) (locs : List Loc), lv_has ls 6 [(0, .ref aM), (1, .ref aM_copyRow), (2, .int x2), (3, .int v3)] → va_P g.1 vwCl (wX12 g aM aM_text aM_now aM_trial aM_read aM_diary aM_kept aM_isKept aM_constraint aM_readConstraint aM_word aM_size aM_number aM_firstOne aM_node aM_parent aM_rule aM_child aM_proof aM_witness aM_witnessSize aM_built aM_copyRow M_length M_acts M_next M_many M_readMany M_found M_shortest M_nodes M_solved M_dropped M_fits M_proofSize M_tooLong M_text M_now M_trial M_read M_diary M_kept M_isKept M_constraint M_readConstraint M_word M_size M_number M_firstOne M_node M_parent M_rule M_child M_proof M_witness M_witnessSize M_built M_copyRow) H → va_D A (wX12 g aM aM_text aM_now aM_trial aM_read aM_diary aM_kept aM_isKept aM_constraint aM_readConstraint aM_word aM_size aM_number aM_firstOne aM_node aM_parent aM_rule aM_child aM_proof aM_witness aM_witnessSize aM_built aM_copyRow M_length M_acts M_next M_many M_readMany M_found M_shortest M_nodes M_solved M_dropped M_fits M_proofSize M_tooLong M_text M_now M_trial M_read M_diary M_kept M_isKept M_constraint M_readConstraint M_word M_size M_number M_firstOne M_node M_parent M_rule M_child M_proof M_witness M_witnessSize M_built M_copyRow) → va_S A s.heap H locs → fx2 (fM_lookThrough_13 M_many M_found M_shortest M_constraint M_word M_size M_firstOne M_copyRow x2) n13 M_number v3 = some (M_found_o, M_shortest_o, M_word_o, M_size_o, M_number_o, M_firstOne_o) → W p l e rmX12_lookThrough s m ([.ref aM, .ref aM_copyRow, .int x2] : List Value).toArray below meth c H locs 0 0 QQ (F0 m 13 ls []) := by
    intro n13
    induction n13 with
    | zero => intro M_found M_shortest M_word M_size M_number M_firstOne v3 ls H locs hl hP hD hS h; exact fx2_0 h
    | succ n13 ih13 =>
      intro M_found M_shortest M_word M_size M_number M_firstOne v3 ls H locs hl hP hD hS h
      have h := (fx2_s (fM_lookThrough_13 M_many M_found M_shortest M_constraint M_word M_size M_firstOne M_copyRow x2) n13 M_number v3).symm.trans h
      refine lv_iload_n hx hb dX12_lookThrough_13 rfl (lv_at hl 3 rfl) ?_
      refine lv_iconst (v := (4 : Int32)) hx hb dX12_lookThrough_14 (by decide) ?_
      refine lv_icmp_ge (tgt := 31) hx hb dX12_lookThrough_15 (by decide) (fun q15 => ?_) (fun q15 => ?_)
      · have h := ifT h q15
        refine lv_iconst (v := (1 : Int32)) hx hb dX12_lookThrough_31 (by decide) ?_
        refine lv_istore_n (lv' := [(3, .int (1 : Int32)), (0, .ref aM), (1, .ref aM_copyRow), (2, .int x2)]) hx hb dX12_lookThrough_32 rfl hl (by decide) rfl (fun ls hl => ?_)
        exact L33 FU M_found M_shortest M_word M_size M_number M_firstOne (1 : Int32) ls H locs (lv_sub hl [1, 2, 3, 0] rfl) hP hD hS h
      have h := ifF h q15
      refine lv_aload_n hx hb dX12_lookThrough_18 rfl (lv_at hl 0 rfl) ?_
      refine va_get (D := g.1) (ci := 11) (v := .ref aM_number) (C := RX12) (T := TX12) (N := 35) hx hb hts inBX12 hown hK hP 0 rfl rfl 16 (by decide) (hts _ wd4_212) (fun _ h9 => h9) rfl dX12_lookThrough_19 ?_
      refine lv_iload_n hx hb dX12_lookThrough_22 rfl (lv_at hl 3 rfl) ?_
      refine lv_iconst (v := (0 : Int32)) hx hb dX12_lookThrough_23 (by decide) ?_
      have hin := sti_in h
      refine va_iast hx hb hK hP hD hS 12 0 rfl rfl hin dX12_lookThrough_24 (fun H locs hP hD hS => ?_)
      obtain ⟨M_number_24, eM_number_24⟩ : ∃ y : Nat → Int32, y = upd M_number (Int32.toNatClampNeg v3) (0 : Int32) := ⟨_, rfl⟩
      have h := sti_to h eM_number_24
      have hP : va_P g.1 vwCl (wX12 g aM aM_text aM_now aM_trial aM_read aM_diary aM_kept aM_isKept aM_constraint aM_readConstraint aM_word aM_size aM_number aM_firstOne aM_node aM_parent aM_rule aM_child aM_proof aM_witness aM_witnessSize aM_built aM_copyRow M_length M_acts M_next M_many M_readMany M_found M_shortest M_nodes M_solved M_dropped M_fits M_proofSize M_tooLong M_text M_now M_trial M_read M_diary M_kept M_isKept M_constraint M_readConstraint M_word M_size M_number_24 M_firstOne M_node M_parent M_rule M_child M_proof M_witness M_witnessSize M_built M_copyRow) H := by rw [eM_number_24]; exact hP
      have hD : va_D A (wX12 g aM aM_text aM_now aM_trial aM_read aM_diary aM_kept aM_isKept aM_constraint aM_readConstraint aM_word aM_size aM_number aM_firstOne aM_node aM_parent aM_rule aM_child aM_proof aM_witness aM_witnessSize aM_built aM_copyRow M_length M_acts M_next M_many M_readMany M_found M_shortest M_nodes M_solved M_dropped M_fits M_proofSize M_tooLong M_text M_now M_trial M_read M_diary M_kept M_isKept M_constraint M_readConstraint M_word M_size M_number_24 M_firstOne M_node M_parent M_rule M_child M_proof M_witness M_witnessSize M_built M_copyRow) := by rw [eM_number_24]; exact hD
      obtain ⟨t25, et25⟩ : ∃ y : Int32, y = v3 + (1 : Int32) := ⟨_, rfl⟩
      refine lv_iinc (v := t25) (lv' := [(3, .int t25), (0, .ref aM), (1, .ref aM_copyRow), (2, .int x2)]) hx hb dX12_lookThrough_25 hl (k := 3) rfl (by rw [et25]; rfl) (by decide) rfl (fun ls hl => ?_)
      have h := st_to h et25
      refine lv_goto (tgt := 13) hx hb dX12_lookThrough_28 (by decide) ?_
      exact ih13 M_found M_shortest M_word M_size M_number_24 M_firstOne t25 ls H locs (lv_sub hl [1, 2, 3, 0] rfl) hP hD hS h
  have hl : lv_has ls 6 [(0, .ref aM), (1, .ref aM_copyRow), (2, .int x2)] := hl
  obtain ⟨H, hH⟩ : ∃ H, H = s.heap := ⟨_, rfl⟩
  obtain ⟨locs, hlocs⟩ : ∃ l : List Loc, l = [] := ⟨_, rfl⟩
  rw [show W p l e rmX12_lookThrough s m ([.ref aM, .ref aM_copyRow, .int x2] : List Value).toArray below meth c s.heap [] 0 0 QQ (F0 m 0 ls []) = W p l e rmX12_lookThrough s m ([.ref aM, .ref aM_copyRow, .int x2] : List Value).toArray below meth c H locs 0 0 QQ (F0 m 0 ls []) by rw [hH, hlocs]]
  have hP : va_P g.1 vwCl (wX12 g aM aM_text aM_now aM_trial aM_read aM_diary aM_kept aM_isKept aM_constraint aM_readConstraint aM_word aM_size aM_number aM_firstOne aM_node aM_parent aM_rule aM_child aM_proof aM_witness aM_witnessSize aM_built aM_copyRow M_length M_acts M_next M_many M_readMany M_found M_shortest M_nodes M_solved M_dropped M_fits M_proofSize M_tooLong M_text M_now M_trial M_read M_diary M_kept M_isKept M_constraint M_readConstraint M_word M_size M_number M_firstOne M_node M_parent M_rule M_child M_proof M_witness M_witnessSize M_built M_copyRow) H := by rw [hH]; exact hP
  have hD : va_D A (wX12 g aM aM_text aM_now aM_trial aM_read aM_diary aM_kept aM_isKept aM_constraint aM_readConstraint aM_word aM_size aM_number aM_firstOne aM_node aM_parent aM_rule aM_child aM_proof aM_witness aM_witnessSize aM_built aM_copyRow M_length M_acts M_next M_many M_readMany M_found M_shortest M_nodes M_solved M_dropped M_fits M_proofSize M_tooLong M_text M_now M_trial M_read M_diary M_kept M_isKept M_constraint M_readConstraint M_word M_size M_number M_firstOne M_node M_parent M_rule M_child M_proof M_witness M_witnessSize M_built M_copyRow) := hD
  have hS : va_S A s.heap H locs := by rw [hH, hlocs]; exact hS
  clear hH hlocs
  refine lv_aload_n hx hb dX12_lookThrough_0 rfl (lv_at hl 0 rfl) ?_
  refine lv_iconst (v := (0 : Int32)) hx hb dX12_lookThrough_1 (by decide) ?_
  refine va_put (D := g.1) (ci := 11) (v := .int (0 : Int32)) (ty := .int) (C := RX12) (T := TX12) (N := 35) hx hb hts inBX12 tyX12 tyX12_ok nmX12 hown hK hP hD hS 0 rfl rfl 18 (by decide) (hts _ wd4_214) (fun _ h9 => h9) rfl (tyX12_ok 18 (by decide)) rfl rfl (Nat.le_of_ble_eq_true rfl) dX12_lookThrough_2 (fun H locs hP hD hS => ?_)
  have hP : va_P g.1 vwCl (wX12 g aM aM_text aM_now aM_trial aM_read aM_diary aM_kept aM_isKept aM_constraint aM_readConstraint aM_word aM_size aM_number aM_firstOne aM_node aM_parent aM_rule aM_child aM_proof aM_witness aM_witnessSize aM_built aM_copyRow M_length M_acts M_next M_many M_readMany (0 : Int32) M_shortest M_nodes M_solved M_dropped M_fits M_proofSize M_tooLong M_text M_now M_trial M_read M_diary M_kept M_isKept M_constraint M_readConstraint M_word M_size M_number M_firstOne M_node M_parent M_rule M_child M_proof M_witness M_witnessSize M_built M_copyRow) H := hP
  have hD : va_D A (wX12 g aM aM_text aM_now aM_trial aM_read aM_diary aM_kept aM_isKept aM_constraint aM_readConstraint aM_word aM_size aM_number aM_firstOne aM_node aM_parent aM_rule aM_child aM_proof aM_witness aM_witnessSize aM_built aM_copyRow M_length M_acts M_next M_many M_readMany (0 : Int32) M_shortest M_nodes M_solved M_dropped M_fits M_proofSize M_tooLong M_text M_now M_trial M_read M_diary M_kept M_isKept M_constraint M_readConstraint M_word M_size M_number M_firstOne M_node M_parent M_rule M_child M_proof M_witness M_witnessSize M_built M_copyRow) := hD
  refine lv_aload_n hx hb dX12_lookThrough_5 rfl (lv_at hl 0 rfl) ?_
  refine lv_bipush (v := ((-9) : Int32)) hx hb dX12_lookThrough_6 (by decide) ?_
  refine va_put (D := g.1) (ci := 11) (v := .int ((-9) : Int32)) (ty := .int) (C := RX12) (T := TX12) (N := 35) hx hb hts inBX12 tyX12 tyX12_ok nmX12 hown hK hP hD hS 0 rfl rfl 19 (by decide) (hts _ wd4_215) (fun _ h9 => h9) rfl (tyX12_ok 19 (by decide)) rfl rfl (Nat.le_of_ble_eq_true rfl) dX12_lookThrough_8 (fun H locs hP hD hS => ?_)
  have hP : va_P g.1 vwCl (wX12 g aM aM_text aM_now aM_trial aM_read aM_diary aM_kept aM_isKept aM_constraint aM_readConstraint aM_word aM_size aM_number aM_firstOne aM_node aM_parent aM_rule aM_child aM_proof aM_witness aM_witnessSize aM_built aM_copyRow M_length M_acts M_next M_many M_readMany (0 : Int32) ((-9) : Int32) M_nodes M_solved M_dropped M_fits M_proofSize M_tooLong M_text M_now M_trial M_read M_diary M_kept M_isKept M_constraint M_readConstraint M_word M_size M_number M_firstOne M_node M_parent M_rule M_child M_proof M_witness M_witnessSize M_built M_copyRow) H := hP
  have hD : va_D A (wX12 g aM aM_text aM_now aM_trial aM_read aM_diary aM_kept aM_isKept aM_constraint aM_readConstraint aM_word aM_size aM_number aM_firstOne aM_node aM_parent aM_rule aM_child aM_proof aM_witness aM_witnessSize aM_built aM_copyRow M_length M_acts M_next M_many M_readMany (0 : Int32) ((-9) : Int32) M_nodes M_solved M_dropped M_fits M_proofSize M_tooLong M_text M_now M_trial M_read M_diary M_kept M_isKept M_constraint M_readConstraint M_word M_size M_number M_firstOne M_node M_parent M_rule M_child M_proof M_witness M_witnessSize M_built M_copyRow) := hD
  refine lv_iconst (v := (0 : Int32)) hx hb dX12_lookThrough_11 (by decide) ?_
  refine lv_istore_n (lv' := [(3, .int (0 : Int32)), (0, .ref aM), (1, .ref aM_copyRow), (2, .int x2)]) hx hb dX12_lookThrough_12 rfl hl (by decide) rfl (fun ls hl => ?_)
  exact L13 FU (0 : Int32) ((-9) : Int32) M_word M_size M_number M_firstOne (0 : Int32) ls H locs (lv_sub hl [1, 2, 3, 0] rfl) hP hD hS h
set_option maxHeartbeats 4000000 in
set_option maxRecDepth 100000 in
theorem mX12_lookThrough_now (g : GP) (l : Launch) (aM aM_text aM_now aM_trial aM_read aM_diary aM_kept aM_isKept aM_constraint aM_readConstraint aM_word aM_size aM_number aM_firstOne aM_node aM_parent aM_rule aM_child aM_proof aM_witness aM_witnessSize aM_built aM_copyRow : Nat) (M_length : Int32) (M_acts : Int32) (M_next : Int32) (M_many : Int32) (M_readMany : Int32) (M_found : Int32) (M_shortest : Int32) (M_nodes : Int32) (M_solved : Int32) (M_dropped : Int32) (M_fits : Int32) (M_proofSize : Int32) (M_tooLong : Int32) (M_text : Nat → Int32) (M_now : Nat → Int32) (M_trial : Nat → Int32) (M_read : Nat → Int32) (M_diary : Nat → Int32) (M_kept : Nat → Int32) (M_isKept : Nat → Int32) (M_constraint : Nat → Int32) (M_readConstraint : Nat → Int32) (M_word : Nat → Int32) (M_size : Nat → Int32) (M_number : Nat → Int32) (M_firstOne : Nat → Int32) (M_node : Nat → Int32) (M_parent : Nat → Int32) (M_rule : Nat → Int32) (M_child : Nat → Int32) (M_proof : Nat → Int32) (M_witness : Nat → Int32) (M_witnessSize : Nat → Int32) (M_built : Nat → Int32) (M_copyRow : Nat → Int32) (x2 : Int32) (M_found_o : Int32) (M_shortest_o : Int32) (M_word_o : Nat → Int32) (M_size_o : Nat → Int32) (M_number_o : Nat → Int32) (M_firstOne_o : Nat → Int32) (h : fM_lookThrough M_many M_constraint M_word M_size M_number M_firstOne M_now x2 = some (M_found_o, M_shortest_o, M_word_o, M_size_o, M_number_o, M_firstOne_o)) : Ct g l yX12_lookThrough cX12_lookThrough 6 none rmX12_lookThrough [.ref aM, .ref aM_now, .int x2] (wX12 g aM aM_text aM_now aM_trial aM_read aM_diary aM_kept aM_isKept aM_constraint aM_readConstraint aM_word aM_size aM_number aM_firstOne aM_node aM_parent aM_rule aM_child aM_proof aM_witness aM_witnessSize aM_built aM_copyRow M_length M_acts M_next M_many M_readMany M_found M_shortest M_nodes M_solved M_dropped M_fits M_proofSize M_tooLong M_text M_now M_trial M_read M_diary M_kept M_isKept M_constraint M_readConstraint M_word M_size M_number M_firstOne M_node M_parent M_rule M_child M_proof M_witness M_witnessSize M_built M_copyRow) none (wX12 g aM aM_text aM_now aM_trial aM_read aM_diary aM_kept aM_isKept aM_constraint aM_readConstraint aM_word aM_size aM_number aM_firstOne aM_node aM_parent aM_rule aM_child aM_proof aM_witness aM_witnessSize aM_built aM_copyRow M_length M_acts M_next M_many M_readMany M_found_o M_shortest_o M_nodes M_solved M_dropped M_fits M_proofSize M_tooLong M_text M_now M_trial M_read M_diary M_kept M_isKept M_constraint M_readConstraint M_word_o M_size_o M_number_o M_firstOne_o M_node M_parent M_rule M_child M_proof M_witness M_witnessSize M_built M_copyRow) := by
  refine Ct.introV (by decide) (Nat.le_of_ble_eq_true rfl) ?_
  intro p e s m below meth c A QQ ls hyp hret
  obtain ⟨hx, hb, hml, hts, hown, hA, hE, hP, hD, hl⟩ := hyp
  have hK := hE.1
  have hS : va_S A s.heap s.heap [] := va_S.rf
  have X : Here g p s m c cX12_lookThrough 6 ([.ref aM, .ref aM_now, .int x2] : List Value).toArray RX12 A := ⟨⟨hx, hb, hml, hown, hts⟩, hE, hA⟩
  have L33 : ∀ (n33 : Nat), ∀ (M_found : Int32) (M_shortest : Int32) (M_word : Nat → Int32) (M_size : Nat → Int32) (M_number : Nat → Int32) (M_firstOne : Nat → Int32) (v3 : Int32) (ls : Array Slot) (H : Heap) (locs : List Loc), lv_has ls 6 [(0, .ref aM), (1, .ref aM_now), (2, .int x2), (3, .int v3)] → va_P g.1 vwCl (wX12 g aM aM_text aM_now aM_trial aM_read aM_diary aM_kept aM_isKept aM_constraint aM_readConstraint aM_word aM_size aM_number aM_firstOne aM_node aM_parent aM_rule aM_child aM_proof aM_witness aM_witnessSize aM_built aM_copyRow M_length M_acts M_next M_many M_readMany M_found M_shortest M_nodes M_solved M_dropped M_fits M_proofSize M_tooLong M_text M_now M_trial M_read M_diary M_kept M_isKept M_constraint M_readConstraint M_word M_size M_number M_firstOne M_node M_parent M_rule M_child M_proof M_witness M_witnessSize M_built M_copyRow) H → va_D A (wX12 g aM aM_text aM_now aM_trial aM_read aM_diary aM_kept aM_isKept aM_constraint aM_readConstraint aM_word aM_size aM_number aM_firstOne aM_node aM_parent aM_rule aM_child aM_proof aM_witness aM_witnessSize aM_built aM_copyRow M_length M_acts M_next M_many M_readMany M_found M_shortest M_nodes M_solved M_dropped M_fits M_proofSize M_tooLong M_text M_now M_trial M_read M_diary M_kept M_isKept M_constraint M_readConstraint M_word M_size M_number M_firstOne M_node M_parent M_rule M_child M_proof M_witness M_witnessSize M_built M_copyRow) → va_S A s.heap H locs → fx7 (fM_lookThrough_33 M_many M_constraint M_now x2) n33 M_found M_shortest M_word M_size M_number M_firstOne v3 = some (M_found_o, M_shortest_o, M_word_o, M_size_o, M_number_o, M_firstOne_o) → W p l e rmX12_lookThrough s m ([.ref aM, .ref aM_now, .int x2] : List Value).toArray below meth c H locs 0 0 QQ (F0 m 33 ls []) := by
    intro n33
    induction n33 with
    | zero => intro M_found M_shortest M_word M_size M_number M_firstOne v3 ls H locs hl hP hD hS h; exact fx7_0 h
    | succ n33 ih33 =>
      intro M_found M_shortest M_word M_size M_number M_firstOne v3 ls H locs hl hP hD hS h
      have h := (fx7_s (fM_lookThrough_33 M_many M_constraint M_now x2) n33 M_found M_shortest M_word M_size M_number M_firstOne v3).symm.trans h
      have B148 : ∀ (M_found : Int32) (M_shortest : Int32) (M_word : Nat → Int32) (M_size : Nat → Int32) (M_number : Nat → Int32) (M_firstOne : Nat → Int32) (ls : Array Slot) (H : Heap) (locs : List Loc), lv_has ls 6 [(0, .ref aM), (1, .ref aM_now), (2, .int x2)] → va_P g.1 vwCl (wX12 g aM aM_text aM_now aM_trial aM_read aM_diary aM_kept aM_isKept aM_constraint aM_readConstraint aM_word aM_size aM_number aM_firstOne aM_node aM_parent aM_rule aM_child aM_proof aM_witness aM_witnessSize aM_built aM_copyRow M_length M_acts M_next M_many M_readMany M_found M_shortest M_nodes M_solved M_dropped M_fits M_proofSize M_tooLong M_text M_now M_trial M_read M_diary M_kept M_isKept M_constraint M_readConstraint M_word M_size M_number M_firstOne M_node M_parent M_rule M_child M_proof M_witness M_witnessSize M_built M_copyRow) H → va_D A (wX12 g aM aM_text aM_now aM_trial aM_read aM_diary aM_kept aM_isKept aM_constraint aM_readConstraint aM_word aM_size aM_number aM_firstOne aM_node aM_parent aM_rule aM_child aM_proof aM_witness aM_witnessSize aM_built aM_copyRow M_length M_acts M_next M_many M_readMany M_found M_shortest M_nodes M_solved M_dropped M_fits M_proofSize M_tooLong M_text M_now M_trial M_read M_diary M_kept M_isKept M_constraint M_readConstraint M_word M_size M_number M_firstOne M_node M_parent M_rule M_child M_proof M_witness M_witnessSize M_built M_copyRow) → va_S A s.heap H locs → fM_lookThrough_148 (fx7 (fM_lookThrough_33 M_many M_constraint M_now x2) n33) M_many M_found M_shortest M_constraint M_word M_size M_number M_firstOne M_now x2 = some (M_found_o, M_shortest_o, M_word_o, M_size_o, M_number_o, M_firstOne_o) → W p l e rmX12_lookThrough s m ([.ref aM, .ref aM_now, .int x2] : List Value).toArray below meth c H locs 0 0 QQ (F0 m 148 ls []) := by
        intro M_found M_shortest M_word M_size M_number M_firstOne ls H locs hl hP hD hS h
        refine lv_aload_n hx hb dX12_lookThrough_148 rfl (lv_at hl 0 rfl) ?_
        refine lv_aload_n hx hb dX12_lookThrough_149 rfl (lv_at hl 1 rfl) ?_
        refine lv_iconst (v := (2 : Int32)) hx hb dX12_lookThrough_150 (by decide) ?_
        refine lv_iload_n hx hb dX12_lookThrough_151 rfl (lv_at hl 2 rfl) ?_
        refine lv_ishl hx hb dX12_lookThrough_152 ?_
        refine lv_iconst (v := (1 : Int32)) hx hb dX12_lookThrough_153 (by decide) ?_
        refine lv_isub hx hb dX12_lookThrough_154 ?_
        obtain ⟨t155, M_number_155, hc155, h⟩ := bd2_to h
        refine go_A (st1 := [.int t155]) (run_V (As := [.ref aM_now, .int ((shl (2 : Int32) x2) - (1 : Int32))]) (rest := []) X hS (mX12_goOn_now g l  aM aM_text aM_now aM_trial aM_read aM_diary aM_kept aM_isKept aM_constraint aM_readConstraint aM_word aM_size aM_number aM_firstOne aM_node aM_parent aM_rule aM_child aM_proof aM_witness aM_witnessSize aM_built aM_copyRow M_length M_acts M_next M_many M_readMany M_found M_shortest M_nodes M_solved M_dropped M_fits M_proofSize M_tooLong M_text M_now M_trial M_read M_diary M_kept M_isKept M_constraint M_readConstraint M_word M_size M_number M_firstOne M_node M_parent M_rule M_child M_proof M_witness M_witnessSize M_built M_copyRow ((shl (2 : Int32) x2) - (1 : Int32)) t155 M_number_155 hc155) okX12_goOn wd5_197 ⟨Nat.le_of_ble_eq_true rfl, Nat.le_of_ble_eq_true rfl⟩ ⟨rfl, rfl⟩ (va_recv hK hP (ci := 11) (q0 := 0) rfl rfl) hP hD (all_F hS hA hD) rfl hl.1 rfl (Nat.le_of_ble_eq_true rfl) dX12_lookThrough_155 ⟨Nat.zero_le _, Nat.zero_le _⟩) hS (all_F hS hA hD) rfl (fun H locs hP hD hS => ?_)
        refine lv_istore_n (lv' := [(3, .int t155), (0, .ref aM), (1, .ref aM_now), (2, .int x2)]) hx hb dX12_lookThrough_158 rfl hl (by decide) rfl (fun ls hl => ?_)
        refine lv_goto (tgt := 33) hx hb dX12_lookThrough_159 (by decide) ?_
        exact ih33 M_found M_shortest M_word M_size M_number_155 M_firstOne t155 ls H locs (lv_sub hl [1, 2, 3, 0] rfl) hP hD hS h
      have B135 : ∀ (M_found : Int32) (M_shortest : Int32) (M_word : Nat → Int32) (M_size : Nat → Int32) (M_number : Nat → Int32) (M_firstOne : Nat → Int32) (s1 : Int32) (ls : Array Slot) (H : Heap) (locs : List Loc), lv_has ls 6 [(0, .ref aM), (1, .ref aM_now), (2, .int x2)] → va_P g.1 vwCl (wX12 g aM aM_text aM_now aM_trial aM_read aM_diary aM_kept aM_isKept aM_constraint aM_readConstraint aM_word aM_size aM_number aM_firstOne aM_node aM_parent aM_rule aM_child aM_proof aM_witness aM_witnessSize aM_built aM_copyRow M_length M_acts M_next M_many M_readMany M_found M_shortest M_nodes M_solved M_dropped M_fits M_proofSize M_tooLong M_text M_now M_trial M_read M_diary M_kept M_isKept M_constraint M_readConstraint M_word M_size M_number M_firstOne M_node M_parent M_rule M_child M_proof M_witness M_witnessSize M_built M_copyRow) H → va_D A (wX12 g aM aM_text aM_now aM_trial aM_read aM_diary aM_kept aM_isKept aM_constraint aM_readConstraint aM_word aM_size aM_number aM_firstOne aM_node aM_parent aM_rule aM_child aM_proof aM_witness aM_witnessSize aM_built aM_copyRow M_length M_acts M_next M_many M_readMany M_found M_shortest M_nodes M_solved M_dropped M_fits M_proofSize M_tooLong M_text M_now M_trial M_read M_diary M_kept M_isKept M_constraint M_readConstraint M_word M_size M_number M_firstOne M_node M_parent M_rule M_child M_proof M_witness M_witnessSize M_built M_copyRow) → va_S A s.heap H locs → fM_lookThrough_135 (fx7 (fM_lookThrough_33 M_many M_constraint M_now x2) n33) M_many M_found M_constraint M_word M_size M_number M_firstOne M_now x2 s1 = some (M_found_o, M_shortest_o, M_word_o, M_size_o, M_number_o, M_firstOne_o) → W p l e rmX12_lookThrough s m ([.ref aM, .ref aM_now, .int x2] : List Value).toArray below meth c H locs 0 0 QQ (F0 m 135 ls [.int s1, .ref aM]) := by
        intro M_found M_shortest M_word M_size M_number M_firstOne s1 ls H locs hl hP hD hS h
        refine va_put (D := g.1) (ci := 11) (v := .int s1) (ty := .int) (C := RX12) (T := TX12) (N := 35) hx hb hts inBX12 tyX12 tyX12_ok nmX12 hown hK hP hD hS 0 rfl rfl 19 (by decide) (hts _ wd4_215) (fun _ h9 => h9) rfl (tyX12_ok 19 (by decide)) rfl rfl (Nat.le_of_ble_eq_true rfl) dX12_lookThrough_135 (fun H locs hP hD hS => ?_)
        have hP : va_P g.1 vwCl (wX12 g aM aM_text aM_now aM_trial aM_read aM_diary aM_kept aM_isKept aM_constraint aM_readConstraint aM_word aM_size aM_number aM_firstOne aM_node aM_parent aM_rule aM_child aM_proof aM_witness aM_witnessSize aM_built aM_copyRow M_length M_acts M_next M_many M_readMany M_found s1 M_nodes M_solved M_dropped M_fits M_proofSize M_tooLong M_text M_now M_trial M_read M_diary M_kept M_isKept M_constraint M_readConstraint M_word M_size M_number M_firstOne M_node M_parent M_rule M_child M_proof M_witness M_witnessSize M_built M_copyRow) H := hP
        have hD : va_D A (wX12 g aM aM_text aM_now aM_trial aM_read aM_diary aM_kept aM_isKept aM_constraint aM_readConstraint aM_word aM_size aM_number aM_firstOne aM_node aM_parent aM_rule aM_child aM_proof aM_witness aM_witnessSize aM_built aM_copyRow M_length M_acts M_next M_many M_readMany M_found s1 M_nodes M_solved M_dropped M_fits M_proofSize M_tooLong M_text M_now M_trial M_read M_diary M_kept M_isKept M_constraint M_readConstraint M_word M_size M_number M_firstOne M_node M_parent M_rule M_child M_proof M_witness M_witnessSize M_built M_copyRow) := hD
        refine lv_aload_n hx hb dX12_lookThrough_138 rfl (lv_at hl 0 rfl) ?_
        refine lv_dup hx hb dX12_lookThrough_139 rfl ?_
        refine va_get (D := g.1) (ci := 11) (v := .int M_found) (C := RX12) (T := TX12) (N := 35) hx hb hts inBX12 hown hK hP 0 rfl rfl 18 (by decide) (hts _ wd4_214) (fun _ h9 => h9) rfl dX12_lookThrough_140 ?_
        refine lv_iconst (v := (1 : Int32)) hx hb dX12_lookThrough_143 (by decide) ?_
        refine lv_iadd hx hb dX12_lookThrough_144 ?_
        refine lv_topi (fun t145 et145 => ?_)
        have h := st_to h et145
        refine va_put (D := g.1) (ci := 11) (v := .int t145) (ty := .int) (C := RX12) (T := TX12) (N := 35) hx hb hts inBX12 tyX12 tyX12_ok nmX12 hown hK hP hD hS 0 rfl rfl 18 (by decide) (hts _ wd4_214) (fun _ h9 => h9) rfl (tyX12_ok 18 (by decide)) rfl rfl (Nat.le_of_ble_eq_true rfl) dX12_lookThrough_145 (fun H locs hP hD hS => ?_)
        have hP : va_P g.1 vwCl (wX12 g aM aM_text aM_now aM_trial aM_read aM_diary aM_kept aM_isKept aM_constraint aM_readConstraint aM_word aM_size aM_number aM_firstOne aM_node aM_parent aM_rule aM_child aM_proof aM_witness aM_witnessSize aM_built aM_copyRow M_length M_acts M_next M_many M_readMany t145 s1 M_nodes M_solved M_dropped M_fits M_proofSize M_tooLong M_text M_now M_trial M_read M_diary M_kept M_isKept M_constraint M_readConstraint M_word M_size M_number M_firstOne M_node M_parent M_rule M_child M_proof M_witness M_witnessSize M_built M_copyRow) H := hP
        have hD : va_D A (wX12 g aM aM_text aM_now aM_trial aM_read aM_diary aM_kept aM_isKept aM_constraint aM_readConstraint aM_word aM_size aM_number aM_firstOne aM_node aM_parent aM_rule aM_child aM_proof aM_witness aM_witnessSize aM_built aM_copyRow M_length M_acts M_next M_many M_readMany t145 s1 M_nodes M_solved M_dropped M_fits M_proofSize M_tooLong M_text M_now M_trial M_read M_diary M_kept M_isKept M_constraint M_readConstraint M_word M_size M_number M_firstOne M_node M_parent M_rule M_child M_proof M_witness M_witnessSize M_built M_copyRow) := hD
        exact B148 t145 s1 M_word M_size M_number M_firstOne ls H locs (lv_sub hl [0, 1, 2] rfl) hP hD hS h
      have L51 : ∀ (n51 : Nat), ∀ (M_found : Int32) (M_shortest : Int32) (M_word : Nat → Int32) (M_size : Nat → Int32) (M_number : Nat → Int32) (M_firstOne : Nat → Int32) (v4 : Int32) (v5 : Int32) (ls : Array Slot) (H : Heap) (locs : List Loc), lv_has ls 6 [(0, .ref aM), (1, .ref aM_now), (2, .int x2), (4, .int v4), (5, .int v5)] → va_P g.1 vwCl (wX12 g aM aM_text aM_now aM_trial aM_read aM_diary aM_kept aM_isKept aM_constraint aM_readConstraint aM_word aM_size aM_number aM_firstOne aM_node aM_parent aM_rule aM_child aM_proof aM_witness aM_witnessSize aM_built aM_copyRow M_length M_acts M_next M_many M_readMany M_found M_shortest M_nodes M_solved M_dropped M_fits M_proofSize M_tooLong M_text M_now M_trial M_read M_diary M_kept M_isKept M_constraint M_readConstraint M_word M_size M_number M_firstOne M_node M_parent M_rule M_child M_proof M_witness M_witnessSize M_built M_copyRow) H → va_D A (wX12 g aM aM_text aM_now aM_trial aM_read aM_diary aM_kept aM_isKept aM_constraint aM_readConstraint aM_word aM_size aM_number aM_firstOne aM_node aM_parent aM_rule aM_child aM_proof aM_witness aM_witnessSize aM_built aM_copyRow M_length M_acts M_next M_many M_readMany M_found M_shortest M_nodes M_solved M_dropped M_fits M_proofSize M_tooLong M_text M_now M_trial M_read M_diary M_kept M_isKept M_constraint M_readConstraint M_word M_size M_number M_firstOne M_node M_parent M_rule M_child M_proof M_witness M_witnessSize M_built M_copyRow) → va_S A s.heap H locs → fx3 (fM_lookThrough_51 (fx7 (fM_lookThrough_33 M_many M_constraint M_now x2) n33) M_many M_found M_shortest M_constraint M_word M_size M_number M_now x2) n51 M_firstOne v4 v5 = some (M_found_o, M_shortest_o, M_word_o, M_size_o, M_number_o, M_firstOne_o) → W p l e rmX12_lookThrough s m ([.ref aM, .ref aM_now, .int x2] : List Value).toArray below meth c H locs 0 0 QQ (F0 m 51 ls []) := by
        intro n51
        induction n51 with
        | zero => intro M_found M_shortest M_word M_size M_number M_firstOne v4 v5 ls H locs hl hP hD hS h; exact fx3_0 h
        | succ n51 ih51 =>
          intro M_found M_shortest M_word M_size M_number M_firstOne v4 v5 ls H locs hl hP hD hS h
          have h := (fx3_s (fM_lookThrough_51 (fx7 (fM_lookThrough_33 M_many M_constraint M_now x2) n33) M_many M_found M_shortest M_constraint M_word M_size M_number M_now x2) n51 M_firstOne v4 v5).symm.trans h
          have B102 : ∀ (M_firstOne : Nat → Int32) (v4 : Int32) (v5 : Int32) (s1 : Int32) (s2 : Int32) (ls : Array Slot) (H : Heap) (locs : List Loc), lv_has ls 6 [(0, .ref aM), (1, .ref aM_now), (2, .int x2), (4, .int v4), (5, .int v5)] → va_P g.1 vwCl (wX12 g aM aM_text aM_now aM_trial aM_read aM_diary aM_kept aM_isKept aM_constraint aM_readConstraint aM_word aM_size aM_number aM_firstOne aM_node aM_parent aM_rule aM_child aM_proof aM_witness aM_witnessSize aM_built aM_copyRow M_length M_acts M_next M_many M_readMany M_found M_shortest M_nodes M_solved M_dropped M_fits M_proofSize M_tooLong M_text M_now M_trial M_read M_diary M_kept M_isKept M_constraint M_readConstraint M_word M_size M_number M_firstOne M_node M_parent M_rule M_child M_proof M_witness M_witnessSize M_built M_copyRow) H → va_D A (wX12 g aM aM_text aM_now aM_trial aM_read aM_diary aM_kept aM_isKept aM_constraint aM_readConstraint aM_word aM_size aM_number aM_firstOne aM_node aM_parent aM_rule aM_child aM_proof aM_witness aM_witnessSize aM_built aM_copyRow M_length M_acts M_next M_many M_readMany M_found M_shortest M_nodes M_solved M_dropped M_fits M_proofSize M_tooLong M_text M_now M_trial M_read M_diary M_kept M_isKept M_constraint M_readConstraint M_word M_size M_number M_firstOne M_node M_parent M_rule M_child M_proof M_witness M_witnessSize M_built M_copyRow) → va_S A s.heap H locs → fM_lookThrough_102 (fx7 (fM_lookThrough_33 M_many M_constraint M_now x2) n33) (fx3 (fM_lookThrough_51 (fx7 (fM_lookThrough_33 M_many M_constraint M_now x2) n33) M_many M_found M_shortest M_constraint M_word M_size M_number M_now x2) n51) M_many M_found M_shortest M_constraint M_word M_size M_number M_firstOne M_now x2 v4 v5 s1 s2 = some (M_found_o, M_shortest_o, M_word_o, M_size_o, M_number_o, M_firstOne_o) → W p l e rmX12_lookThrough s m ([.ref aM, .ref aM_now, .int x2] : List Value).toArray below meth c H locs 0 0 QQ (F0 m 102 ls [.int s2, .int s1, .ref aM_firstOne]) := by
            intro M_firstOne v4 v5 s1 s2 ls H locs hl hP hD hS h
            have hin := sti_in h
            refine va_iast hx hb hK hP hD hS 13 0 rfl rfl hin dX12_lookThrough_102 (fun H locs hP hD hS => ?_)
            obtain ⟨M_firstOne_102, eM_firstOne_102⟩ : ∃ y : Nat → Int32, y = upd M_firstOne (Int32.toNatClampNeg s1) s2 := ⟨_, rfl⟩
            have h := sti_to h eM_firstOne_102
            have hP : va_P g.1 vwCl (wX12 g aM aM_text aM_now aM_trial aM_read aM_diary aM_kept aM_isKept aM_constraint aM_readConstraint aM_word aM_size aM_number aM_firstOne aM_node aM_parent aM_rule aM_child aM_proof aM_witness aM_witnessSize aM_built aM_copyRow M_length M_acts M_next M_many M_readMany M_found M_shortest M_nodes M_solved M_dropped M_fits M_proofSize M_tooLong M_text M_now M_trial M_read M_diary M_kept M_isKept M_constraint M_readConstraint M_word M_size M_number M_firstOne_102 M_node M_parent M_rule M_child M_proof M_witness M_witnessSize M_built M_copyRow) H := by rw [eM_firstOne_102]; exact hP
            have hD : va_D A (wX12 g aM aM_text aM_now aM_trial aM_read aM_diary aM_kept aM_isKept aM_constraint aM_readConstraint aM_word aM_size aM_number aM_firstOne aM_node aM_parent aM_rule aM_child aM_proof aM_witness aM_witnessSize aM_built aM_copyRow M_length M_acts M_next M_many M_readMany M_found M_shortest M_nodes M_solved M_dropped M_fits M_proofSize M_tooLong M_text M_now M_trial M_read M_diary M_kept M_isKept M_constraint M_readConstraint M_word M_size M_number M_firstOne_102 M_node M_parent M_rule M_child M_proof M_witness M_witnessSize M_built M_copyRow) := by rw [eM_firstOne_102]; exact hD
            obtain ⟨t103, et103⟩ : ∃ y : Int32, y = v5 + (1 : Int32) := ⟨_, rfl⟩
            refine lv_iinc (v := t103) (lv' := [(5, .int t103), (0, .ref aM), (1, .ref aM_now), (2, .int x2), (4, .int v4)]) hx hb dX12_lookThrough_103 hl (k := 4) rfl (by rw [et103]; rfl) (by decide) rfl (fun ls hl => ?_)
            have h := st_to h et103
            refine lv_goto (tgt := 51) hx hb dX12_lookThrough_106 (by decide) ?_
            exact ih51 M_found M_shortest M_word M_size M_number M_firstOne_102 v4 t103 ls H locs (lv_sub hl [1, 2, 3, 4, 0] rfl) hP hD hS h
          refine lv_iload hx hb dX12_lookThrough_51 (lv_at hl 4 rfl) ?_
          refine lv_iconst (v := (4 : Int32)) hx hb dX12_lookThrough_53 (by decide) ?_
          refine lv_icmp_ge (tgt := 109) hx hb dX12_lookThrough_54 (by decide) (fun q54 => ?_) (fun q54 => ?_)
          · have h := ifT h q54
            refine lv_aload_n hx hb dX12_lookThrough_109 rfl (lv_at hl 0 rfl) ?_
            refine lv_aload_n hx hb dX12_lookThrough_110 rfl (lv_at hl 0 rfl) ?_
            refine va_get (D := g.1) (ci := 11) (v := .int M_found) (C := RX12) (T := TX12) (N := 35) hx hb hts inBX12 hown hK hP 0 rfl rfl 18 (by decide) (hts _ wd4_214) (fun _ h9 => h9) rfl dX12_lookThrough_111 ?_
            refine lv_if_eq (tgt := 126) hx hb dX12_lookThrough_114 (by decide) (fun q114 => ?_) (fun q114 => ?_)
            · have h := ifT h q114
              refine lv_iload hx hb dX12_lookThrough_126 (lv_at hl 3 rfl) ?_
              refine lv_goto (tgt := 135) hx hb dX12_lookThrough_128 (by decide) ?_
              exact B135 M_found M_shortest M_word M_size M_number M_firstOne v4 ls H locs (lv_sub hl [0, 1, 2] rfl) hP hD hS h
            have h := ifF h q114
            refine lv_iload hx hb dX12_lookThrough_117 (lv_at hl 3 rfl) ?_
            refine lv_aload_n hx hb dX12_lookThrough_119 rfl (lv_at hl 0 rfl) ?_
            refine va_get (D := g.1) (ci := 11) (v := .int M_shortest) (C := RX12) (T := TX12) (N := 35) hx hb hts inBX12 hown hK hP 0 rfl rfl 19 (by decide) (hts _ wd4_215) (fun _ h9 => h9) rfl dX12_lookThrough_120 ?_
            refine lv_icmp_ge (tgt := 131) hx hb dX12_lookThrough_123 (by decide) (fun q123 => ?_) (fun q123 => ?_)
            · have h := ifT h q123
              refine lv_aload_n hx hb dX12_lookThrough_131 rfl (lv_at hl 0 rfl) ?_
              refine va_get (D := g.1) (ci := 11) (v := .int M_shortest) (C := RX12) (T := TX12) (N := 35) hx hb hts inBX12 hown hK hP 0 rfl rfl 19 (by decide) (hts _ wd4_215) (fun _ h9 => h9) rfl dX12_lookThrough_132 ?_
              exact B135 M_found M_shortest M_word M_size M_number M_firstOne M_shortest ls H locs (lv_sub hl [0, 1, 2] rfl) hP hD hS h
            have h := ifF h q123
            refine lv_iload hx hb dX12_lookThrough_126 (lv_at hl 3 rfl) ?_
            refine lv_goto (tgt := 135) hx hb dX12_lookThrough_128 (by decide) ?_
            exact B135 M_found M_shortest M_word M_size M_number M_firstOne v4 ls H locs (lv_sub hl [0, 1, 2] rfl) hP hD hS h
          have h := ifF h q54
          refine lv_iload hx hb dX12_lookThrough_57 (lv_at hl 3 rfl) ?_
          refine lv_aload_n hx hb dX12_lookThrough_59 rfl (lv_at hl 0 rfl) ?_
          refine va_get (D := g.1) (ci := 11) (v := .ref aM_number) (C := RX12) (T := TX12) (N := 35) hx hb hts inBX12 hown hK hP 0 rfl rfl 16 (by decide) (hts _ wd4_212) (fun _ h9 => h9) rfl dX12_lookThrough_60 ?_
          refine lv_iload hx hb dX12_lookThrough_63 (lv_at hl 4 rfl) ?_
          have hin := ld_in h
          refine va_iald hx hb hK hP 12 0 rfl rfl hin dX12_lookThrough_65 ?_
          refine lv_topi (fun t65 et65 => ?_)
          have h := ld_to h et65
          obtain ⟨t66, hc66, h⟩ := bd1_to h
          refine go_0 (st1 := [.int t66, .int v4]) (run_S (As := [.int t65]) (rest := [.int v4]) X hS (mX12_lengthOf g l  t65 t66 hc66) okX12_lengthOf wd5_182 ⟨Nat.le_of_ble_eq_true rfl, Nat.le_of_ble_eq_true rfl⟩ ⟨rfl, rfl⟩ nil_P nil_D (nil_F hS hA) rfl hl.1 rfl (Nat.le_of_ble_eq_true rfl) dX12_lookThrough_66 ⟨Nat.zero_le _, Nat.zero_le _⟩) hS hA hP rfl (fun H locs hP hS => ?_)
          refine lv_iadd hx hb dX12_lookThrough_69 ?_
          refine lv_topi (fun t70 et70 => ?_)
          have h := st_to h et70
          refine lv_istore (lv' := [(4, .int t70), (0, .ref aM), (1, .ref aM_now), (2, .int x2), (5, .int v5)]) hx hb dX12_lookThrough_70 hl (by decide) rfl (fun ls hl => ?_)
          refine lv_aload_n hx hb dX12_lookThrough_72 rfl (lv_at hl 1 rfl) ?_
          refine va_get (D := g.1) (ci := 11) (v := .ref aM_firstOne) (C := RX12) (T := TX12) (N := 35) hx hb hts inBX12 hown hK hP 0 rfl rfl 17 (by decide) (hts _ wd4_213) (fun _ h9 => h9) rfl dX12_lookThrough_73 ?_
          refine lv_iload hx hb dX12_lookThrough_76 (lv_at hl 4 rfl) ?_
          refine lv_aload_n hx hb dX12_lookThrough_78 rfl (lv_at hl 1 rfl) ?_
          refine va_get (D := g.1) (ci := 11) (v := .int M_found) (C := RX12) (T := TX12) (N := 35) hx hb hts inBX12 hown hK hP 0 rfl rfl 18 (by decide) (hts _ wd4_214) (fun _ h9 => h9) rfl dX12_lookThrough_79 ?_
          refine lv_if_ne (tgt := 95) hx hb dX12_lookThrough_82 (by decide) (fun q82 => ?_) (fun q82 => ?_)
          · have h := ifF h q82
            refine lv_aload_n hx hb dX12_lookThrough_95 rfl (lv_at hl 1 rfl) ?_
            refine va_get (D := g.1) (ci := 11) (v := .ref aM_firstOne) (C := RX12) (T := TX12) (N := 35) hx hb hts inBX12 hown hK hP 0 rfl rfl 17 (by decide) (hts _ wd4_213) (fun _ h9 => h9) rfl dX12_lookThrough_96 ?_
            refine lv_iload hx hb dX12_lookThrough_99 (lv_at hl 4 rfl) ?_
            have hin := ld_in h
            refine va_iald hx hb hK hP 13 0 rfl rfl hin dX12_lookThrough_101 ?_
            refine lv_topi (fun t101 et101 => ?_)
            have h := ld_to h et101
            exact B102 M_firstOne t70 v5 v5 t101 ls H locs (lv_sub hl [1, 2, 3, 0, 4] rfl) hP hD hS h
          have h := ifT h q82
          refine lv_aload_n hx hb dX12_lookThrough_85 rfl (lv_at hl 1 rfl) ?_
          refine va_get (D := g.1) (ci := 11) (v := .ref aM_number) (C := RX12) (T := TX12) (N := 35) hx hb hts inBX12 hown hK hP 0 rfl rfl 16 (by decide) (hts _ wd4_212) (fun _ h9 => h9) rfl dX12_lookThrough_86 ?_
          refine lv_iload hx hb dX12_lookThrough_89 (lv_at hl 4 rfl) ?_
          have hin := ld_in h
          refine va_iald hx hb hK hP 12 0 rfl rfl hin dX12_lookThrough_91 ?_
          refine lv_topi (fun t91 et91 => ?_)
          have h := ld_to h et91
          refine lv_goto (tgt := 102) hx hb dX12_lookThrough_92 (by decide) ?_
          exact B102 M_firstOne t70 v5 v5 t91 ls H locs (lv_sub hl [1, 2, 3, 0, 4] rfl) hP hD hS h
      refine lv_iload_n hx hb dX12_lookThrough_33 rfl (lv_at hl 3 rfl) ?_
      refine lv_if_eq (tgt := 162) hx hb dX12_lookThrough_34 (by decide) (fun q34 => ?_) (fun q34 => ?_)
      · have h := ifT h q34
        have h : some (M_found, M_shortest, M_word, M_size, M_number, M_firstOne) = some (M_found_o, M_shortest_o, M_word_o, M_size_o, M_number_o, M_firstOne_o) := h
        cases h
        exact hret _ _ _ _ hP hD hS dX12_lookThrough_162
      have h := ifF h q34
      refine lv_aload_n hx hb dX12_lookThrough_37 rfl (lv_at hl 0 rfl) ?_
      refine lv_aload_n hx hb dX12_lookThrough_38 rfl (lv_at hl 1 rfl) ?_
      obtain ⟨t39, M_word_39, M_size_39, hc39, h⟩ := bd3_to h
      refine go_A (st1 := [.int t39]) (run_V (As := [.ref aM_now]) (rest := []) X hS (mX12_isSolution_now g l  aM aM_text aM_now aM_trial aM_read aM_diary aM_kept aM_isKept aM_constraint aM_readConstraint aM_word aM_size aM_number aM_firstOne aM_node aM_parent aM_rule aM_child aM_proof aM_witness aM_witnessSize aM_built aM_copyRow M_length M_acts M_next M_many M_readMany M_found M_shortest M_nodes M_solved M_dropped M_fits M_proofSize M_tooLong M_text M_now M_trial M_read M_diary M_kept M_isKept M_constraint M_readConstraint M_word M_size M_number M_firstOne M_node M_parent M_rule M_child M_proof M_witness M_witnessSize M_built M_copyRow t39 M_word_39 M_size_39 hc39) okX12_isSolution wd5_178 ⟨Nat.le_of_ble_eq_true rfl, Nat.le_of_ble_eq_true rfl⟩ ⟨rfl, rfl⟩ (va_recv hK hP (ci := 11) (q0 := 0) rfl rfl) hP hD (all_F hS hA hD) rfl hl.1 rfl (Nat.le_of_ble_eq_true rfl) dX12_lookThrough_39 ⟨Nat.zero_le _, Nat.zero_le _⟩) hS (all_F hS hA hD) rfl (fun H locs hP hD hS => ?_)
      refine lv_if_eq (tgt := 148) hx hb dX12_lookThrough_42 (by decide) (fun q42 => ?_) (fun q42 => ?_)
      · have h := ifT h q42
        exact B148 M_found M_shortest M_word_39 M_size_39 M_number M_firstOne ls H locs (lv_sub hl [0, 1, 2] rfl) hP hD hS h
      have h := ifF h q42
      refine lv_iconst (v := (0 : Int32)) hx hb dX12_lookThrough_45 (by decide) ?_
      refine lv_istore (lv' := [(4, .int (0 : Int32)), (0, .ref aM), (1, .ref aM_now), (2, .int x2), (3, .int v3)]) hx hb dX12_lookThrough_46 hl (by decide) rfl (fun ls hl => ?_)
      refine lv_iconst (v := (0 : Int32)) hx hb dX12_lookThrough_48 (by decide) ?_
      refine lv_istore (lv' := [(5, .int (0 : Int32)), (4, .int (0 : Int32)), (0, .ref aM), (1, .ref aM_now), (2, .int x2), (3, .int v3)]) hx hb dX12_lookThrough_49 hl (by decide) rfl (fun ls hl => ?_)
      exact L51 FU M_found M_shortest M_word_39 M_size_39 M_number M_firstOne (0 : Int32) (0 : Int32) ls H locs (lv_sub hl [2, 3, 4, 1, 0] rfl) hP hD hS h
  have L13 : ∀ (n13 : Nat), ∀ (M_found : Int32) (M_shortest : Int32) (M_word : Nat → Int32) (M_size : Nat → Int32) (M_number : Nat → Int32) (M_firstOne : Nat → Int32) (v3 : Int32) (ls : Array Slot) (H : Heap) (locs : List Loc), lv_has ls 6 [(0, .ref aM), (1, .ref aM_now), (2, .int x2), (3, .int v3)] → va_P g.1 vwCl (wX12 g aM aM_text aM_now aM_trial aM_read aM_diary aM_kept aM_isKept aM_constraint aM_readConstraint aM_word aM_size aM_number aM_firstOne aM_node aM_parent aM_rule aM_child aM_proof aM_witness aM_witnessSize aM_built aM_copyRow M_length M_acts M_next M_many M_readMany M_found M_shortest M_nodes M_solved M_dropped M_fits M_proofSize M_tooLong M_text M_now M_trial M_read M_diary M_kept M_isKept M_constraint M_readConstraint M_word M_size M_number M_firstOne M_node M_parent M_rule M_child M_proof M_witness M_witnessSize M_built M_copyRow) H → va_D A (wX12 g aM aM_text aM_now aM_trial aM_read aM_diary aM_kept aM_isKept aM_constraint aM_readConstraint aM_word aM_size aM_number aM_firstOne aM_node aM_parent aM_rule aM_child aM_proof aM_witness aM_witnessSize aM_built aM_copyRow M_length M_acts M_next M_many M_readMany M_found M_shortest M_nodes M_solved M_dropped M_fits M_proofSize M_tooLong M_text M_now M_trial M_read M_diary M_kept M_isKept M_constraint M_readConstraint M_word M_size M_number M_firstOne M_node M_parent M_rule M_child M_proof M_witness M_witnessSize M_built M_copyRow) → va_S A s.heap H locs → fx2 (fM_lookThrough_13 M_many M_found M_shortest M_constraint M_word M_size M_firstOne M_now x2) n13 M_number v3 = some (M_found_o, M_shortest_o, M_word_o, M_size_o, M_number_o, M_firstOne_o) → W p l e rmX12_lookThrough s m ([.ref aM, .ref aM_now, .int x2] : List Value).toArray below meth c H locs 0 0 QQ (F0 m 13 ls []) := by
    intro n13
    induction n13 with
    | zero => intro M_found M_shortest M_word M_size M_number M_firstOne v3 ls H locs hl hP hD hS h; exact fx2_0 h
    | succ n13 ih13 =>
      intro M_found M_shortest M_word M_size M_number M_firstOne v3 ls H locs hl hP hD hS h
      have h := (fx2_s (fM_lookThrough_13 M_many M_found M_shortest M_constraint M_word M_size M_firstOne M_now x2) n13 M_number v3).symm.trans h
      refine lv_iload_n hx hb dX12_lookThrough_13 rfl (lv_at hl 3 rfl) ?_
      refine lv_iconst (v := (4 : Int32)) hx hb dX12_lookThrough_14 (by decide) ?_
      refine lv_icmp_ge (tgt := 31) hx hb dX12_lookThrough_15 (by decide) (fun q15 => ?_) (fun q15 => ?_)
      · have h := ifT h q15
        refine lv_iconst (v := (1 : Int32)) hx hb dX12_lookThrough_31 (by decide) ?_
        refine lv_istore_n (lv' := [(3, .int (1 : Int32)), (0, .ref aM), (1, .ref aM_now), (2, .int x2)]) hx hb dX12_lookThrough_32 rfl hl (by decide) rfl (fun ls hl => ?_)
        exact L33 FU M_found M_shortest M_word M_size M_number M_firstOne (1 : Int32) ls H locs (lv_sub hl [1, 2, 3, 0] rfl) hP hD hS h
      have h := ifF h q15
      refine lv_aload_n hx hb dX12_lookThrough_18 rfl (lv_at hl 0 rfl) ?_
      refine va_get (D := g.1) (ci := 11) (v := .ref aM_number) (C := RX12) (T := TX12) (N := 35) hx hb hts inBX12 hown hK hP 0 rfl rfl 16 (by decide) (hts _ wd4_212) (fun _ h9 => h9) rfl dX12_lookThrough_19 ?_
      refine lv_iload_n hx hb dX12_lookThrough_22 rfl (lv_at hl 3 rfl) ?_
      refine lv_iconst (v := (0 : Int32)) hx hb dX12_lookThrough_23 (by decide) ?_
      have hin := sti_in h
      refine va_iast hx hb hK hP hD hS 12 0 rfl rfl hin dX12_lookThrough_24 (fun H locs hP hD hS => ?_)
      obtain ⟨M_number_24, eM_number_24⟩ : ∃ y : Nat → Int32, y = upd M_number (Int32.toNatClampNeg v3) (0 : Int32) := ⟨_, rfl⟩
      have h := sti_to h eM_number_24
      have hP : va_P g.1 vwCl (wX12 g aM aM_text aM_now aM_trial aM_read aM_diary aM_kept aM_isKept aM_constraint aM_readConstraint aM_word aM_size aM_number aM_firstOne aM_node aM_parent aM_rule aM_child aM_proof aM_witness aM_witnessSize aM_built aM_copyRow M_length M_acts M_next M_many M_readMany M_found M_shortest M_nodes M_solved M_dropped M_fits M_proofSize M_tooLong M_text M_now M_trial M_read M_diary M_kept M_isKept M_constraint M_readConstraint M_word M_size M_number_24 M_firstOne M_node M_parent M_rule M_child M_proof M_witness M_witnessSize M_built M_copyRow) H := by rw [eM_number_24]; exact hP
      have hD : va_D A (wX12 g aM aM_text aM_now aM_trial aM_read aM_diary aM_kept aM_isKept aM_constraint aM_readConstraint aM_word aM_size aM_number aM_firstOne aM_node aM_parent aM_rule aM_child aM_proof aM_witness aM_witnessSize aM_built aM_copyRow M_length M_acts M_next M_many M_readMany M_found M_shortest M_nodes M_solved M_dropped M_fits M_proofSize M_tooLong M_text M_now M_trial M_read M_diary M_kept M_isKept M_constraint M_readConstraint M_word M_size M_number_24 M_firstOne M_node M_parent M_rule M_child M_proof M_witness M_witnessSize M_built M_copyRow) := by rw [eM_number_24]; exact hD
      obtain ⟨t25, et25⟩ : ∃ y : Int32, y = v3 + (1 : Int32) := ⟨_, rfl⟩
      refine lv_iinc (v := t25) (lv' := [(3, .int t25), (0, .ref aM), (1, .ref aM_now), (2, .int x2)]) hx hb dX12_lookThrough_25 hl (k := 3) rfl (by rw [et25]; rfl) (by decide) rfl (fun ls hl => ?_)
      have h := st_to h et25
      refine lv_goto (tgt := 13) hx hb dX12_lookThrough_28 (by decide) ?_
      exact ih13 M_found M_shortest M_word M_size M_number_24 M_firstOne t25 ls H locs (lv_sub hl [1, 2, 3, 0] rfl) hP hD hS h
  have hl : lv_has ls 6 [(0, .ref aM), (1, .ref aM_now), (2, .int x2)] := hl
  obtain ⟨H, hH⟩ : ∃ H, H = s.heap := ⟨_, rfl⟩
  obtain ⟨locs, hlocs⟩ : ∃ l : List Loc, l = [] := ⟨_, rfl⟩
  rw [show W p l e rmX12_lookThrough s m ([.ref aM, .ref aM_now, .int x2] : List Value).toArray below meth c s.heap [] 0 0 QQ (F0 m 0 ls []) = W p l e rmX12_lookThrough s m ([.ref aM, .ref aM_now, .int x2] : List Value).toArray below meth c H locs 0 0 QQ (F0 m 0 ls []) by rw [hH, hlocs]]
  have hP : va_P g.1 vwCl (wX12 g aM aM_text aM_now aM_trial aM_read aM_diary aM_kept aM_isKept aM_constraint aM_readConstraint aM_word aM_size aM_number aM_firstOne aM_node aM_parent aM_rule aM_child aM_proof aM_witness aM_witnessSize aM_built aM_copyRow M_length M_acts M_next M_many M_readMany M_found M_shortest M_nodes M_solved M_dropped M_fits M_proofSize M_tooLong M_text M_now M_trial M_read M_diary M_kept M_isKept M_constraint M_readConstraint M_word M_size M_number M_firstOne M_node M_parent M_rule M_child M_proof M_witness M_witnessSize M_built M_copyRow) H := by rw [hH]; exact hP
  have hD : va_D A (wX12 g aM aM_text aM_now aM_trial aM_read aM_diary aM_kept aM_isKept aM_constraint aM_readConstraint aM_word aM_size aM_number aM_firstOne aM_node aM_parent aM_rule aM_child aM_proof aM_witness aM_witnessSize aM_built aM_copyRow M_length M_acts M_next M_many M_readMany M_found M_shortest M_nodes M_solved M_dropped M_fits M_proofSize M_tooLong M_text M_now M_trial M_read M_diary M_kept M_isKept M_constraint M_readConstraint M_word M_size M_number M_firstOne M_node M_parent M_rule M_child M_proof M_witness M_witnessSize M_built M_copyRow) := hD
  have hS : va_S A s.heap H locs := by rw [hH, hlocs]; exact hS
  clear hH hlocs
  refine lv_aload_n hx hb dX12_lookThrough_0 rfl (lv_at hl 0 rfl) ?_
  refine lv_iconst (v := (0 : Int32)) hx hb dX12_lookThrough_1 (by decide) ?_
  refine va_put (D := g.1) (ci := 11) (v := .int (0 : Int32)) (ty := .int) (C := RX12) (T := TX12) (N := 35) hx hb hts inBX12 tyX12 tyX12_ok nmX12 hown hK hP hD hS 0 rfl rfl 18 (by decide) (hts _ wd4_214) (fun _ h9 => h9) rfl (tyX12_ok 18 (by decide)) rfl rfl (Nat.le_of_ble_eq_true rfl) dX12_lookThrough_2 (fun H locs hP hD hS => ?_)
  have hP : va_P g.1 vwCl (wX12 g aM aM_text aM_now aM_trial aM_read aM_diary aM_kept aM_isKept aM_constraint aM_readConstraint aM_word aM_size aM_number aM_firstOne aM_node aM_parent aM_rule aM_child aM_proof aM_witness aM_witnessSize aM_built aM_copyRow M_length M_acts M_next M_many M_readMany (0 : Int32) M_shortest M_nodes M_solved M_dropped M_fits M_proofSize M_tooLong M_text M_now M_trial M_read M_diary M_kept M_isKept M_constraint M_readConstraint M_word M_size M_number M_firstOne M_node M_parent M_rule M_child M_proof M_witness M_witnessSize M_built M_copyRow) H := hP
  have hD : va_D A (wX12 g aM aM_text aM_now aM_trial aM_read aM_diary aM_kept aM_isKept aM_constraint aM_readConstraint aM_word aM_size aM_number aM_firstOne aM_node aM_parent aM_rule aM_child aM_proof aM_witness aM_witnessSize aM_built aM_copyRow M_length M_acts M_next M_many M_readMany (0 : Int32) M_shortest M_nodes M_solved M_dropped M_fits M_proofSize M_tooLong M_text M_now M_trial M_read M_diary M_kept M_isKept M_constraint M_readConstraint M_word M_size M_number M_firstOne M_node M_parent M_rule M_child M_proof M_witness M_witnessSize M_built M_copyRow) := hD
  refine lv_aload_n hx hb dX12_lookThrough_5 rfl (lv_at hl 0 rfl) ?_
  refine lv_bipush (v := ((-9) : Int32)) hx hb dX12_lookThrough_6 (by decide) ?_
  refine va_put (D := g.1) (ci := 11) (v := .int ((-9) : Int32)) (ty := .int) (C := RX12) (T := TX12) (N := 35) hx hb hts inBX12 tyX12 tyX12_ok nmX12 hown hK hP hD hS 0 rfl rfl 19 (by decide) (hts _ wd4_215) (fun _ h9 => h9) rfl (tyX12_ok 19 (by decide)) rfl rfl (Nat.le_of_ble_eq_true rfl) dX12_lookThrough_8 (fun H locs hP hD hS => ?_)
  have hP : va_P g.1 vwCl (wX12 g aM aM_text aM_now aM_trial aM_read aM_diary aM_kept aM_isKept aM_constraint aM_readConstraint aM_word aM_size aM_number aM_firstOne aM_node aM_parent aM_rule aM_child aM_proof aM_witness aM_witnessSize aM_built aM_copyRow M_length M_acts M_next M_many M_readMany (0 : Int32) ((-9) : Int32) M_nodes M_solved M_dropped M_fits M_proofSize M_tooLong M_text M_now M_trial M_read M_diary M_kept M_isKept M_constraint M_readConstraint M_word M_size M_number M_firstOne M_node M_parent M_rule M_child M_proof M_witness M_witnessSize M_built M_copyRow) H := hP
  have hD : va_D A (wX12 g aM aM_text aM_now aM_trial aM_read aM_diary aM_kept aM_isKept aM_constraint aM_readConstraint aM_word aM_size aM_number aM_firstOne aM_node aM_parent aM_rule aM_child aM_proof aM_witness aM_witnessSize aM_built aM_copyRow M_length M_acts M_next M_many M_readMany (0 : Int32) ((-9) : Int32) M_nodes M_solved M_dropped M_fits M_proofSize M_tooLong M_text M_now M_trial M_read M_diary M_kept M_isKept M_constraint M_readConstraint M_word M_size M_number M_firstOne M_node M_parent M_rule M_child M_proof M_witness M_witnessSize M_built M_copyRow) := hD
  refine lv_iconst (v := (0 : Int32)) hx hb dX12_lookThrough_11 (by decide) ?_
  refine lv_istore_n (lv' := [(3, .int (0 : Int32)), (0, .ref aM), (1, .ref aM_now), (2, .int x2)]) hx hb dX12_lookThrough_12 rfl hl (by decide) rfl (fun ls hl => ?_)
  exact L13 FU (0 : Int32) ((-9) : Int32) M_word M_size M_number M_firstOne (0 : Int32) ls H locs (lv_sub hl [1, 2, 3, 0] rfl) hP hD hS h
set_option maxHeartbeats 4000000 in
set_option maxRecDepth 100000 in
theorem mX12_countSolutions (g : GP) (l : Launch) (aM aM_text aM_now aM_trial aM_read aM_diary aM_kept aM_isKept aM_constraint aM_readConstraint aM_word aM_size aM_number aM_firstOne aM_node aM_parent aM_rule aM_child aM_proof aM_witness aM_witnessSize aM_built aM_copyRow : Nat) (M_length : Int32) (M_acts : Int32) (M_next : Int32) (M_many : Int32) (M_readMany : Int32) (M_found : Int32) (M_shortest : Int32) (M_nodes : Int32) (M_solved : Int32) (M_dropped : Int32) (M_fits : Int32) (M_proofSize : Int32) (M_tooLong : Int32) (M_text : Nat → Int32) (M_now : Nat → Int32) (M_trial : Nat → Int32) (M_read : Nat → Int32) (M_diary : Nat → Int32) (M_kept : Nat → Int32) (M_isKept : Nat → Int32) (M_constraint : Nat → Int32) (M_readConstraint : Nat → Int32) (M_word : Nat → Int32) (M_size : Nat → Int32) (M_number : Nat → Int32) (M_firstOne : Nat → Int32) (M_node : Nat → Int32) (M_parent : Nat → Int32) (M_rule : Nat → Int32) (M_child : Nat → Int32) (M_proof : Nat → Int32) (M_witness : Nat → Int32) (M_witnessSize : Nat → Int32) (M_built : Nat → Int32) (M_copyRow : Nat → Int32) (x1 : Int32) (r : Int32) (M_found_o : Int32) (M_shortest_o : Int32) (M_word_o : Nat → Int32) (M_size_o : Nat → Int32) (M_number_o : Nat → Int32) (M_firstOne_o : Nat → Int32) (h : fM_countSolutions M_many M_found M_shortest M_now M_constraint M_word M_size M_number M_firstOne x1 = some (r, M_found_o, M_shortest_o, M_word_o, M_size_o, M_number_o, M_firstOne_o)) : Ct g l yX12_countSolutions cX12_countSolutions 2 (some .int) rmX12_countSolutions [.ref aM, .int x1] (wX12 g aM aM_text aM_now aM_trial aM_read aM_diary aM_kept aM_isKept aM_constraint aM_readConstraint aM_word aM_size aM_number aM_firstOne aM_node aM_parent aM_rule aM_child aM_proof aM_witness aM_witnessSize aM_built aM_copyRow M_length M_acts M_next M_many M_readMany M_found M_shortest M_nodes M_solved M_dropped M_fits M_proofSize M_tooLong M_text M_now M_trial M_read M_diary M_kept M_isKept M_constraint M_readConstraint M_word M_size M_number M_firstOne M_node M_parent M_rule M_child M_proof M_witness M_witnessSize M_built M_copyRow) (some (.int r)) (wX12 g aM aM_text aM_now aM_trial aM_read aM_diary aM_kept aM_isKept aM_constraint aM_readConstraint aM_word aM_size aM_number aM_firstOne aM_node aM_parent aM_rule aM_child aM_proof aM_witness aM_witnessSize aM_built aM_copyRow M_length M_acts M_next M_many M_readMany M_found_o M_shortest_o M_nodes M_solved M_dropped M_fits M_proofSize M_tooLong M_text M_now M_trial M_read M_diary M_kept M_isKept M_constraint M_readConstraint M_word_o M_size_o M_number_o M_firstOne_o M_node M_parent M_rule M_child M_proof M_witness M_witnessSize M_built M_copyRow) := by
  refine Ct.introI (by decide) (Nat.le_of_ble_eq_true rfl) ?_
  intro p e s m below meth c A QQ ls hyp hret
  obtain ⟨hx, hb, hml, hts, hown, hA, hE, hP, hD, hl⟩ := hyp
  have hK := hE.1
  have hS : va_S A s.heap s.heap [] := va_S.rf
  have X : Here g p s m c cX12_countSolutions 2 ([.ref aM, .int x1] : List Value).toArray RX12 A := ⟨⟨hx, hb, hml, hown, hts⟩, hE, hA⟩
  have hl : lv_has ls 2 [(0, .ref aM), (1, .int x1)] := hl
  obtain ⟨H, hH⟩ : ∃ H, H = s.heap := ⟨_, rfl⟩
  obtain ⟨locs, hlocs⟩ : ∃ l : List Loc, l = [] := ⟨_, rfl⟩
  rw [show W p l e rmX12_countSolutions s m ([.ref aM, .int x1] : List Value).toArray below meth c s.heap [] 0 0 QQ (F0 m 0 ls []) = W p l e rmX12_countSolutions s m ([.ref aM, .int x1] : List Value).toArray below meth c H locs 0 0 QQ (F0 m 0 ls []) by rw [hH, hlocs]]
  have hP : va_P g.1 vwCl (wX12 g aM aM_text aM_now aM_trial aM_read aM_diary aM_kept aM_isKept aM_constraint aM_readConstraint aM_word aM_size aM_number aM_firstOne aM_node aM_parent aM_rule aM_child aM_proof aM_witness aM_witnessSize aM_built aM_copyRow M_length M_acts M_next M_many M_readMany M_found M_shortest M_nodes M_solved M_dropped M_fits M_proofSize M_tooLong M_text M_now M_trial M_read M_diary M_kept M_isKept M_constraint M_readConstraint M_word M_size M_number M_firstOne M_node M_parent M_rule M_child M_proof M_witness M_witnessSize M_built M_copyRow) H := by rw [hH]; exact hP
  have hD : va_D A (wX12 g aM aM_text aM_now aM_trial aM_read aM_diary aM_kept aM_isKept aM_constraint aM_readConstraint aM_word aM_size aM_number aM_firstOne aM_node aM_parent aM_rule aM_child aM_proof aM_witness aM_witnessSize aM_built aM_copyRow M_length M_acts M_next M_many M_readMany M_found M_shortest M_nodes M_solved M_dropped M_fits M_proofSize M_tooLong M_text M_now M_trial M_read M_diary M_kept M_isKept M_constraint M_readConstraint M_word M_size M_number M_firstOne M_node M_parent M_rule M_child M_proof M_witness M_witnessSize M_built M_copyRow) := hD
  have hS : va_S A s.heap H locs := by rw [hH, hlocs]; exact hS
  clear hH hlocs
  refine lv_iload_n hx hb dX12_countSolutions_0 rfl (lv_at hl 1 rfl) ?_
  refine lv_i2l (v := (Int32.toInt64 x1)) hx hb dX12_countSolutions_1 rfl ?_
  refine lv_lconst (v := (0 : Int64)) hx hb dX12_countSolutions_2 (by decide) ?_
  refine lv_ldc2 (v := (3 : Int64)) hx hb hown (hts _ wd5_123) dX12_countSolutions_3 ?_
  obtain ⟨t6, hc6, h⟩ := bd1_to h
  refine go_0 (st1 := [.int t6]) (run_S (As := [.long (Int32.toInt64 x1), .long (0 : Int64), .long (3 : Int64)]) (rest := []) X hS (mX12_in g l  (Int32.toInt64 x1) (0 : Int64) (3 : Int64) t6 hc6) okX12_in wd5_67 ⟨Nat.le_of_ble_eq_true rfl, Nat.le_of_ble_eq_true rfl⟩ ⟨rfl, rfl⟩ nil_P nil_D (nil_F hS hA) rfl hl.1 rfl (Nat.le_of_ble_eq_true rfl) dX12_countSolutions_6 ⟨Nat.zero_le _, Nat.zero_le _⟩) hS hA hP rfl (fun H locs hP hS => ?_)
  refine lv_if_ne (tgt := 15) hx hb dX12_countSolutions_9 (by decide) (fun q9 => ?_) (fun q9 => ?_)
  · have h := ifF h q9
    refine lv_aload_n hx hb dX12_countSolutions_15 rfl (lv_at hl 0 rfl) ?_
    refine lv_aload_n hx hb dX12_countSolutions_16 rfl (lv_at hl 0 rfl) ?_
    refine va_get (D := g.1) (ci := 11) (v := .ref aM_now) (C := RX12) (T := TX12) (N := 35) hx hb hts inBX12 hown hK hP 0 rfl rfl 2 (by decide) (hts _ wd4_198) (fun _ h9 => h9) rfl dX12_countSolutions_17 ?_
    refine lv_iload_n hx hb dX12_countSolutions_20 rfl (lv_at hl 1 rfl) ?_
    obtain ⟨M_found_21, M_shortest_21, M_word_21, M_size_21, M_number_21, M_firstOne_21, hc21, h⟩ := bd6_to h
    refine go_A (st1 := []) (run_V (As := [.ref aM_now, .int x1]) (rest := []) X hS (mX12_lookThrough_now g l  aM aM_text aM_now aM_trial aM_read aM_diary aM_kept aM_isKept aM_constraint aM_readConstraint aM_word aM_size aM_number aM_firstOne aM_node aM_parent aM_rule aM_child aM_proof aM_witness aM_witnessSize aM_built aM_copyRow M_length M_acts M_next M_many M_readMany M_found M_shortest M_nodes M_solved M_dropped M_fits M_proofSize M_tooLong M_text M_now M_trial M_read M_diary M_kept M_isKept M_constraint M_readConstraint M_word M_size M_number M_firstOne M_node M_parent M_rule M_child M_proof M_witness M_witnessSize M_built M_copyRow x1 M_found_21 M_shortest_21 M_word_21 M_size_21 M_number_21 M_firstOne_21 hc21) okX12_lookThrough wd5_193 ⟨Nat.le_of_ble_eq_true rfl, Nat.le_of_ble_eq_true rfl⟩ ⟨rfl, rfl⟩ (va_recv hK hP (ci := 11) (q0 := 0) rfl rfl) hP hD (all_F hS hA hD) rfl hl.1 rfl (Nat.le_of_ble_eq_true rfl) dX12_countSolutions_21 ⟨Nat.zero_le _, Nat.zero_le _⟩) hS (all_F hS hA hD) rfl (fun H locs hP hD hS => ?_)
    refine lv_aload_n hx hb dX12_countSolutions_24 rfl (lv_at hl 0 rfl) ?_
    refine va_get (D := g.1) (ci := 11) (v := .int M_found_21) (C := RX12) (T := TX12) (N := 35) hx hb hts inBX12 hown hK hP 0 rfl rfl 18 (by decide) (hts _ wd4_214) (fun _ h9 => h9) rfl dX12_countSolutions_25 ?_
    have h : some (M_found_21, M_found_21, M_shortest_21, M_word_21, M_size_21, M_number_21, M_firstOne_21) = some (r, M_found_o, M_shortest_o, M_word_o, M_size_o, M_number_o, M_firstOne_o) := h
    cases h
    exact hret _ _ _ _ hP hD hS dX12_countSolutions_28
  have h := ifT h q9
  refine lv_bipush (v := ((-2) : Int32)) hx hb dX12_countSolutions_12 (by decide) ?_
  have h : some (((-2) : Int32), M_found, M_shortest, M_word, M_size, M_number, M_firstOne) = some (r, M_found_o, M_shortest_o, M_word_o, M_size_o, M_number_o, M_firstOne_o) := h
  cases h
  exact hret _ _ _ _ hP hD hS dX12_countSolutions_14
set_option maxHeartbeats 4000000 in
set_option maxRecDepth 100000 in
theorem mX12_firstSolution (g : GP) (l : Launch) (aM aM_text aM_now aM_trial aM_read aM_diary aM_kept aM_isKept aM_constraint aM_readConstraint aM_word aM_size aM_number aM_firstOne aM_node aM_parent aM_rule aM_child aM_proof aM_witness aM_witnessSize aM_built aM_copyRow : Nat) (M_length : Int32) (M_acts : Int32) (M_next : Int32) (M_many : Int32) (M_readMany : Int32) (M_found : Int32) (M_shortest : Int32) (M_nodes : Int32) (M_solved : Int32) (M_dropped : Int32) (M_fits : Int32) (M_proofSize : Int32) (M_tooLong : Int32) (M_text : Nat → Int32) (M_now : Nat → Int32) (M_trial : Nat → Int32) (M_read : Nat → Int32) (M_diary : Nat → Int32) (M_kept : Nat → Int32) (M_isKept : Nat → Int32) (M_constraint : Nat → Int32) (M_readConstraint : Nat → Int32) (M_word : Nat → Int32) (M_size : Nat → Int32) (M_number : Nat → Int32) (M_firstOne : Nat → Int32) (M_node : Nat → Int32) (M_parent : Nat → Int32) (M_rule : Nat → Int32) (M_child : Nat → Int32) (M_proof : Nat → Int32) (M_witness : Nat → Int32) (M_witnessSize : Nat → Int32) (M_built : Nat → Int32) (M_copyRow : Nat → Int32) (x1 : Int32) (x2 : Int32) (r : Int32) (M_found_o : Int32) (M_shortest_o : Int32) (M_word_o : Nat → Int32) (M_size_o : Nat → Int32) (M_number_o : Nat → Int32) (M_firstOne_o : Nat → Int32) (h : fM_firstSolution M_many M_found M_shortest M_now M_constraint M_word M_size M_number M_firstOne x1 x2 = some (r, M_found_o, M_shortest_o, M_word_o, M_size_o, M_number_o, M_firstOne_o)) : Ct g l yX12_firstSolution cX12_firstSolution 3 (some .int) rmX12_firstSolution [.ref aM, .int x1, .int x2] (wX12 g aM aM_text aM_now aM_trial aM_read aM_diary aM_kept aM_isKept aM_constraint aM_readConstraint aM_word aM_size aM_number aM_firstOne aM_node aM_parent aM_rule aM_child aM_proof aM_witness aM_witnessSize aM_built aM_copyRow M_length M_acts M_next M_many M_readMany M_found M_shortest M_nodes M_solved M_dropped M_fits M_proofSize M_tooLong M_text M_now M_trial M_read M_diary M_kept M_isKept M_constraint M_readConstraint M_word M_size M_number M_firstOne M_node M_parent M_rule M_child M_proof M_witness M_witnessSize M_built M_copyRow) (some (.int r)) (wX12 g aM aM_text aM_now aM_trial aM_read aM_diary aM_kept aM_isKept aM_constraint aM_readConstraint aM_word aM_size aM_number aM_firstOne aM_node aM_parent aM_rule aM_child aM_proof aM_witness aM_witnessSize aM_built aM_copyRow M_length M_acts M_next M_many M_readMany M_found_o M_shortest_o M_nodes M_solved M_dropped M_fits M_proofSize M_tooLong M_text M_now M_trial M_read M_diary M_kept M_isKept M_constraint M_readConstraint M_word_o M_size_o M_number_o M_firstOne_o M_node M_parent M_rule M_child M_proof M_witness M_witnessSize M_built M_copyRow) := by
  refine Ct.introI (by decide) (Nat.le_of_ble_eq_true rfl) ?_
  intro p e s m below meth c A QQ ls hyp hret
  obtain ⟨hx, hb, hml, hts, hown, hA, hE, hP, hD, hl⟩ := hyp
  have hK := hE.1
  have hS : va_S A s.heap s.heap [] := va_S.rf
  have X : Here g p s m c cX12_firstSolution 3 ([.ref aM, .int x1, .int x2] : List Value).toArray RX12 A := ⟨⟨hx, hb, hml, hown, hts⟩, hE, hA⟩
  have hl : lv_has ls 3 [(0, .ref aM), (1, .int x1), (2, .int x2)] := hl
  obtain ⟨H, hH⟩ : ∃ H, H = s.heap := ⟨_, rfl⟩
  obtain ⟨locs, hlocs⟩ : ∃ l : List Loc, l = [] := ⟨_, rfl⟩
  rw [show W p l e rmX12_firstSolution s m ([.ref aM, .int x1, .int x2] : List Value).toArray below meth c s.heap [] 0 0 QQ (F0 m 0 ls []) = W p l e rmX12_firstSolution s m ([.ref aM, .int x1, .int x2] : List Value).toArray below meth c H locs 0 0 QQ (F0 m 0 ls []) by rw [hH, hlocs]]
  have hP : va_P g.1 vwCl (wX12 g aM aM_text aM_now aM_trial aM_read aM_diary aM_kept aM_isKept aM_constraint aM_readConstraint aM_word aM_size aM_number aM_firstOne aM_node aM_parent aM_rule aM_child aM_proof aM_witness aM_witnessSize aM_built aM_copyRow M_length M_acts M_next M_many M_readMany M_found M_shortest M_nodes M_solved M_dropped M_fits M_proofSize M_tooLong M_text M_now M_trial M_read M_diary M_kept M_isKept M_constraint M_readConstraint M_word M_size M_number M_firstOne M_node M_parent M_rule M_child M_proof M_witness M_witnessSize M_built M_copyRow) H := by rw [hH]; exact hP
  have hD : va_D A (wX12 g aM aM_text aM_now aM_trial aM_read aM_diary aM_kept aM_isKept aM_constraint aM_readConstraint aM_word aM_size aM_number aM_firstOne aM_node aM_parent aM_rule aM_child aM_proof aM_witness aM_witnessSize aM_built aM_copyRow M_length M_acts M_next M_many M_readMany M_found M_shortest M_nodes M_solved M_dropped M_fits M_proofSize M_tooLong M_text M_now M_trial M_read M_diary M_kept M_isKept M_constraint M_readConstraint M_word M_size M_number M_firstOne M_node M_parent M_rule M_child M_proof M_witness M_witnessSize M_built M_copyRow) := hD
  have hS : va_S A s.heap H locs := by rw [hH, hlocs]; exact hS
  clear hH hlocs
  refine lv_iload_n hx hb dX12_firstSolution_0 rfl (lv_at hl 2 rfl) ?_
  obtain ⟨t1, hc1, h⟩ := bd1_to h
  refine go_0 (st1 := [.int t1]) (run_S (As := [.int x2]) (rest := []) X hS (mX12_isVariable g l  x2 t1 hc1) okX12_isVariable wd5_120 ⟨Nat.le_of_ble_eq_true rfl, Nat.le_of_ble_eq_true rfl⟩ ⟨rfl, rfl⟩ nil_P nil_D (nil_F hS hA) rfl hl.1 rfl (Nat.le_of_ble_eq_true rfl) dX12_firstSolution_1 ⟨Nat.zero_le _, Nat.zero_le _⟩) hS hA hP rfl (fun H locs hP hS => ?_)
  refine lv_if_ne (tgt := 9) hx hb dX12_firstSolution_4 (by decide) (fun q4 => ?_) (fun q4 => ?_)
  · have h := ifF h q4
    refine lv_iload_n hx hb dX12_firstSolution_9 rfl (lv_at hl 1 rfl) ?_
    refine lv_i2l (v := (Int32.toInt64 x1)) hx hb dX12_firstSolution_10 rfl ?_
    refine lv_lconst (v := (0 : Int64)) hx hb dX12_firstSolution_11 (by decide) ?_
    refine lv_ldc2 (v := (3 : Int64)) hx hb hown (hts _ wd5_123) dX12_firstSolution_12 ?_
    obtain ⟨t15, hc15, h⟩ := bd1_to h
    refine go_0 (st1 := [.int t15]) (run_S (As := [.long (Int32.toInt64 x1), .long (0 : Int64), .long (3 : Int64)]) (rest := []) X hS (mX12_in g l  (Int32.toInt64 x1) (0 : Int64) (3 : Int64) t15 hc15) okX12_in wd5_67 ⟨Nat.le_of_ble_eq_true rfl, Nat.le_of_ble_eq_true rfl⟩ ⟨rfl, rfl⟩ nil_P nil_D (nil_F hS hA) rfl hl.1 rfl (Nat.le_of_ble_eq_true rfl) dX12_firstSolution_15 ⟨Nat.zero_le _, Nat.zero_le _⟩) hS hA hP rfl (fun H locs hP hS => ?_)
    refine lv_if_ne (tgt := 24) hx hb dX12_firstSolution_18 (by decide) (fun q18 => ?_) (fun q18 => ?_)
    · have h := ifF h q18
      refine lv_aload_n hx hb dX12_firstSolution_24 rfl (lv_at hl 0 rfl) ?_
      refine lv_aload_n hx hb dX12_firstSolution_25 rfl (lv_at hl 0 rfl) ?_
      refine va_get (D := g.1) (ci := 11) (v := .ref aM_now) (C := RX12) (T := TX12) (N := 35) hx hb hts inBX12 hown hK hP 0 rfl rfl 2 (by decide) (hts _ wd4_198) (fun _ h9 => h9) rfl dX12_firstSolution_26 ?_
      refine lv_iload_n hx hb dX12_firstSolution_29 rfl (lv_at hl 1 rfl) ?_
      obtain ⟨M_found_30, M_shortest_30, M_word_30, M_size_30, M_number_30, M_firstOne_30, hc30, h⟩ := bd6_to h
      refine go_A (st1 := []) (run_V (As := [.ref aM_now, .int x1]) (rest := []) X hS (mX12_lookThrough_now g l  aM aM_text aM_now aM_trial aM_read aM_diary aM_kept aM_isKept aM_constraint aM_readConstraint aM_word aM_size aM_number aM_firstOne aM_node aM_parent aM_rule aM_child aM_proof aM_witness aM_witnessSize aM_built aM_copyRow M_length M_acts M_next M_many M_readMany M_found M_shortest M_nodes M_solved M_dropped M_fits M_proofSize M_tooLong M_text M_now M_trial M_read M_diary M_kept M_isKept M_constraint M_readConstraint M_word M_size M_number M_firstOne M_node M_parent M_rule M_child M_proof M_witness M_witnessSize M_built M_copyRow x1 M_found_30 M_shortest_30 M_word_30 M_size_30 M_number_30 M_firstOne_30 hc30) okX12_lookThrough wd5_193 ⟨Nat.le_of_ble_eq_true rfl, Nat.le_of_ble_eq_true rfl⟩ ⟨rfl, rfl⟩ (va_recv hK hP (ci := 11) (q0 := 0) rfl rfl) hP hD (all_F hS hA hD) rfl hl.1 rfl (Nat.le_of_ble_eq_true rfl) dX12_firstSolution_30 ⟨Nat.zero_le _, Nat.zero_le _⟩) hS (all_F hS hA hD) rfl (fun H locs hP hD hS => ?_)
      refine lv_aload_n hx hb dX12_firstSolution_33 rfl (lv_at hl 0 rfl) ?_
      refine va_get (D := g.1) (ci := 11) (v := .int M_found_30) (C := RX12) (T := TX12) (N := 35) hx hb hts inBX12 hown hK hP 0 rfl rfl 18 (by decide) (hts _ wd4_214) (fun _ h9 => h9) rfl dX12_firstSolution_34 ?_
      refine lv_if_ne (tgt := 45) hx hb dX12_firstSolution_37 (by decide) (fun q37 => ?_) (fun q37 => ?_)
      · have h := ifF h q37
        refine lv_aload_n hx hb dX12_firstSolution_45 rfl (lv_at hl 0 rfl) ?_
        refine va_get (D := g.1) (ci := 11) (v := .ref aM_firstOne) (C := RX12) (T := TX12) (N := 35) hx hb hts inBX12 hown hK hP 0 rfl rfl 17 (by decide) (hts _ wd4_213) (fun _ h9 => h9) rfl dX12_firstSolution_46 ?_
        refine lv_iload_n hx hb dX12_firstSolution_49 rfl (lv_at hl 2 rfl) ?_
        have hin := ld_in h
        refine va_iald hx hb hK hP 13 0 rfl rfl hin dX12_firstSolution_50 ?_
        refine lv_topi (fun t50 et50 => ?_)
        have h := ld_to h et50
        have h : some (t50, M_found_30, M_shortest_30, M_word_30, M_size_30, M_number_30, M_firstOne_30) = some (r, M_found_o, M_shortest_o, M_word_o, M_size_o, M_number_o, M_firstOne_o) := h
        cases h
        exact hret _ _ _ _ hP hD hS dX12_firstSolution_51
      have h := ifT h q37
      refine lv_bipush (v := ((-9) : Int32)) hx hb dX12_firstSolution_40 (by decide) ?_
      refine lv_goto (tgt := 51) hx hb dX12_firstSolution_42 (by decide) ?_
      have h : some (((-9) : Int32), M_found_30, M_shortest_30, M_word_30, M_size_30, M_number_30, M_firstOne_30) = some (r, M_found_o, M_shortest_o, M_word_o, M_size_o, M_number_o, M_firstOne_o) := h
      cases h
      exact hret _ _ _ _ hP hD hS dX12_firstSolution_51
    have h := ifT h q18
    refine lv_bipush (v := ((-2) : Int32)) hx hb dX12_firstSolution_21 (by decide) ?_
    have h : some (((-2) : Int32), M_found, M_shortest, M_word, M_size, M_number, M_firstOne) = some (r, M_found_o, M_shortest_o, M_word_o, M_size_o, M_number_o, M_firstOne_o) := h
    cases h
    exact hret _ _ _ _ hP hD hS dX12_firstSolution_23
  have h := ifT h q4
  refine lv_iconst (v := ((-1) : Int32)) hx hb dX12_firstSolution_7 (by decide) ?_
  have h : some (((-1) : Int32), M_found, M_shortest, M_word, M_size, M_number, M_firstOne) = some (r, M_found_o, M_shortest_o, M_word_o, M_size_o, M_number_o, M_firstOne_o) := h
  cases h
  exact hret _ _ _ _ hP hD hS dX12_firstSolution_8
set_option maxHeartbeats 4000000 in
set_option maxRecDepth 100000 in
theorem mX12_leastTotalLength (g : GP) (l : Launch) (aM aM_text aM_now aM_trial aM_read aM_diary aM_kept aM_isKept aM_constraint aM_readConstraint aM_word aM_size aM_number aM_firstOne aM_node aM_parent aM_rule aM_child aM_proof aM_witness aM_witnessSize aM_built aM_copyRow : Nat) (M_length : Int32) (M_acts : Int32) (M_next : Int32) (M_many : Int32) (M_readMany : Int32) (M_found : Int32) (M_shortest : Int32) (M_nodes : Int32) (M_solved : Int32) (M_dropped : Int32) (M_fits : Int32) (M_proofSize : Int32) (M_tooLong : Int32) (M_text : Nat → Int32) (M_now : Nat → Int32) (M_trial : Nat → Int32) (M_read : Nat → Int32) (M_diary : Nat → Int32) (M_kept : Nat → Int32) (M_isKept : Nat → Int32) (M_constraint : Nat → Int32) (M_readConstraint : Nat → Int32) (M_word : Nat → Int32) (M_size : Nat → Int32) (M_number : Nat → Int32) (M_firstOne : Nat → Int32) (M_node : Nat → Int32) (M_parent : Nat → Int32) (M_rule : Nat → Int32) (M_child : Nat → Int32) (M_proof : Nat → Int32) (M_witness : Nat → Int32) (M_witnessSize : Nat → Int32) (M_built : Nat → Int32) (M_copyRow : Nat → Int32) (x1 : Int32) (r : Int32) (M_found_o : Int32) (M_shortest_o : Int32) (M_word_o : Nat → Int32) (M_size_o : Nat → Int32) (M_number_o : Nat → Int32) (M_firstOne_o : Nat → Int32) (h : fM_leastTotalLength M_many M_found M_shortest M_now M_constraint M_word M_size M_number M_firstOne x1 = some (r, M_found_o, M_shortest_o, M_word_o, M_size_o, M_number_o, M_firstOne_o)) : Ct g l yX12_leastTotalLength cX12_leastTotalLength 2 (some .int) rmX12_leastTotalLength [.ref aM, .int x1] (wX12 g aM aM_text aM_now aM_trial aM_read aM_diary aM_kept aM_isKept aM_constraint aM_readConstraint aM_word aM_size aM_number aM_firstOne aM_node aM_parent aM_rule aM_child aM_proof aM_witness aM_witnessSize aM_built aM_copyRow M_length M_acts M_next M_many M_readMany M_found M_shortest M_nodes M_solved M_dropped M_fits M_proofSize M_tooLong M_text M_now M_trial M_read M_diary M_kept M_isKept M_constraint M_readConstraint M_word M_size M_number M_firstOne M_node M_parent M_rule M_child M_proof M_witness M_witnessSize M_built M_copyRow) (some (.int r)) (wX12 g aM aM_text aM_now aM_trial aM_read aM_diary aM_kept aM_isKept aM_constraint aM_readConstraint aM_word aM_size aM_number aM_firstOne aM_node aM_parent aM_rule aM_child aM_proof aM_witness aM_witnessSize aM_built aM_copyRow M_length M_acts M_next M_many M_readMany M_found_o M_shortest_o M_nodes M_solved M_dropped M_fits M_proofSize M_tooLong M_text M_now M_trial M_read M_diary M_kept M_isKept M_constraint M_readConstraint M_word_o M_size_o M_number_o M_firstOne_o M_node M_parent M_rule M_child M_proof M_witness M_witnessSize M_built M_copyRow) := by
  refine Ct.introI (by decide) (Nat.le_of_ble_eq_true rfl) ?_
  intro p e s m below meth c A QQ ls hyp hret
  obtain ⟨hx, hb, hml, hts, hown, hA, hE, hP, hD, hl⟩ := hyp
  have hK := hE.1
  have hS : va_S A s.heap s.heap [] := va_S.rf
  have X : Here g p s m c cX12_leastTotalLength 2 ([.ref aM, .int x1] : List Value).toArray RX12 A := ⟨⟨hx, hb, hml, hown, hts⟩, hE, hA⟩
  have hl : lv_has ls 2 [(0, .ref aM), (1, .int x1)] := hl
  obtain ⟨H, hH⟩ : ∃ H, H = s.heap := ⟨_, rfl⟩
  obtain ⟨locs, hlocs⟩ : ∃ l : List Loc, l = [] := ⟨_, rfl⟩
  rw [show W p l e rmX12_leastTotalLength s m ([.ref aM, .int x1] : List Value).toArray below meth c s.heap [] 0 0 QQ (F0 m 0 ls []) = W p l e rmX12_leastTotalLength s m ([.ref aM, .int x1] : List Value).toArray below meth c H locs 0 0 QQ (F0 m 0 ls []) by rw [hH, hlocs]]
  have hP : va_P g.1 vwCl (wX12 g aM aM_text aM_now aM_trial aM_read aM_diary aM_kept aM_isKept aM_constraint aM_readConstraint aM_word aM_size aM_number aM_firstOne aM_node aM_parent aM_rule aM_child aM_proof aM_witness aM_witnessSize aM_built aM_copyRow M_length M_acts M_next M_many M_readMany M_found M_shortest M_nodes M_solved M_dropped M_fits M_proofSize M_tooLong M_text M_now M_trial M_read M_diary M_kept M_isKept M_constraint M_readConstraint M_word M_size M_number M_firstOne M_node M_parent M_rule M_child M_proof M_witness M_witnessSize M_built M_copyRow) H := by rw [hH]; exact hP
  have hD : va_D A (wX12 g aM aM_text aM_now aM_trial aM_read aM_diary aM_kept aM_isKept aM_constraint aM_readConstraint aM_word aM_size aM_number aM_firstOne aM_node aM_parent aM_rule aM_child aM_proof aM_witness aM_witnessSize aM_built aM_copyRow M_length M_acts M_next M_many M_readMany M_found M_shortest M_nodes M_solved M_dropped M_fits M_proofSize M_tooLong M_text M_now M_trial M_read M_diary M_kept M_isKept M_constraint M_readConstraint M_word M_size M_number M_firstOne M_node M_parent M_rule M_child M_proof M_witness M_witnessSize M_built M_copyRow) := hD
  have hS : va_S A s.heap H locs := by rw [hH, hlocs]; exact hS
  clear hH hlocs
  refine lv_iload_n hx hb dX12_leastTotalLength_0 rfl (lv_at hl 1 rfl) ?_
  refine lv_i2l (v := (Int32.toInt64 x1)) hx hb dX12_leastTotalLength_1 rfl ?_
  refine lv_lconst (v := (0 : Int64)) hx hb dX12_leastTotalLength_2 (by decide) ?_
  refine lv_ldc2 (v := (3 : Int64)) hx hb hown (hts _ wd5_123) dX12_leastTotalLength_3 ?_
  obtain ⟨t6, hc6, h⟩ := bd1_to h
  refine go_0 (st1 := [.int t6]) (run_S (As := [.long (Int32.toInt64 x1), .long (0 : Int64), .long (3 : Int64)]) (rest := []) X hS (mX12_in g l  (Int32.toInt64 x1) (0 : Int64) (3 : Int64) t6 hc6) okX12_in wd5_67 ⟨Nat.le_of_ble_eq_true rfl, Nat.le_of_ble_eq_true rfl⟩ ⟨rfl, rfl⟩ nil_P nil_D (nil_F hS hA) rfl hl.1 rfl (Nat.le_of_ble_eq_true rfl) dX12_leastTotalLength_6 ⟨Nat.zero_le _, Nat.zero_le _⟩) hS hA hP rfl (fun H locs hP hS => ?_)
  refine lv_if_ne (tgt := 15) hx hb dX12_leastTotalLength_9 (by decide) (fun q9 => ?_) (fun q9 => ?_)
  · have h := ifF h q9
    refine lv_aload_n hx hb dX12_leastTotalLength_15 rfl (lv_at hl 0 rfl) ?_
    refine lv_aload_n hx hb dX12_leastTotalLength_16 rfl (lv_at hl 0 rfl) ?_
    refine va_get (D := g.1) (ci := 11) (v := .ref aM_now) (C := RX12) (T := TX12) (N := 35) hx hb hts inBX12 hown hK hP 0 rfl rfl 2 (by decide) (hts _ wd4_198) (fun _ h9 => h9) rfl dX12_leastTotalLength_17 ?_
    refine lv_iload_n hx hb dX12_leastTotalLength_20 rfl (lv_at hl 1 rfl) ?_
    obtain ⟨M_found_21, M_shortest_21, M_word_21, M_size_21, M_number_21, M_firstOne_21, hc21, h⟩ := bd6_to h
    refine go_A (st1 := []) (run_V (As := [.ref aM_now, .int x1]) (rest := []) X hS (mX12_lookThrough_now g l  aM aM_text aM_now aM_trial aM_read aM_diary aM_kept aM_isKept aM_constraint aM_readConstraint aM_word aM_size aM_number aM_firstOne aM_node aM_parent aM_rule aM_child aM_proof aM_witness aM_witnessSize aM_built aM_copyRow M_length M_acts M_next M_many M_readMany M_found M_shortest M_nodes M_solved M_dropped M_fits M_proofSize M_tooLong M_text M_now M_trial M_read M_diary M_kept M_isKept M_constraint M_readConstraint M_word M_size M_number M_firstOne M_node M_parent M_rule M_child M_proof M_witness M_witnessSize M_built M_copyRow x1 M_found_21 M_shortest_21 M_word_21 M_size_21 M_number_21 M_firstOne_21 hc21) okX12_lookThrough wd5_193 ⟨Nat.le_of_ble_eq_true rfl, Nat.le_of_ble_eq_true rfl⟩ ⟨rfl, rfl⟩ (va_recv hK hP (ci := 11) (q0 := 0) rfl rfl) hP hD (all_F hS hA hD) rfl hl.1 rfl (Nat.le_of_ble_eq_true rfl) dX12_leastTotalLength_21 ⟨Nat.zero_le _, Nat.zero_le _⟩) hS (all_F hS hA hD) rfl (fun H locs hP hD hS => ?_)
    refine lv_aload_n hx hb dX12_leastTotalLength_24 rfl (lv_at hl 0 rfl) ?_
    refine va_get (D := g.1) (ci := 11) (v := .int M_shortest_21) (C := RX12) (T := TX12) (N := 35) hx hb hts inBX12 hown hK hP 0 rfl rfl 19 (by decide) (hts _ wd4_215) (fun _ h9 => h9) rfl dX12_leastTotalLength_25 ?_
    have h : some (M_shortest_21, M_found_21, M_shortest_21, M_word_21, M_size_21, M_number_21, M_firstOne_21) = some (r, M_found_o, M_shortest_o, M_word_o, M_size_o, M_number_o, M_firstOne_o) := h
    cases h
    exact hret _ _ _ _ hP hD hS dX12_leastTotalLength_28
  have h := ifT h q9
  refine lv_bipush (v := ((-2) : Int32)) hx hb dX12_leastTotalLength_12 (by decide) ?_
  have h : some (((-2) : Int32), M_found, M_shortest, M_word, M_size, M_number, M_firstOne) = some (r, M_found_o, M_shortest_o, M_word_o, M_size_o, M_number_o, M_firstOne_o) := h
  cases h
  exact hret _ _ _ _ hP hD hS dX12_leastTotalLength_14
set_option maxHeartbeats 4000000 in
set_option maxRecDepth 100000 in
theorem mX12_countLengths (g : GP) (l : Launch) (aM aM_text aM_now aM_trial aM_read aM_diary aM_kept aM_isKept aM_constraint aM_readConstraint aM_word aM_size aM_number aM_firstOne aM_node aM_parent aM_rule aM_child aM_proof aM_witness aM_witnessSize aM_built aM_copyRow : Nat) (M_length : Int32) (M_acts : Int32) (M_next : Int32) (M_many : Int32) (M_readMany : Int32) (M_found : Int32) (M_shortest : Int32) (M_nodes : Int32) (M_solved : Int32) (M_dropped : Int32) (M_fits : Int32) (M_proofSize : Int32) (M_tooLong : Int32) (M_text : Nat → Int32) (M_now : Nat → Int32) (M_trial : Nat → Int32) (M_read : Nat → Int32) (M_diary : Nat → Int32) (M_kept : Nat → Int32) (M_isKept : Nat → Int32) (M_constraint : Nat → Int32) (M_readConstraint : Nat → Int32) (M_word : Nat → Int32) (M_size : Nat → Int32) (M_number : Nat → Int32) (M_firstOne : Nat → Int32) (M_node : Nat → Int32) (M_parent : Nat → Int32) (M_rule : Nat → Int32) (M_child : Nat → Int32) (M_proof : Nat → Int32) (M_witness : Nat → Int32) (M_witnessSize : Nat → Int32) (M_built : Nat → Int32) (M_copyRow : Nat → Int32) (x1 : Int32) (r : Int32) (M_number_o : Nat → Int32) (h : fM_countLengths M_many M_now M_constraint M_number x1 = some (r, M_number_o)) : Ct g l yX12_countLengths cX12_countLengths 8 (some .int) rmX12_countLengths [.ref aM, .int x1] (wX12 g aM aM_text aM_now aM_trial aM_read aM_diary aM_kept aM_isKept aM_constraint aM_readConstraint aM_word aM_size aM_number aM_firstOne aM_node aM_parent aM_rule aM_child aM_proof aM_witness aM_witnessSize aM_built aM_copyRow M_length M_acts M_next M_many M_readMany M_found M_shortest M_nodes M_solved M_dropped M_fits M_proofSize M_tooLong M_text M_now M_trial M_read M_diary M_kept M_isKept M_constraint M_readConstraint M_word M_size M_number M_firstOne M_node M_parent M_rule M_child M_proof M_witness M_witnessSize M_built M_copyRow) (some (.int r)) (wX12 g aM aM_text aM_now aM_trial aM_read aM_diary aM_kept aM_isKept aM_constraint aM_readConstraint aM_word aM_size aM_number aM_firstOne aM_node aM_parent aM_rule aM_child aM_proof aM_witness aM_witnessSize aM_built aM_copyRow M_length M_acts M_next M_many M_readMany M_found M_shortest M_nodes M_solved M_dropped M_fits M_proofSize M_tooLong M_text M_now M_trial M_read M_diary M_kept M_isKept M_constraint M_readConstraint M_word M_size M_number_o M_firstOne M_node M_parent M_rule M_child M_proof M_witness M_witnessSize M_built M_copyRow) := by
  refine Ct.introI (by decide) (Nat.le_of_ble_eq_true rfl) ?_
  intro p e s m below meth c A QQ ls hyp hret
  obtain ⟨hx, hb, hml, hts, hown, hA, hE, hP, hD, hl⟩ := hyp
  have hK := hE.1
  have hS : va_S A s.heap s.heap [] := va_S.rf
  have X : Here g p s m c cX12_countLengths 8 ([.ref aM, .int x1] : List Value).toArray RX12 A := ⟨⟨hx, hb, hml, hown, hts⟩, hE, hA⟩
  have L80 : ∀ (n80 : Nat), ∀ (M_number : Nat → Int32) (v2 : Int32) (v3 : Int32) (v4 : Int32) (ls : Array Slot) (H : Heap) (locs : List Loc), lv_has ls 8 [(0, .ref aM), (1, .int x1), (2, .int v2), (3, .int v3), (4, .int v4)] → va_P g.1 vwCl (wX12 g aM aM_text aM_now aM_trial aM_read aM_diary aM_kept aM_isKept aM_constraint aM_readConstraint aM_word aM_size aM_number aM_firstOne aM_node aM_parent aM_rule aM_child aM_proof aM_witness aM_witnessSize aM_built aM_copyRow M_length M_acts M_next M_many M_readMany M_found M_shortest M_nodes M_solved M_dropped M_fits M_proofSize M_tooLong M_text M_now M_trial M_read M_diary M_kept M_isKept M_constraint M_readConstraint M_word M_size M_number M_firstOne M_node M_parent M_rule M_child M_proof M_witness M_witnessSize M_built M_copyRow) H → va_D A (wX12 g aM aM_text aM_now aM_trial aM_read aM_diary aM_kept aM_isKept aM_constraint aM_readConstraint aM_word aM_size aM_number aM_firstOne aM_node aM_parent aM_rule aM_child aM_proof aM_witness aM_witnessSize aM_built aM_copyRow M_length M_acts M_next M_many M_readMany M_found M_shortest M_nodes M_solved M_dropped M_fits M_proofSize M_tooLong M_text M_now M_trial M_read M_diary M_kept M_isKept M_constraint M_readConstraint M_word M_size M_number M_firstOne M_node M_parent M_rule M_child M_proof M_witness M_witnessSize M_built M_copyRow) → va_S A s.heap H locs → fx3 (fM_countLengths_80 M_many M_now M_constraint x1 v2) n80 M_number v3 v4 = some (r, M_number_o) → W p l e rmX12_countLengths s m ([.ref aM, .int x1] : List Value).toArray below meth c H locs 0 0 QQ (F0 m 80 ls []) := by
    intro n80
    induction n80 with
    | zero => intro M_number v2 v3 v4 ls H locs hl hP hD hS h; exact fx3_0 h
    | succ n80 ih80 =>
      intro M_number v2 v3 v4 ls H locs hl hP hD hS h
      have h := (fx3_s (fM_countLengths_80 M_many M_now M_constraint x1 v2) n80 M_number v3 v4).symm.trans h
      have B188 : ∀ (M_number : Nat → Int32) (s0 : Int32) (s1 : Int32) (ls : Array Slot) (H : Heap) (locs : List Loc), lv_has ls 8 [(0, .ref aM), (1, .int x1), (2, .int v2)] → va_P g.1 vwCl (wX12 g aM aM_text aM_now aM_trial aM_read aM_diary aM_kept aM_isKept aM_constraint aM_readConstraint aM_word aM_size aM_number aM_firstOne aM_node aM_parent aM_rule aM_child aM_proof aM_witness aM_witnessSize aM_built aM_copyRow M_length M_acts M_next M_many M_readMany M_found M_shortest M_nodes M_solved M_dropped M_fits M_proofSize M_tooLong M_text M_now M_trial M_read M_diary M_kept M_isKept M_constraint M_readConstraint M_word M_size M_number M_firstOne M_node M_parent M_rule M_child M_proof M_witness M_witnessSize M_built M_copyRow) H → va_D A (wX12 g aM aM_text aM_now aM_trial aM_read aM_diary aM_kept aM_isKept aM_constraint aM_readConstraint aM_word aM_size aM_number aM_firstOne aM_node aM_parent aM_rule aM_child aM_proof aM_witness aM_witnessSize aM_built aM_copyRow M_length M_acts M_next M_many M_readMany M_found M_shortest M_nodes M_solved M_dropped M_fits M_proofSize M_tooLong M_text M_now M_trial M_read M_diary M_kept M_isKept M_constraint M_readConstraint M_word M_size M_number M_firstOne M_node M_parent M_rule M_child M_proof M_witness M_witnessSize M_built M_copyRow) → va_S A s.heap H locs → fM_countLengths_188 (fx3 (fM_countLengths_80 M_many M_now M_constraint x1 v2) n80) M_many M_now M_constraint M_number x1 v2 s0 s1 = some (r, M_number_o) → W p l e rmX12_countLengths s m ([.ref aM, .int x1] : List Value).toArray below meth c H locs 0 0 QQ (F0 m 188 ls [.int s1, .int s0]) := by
        intro M_number s0 s1 ls H locs hl hP hD hS h
        refine lv_iadd hx hb dX12_countLengths_188 ?_
        refine lv_topi (fun t189 et189 => ?_)
        have h := st_to h et189
        refine lv_istore_n (lv' := [(3, .int t189), (0, .ref aM), (1, .int x1), (2, .int v2)]) hx hb dX12_countLengths_189 rfl hl (by decide) rfl (fun ls hl => ?_)
        refine lv_aload_n hx hb dX12_countLengths_190 rfl (lv_at hl 1 rfl) ?_
        refine lv_aload_n hx hb dX12_countLengths_191 rfl (lv_at hl 1 rfl) ?_
        refine va_get (D := g.1) (ci := 11) (v := .ref aM_now) (C := RX12) (T := TX12) (N := 35) hx hb hts inBX12 hown hK hP 0 rfl rfl 2 (by decide) (hts _ wd4_198) (fun _ h9 => h9) rfl dX12_countLengths_192 ?_
        refine lv_iload_n hx hb dX12_countLengths_195 rfl (lv_at hl 2 rfl) ?_
        refine lv_iconst (v := (1 : Int32)) hx hb dX12_countLengths_196 (by decide) ?_
        refine lv_iadd hx hb dX12_countLengths_197 ?_
        obtain ⟨t198, M_number_198, hc198, h⟩ := bd2_to h
        refine go_A (st1 := [.int t198]) (run_V (As := [.ref aM_now, .int (x1 + (1 : Int32))]) (rest := []) X hS (mX12_goOn_now g l  aM aM_text aM_now aM_trial aM_read aM_diary aM_kept aM_isKept aM_constraint aM_readConstraint aM_word aM_size aM_number aM_firstOne aM_node aM_parent aM_rule aM_child aM_proof aM_witness aM_witnessSize aM_built aM_copyRow M_length M_acts M_next M_many M_readMany M_found M_shortest M_nodes M_solved M_dropped M_fits M_proofSize M_tooLong M_text M_now M_trial M_read M_diary M_kept M_isKept M_constraint M_readConstraint M_word M_size M_number M_firstOne M_node M_parent M_rule M_child M_proof M_witness M_witnessSize M_built M_copyRow (x1 + (1 : Int32)) t198 M_number_198 hc198) okX12_goOn wd5_197 ⟨Nat.le_of_ble_eq_true rfl, Nat.le_of_ble_eq_true rfl⟩ ⟨rfl, rfl⟩ (va_recv hK hP (ci := 11) (q0 := 0) rfl rfl) hP hD (all_F hS hA hD) rfl hl.1 rfl (Nat.le_of_ble_eq_true rfl) dX12_countLengths_198 ⟨Nat.zero_le _, Nat.zero_le _⟩) hS (all_F hS hA hD) rfl (fun H locs hP hD hS => ?_)
        refine lv_istore (lv' := [(4, .int t198), (3, .int t189), (0, .ref aM), (1, .int x1), (2, .int v2)]) hx hb dX12_countLengths_201 hl (by decide) rfl (fun ls hl => ?_)
        refine lv_goto (tgt := 80) hx hb dX12_countLengths_203 (by decide) ?_
        exact ih80 M_number_198 v2 t189 t198 ls H locs (lv_sub hl [2, 3, 4, 1, 0] rfl) hP hD hS h
      have L94 : ∀ (n94 : Nat), ∀ (M_number : Nat → Int32) (v3 : Int32) (v5 : Int32) (v6 : Int32) (v7 : Int32) (ls : Array Slot) (H : Heap) (locs : List Loc), lv_has ls 8 [(0, .ref aM), (1, .int x1), (2, .int v2), (3, .int v3), (5, .int v5), (6, .int v6), (7, .int v7)] → va_P g.1 vwCl (wX12 g aM aM_text aM_now aM_trial aM_read aM_diary aM_kept aM_isKept aM_constraint aM_readConstraint aM_word aM_size aM_number aM_firstOne aM_node aM_parent aM_rule aM_child aM_proof aM_witness aM_witnessSize aM_built aM_copyRow M_length M_acts M_next M_many M_readMany M_found M_shortest M_nodes M_solved M_dropped M_fits M_proofSize M_tooLong M_text M_now M_trial M_read M_diary M_kept M_isKept M_constraint M_readConstraint M_word M_size M_number M_firstOne M_node M_parent M_rule M_child M_proof M_witness M_witnessSize M_built M_copyRow) H → va_D A (wX12 g aM aM_text aM_now aM_trial aM_read aM_diary aM_kept aM_isKept aM_constraint aM_readConstraint aM_word aM_size aM_number aM_firstOne aM_node aM_parent aM_rule aM_child aM_proof aM_witness aM_witnessSize aM_built aM_copyRow M_length M_acts M_next M_many M_readMany M_found M_shortest M_nodes M_solved M_dropped M_fits M_proofSize M_tooLong M_text M_now M_trial M_read M_diary M_kept M_isKept M_constraint M_readConstraint M_word M_size M_number M_firstOne M_node M_parent M_rule M_child M_proof M_witness M_witnessSize M_built M_copyRow) → va_S A s.heap H locs → fx3 (fM_countLengths_94 (fx3 (fM_countLengths_80 M_many M_now M_constraint x1 v2) n80) M_many M_now M_constraint M_number x1 v2 v3) n94 v5 v6 v7 = some (r, M_number_o) → W p l e rmX12_countLengths s m ([.ref aM, .int x1] : List Value).toArray below meth c H locs 0 0 QQ (F0 m 94 ls []) := by
        intro n94
        induction n94 with
        | zero => intro M_number v3 v5 v6 v7 ls H locs hl hP hD hS h; exact fx3_0 h
        | succ n94 ih94 =>
          intro M_number v3 v5 v6 v7 ls H locs hl hP hD hS h
          have h := (fx3_s (fM_countLengths_94 (fx3 (fM_countLengths_80 M_many M_now M_constraint x1 v2) n80) M_many M_now M_constraint M_number x1 v2 v3) n94 v5 v6 v7).symm.trans h
          refine lv_iload hx hb dX12_countLengths_94 (lv_at hl 6 rfl) ?_
          refine lv_iconst (v := (4 : Int32)) hx hb dX12_countLengths_96 (by decide) ?_
          refine lv_icmp_ge (tgt := 172) hx hb dX12_countLengths_97 (by decide) (fun q97 => ?_) (fun q97 => ?_)
          · have h := ifT h q97
            refine lv_iload_n hx hb dX12_countLengths_172 rfl (lv_at hl 3 rfl) ?_
            refine lv_iload hx hb dX12_countLengths_173 (lv_at hl 5 rfl) ?_
            refine lv_if_eq (tgt := 187) hx hb dX12_countLengths_175 (by decide) (fun q175 => ?_) (fun q175 => ?_)
            · have h := ifT h q175
              refine lv_iconst (v := (0 : Int32)) hx hb dX12_countLengths_187 (by decide) ?_
              exact B188 M_number v3 (0 : Int32) ls H locs (lv_sub hl [0, 1, 2] rfl) hP hD hS h
            have h := ifF h q175
            refine lv_iload hx hb dX12_countLengths_178 (lv_at hl 4 rfl) ?_
            refine lv_if_ne (tgt := 187) hx hb dX12_countLengths_180 (by decide) (fun q180 => ?_) (fun q180 => ?_)
            · have h := ifF h q180
              refine lv_iconst (v := (0 : Int32)) hx hb dX12_countLengths_187 (by decide) ?_
              exact B188 M_number v3 (0 : Int32) ls H locs (lv_sub hl [0, 1, 2] rfl) hP hD hS h
            have h := ifT h q180
            refine lv_iconst (v := (1 : Int32)) hx hb dX12_countLengths_183 (by decide) ?_
            refine lv_goto (tgt := 188) hx hb dX12_countLengths_184 (by decide) ?_
            exact B188 M_number v3 (1 : Int32) ls H locs (lv_sub hl [0, 1, 2] rfl) hP hD hS h
          have h := ifF h q97
          refine lv_iload hx hb dX12_countLengths_100 (lv_at hl 4 rfl) ?_
          refine lv_aload_n hx hb dX12_countLengths_102 rfl (lv_at hl 0 rfl) ?_
          refine va_get (D := g.1) (ci := 11) (v := .ref aM_number) (C := RX12) (T := TX12) (N := 35) hx hb hts inBX12 hown hK hP 0 rfl rfl 16 (by decide) (hts _ wd4_212) (fun _ h9 => h9) rfl dX12_countLengths_103 ?_
          refine lv_iload hx hb dX12_countLengths_106 (lv_at hl 6 rfl) ?_
          have hin := ld_in h
          refine va_iald hx hb hK hP 12 0 rfl rfl hin dX12_countLengths_108 ?_
          refine lv_topi (fun t108 et108 => ?_)
          have h := ld_to h et108
          refine lv_aload_n hx hb dX12_countLengths_109 rfl (lv_at hl 0 rfl) ?_
          refine va_get (D := g.1) (ci := 11) (v := .ref aM_now) (C := RX12) (T := TX12) (N := 35) hx hb hts inBX12 hown hK hP 0 rfl rfl 2 (by decide) (hts _ wd4_198) (fun _ h9 => h9) rfl dX12_countLengths_110 ?_
          refine lv_iconst (v := (0 : Int32)) hx hb dX12_countLengths_113 (by decide) ?_
          refine lv_iload hx hb dX12_countLengths_114 (lv_at hl 6 rfl) ?_
          refine lv_iconst (v := (2 : Int32)) hx hb dX12_countLengths_116 (by decide) ?_
          refine lv_iadd hx hb dX12_countLengths_117 ?_
          obtain ⟨t118, hc118, h⟩ := bd1_to h
          refine go_P (st1 := [.int t118, .int t108, .int v5]) (W1 := (wX12 g aM aM_text aM_now aM_trial aM_read aM_diary aM_kept aM_isKept aM_constraint aM_readConstraint aM_word aM_size aM_number aM_firstOne aM_node aM_parent aM_rule aM_child aM_proof aM_witness aM_witnessSize aM_built aM_copyRow M_length M_acts M_next M_many M_readMany M_found M_shortest M_nodes M_solved M_dropped M_fits M_proofSize M_tooLong M_text M_now M_trial M_read M_diary M_kept M_isKept M_constraint M_readConstraint M_word M_size M_number M_firstOne M_node M_parent M_rule M_child M_proof M_witness M_witnessSize M_built M_copyRow)) (run_S (As := [.ref aM_now, .int (0 : Int32), .int (v7 + (2 : Int32))]) (rest := [.int t108, .int v5]) X hS (mX12_countOf g l  aM_now M_now (0 : Int32) (v7 + (2 : Int32)) t118 hc118) okX12_countOf wd5_124 ⟨Nat.le_of_ble_eq_true rfl, Nat.le_of_ble_eq_true rfl⟩ ⟨rfl, rfl⟩ (sub_P hP [2] rfl) (hD.sub [2] (by decide) rfl) (va_free hD hS hA [2] rfl) rfl hl.1 rfl (Nat.le_of_ble_eq_true rfl) dX12_countLengths_118 ⟨Nat.zero_le _, Nat.zero_le _⟩) hS (va_free hD hS hA [2] rfl) hP hD [2] [0, 1, 3, 4, 5, 6, 7, 8, 9, 10, 11, 12, 13, 14, 15, 16, 17, 18, 19, 20, 21, 22] [0, 1, 22, 2, 3, 4, 5, 6, 7, 8, 9, 10, 11, 12, 13, 14, 15, 16, 17, 18, 19, 20, 21] rfl rfl (by decide) (by decide) rfl (by decide) rfl (fun H locs hP hD hS => ?_)
          refine lv_aload_n hx hb dX12_countLengths_121 rfl (lv_at hl 0 rfl) ?_
          refine va_get (D := g.1) (ci := 11) (v := .ref aM_now) (C := RX12) (T := TX12) (N := 35) hx hb hts inBX12 hown hK hP 0 rfl rfl 2 (by decide) (hts _ wd4_198) (fun _ h9 => h9) rfl dX12_countLengths_122 ?_
          refine lv_iconst (v := (1 : Int32)) hx hb dX12_countLengths_125 (by decide) ?_
          refine lv_iload hx hb dX12_countLengths_126 (lv_at hl 6 rfl) ?_
          refine lv_iconst (v := (2 : Int32)) hx hb dX12_countLengths_128 (by decide) ?_
          refine lv_iadd hx hb dX12_countLengths_129 ?_
          obtain ⟨t130, hc130, h⟩ := bd1_to h
          refine go_P (st1 := [.int t130, .int t118, .int t108, .int v5]) (W1 := (wX12 g aM aM_text aM_now aM_trial aM_read aM_diary aM_kept aM_isKept aM_constraint aM_readConstraint aM_word aM_size aM_number aM_firstOne aM_node aM_parent aM_rule aM_child aM_proof aM_witness aM_witnessSize aM_built aM_copyRow M_length M_acts M_next M_many M_readMany M_found M_shortest M_nodes M_solved M_dropped M_fits M_proofSize M_tooLong M_text M_now M_trial M_read M_diary M_kept M_isKept M_constraint M_readConstraint M_word M_size M_number M_firstOne M_node M_parent M_rule M_child M_proof M_witness M_witnessSize M_built M_copyRow)) (run_S (As := [.ref aM_now, .int (1 : Int32), .int (v7 + (2 : Int32))]) (rest := [.int t118, .int t108, .int v5]) X hS (mX12_countOf g l  aM_now M_now (1 : Int32) (v7 + (2 : Int32)) t130 hc130) okX12_countOf wd5_124 ⟨Nat.le_of_ble_eq_true rfl, Nat.le_of_ble_eq_true rfl⟩ ⟨rfl, rfl⟩ (sub_P hP [2] rfl) (hD.sub [2] (by decide) rfl) (va_free hD hS hA [2] rfl) rfl hl.1 rfl (Nat.le_of_ble_eq_true rfl) dX12_countLengths_130 ⟨Nat.zero_le _, Nat.zero_le _⟩) hS (va_free hD hS hA [2] rfl) hP hD [2] [0, 1, 3, 4, 5, 6, 7, 8, 9, 10, 11, 12, 13, 14, 15, 16, 17, 18, 19, 20, 21, 22] [0, 1, 22, 2, 3, 4, 5, 6, 7, 8, 9, 10, 11, 12, 13, 14, 15, 16, 17, 18, 19, 20, 21] rfl rfl (by decide) (by decide) rfl (by decide) rfl (fun H locs hP hD hS => ?_)
          refine lv_isub hx hb dX12_countLengths_133 ?_
          refine lv_imul hx hb dX12_countLengths_134 ?_
          refine lv_iadd hx hb dX12_countLengths_135 ?_
          refine lv_topi (fun t136 et136 => ?_)
          have h := st_to h et136
          refine lv_istore (lv' := [(5, .int t136), (0, .ref aM), (1, .int x1), (2, .int v2), (3, .int v3), (6, .int v6), (7, .int v7)]) hx hb dX12_countLengths_136 hl (by decide) rfl (fun ls hl => ?_)
          refine lv_iload hx hb dX12_countLengths_138 (lv_at hl 5 rfl) ?_
          refine lv_if_eq (tgt := 163) hx hb dX12_countLengths_140 (by decide) (fun q140 => ?_) (fun q140 => ?_)
          · have h := ifT h q140
            refine lv_iconst (v := (0 : Int32)) hx hb dX12_countLengths_163 (by decide) ?_
            refine lv_istore (lv' := [(6, .int (0 : Int32)), (5, .int t136), (0, .ref aM), (1, .int x1), (2, .int v2), (3, .int v3), (7, .int v7)]) hx hb dX12_countLengths_164 hl (by decide) rfl (fun ls hl => ?_)
            obtain ⟨t166, et166⟩ : ∃ y : Int32, y = v7 + (1 : Int32) := ⟨_, rfl⟩
            refine lv_iinc (v := t166) (lv' := [(7, .int t166), (6, .int (0 : Int32)), (5, .int t136), (0, .ref aM), (1, .int x1), (2, .int v2), (3, .int v3)]) hx hb dX12_countLengths_166 hl (k := 6) rfl (by rw [et166]; rfl) (by decide) rfl (fun ls hl => ?_)
            have h := st_to h et166
            refine lv_goto (tgt := 94) hx hb dX12_countLengths_169 (by decide) ?_
            exact ih94 M_number v3 t136 (0 : Int32) t166 ls H locs (lv_sub hl [3, 4, 5, 6, 2, 1, 0] rfl) hP hD hS h
          have h := ifF h q140
          refine lv_aload_n hx hb dX12_countLengths_143 rfl (lv_at hl 1 rfl) ?_
          refine lv_iload hx hb dX12_countLengths_144 (lv_at hl 6 rfl) ?_
          refine lv_aload_n hx hb dX12_countLengths_146 rfl (lv_at hl 1 rfl) ?_
          refine va_get (D := g.1) (ci := 11) (v := .ref aM_number) (C := RX12) (T := TX12) (N := 35) hx hb hts inBX12 hown hK hP 0 rfl rfl 16 (by decide) (hts _ wd4_212) (fun _ h9 => h9) rfl dX12_countLengths_147 ?_
          refine lv_iload hx hb dX12_countLengths_150 (lv_at hl 6 rfl) ?_
          have hin := ld_in h
          refine va_iald hx hb hK hP 12 0 rfl rfl hin dX12_countLengths_152 ?_
          refine lv_topi (fun t152 et152 => ?_)
          have h := ld_to h et152
          obtain ⟨t153, hc153, h⟩ := bd1_to h
          refine go_A (st1 := [.int t153]) (run_V (As := [.int v7, .int t152]) (rest := []) X hS (mX12_holds g l  aM aM_text aM_now aM_trial aM_read aM_diary aM_kept aM_isKept aM_constraint aM_readConstraint aM_word aM_size aM_number aM_firstOne aM_node aM_parent aM_rule aM_child aM_proof aM_witness aM_witnessSize aM_built aM_copyRow M_length M_acts M_next M_many M_readMany M_found M_shortest M_nodes M_solved M_dropped M_fits M_proofSize M_tooLong M_text M_now M_trial M_read M_diary M_kept M_isKept M_constraint M_readConstraint M_word M_size M_number M_firstOne M_node M_parent M_rule M_child M_proof M_witness M_witnessSize M_built M_copyRow v7 t152 t153 hc153) okX12_holds wd5_185 ⟨Nat.le_of_ble_eq_true rfl, Nat.le_of_ble_eq_true rfl⟩ ⟨rfl, rfl⟩ (va_recv hK hP (ci := 11) (q0 := 0) rfl rfl) hP hD (all_F hS hA hD) rfl hl.1 rfl (Nat.le_of_ble_eq_true rfl) dX12_countLengths_153 ⟨Nat.zero_le _, Nat.zero_le _⟩) hS (all_F hS hA hD) rfl (fun H locs hP hD hS => ?_)
          refine lv_if_eq (tgt := 163) hx hb dX12_countLengths_156 (by decide) (fun q156 => ?_) (fun q156 => ?_)
          · have h := ifT h q156
            refine lv_iconst (v := (0 : Int32)) hx hb dX12_countLengths_163 (by decide) ?_
            refine lv_istore (lv' := [(6, .int (0 : Int32)), (5, .int t136), (0, .ref aM), (1, .int x1), (2, .int v2), (3, .int v3), (7, .int v7)]) hx hb dX12_countLengths_164 hl (by decide) rfl (fun ls hl => ?_)
            obtain ⟨t166, et166⟩ : ∃ y : Int32, y = v7 + (1 : Int32) := ⟨_, rfl⟩
            refine lv_iinc (v := t166) (lv' := [(7, .int t166), (6, .int (0 : Int32)), (5, .int t136), (0, .ref aM), (1, .int x1), (2, .int v2), (3, .int v3)]) hx hb dX12_countLengths_166 hl (k := 6) rfl (by rw [et166]; rfl) (by decide) rfl (fun ls hl => ?_)
            have h := st_to h et166
            refine lv_goto (tgt := 94) hx hb dX12_countLengths_169 (by decide) ?_
            exact ih94 M_number v3 t136 (0 : Int32) t166 ls H locs (lv_sub hl [3, 4, 5, 6, 2, 1, 0] rfl) hP hD hS h
          have h := ifF h q156
          refine lv_iconst (v := (1 : Int32)) hx hb dX12_countLengths_159 (by decide) ?_
          refine lv_goto (tgt := 164) hx hb dX12_countLengths_160 (by decide) ?_
          refine lv_istore (lv' := [(6, .int (1 : Int32)), (5, .int t136), (0, .ref aM), (1, .int x1), (2, .int v2), (3, .int v3), (7, .int v7)]) hx hb dX12_countLengths_164 hl (by decide) rfl (fun ls hl => ?_)
          obtain ⟨t166, et166⟩ : ∃ y : Int32, y = v7 + (1 : Int32) := ⟨_, rfl⟩
          refine lv_iinc (v := t166) (lv' := [(7, .int t166), (6, .int (1 : Int32)), (5, .int t136), (0, .ref aM), (1, .int x1), (2, .int v2), (3, .int v3)]) hx hb dX12_countLengths_166 hl (k := 6) rfl (by rw [et166]; rfl) (by decide) rfl (fun ls hl => ?_)
          have h := st_to h et166
          refine lv_goto (tgt := 94) hx hb dX12_countLengths_169 (by decide) ?_
          exact ih94 M_number v3 t136 (1 : Int32) t166 ls H locs (lv_sub hl [3, 4, 5, 6, 2, 1, 0] rfl) hP hD hS h
      refine lv_iload hx hb dX12_countLengths_80 (lv_at hl 4 rfl) ?_
      refine lv_if_eq (tgt := 206) hx hb dX12_countLengths_82 (by decide) (fun q82 => ?_) (fun q82 => ?_)
      · have h := ifT h q82
        refine lv_iload_n hx hb dX12_countLengths_206 rfl (lv_at hl 3 rfl) ?_
        have h : some (v3, M_number) = some (r, M_number_o) := h
        cases h
        exact hret _ _ _ _ hP hD hS dX12_countLengths_207
      have h := ifF h q82
      refine lv_iload_n hx hb dX12_countLengths_85 rfl (lv_at hl 2 rfl) ?_
      refine lv_istore (lv' := [(5, .int v2), (0, .ref aM), (1, .int x1), (2, .int v2), (3, .int v3), (4, .int v4)]) hx hb dX12_countLengths_86 hl (by decide) rfl (fun ls hl => ?_)
      refine lv_iconst (v := (1 : Int32)) hx hb dX12_countLengths_88 (by decide) ?_
      refine lv_istore (lv' := [(6, .int (1 : Int32)), (5, .int v2), (0, .ref aM), (1, .int x1), (2, .int v2), (3, .int v3), (4, .int v4)]) hx hb dX12_countLengths_89 hl (by decide) rfl (fun ls hl => ?_)
      refine lv_iconst (v := (0 : Int32)) hx hb dX12_countLengths_91 (by decide) ?_
      refine lv_istore (lv' := [(7, .int (0 : Int32)), (6, .int (1 : Int32)), (5, .int v2), (0, .ref aM), (1, .int x1), (2, .int v2), (3, .int v3), (4, .int v4)]) hx hb dX12_countLengths_92 hl (by decide) rfl (fun ls hl => ?_)
      exact L94 FU M_number v3 v2 (1 : Int32) (0 : Int32) ls H locs (lv_sub hl [3, 4, 5, 6, 2, 1, 0] rfl) hP hD hS h
  have L57 : ∀ (n57 : Nat), ∀ (M_number : Nat → Int32) (v2 : Int32) (v3 : Int32) (ls : Array Slot) (H : Heap) (locs : List Loc), lv_has ls 8 [(0, .ref aM), (1, .int x1), (2, .int v2), (3, .int v3)] → va_P g.1 vwCl (wX12 g aM aM_text aM_now aM_trial aM_read aM_diary aM_kept aM_isKept aM_constraint aM_readConstraint aM_word aM_size aM_number aM_firstOne aM_node aM_parent aM_rule aM_child aM_proof aM_witness aM_witnessSize aM_built aM_copyRow M_length M_acts M_next M_many M_readMany M_found M_shortest M_nodes M_solved M_dropped M_fits M_proofSize M_tooLong M_text M_now M_trial M_read M_diary M_kept M_isKept M_constraint M_readConstraint M_word M_size M_number M_firstOne M_node M_parent M_rule M_child M_proof M_witness M_witnessSize M_built M_copyRow) H → va_D A (wX12 g aM aM_text aM_now aM_trial aM_read aM_diary aM_kept aM_isKept aM_constraint aM_readConstraint aM_word aM_size aM_number aM_firstOne aM_node aM_parent aM_rule aM_child aM_proof aM_witness aM_witnessSize aM_built aM_copyRow M_length M_acts M_next M_many M_readMany M_found M_shortest M_nodes M_solved M_dropped M_fits M_proofSize M_tooLong M_text M_now M_trial M_read M_diary M_kept M_isKept M_constraint M_readConstraint M_word M_size M_number M_firstOne M_node M_parent M_rule M_child M_proof M_witness M_witnessSize M_built M_copyRow) → va_S A s.heap H locs → fx2 (fM_countLengths_57 M_many M_now M_constraint x1 v2) n57 M_number v3 = some (r, M_number_o) → W p l e rmX12_countLengths s m ([.ref aM, .int x1] : List Value).toArray below meth c H locs 0 0 QQ (F0 m 57 ls []) := by
    intro n57
    induction n57 with
    | zero => intro M_number v2 v3 ls H locs hl hP hD hS h; exact fx2_0 h
    | succ n57 ih57 =>
      intro M_number v2 v3 ls H locs hl hP hD hS h
      have h := (fx2_s (fM_countLengths_57 M_many M_now M_constraint x1 v2) n57 M_number v3).symm.trans h
      refine lv_iload_n hx hb dX12_countLengths_57 rfl (lv_at hl 3 rfl) ?_
      refine lv_iconst (v := (4 : Int32)) hx hb dX12_countLengths_58 (by decide) ?_
      refine lv_icmp_ge (tgt := 75) hx hb dX12_countLengths_59 (by decide) (fun q59 => ?_) (fun q59 => ?_)
      · have h := ifT h q59
        refine lv_iconst (v := (0 : Int32)) hx hb dX12_countLengths_75 (by decide) ?_
        refine lv_istore_n (lv' := [(3, .int (0 : Int32)), (0, .ref aM), (1, .int x1), (2, .int v2)]) hx hb dX12_countLengths_76 rfl hl (by decide) rfl (fun ls hl => ?_)
        refine lv_iconst (v := (1 : Int32)) hx hb dX12_countLengths_77 (by decide) ?_
        refine lv_istore (lv' := [(4, .int (1 : Int32)), (3, .int (0 : Int32)), (0, .ref aM), (1, .int x1), (2, .int v2)]) hx hb dX12_countLengths_78 hl (by decide) rfl (fun ls hl => ?_)
        exact L80 FU M_number v2 (0 : Int32) (1 : Int32) ls H locs (lv_sub hl [2, 3, 4, 1, 0] rfl) hP hD hS h
      have h := ifF h q59
      refine lv_aload_n hx hb dX12_countLengths_62 rfl (lv_at hl 0 rfl) ?_
      refine va_get (D := g.1) (ci := 11) (v := .ref aM_number) (C := RX12) (T := TX12) (N := 35) hx hb hts inBX12 hown hK hP 0 rfl rfl 16 (by decide) (hts _ wd4_212) (fun _ h9 => h9) rfl dX12_countLengths_63 ?_
      refine lv_iload_n hx hb dX12_countLengths_66 rfl (lv_at hl 3 rfl) ?_
      refine lv_iconst (v := (0 : Int32)) hx hb dX12_countLengths_67 (by decide) ?_
      have hin := sti_in h
      refine va_iast hx hb hK hP hD hS 12 0 rfl rfl hin dX12_countLengths_68 (fun H locs hP hD hS => ?_)
      obtain ⟨M_number_68, eM_number_68⟩ : ∃ y : Nat → Int32, y = upd M_number (Int32.toNatClampNeg v3) (0 : Int32) := ⟨_, rfl⟩
      have h := sti_to h eM_number_68
      have hP : va_P g.1 vwCl (wX12 g aM aM_text aM_now aM_trial aM_read aM_diary aM_kept aM_isKept aM_constraint aM_readConstraint aM_word aM_size aM_number aM_firstOne aM_node aM_parent aM_rule aM_child aM_proof aM_witness aM_witnessSize aM_built aM_copyRow M_length M_acts M_next M_many M_readMany M_found M_shortest M_nodes M_solved M_dropped M_fits M_proofSize M_tooLong M_text M_now M_trial M_read M_diary M_kept M_isKept M_constraint M_readConstraint M_word M_size M_number_68 M_firstOne M_node M_parent M_rule M_child M_proof M_witness M_witnessSize M_built M_copyRow) H := by rw [eM_number_68]; exact hP
      have hD : va_D A (wX12 g aM aM_text aM_now aM_trial aM_read aM_diary aM_kept aM_isKept aM_constraint aM_readConstraint aM_word aM_size aM_number aM_firstOne aM_node aM_parent aM_rule aM_child aM_proof aM_witness aM_witnessSize aM_built aM_copyRow M_length M_acts M_next M_many M_readMany M_found M_shortest M_nodes M_solved M_dropped M_fits M_proofSize M_tooLong M_text M_now M_trial M_read M_diary M_kept M_isKept M_constraint M_readConstraint M_word M_size M_number_68 M_firstOne M_node M_parent M_rule M_child M_proof M_witness M_witnessSize M_built M_copyRow) := by rw [eM_number_68]; exact hD
      obtain ⟨t69, et69⟩ : ∃ y : Int32, y = v3 + (1 : Int32) := ⟨_, rfl⟩
      refine lv_iinc (v := t69) (lv' := [(3, .int t69), (0, .ref aM), (1, .int x1), (2, .int v2)]) hx hb dX12_countLengths_69 hl (k := 3) rfl (by rw [et69]; rfl) (by decide) rfl (fun ls hl => ?_)
      have h := st_to h et69
      refine lv_goto (tgt := 57) hx hb dX12_countLengths_72 (by decide) ?_
      exact ih57 M_number_68 v2 t69 ls H locs (lv_sub hl [1, 2, 3, 0] rfl) hP hD hS h
  have hl : lv_has ls 8 [(0, .ref aM), (1, .int x1)] := hl
  obtain ⟨H, hH⟩ : ∃ H, H = s.heap := ⟨_, rfl⟩
  obtain ⟨locs, hlocs⟩ : ∃ l : List Loc, l = [] := ⟨_, rfl⟩
  rw [show W p l e rmX12_countLengths s m ([.ref aM, .int x1] : List Value).toArray below meth c s.heap [] 0 0 QQ (F0 m 0 ls []) = W p l e rmX12_countLengths s m ([.ref aM, .int x1] : List Value).toArray below meth c H locs 0 0 QQ (F0 m 0 ls []) by rw [hH, hlocs]]
  have hP : va_P g.1 vwCl (wX12 g aM aM_text aM_now aM_trial aM_read aM_diary aM_kept aM_isKept aM_constraint aM_readConstraint aM_word aM_size aM_number aM_firstOne aM_node aM_parent aM_rule aM_child aM_proof aM_witness aM_witnessSize aM_built aM_copyRow M_length M_acts M_next M_many M_readMany M_found M_shortest M_nodes M_solved M_dropped M_fits M_proofSize M_tooLong M_text M_now M_trial M_read M_diary M_kept M_isKept M_constraint M_readConstraint M_word M_size M_number M_firstOne M_node M_parent M_rule M_child M_proof M_witness M_witnessSize M_built M_copyRow) H := by rw [hH]; exact hP
  have hD : va_D A (wX12 g aM aM_text aM_now aM_trial aM_read aM_diary aM_kept aM_isKept aM_constraint aM_readConstraint aM_word aM_size aM_number aM_firstOne aM_node aM_parent aM_rule aM_child aM_proof aM_witness aM_witnessSize aM_built aM_copyRow M_length M_acts M_next M_many M_readMany M_found M_shortest M_nodes M_solved M_dropped M_fits M_proofSize M_tooLong M_text M_now M_trial M_read M_diary M_kept M_isKept M_constraint M_readConstraint M_word M_size M_number M_firstOne M_node M_parent M_rule M_child M_proof M_witness M_witnessSize M_built M_copyRow) := hD
  have hS : va_S A s.heap H locs := by rw [hH, hlocs]; exact hS
  clear hH hlocs
  refine lv_iload_n hx hb dX12_countLengths_0 rfl (lv_at hl 1 rfl) ?_
  refine lv_i2l (v := (Int32.toInt64 x1)) hx hb dX12_countLengths_1 rfl ?_
  refine lv_lconst (v := (0 : Int64)) hx hb dX12_countLengths_2 (by decide) ?_
  refine lv_ldc2 (v := (9 : Int64)) hx hb hown (hts _ wd5_216) dX12_countLengths_3 ?_
  obtain ⟨t6, hc6, h⟩ := bd1_to h
  refine go_0 (st1 := [.int t6]) (run_S (As := [.long (Int32.toInt64 x1), .long (0 : Int64), .long (9 : Int64)]) (rest := []) X hS (mX12_in g l  (Int32.toInt64 x1) (0 : Int64) (9 : Int64) t6 hc6) okX12_in wd5_67 ⟨Nat.le_of_ble_eq_true rfl, Nat.le_of_ble_eq_true rfl⟩ ⟨rfl, rfl⟩ nil_P nil_D (nil_F hS hA) rfl hl.1 rfl (Nat.le_of_ble_eq_true rfl) dX12_countLengths_6 ⟨Nat.zero_le _, Nat.zero_le _⟩) hS hA hP rfl (fun H locs hP hS => ?_)
  refine lv_if_ne (tgt := 15) hx hb dX12_countLengths_9 (by decide) (fun q9 => ?_) (fun q9 => ?_)
  · have h := ifF h q9
    refine lv_aload_n hx hb dX12_countLengths_15 rfl (lv_at hl 0 rfl) ?_
    refine va_get (D := g.1) (ci := 11) (v := .ref aM_now) (C := RX12) (T := TX12) (N := 35) hx hb hts inBX12 hown hK hP 0 rfl rfl 2 (by decide) (hts _ wd4_198) (fun _ h9 => h9) rfl dX12_countLengths_16 ?_
    refine lv_iconst (v := (0 : Int32)) hx hb dX12_countLengths_19 (by decide) ?_
    refine lv_iconst (v := (0 : Int32)) hx hb dX12_countLengths_20 (by decide) ?_
    obtain ⟨t21, hc21, h⟩ := bd1_to h
    refine go_P (st1 := [.int t21]) (W1 := (wX12 g aM aM_text aM_now aM_trial aM_read aM_diary aM_kept aM_isKept aM_constraint aM_readConstraint aM_word aM_size aM_number aM_firstOne aM_node aM_parent aM_rule aM_child aM_proof aM_witness aM_witnessSize aM_built aM_copyRow M_length M_acts M_next M_many M_readMany M_found M_shortest M_nodes M_solved M_dropped M_fits M_proofSize M_tooLong M_text M_now M_trial M_read M_diary M_kept M_isKept M_constraint M_readConstraint M_word M_size M_number M_firstOne M_node M_parent M_rule M_child M_proof M_witness M_witnessSize M_built M_copyRow)) (run_S (As := [.ref aM_now, .int (0 : Int32), .int (0 : Int32)]) (rest := []) X hS (mX12_countOf g l  aM_now M_now (0 : Int32) (0 : Int32) t21 hc21) okX12_countOf wd5_124 ⟨Nat.le_of_ble_eq_true rfl, Nat.le_of_ble_eq_true rfl⟩ ⟨rfl, rfl⟩ (sub_P hP [2] rfl) (hD.sub [2] (by decide) rfl) (va_free hD hS hA [2] rfl) rfl hl.1 rfl (Nat.le_of_ble_eq_true rfl) dX12_countLengths_21 ⟨Nat.zero_le _, Nat.zero_le _⟩) hS (va_free hD hS hA [2] rfl) hP hD [2] [0, 1, 3, 4, 5, 6, 7, 8, 9, 10, 11, 12, 13, 14, 15, 16, 17, 18, 19, 20, 21, 22] [0, 1, 22, 2, 3, 4, 5, 6, 7, 8, 9, 10, 11, 12, 13, 14, 15, 16, 17, 18, 19, 20, 21] rfl rfl (by decide) (by decide) rfl (by decide) rfl (fun H locs hP hD hS => ?_)
    refine lv_aload_n hx hb dX12_countLengths_24 rfl (lv_at hl 0 rfl) ?_
    refine va_get (D := g.1) (ci := 11) (v := .ref aM_now) (C := RX12) (T := TX12) (N := 35) hx hb hts inBX12 hown hK hP 0 rfl rfl 2 (by decide) (hts _ wd4_198) (fun _ h9 => h9) rfl dX12_countLengths_25 ?_
    refine lv_iconst (v := (0 : Int32)) hx hb dX12_countLengths_28 (by decide) ?_
    refine lv_iconst (v := (1 : Int32)) hx hb dX12_countLengths_29 (by decide) ?_
    obtain ⟨t30, hc30, h⟩ := bd1_to h
    refine go_P (st1 := [.int t30, .int t21]) (W1 := (wX12 g aM aM_text aM_now aM_trial aM_read aM_diary aM_kept aM_isKept aM_constraint aM_readConstraint aM_word aM_size aM_number aM_firstOne aM_node aM_parent aM_rule aM_child aM_proof aM_witness aM_witnessSize aM_built aM_copyRow M_length M_acts M_next M_many M_readMany M_found M_shortest M_nodes M_solved M_dropped M_fits M_proofSize M_tooLong M_text M_now M_trial M_read M_diary M_kept M_isKept M_constraint M_readConstraint M_word M_size M_number M_firstOne M_node M_parent M_rule M_child M_proof M_witness M_witnessSize M_built M_copyRow)) (run_S (As := [.ref aM_now, .int (0 : Int32), .int (1 : Int32)]) (rest := [.int t21]) X hS (mX12_countOf g l  aM_now M_now (0 : Int32) (1 : Int32) t30 hc30) okX12_countOf wd5_124 ⟨Nat.le_of_ble_eq_true rfl, Nat.le_of_ble_eq_true rfl⟩ ⟨rfl, rfl⟩ (sub_P hP [2] rfl) (hD.sub [2] (by decide) rfl) (va_free hD hS hA [2] rfl) rfl hl.1 rfl (Nat.le_of_ble_eq_true rfl) dX12_countLengths_30 ⟨Nat.zero_le _, Nat.zero_le _⟩) hS (va_free hD hS hA [2] rfl) hP hD [2] [0, 1, 3, 4, 5, 6, 7, 8, 9, 10, 11, 12, 13, 14, 15, 16, 17, 18, 19, 20, 21, 22] [0, 1, 22, 2, 3, 4, 5, 6, 7, 8, 9, 10, 11, 12, 13, 14, 15, 16, 17, 18, 19, 20, 21] rfl rfl (by decide) (by decide) rfl (by decide) rfl (fun H locs hP hD hS => ?_)
    refine lv_iadd hx hb dX12_countLengths_33 ?_
    refine lv_aload_n hx hb dX12_countLengths_34 rfl (lv_at hl 0 rfl) ?_
    refine va_get (D := g.1) (ci := 11) (v := .ref aM_now) (C := RX12) (T := TX12) (N := 35) hx hb hts inBX12 hown hK hP 0 rfl rfl 2 (by decide) (hts _ wd4_198) (fun _ h9 => h9) rfl dX12_countLengths_35 ?_
    refine lv_iconst (v := (1 : Int32)) hx hb dX12_countLengths_38 (by decide) ?_
    refine lv_iconst (v := (0 : Int32)) hx hb dX12_countLengths_39 (by decide) ?_
    obtain ⟨t40, hc40, h⟩ := bd1_to h
    refine go_P (st1 := [.int t40, .int (t21 + t30)]) (W1 := (wX12 g aM aM_text aM_now aM_trial aM_read aM_diary aM_kept aM_isKept aM_constraint aM_readConstraint aM_word aM_size aM_number aM_firstOne aM_node aM_parent aM_rule aM_child aM_proof aM_witness aM_witnessSize aM_built aM_copyRow M_length M_acts M_next M_many M_readMany M_found M_shortest M_nodes M_solved M_dropped M_fits M_proofSize M_tooLong M_text M_now M_trial M_read M_diary M_kept M_isKept M_constraint M_readConstraint M_word M_size M_number M_firstOne M_node M_parent M_rule M_child M_proof M_witness M_witnessSize M_built M_copyRow)) (run_S (As := [.ref aM_now, .int (1 : Int32), .int (0 : Int32)]) (rest := [.int (t21 + t30)]) X hS (mX12_countOf g l  aM_now M_now (1 : Int32) (0 : Int32) t40 hc40) okX12_countOf wd5_124 ⟨Nat.le_of_ble_eq_true rfl, Nat.le_of_ble_eq_true rfl⟩ ⟨rfl, rfl⟩ (sub_P hP [2] rfl) (hD.sub [2] (by decide) rfl) (va_free hD hS hA [2] rfl) rfl hl.1 rfl (Nat.le_of_ble_eq_true rfl) dX12_countLengths_40 ⟨Nat.zero_le _, Nat.zero_le _⟩) hS (va_free hD hS hA [2] rfl) hP hD [2] [0, 1, 3, 4, 5, 6, 7, 8, 9, 10, 11, 12, 13, 14, 15, 16, 17, 18, 19, 20, 21, 22] [0, 1, 22, 2, 3, 4, 5, 6, 7, 8, 9, 10, 11, 12, 13, 14, 15, 16, 17, 18, 19, 20, 21] rfl rfl (by decide) (by decide) rfl (by decide) rfl (fun H locs hP hD hS => ?_)
    refine lv_isub hx hb dX12_countLengths_43 ?_
    refine lv_aload_n hx hb dX12_countLengths_44 rfl (lv_at hl 0 rfl) ?_
    refine va_get (D := g.1) (ci := 11) (v := .ref aM_now) (C := RX12) (T := TX12) (N := 35) hx hb hts inBX12 hown hK hP 0 rfl rfl 2 (by decide) (hts _ wd4_198) (fun _ h9 => h9) rfl dX12_countLengths_45 ?_
    refine lv_iconst (v := (1 : Int32)) hx hb dX12_countLengths_48 (by decide) ?_
    refine lv_iconst (v := (1 : Int32)) hx hb dX12_countLengths_49 (by decide) ?_
    obtain ⟨t50, hc50, h⟩ := bd1_to h
    refine go_P (st1 := [.int t50, .int ((t21 + t30) - t40)]) (W1 := (wX12 g aM aM_text aM_now aM_trial aM_read aM_diary aM_kept aM_isKept aM_constraint aM_readConstraint aM_word aM_size aM_number aM_firstOne aM_node aM_parent aM_rule aM_child aM_proof aM_witness aM_witnessSize aM_built aM_copyRow M_length M_acts M_next M_many M_readMany M_found M_shortest M_nodes M_solved M_dropped M_fits M_proofSize M_tooLong M_text M_now M_trial M_read M_diary M_kept M_isKept M_constraint M_readConstraint M_word M_size M_number M_firstOne M_node M_parent M_rule M_child M_proof M_witness M_witnessSize M_built M_copyRow)) (run_S (As := [.ref aM_now, .int (1 : Int32), .int (1 : Int32)]) (rest := [.int ((t21 + t30) - t40)]) X hS (mX12_countOf g l  aM_now M_now (1 : Int32) (1 : Int32) t50 hc50) okX12_countOf wd5_124 ⟨Nat.le_of_ble_eq_true rfl, Nat.le_of_ble_eq_true rfl⟩ ⟨rfl, rfl⟩ (sub_P hP [2] rfl) (hD.sub [2] (by decide) rfl) (va_free hD hS hA [2] rfl) rfl hl.1 rfl (Nat.le_of_ble_eq_true rfl) dX12_countLengths_50 ⟨Nat.zero_le _, Nat.zero_le _⟩) hS (va_free hD hS hA [2] rfl) hP hD [2] [0, 1, 3, 4, 5, 6, 7, 8, 9, 10, 11, 12, 13, 14, 15, 16, 17, 18, 19, 20, 21, 22] [0, 1, 22, 2, 3, 4, 5, 6, 7, 8, 9, 10, 11, 12, 13, 14, 15, 16, 17, 18, 19, 20, 21] rfl rfl (by decide) (by decide) rfl (by decide) rfl (fun H locs hP hD hS => ?_)
    refine lv_isub hx hb dX12_countLengths_53 ?_
    refine lv_topi (fun t54 et54 => ?_)
    have h := st_to h et54
    refine lv_istore_n (lv' := [(2, .int t54), (0, .ref aM), (1, .int x1)]) hx hb dX12_countLengths_54 rfl hl (by decide) rfl (fun ls hl => ?_)
    refine lv_iconst (v := (0 : Int32)) hx hb dX12_countLengths_55 (by decide) ?_
    refine lv_istore_n (lv' := [(3, .int (0 : Int32)), (2, .int t54), (0, .ref aM), (1, .int x1)]) hx hb dX12_countLengths_56 rfl hl (by decide) rfl (fun ls hl => ?_)
    exact L57 FU M_number t54 (0 : Int32) ls H locs (lv_sub hl [2, 3, 1, 0] rfl) hP hD hS h
  have h := ifT h q9
  refine lv_bipush (v := ((-2) : Int32)) hx hb dX12_countLengths_12 (by decide) ?_
  have h : some (((-2) : Int32), M_number) = some (r, M_number_o) := h
  cases h
  exact hret _ _ _ _ hP hD hS dX12_countLengths_14
set_option maxHeartbeats 4000000 in
set_option maxRecDepth 100000 in
theorem mX12_refutedByCounting (g : GP) (l : Launch) (aM aM_text aM_now aM_trial aM_read aM_diary aM_kept aM_isKept aM_constraint aM_readConstraint aM_word aM_size aM_number aM_firstOne aM_node aM_parent aM_rule aM_child aM_proof aM_witness aM_witnessSize aM_built aM_copyRow : Nat) (M_length : Int32) (M_acts : Int32) (M_next : Int32) (M_many : Int32) (M_readMany : Int32) (M_found : Int32) (M_shortest : Int32) (M_nodes : Int32) (M_solved : Int32) (M_dropped : Int32) (M_fits : Int32) (M_proofSize : Int32) (M_tooLong : Int32) (M_text : Nat → Int32) (M_now : Nat → Int32) (M_trial : Nat → Int32) (M_read : Nat → Int32) (M_diary : Nat → Int32) (M_kept : Nat → Int32) (M_isKept : Nat → Int32) (M_constraint : Nat → Int32) (M_readConstraint : Nat → Int32) (M_word : Nat → Int32) (M_size : Nat → Int32) (M_number : Nat → Int32) (M_firstOne : Nat → Int32) (M_node : Nat → Int32) (M_parent : Nat → Int32) (M_rule : Nat → Int32) (M_child : Nat → Int32) (M_proof : Nat → Int32) (M_witness : Nat → Int32) (M_witnessSize : Nat → Int32) (M_built : Nat → Int32) (M_copyRow : Nat → Int32)  (r : Int32) (h : fM_refutedByCounting M_now = some r) : Ct g l yX12_refutedByCounting cX12_refutedByCounting 3 (some .int) rmX12_refutedByCounting [.ref aM] (wX12 g aM aM_text aM_now aM_trial aM_read aM_diary aM_kept aM_isKept aM_constraint aM_readConstraint aM_word aM_size aM_number aM_firstOne aM_node aM_parent aM_rule aM_child aM_proof aM_witness aM_witnessSize aM_built aM_copyRow M_length M_acts M_next M_many M_readMany M_found M_shortest M_nodes M_solved M_dropped M_fits M_proofSize M_tooLong M_text M_now M_trial M_read M_diary M_kept M_isKept M_constraint M_readConstraint M_word M_size M_number M_firstOne M_node M_parent M_rule M_child M_proof M_witness M_witnessSize M_built M_copyRow) (some (.int r)) (wX12 g aM aM_text aM_now aM_trial aM_read aM_diary aM_kept aM_isKept aM_constraint aM_readConstraint aM_word aM_size aM_number aM_firstOne aM_node aM_parent aM_rule aM_child aM_proof aM_witness aM_witnessSize aM_built aM_copyRow M_length M_acts M_next M_many M_readMany M_found M_shortest M_nodes M_solved M_dropped M_fits M_proofSize M_tooLong M_text M_now M_trial M_read M_diary M_kept M_isKept M_constraint M_readConstraint M_word M_size M_number M_firstOne M_node M_parent M_rule M_child M_proof M_witness M_witnessSize M_built M_copyRow) := by
  refine Ct.introI (by decide) (Nat.le_of_ble_eq_true rfl) ?_
  intro p e s m below meth c A QQ ls hyp hret
  obtain ⟨hx, hb, hml, hts, hown, hA, hE, hP, hD, hl⟩ := hyp
  have hK := hE.1
  have hS : va_S A s.heap s.heap [] := va_S.rf
  have X : Here g p s m c cX12_refutedByCounting 3 ([.ref aM] : List Value).toArray RX12 A := ⟨⟨hx, hb, hml, hown, hts⟩, hE, hA⟩
  have B97 : ∀ (v1 : Int32) (s0 : Int32) (ls : Array Slot) (H : Heap) (locs : List Loc), lv_has ls 3 [(1, .int v1)] → va_P g.1 vwCl (wX12 g aM aM_text aM_now aM_trial aM_read aM_diary aM_kept aM_isKept aM_constraint aM_readConstraint aM_word aM_size aM_number aM_firstOne aM_node aM_parent aM_rule aM_child aM_proof aM_witness aM_witnessSize aM_built aM_copyRow M_length M_acts M_next M_many M_readMany M_found M_shortest M_nodes M_solved M_dropped M_fits M_proofSize M_tooLong M_text M_now M_trial M_read M_diary M_kept M_isKept M_constraint M_readConstraint M_word M_size M_number M_firstOne M_node M_parent M_rule M_child M_proof M_witness M_witnessSize M_built M_copyRow) H → va_D A (wX12 g aM aM_text aM_now aM_trial aM_read aM_diary aM_kept aM_isKept aM_constraint aM_readConstraint aM_word aM_size aM_number aM_firstOne aM_node aM_parent aM_rule aM_child aM_proof aM_witness aM_witnessSize aM_built aM_copyRow M_length M_acts M_next M_many M_readMany M_found M_shortest M_nodes M_solved M_dropped M_fits M_proofSize M_tooLong M_text M_now M_trial M_read M_diary M_kept M_isKept M_constraint M_readConstraint M_word M_size M_number M_firstOne M_node M_parent M_rule M_child M_proof M_witness M_witnessSize M_built M_copyRow) → va_S A s.heap H locs → fM_refutedByCounting_97 v1 s0 = some r → W p l e rmX12_refutedByCounting s m ([.ref aM] : List Value).toArray below meth c H locs 0 0 QQ (F0 m 97 ls [.int s0]) := by
    intro v1 s0 ls H locs hl hP hD hS h
    refine lv_istore_n (lv' := [(2, .int s0), (1, .int v1)]) hx hb dX12_refutedByCounting_97 rfl hl (by decide) rfl (fun ls hl => ?_)
    refine lv_iload_n hx hb dX12_refutedByCounting_98 rfl (lv_at hl 1 rfl) ?_
    refine lv_if_eq (tgt := 110) hx hb dX12_refutedByCounting_99 (by decide) (fun q99 => ?_) (fun q99 => ?_)
    · have h := ifT h q99
      refine lv_iconst (v := (0 : Int32)) hx hb dX12_refutedByCounting_110 (by decide) ?_
      have h : some (0 : Int32) = some r := h
      cases h
      exact hret _ _ _ _ hP hD hS dX12_refutedByCounting_111
    have h := ifF h q99
    refine lv_iload_n hx hb dX12_refutedByCounting_102 rfl (lv_at hl 0 rfl) ?_
    refine lv_if_eq (tgt := 110) hx hb dX12_refutedByCounting_103 (by decide) (fun q103 => ?_) (fun q103 => ?_)
    · have h := ifT h q103
      refine lv_iconst (v := (0 : Int32)) hx hb dX12_refutedByCounting_110 (by decide) ?_
      have h : some (0 : Int32) = some r := h
      cases h
      exact hret _ _ _ _ hP hD hS dX12_refutedByCounting_111
    have h := ifF h q103
    refine lv_iconst (v := (1 : Int32)) hx hb dX12_refutedByCounting_106 (by decide) ?_
    refine lv_goto (tgt := 111) hx hb dX12_refutedByCounting_107 (by decide) ?_
    have h : some (1 : Int32) = some r := h
    cases h
    exact hret _ _ _ _ hP hD hS dX12_refutedByCounting_111
  have L4 : ∀ (n4 : Nat), ∀ (v1 : Int32) (v2 : Int32) (ls : Array Slot) (H : Heap) (locs : List Loc), lv_has ls 3 [(0, .ref aM), (1, .int v1), (2, .int v2)] → va_P g.1 vwCl (wX12 g aM aM_text aM_now aM_trial aM_read aM_diary aM_kept aM_isKept aM_constraint aM_readConstraint aM_word aM_size aM_number aM_firstOne aM_node aM_parent aM_rule aM_child aM_proof aM_witness aM_witnessSize aM_built aM_copyRow M_length M_acts M_next M_many M_readMany M_found M_shortest M_nodes M_solved M_dropped M_fits M_proofSize M_tooLong M_text M_now M_trial M_read M_diary M_kept M_isKept M_constraint M_readConstraint M_word M_size M_number M_firstOne M_node M_parent M_rule M_child M_proof M_witness M_witnessSize M_built M_copyRow) H → va_D A (wX12 g aM aM_text aM_now aM_trial aM_read aM_diary aM_kept aM_isKept aM_constraint aM_readConstraint aM_word aM_size aM_number aM_firstOne aM_node aM_parent aM_rule aM_child aM_proof aM_witness aM_witnessSize aM_built aM_copyRow M_length M_acts M_next M_many M_readMany M_found M_shortest M_nodes M_solved M_dropped M_fits M_proofSize M_tooLong M_text M_now M_trial M_read M_diary M_kept M_isKept M_constraint M_readConstraint M_word M_size M_number M_firstOne M_node M_parent M_rule M_child M_proof M_witness M_witnessSize M_built M_copyRow) → va_S A s.heap H locs → fx2 (fM_refutedByCounting_4 M_now) n4 v1 v2 = some r → W p l e rmX12_refutedByCounting s m ([.ref aM] : List Value).toArray below meth c H locs 0 0 QQ (F0 m 4 ls []) := by
    intro n4
    induction n4 with
    | zero => intro v1 v2 ls H locs hl hP hD hS h; exact fx2_0 h
    | succ n4 ih4 =>
      intro v1 v2 ls H locs hl hP hD hS h
      have h := (fx2_s (fM_refutedByCounting_4 M_now) n4 v1 v2).symm.trans h
      refine lv_iload_n hx hb dX12_refutedByCounting_4 rfl (lv_at hl 2 rfl) ?_
      refine lv_iconst (v := (4 : Int32)) hx hb dX12_refutedByCounting_5 (by decide) ?_
      refine lv_icmp_ge (tgt := 50) hx hb dX12_refutedByCounting_6 (by decide) (fun q6 => ?_) (fun q6 => ?_)
      · have h := ifT h q6
        refine lv_aload_n hx hb dX12_refutedByCounting_50 rfl (lv_at hl 0 rfl) ?_
        refine va_get (D := g.1) (ci := 11) (v := .ref aM_now) (C := RX12) (T := TX12) (N := 35) hx hb hts inBX12 hown hK hP 0 rfl rfl 2 (by decide) (hts _ wd4_198) (fun _ h9 => h9) rfl dX12_refutedByCounting_51 ?_
        refine lv_iconst (v := (0 : Int32)) hx hb dX12_refutedByCounting_54 (by decide) ?_
        refine lv_iconst (v := (0 : Int32)) hx hb dX12_refutedByCounting_55 (by decide) ?_
        obtain ⟨t56, hc56, h⟩ := bd1_to h
        refine go_P (st1 := [.int t56]) (W1 := (wX12 g aM aM_text aM_now aM_trial aM_read aM_diary aM_kept aM_isKept aM_constraint aM_readConstraint aM_word aM_size aM_number aM_firstOne aM_node aM_parent aM_rule aM_child aM_proof aM_witness aM_witnessSize aM_built aM_copyRow M_length M_acts M_next M_many M_readMany M_found M_shortest M_nodes M_solved M_dropped M_fits M_proofSize M_tooLong M_text M_now M_trial M_read M_diary M_kept M_isKept M_constraint M_readConstraint M_word M_size M_number M_firstOne M_node M_parent M_rule M_child M_proof M_witness M_witnessSize M_built M_copyRow)) (run_S (As := [.ref aM_now, .int (0 : Int32), .int (0 : Int32)]) (rest := []) X hS (mX12_countOf g l  aM_now M_now (0 : Int32) (0 : Int32) t56 hc56) okX12_countOf wd5_124 ⟨Nat.le_of_ble_eq_true rfl, Nat.le_of_ble_eq_true rfl⟩ ⟨rfl, rfl⟩ (sub_P hP [2] rfl) (hD.sub [2] (by decide) rfl) (va_free hD hS hA [2] rfl) rfl hl.1 rfl (Nat.le_of_ble_eq_true rfl) dX12_refutedByCounting_56 ⟨Nat.zero_le _, Nat.zero_le _⟩) hS (va_free hD hS hA [2] rfl) hP hD [2] [0, 1, 3, 4, 5, 6, 7, 8, 9, 10, 11, 12, 13, 14, 15, 16, 17, 18, 19, 20, 21, 22] [0, 1, 22, 2, 3, 4, 5, 6, 7, 8, 9, 10, 11, 12, 13, 14, 15, 16, 17, 18, 19, 20, 21] rfl rfl (by decide) (by decide) rfl (by decide) rfl (fun H locs hP hD hS => ?_)
        refine lv_aload_n hx hb dX12_refutedByCounting_59 rfl (lv_at hl 0 rfl) ?_
        refine va_get (D := g.1) (ci := 11) (v := .ref aM_now) (C := RX12) (T := TX12) (N := 35) hx hb hts inBX12 hown hK hP 0 rfl rfl 2 (by decide) (hts _ wd4_198) (fun _ h9 => h9) rfl dX12_refutedByCounting_60 ?_
        refine lv_iconst (v := (1 : Int32)) hx hb dX12_refutedByCounting_63 (by decide) ?_
        refine lv_iconst (v := (0 : Int32)) hx hb dX12_refutedByCounting_64 (by decide) ?_
        obtain ⟨t65, hc65, h⟩ := bd1_to h
        refine go_P (st1 := [.int t65, .int t56]) (W1 := (wX12 g aM aM_text aM_now aM_trial aM_read aM_diary aM_kept aM_isKept aM_constraint aM_readConstraint aM_word aM_size aM_number aM_firstOne aM_node aM_parent aM_rule aM_child aM_proof aM_witness aM_witnessSize aM_built aM_copyRow M_length M_acts M_next M_many M_readMany M_found M_shortest M_nodes M_solved M_dropped M_fits M_proofSize M_tooLong M_text M_now M_trial M_read M_diary M_kept M_isKept M_constraint M_readConstraint M_word M_size M_number M_firstOne M_node M_parent M_rule M_child M_proof M_witness M_witnessSize M_built M_copyRow)) (run_S (As := [.ref aM_now, .int (1 : Int32), .int (0 : Int32)]) (rest := [.int t56]) X hS (mX12_countOf g l  aM_now M_now (1 : Int32) (0 : Int32) t65 hc65) okX12_countOf wd5_124 ⟨Nat.le_of_ble_eq_true rfl, Nat.le_of_ble_eq_true rfl⟩ ⟨rfl, rfl⟩ (sub_P hP [2] rfl) (hD.sub [2] (by decide) rfl) (va_free hD hS hA [2] rfl) rfl hl.1 rfl (Nat.le_of_ble_eq_true rfl) dX12_refutedByCounting_65 ⟨Nat.zero_le _, Nat.zero_le _⟩) hS (va_free hD hS hA [2] rfl) hP hD [2] [0, 1, 3, 4, 5, 6, 7, 8, 9, 10, 11, 12, 13, 14, 15, 16, 17, 18, 19, 20, 21, 22] [0, 1, 22, 2, 3, 4, 5, 6, 7, 8, 9, 10, 11, 12, 13, 14, 15, 16, 17, 18, 19, 20, 21] rfl rfl (by decide) (by decide) rfl (by decide) rfl (fun H locs hP hD hS => ?_)
        refine lv_icmp_ne (tgt := 92) hx hb dX12_refutedByCounting_68 (by decide) (fun q68 => ?_) (fun q68 => ?_)
        · have h := ifF h q68
          refine lv_iconst (v := (1 : Int32)) hx hb dX12_refutedByCounting_92 (by decide) ?_
          refine lv_goto (tgt := 97) hx hb dX12_refutedByCounting_93 (by decide) ?_
          exact B97 v1 (1 : Int32) ls H locs (lv_sub hl [1] rfl) hP hD hS h
        have h := ifT h q68
        refine lv_aload_n hx hb dX12_refutedByCounting_71 rfl (lv_at hl 0 rfl) ?_
        refine va_get (D := g.1) (ci := 11) (v := .ref aM_now) (C := RX12) (T := TX12) (N := 35) hx hb hts inBX12 hown hK hP 0 rfl rfl 2 (by decide) (hts _ wd4_198) (fun _ h9 => h9) rfl dX12_refutedByCounting_72 ?_
        refine lv_iconst (v := (0 : Int32)) hx hb dX12_refutedByCounting_75 (by decide) ?_
        refine lv_iconst (v := (1 : Int32)) hx hb dX12_refutedByCounting_76 (by decide) ?_
        obtain ⟨t77, hc77, h⟩ := bd1_to h
        refine go_P (st1 := [.int t77]) (W1 := (wX12 g aM aM_text aM_now aM_trial aM_read aM_diary aM_kept aM_isKept aM_constraint aM_readConstraint aM_word aM_size aM_number aM_firstOne aM_node aM_parent aM_rule aM_child aM_proof aM_witness aM_witnessSize aM_built aM_copyRow M_length M_acts M_next M_many M_readMany M_found M_shortest M_nodes M_solved M_dropped M_fits M_proofSize M_tooLong M_text M_now M_trial M_read M_diary M_kept M_isKept M_constraint M_readConstraint M_word M_size M_number M_firstOne M_node M_parent M_rule M_child M_proof M_witness M_witnessSize M_built M_copyRow)) (run_S (As := [.ref aM_now, .int (0 : Int32), .int (1 : Int32)]) (rest := []) X hS (mX12_countOf g l  aM_now M_now (0 : Int32) (1 : Int32) t77 hc77) okX12_countOf wd5_124 ⟨Nat.le_of_ble_eq_true rfl, Nat.le_of_ble_eq_true rfl⟩ ⟨rfl, rfl⟩ (sub_P hP [2] rfl) (hD.sub [2] (by decide) rfl) (va_free hD hS hA [2] rfl) rfl hl.1 rfl (Nat.le_of_ble_eq_true rfl) dX12_refutedByCounting_77 ⟨Nat.zero_le _, Nat.zero_le _⟩) hS (va_free hD hS hA [2] rfl) hP hD [2] [0, 1, 3, 4, 5, 6, 7, 8, 9, 10, 11, 12, 13, 14, 15, 16, 17, 18, 19, 20, 21, 22] [0, 1, 22, 2, 3, 4, 5, 6, 7, 8, 9, 10, 11, 12, 13, 14, 15, 16, 17, 18, 19, 20, 21] rfl rfl (by decide) (by decide) rfl (by decide) rfl (fun H locs hP hD hS => ?_)
        refine lv_aload_n hx hb dX12_refutedByCounting_80 rfl (lv_at hl 0 rfl) ?_
        refine va_get (D := g.1) (ci := 11) (v := .ref aM_now) (C := RX12) (T := TX12) (N := 35) hx hb hts inBX12 hown hK hP 0 rfl rfl 2 (by decide) (hts _ wd4_198) (fun _ h9 => h9) rfl dX12_refutedByCounting_81 ?_
        refine lv_iconst (v := (1 : Int32)) hx hb dX12_refutedByCounting_84 (by decide) ?_
        refine lv_iconst (v := (1 : Int32)) hx hb dX12_refutedByCounting_85 (by decide) ?_
        obtain ⟨t86, hc86, h⟩ := bd1_to h
        refine go_P (st1 := [.int t86, .int t77]) (W1 := (wX12 g aM aM_text aM_now aM_trial aM_read aM_diary aM_kept aM_isKept aM_constraint aM_readConstraint aM_word aM_size aM_number aM_firstOne aM_node aM_parent aM_rule aM_child aM_proof aM_witness aM_witnessSize aM_built aM_copyRow M_length M_acts M_next M_many M_readMany M_found M_shortest M_nodes M_solved M_dropped M_fits M_proofSize M_tooLong M_text M_now M_trial M_read M_diary M_kept M_isKept M_constraint M_readConstraint M_word M_size M_number M_firstOne M_node M_parent M_rule M_child M_proof M_witness M_witnessSize M_built M_copyRow)) (run_S (As := [.ref aM_now, .int (1 : Int32), .int (1 : Int32)]) (rest := [.int t77]) X hS (mX12_countOf g l  aM_now M_now (1 : Int32) (1 : Int32) t86 hc86) okX12_countOf wd5_124 ⟨Nat.le_of_ble_eq_true rfl, Nat.le_of_ble_eq_true rfl⟩ ⟨rfl, rfl⟩ (sub_P hP [2] rfl) (hD.sub [2] (by decide) rfl) (va_free hD hS hA [2] rfl) rfl hl.1 rfl (Nat.le_of_ble_eq_true rfl) dX12_refutedByCounting_86 ⟨Nat.zero_le _, Nat.zero_le _⟩) hS (va_free hD hS hA [2] rfl) hP hD [2] [0, 1, 3, 4, 5, 6, 7, 8, 9, 10, 11, 12, 13, 14, 15, 16, 17, 18, 19, 20, 21, 22] [0, 1, 22, 2, 3, 4, 5, 6, 7, 8, 9, 10, 11, 12, 13, 14, 15, 16, 17, 18, 19, 20, 21] rfl rfl (by decide) (by decide) rfl (by decide) rfl (fun H locs hP hD hS => ?_)
        refine lv_icmp_eq (tgt := 96) hx hb dX12_refutedByCounting_89 (by decide) (fun q89 => ?_) (fun q89 => ?_)
        · have h := ifT h q89
          refine lv_iconst (v := (0 : Int32)) hx hb dX12_refutedByCounting_96 (by decide) ?_
          exact B97 v1 (0 : Int32) ls H locs (lv_sub hl [1] rfl) hP hD hS h
        have h := ifF h q89
        refine lv_iconst (v := (1 : Int32)) hx hb dX12_refutedByCounting_92 (by decide) ?_
        refine lv_goto (tgt := 97) hx hb dX12_refutedByCounting_93 (by decide) ?_
        exact B97 v1 (1 : Int32) ls H locs (lv_sub hl [1] rfl) hP hD hS h
      have h := ifF h q6
      refine lv_iload_n hx hb dX12_refutedByCounting_9 rfl (lv_at hl 1 rfl) ?_
      refine lv_if_eq (tgt := 42) hx hb dX12_refutedByCounting_10 (by decide) (fun q10 => ?_) (fun q10 => ?_)
      · have h := ifT h q10
        refine lv_iconst (v := (0 : Int32)) hx hb dX12_refutedByCounting_42 (by decide) ?_
        refine lv_istore_n (lv' := [(1, .int (0 : Int32)), (0, .ref aM), (2, .int v2)]) hx hb dX12_refutedByCounting_43 rfl hl (by decide) rfl (fun ls hl => ?_)
        obtain ⟨t44, et44⟩ : ∃ y : Int32, y = v2 + (1 : Int32) := ⟨_, rfl⟩
        refine lv_iinc (v := t44) (lv' := [(2, .int t44), (1, .int (0 : Int32)), (0, .ref aM)]) hx hb dX12_refutedByCounting_44 hl (k := 2) rfl (by rw [et44]; rfl) (by decide) rfl (fun ls hl => ?_)
        have h := st_to h et44
        refine lv_goto (tgt := 4) hx hb dX12_refutedByCounting_47 (by decide) ?_
        exact ih4 (0 : Int32) t44 ls H locs (lv_sub hl [2, 1, 0] rfl) hP hD hS h
      have h := ifF h q10
      refine lv_aload_n hx hb dX12_refutedByCounting_13 rfl (lv_at hl 0 rfl) ?_
      refine va_get (D := g.1) (ci := 11) (v := .ref aM_now) (C := RX12) (T := TX12) (N := 35) hx hb hts inBX12 hown hK hP 0 rfl rfl 2 (by decide) (hts _ wd4_198) (fun _ h9 => h9) rfl dX12_refutedByCounting_14 ?_
      refine lv_iconst (v := (0 : Int32)) hx hb dX12_refutedByCounting_17 (by decide) ?_
      refine lv_iload_n hx hb dX12_refutedByCounting_18 rfl (lv_at hl 2 rfl) ?_
      refine lv_iconst (v := (2 : Int32)) hx hb dX12_refutedByCounting_19 (by decide) ?_
      refine lv_iadd hx hb dX12_refutedByCounting_20 ?_
      obtain ⟨t21, hc21, h⟩ := bd1_to h
      refine go_P (st1 := [.int t21]) (W1 := (wX12 g aM aM_text aM_now aM_trial aM_read aM_diary aM_kept aM_isKept aM_constraint aM_readConstraint aM_word aM_size aM_number aM_firstOne aM_node aM_parent aM_rule aM_child aM_proof aM_witness aM_witnessSize aM_built aM_copyRow M_length M_acts M_next M_many M_readMany M_found M_shortest M_nodes M_solved M_dropped M_fits M_proofSize M_tooLong M_text M_now M_trial M_read M_diary M_kept M_isKept M_constraint M_readConstraint M_word M_size M_number M_firstOne M_node M_parent M_rule M_child M_proof M_witness M_witnessSize M_built M_copyRow)) (run_S (As := [.ref aM_now, .int (0 : Int32), .int (v2 + (2 : Int32))]) (rest := []) X hS (mX12_countOf g l  aM_now M_now (0 : Int32) (v2 + (2 : Int32)) t21 hc21) okX12_countOf wd5_124 ⟨Nat.le_of_ble_eq_true rfl, Nat.le_of_ble_eq_true rfl⟩ ⟨rfl, rfl⟩ (sub_P hP [2] rfl) (hD.sub [2] (by decide) rfl) (va_free hD hS hA [2] rfl) rfl hl.1 rfl (Nat.le_of_ble_eq_true rfl) dX12_refutedByCounting_21 ⟨Nat.zero_le _, Nat.zero_le _⟩) hS (va_free hD hS hA [2] rfl) hP hD [2] [0, 1, 3, 4, 5, 6, 7, 8, 9, 10, 11, 12, 13, 14, 15, 16, 17, 18, 19, 20, 21, 22] [0, 1, 22, 2, 3, 4, 5, 6, 7, 8, 9, 10, 11, 12, 13, 14, 15, 16, 17, 18, 19, 20, 21] rfl rfl (by decide) (by decide) rfl (by decide) rfl (fun H locs hP hD hS => ?_)
      refine lv_aload_n hx hb dX12_refutedByCounting_24 rfl (lv_at hl 0 rfl) ?_
      refine va_get (D := g.1) (ci := 11) (v := .ref aM_now) (C := RX12) (T := TX12) (N := 35) hx hb hts inBX12 hown hK hP 0 rfl rfl 2 (by decide) (hts _ wd4_198) (fun _ h9 => h9) rfl dX12_refutedByCounting_25 ?_
      refine lv_iconst (v := (1 : Int32)) hx hb dX12_refutedByCounting_28 (by decide) ?_
      refine lv_iload_n hx hb dX12_refutedByCounting_29 rfl (lv_at hl 2 rfl) ?_
      refine lv_iconst (v := (2 : Int32)) hx hb dX12_refutedByCounting_30 (by decide) ?_
      refine lv_iadd hx hb dX12_refutedByCounting_31 ?_
      obtain ⟨t32, hc32, h⟩ := bd1_to h
      refine go_P (st1 := [.int t32, .int t21]) (W1 := (wX12 g aM aM_text aM_now aM_trial aM_read aM_diary aM_kept aM_isKept aM_constraint aM_readConstraint aM_word aM_size aM_number aM_firstOne aM_node aM_parent aM_rule aM_child aM_proof aM_witness aM_witnessSize aM_built aM_copyRow M_length M_acts M_next M_many M_readMany M_found M_shortest M_nodes M_solved M_dropped M_fits M_proofSize M_tooLong M_text M_now M_trial M_read M_diary M_kept M_isKept M_constraint M_readConstraint M_word M_size M_number M_firstOne M_node M_parent M_rule M_child M_proof M_witness M_witnessSize M_built M_copyRow)) (run_S (As := [.ref aM_now, .int (1 : Int32), .int (v2 + (2 : Int32))]) (rest := [.int t21]) X hS (mX12_countOf g l  aM_now M_now (1 : Int32) (v2 + (2 : Int32)) t32 hc32) okX12_countOf wd5_124 ⟨Nat.le_of_ble_eq_true rfl, Nat.le_of_ble_eq_true rfl⟩ ⟨rfl, rfl⟩ (sub_P hP [2] rfl) (hD.sub [2] (by decide) rfl) (va_free hD hS hA [2] rfl) rfl hl.1 rfl (Nat.le_of_ble_eq_true rfl) dX12_refutedByCounting_32 ⟨Nat.zero_le _, Nat.zero_le _⟩) hS (va_free hD hS hA [2] rfl) hP hD [2] [0, 1, 3, 4, 5, 6, 7, 8, 9, 10, 11, 12, 13, 14, 15, 16, 17, 18, 19, 20, 21, 22] [0, 1, 22, 2, 3, 4, 5, 6, 7, 8, 9, 10, 11, 12, 13, 14, 15, 16, 17, 18, 19, 20, 21] rfl rfl (by decide) (by decide) rfl (by decide) rfl (fun H locs hP hD hS => ?_)
      refine lv_icmp_ne (tgt := 42) hx hb dX12_refutedByCounting_35 (by decide) (fun q35 => ?_) (fun q35 => ?_)
      · have h := ifF h q35
        refine lv_iconst (v := (0 : Int32)) hx hb dX12_refutedByCounting_42 (by decide) ?_
        refine lv_istore_n (lv' := [(1, .int (0 : Int32)), (0, .ref aM), (2, .int v2)]) hx hb dX12_refutedByCounting_43 rfl hl (by decide) rfl (fun ls hl => ?_)
        obtain ⟨t44, et44⟩ : ∃ y : Int32, y = v2 + (1 : Int32) := ⟨_, rfl⟩
        refine lv_iinc (v := t44) (lv' := [(2, .int t44), (1, .int (0 : Int32)), (0, .ref aM)]) hx hb dX12_refutedByCounting_44 hl (k := 2) rfl (by rw [et44]; rfl) (by decide) rfl (fun ls hl => ?_)
        have h := st_to h et44
        refine lv_goto (tgt := 4) hx hb dX12_refutedByCounting_47 (by decide) ?_
        exact ih4 (0 : Int32) t44 ls H locs (lv_sub hl [2, 1, 0] rfl) hP hD hS h
      have h := ifT h q35
      refine lv_iconst (v := (1 : Int32)) hx hb dX12_refutedByCounting_38 (by decide) ?_
      refine lv_goto (tgt := 43) hx hb dX12_refutedByCounting_39 (by decide) ?_
      refine lv_istore_n (lv' := [(1, .int (1 : Int32)), (0, .ref aM), (2, .int v2)]) hx hb dX12_refutedByCounting_43 rfl hl (by decide) rfl (fun ls hl => ?_)
      obtain ⟨t44, et44⟩ : ∃ y : Int32, y = v2 + (1 : Int32) := ⟨_, rfl⟩
      refine lv_iinc (v := t44) (lv' := [(2, .int t44), (1, .int (1 : Int32)), (0, .ref aM)]) hx hb dX12_refutedByCounting_44 hl (k := 2) rfl (by rw [et44]; rfl) (by decide) rfl (fun ls hl => ?_)
      have h := st_to h et44
      refine lv_goto (tgt := 4) hx hb dX12_refutedByCounting_47 (by decide) ?_
      exact ih4 (1 : Int32) t44 ls H locs (lv_sub hl [2, 1, 0] rfl) hP hD hS h
  have hl : lv_has ls 3 [(0, .ref aM)] := hl
  obtain ⟨H, hH⟩ : ∃ H, H = s.heap := ⟨_, rfl⟩
  obtain ⟨locs, hlocs⟩ : ∃ l : List Loc, l = [] := ⟨_, rfl⟩
  rw [show W p l e rmX12_refutedByCounting s m ([.ref aM] : List Value).toArray below meth c s.heap [] 0 0 QQ (F0 m 0 ls []) = W p l e rmX12_refutedByCounting s m ([.ref aM] : List Value).toArray below meth c H locs 0 0 QQ (F0 m 0 ls []) by rw [hH, hlocs]]
  have hP : va_P g.1 vwCl (wX12 g aM aM_text aM_now aM_trial aM_read aM_diary aM_kept aM_isKept aM_constraint aM_readConstraint aM_word aM_size aM_number aM_firstOne aM_node aM_parent aM_rule aM_child aM_proof aM_witness aM_witnessSize aM_built aM_copyRow M_length M_acts M_next M_many M_readMany M_found M_shortest M_nodes M_solved M_dropped M_fits M_proofSize M_tooLong M_text M_now M_trial M_read M_diary M_kept M_isKept M_constraint M_readConstraint M_word M_size M_number M_firstOne M_node M_parent M_rule M_child M_proof M_witness M_witnessSize M_built M_copyRow) H := by rw [hH]; exact hP
  have hD : va_D A (wX12 g aM aM_text aM_now aM_trial aM_read aM_diary aM_kept aM_isKept aM_constraint aM_readConstraint aM_word aM_size aM_number aM_firstOne aM_node aM_parent aM_rule aM_child aM_proof aM_witness aM_witnessSize aM_built aM_copyRow M_length M_acts M_next M_many M_readMany M_found M_shortest M_nodes M_solved M_dropped M_fits M_proofSize M_tooLong M_text M_now M_trial M_read M_diary M_kept M_isKept M_constraint M_readConstraint M_word M_size M_number M_firstOne M_node M_parent M_rule M_child M_proof M_witness M_witnessSize M_built M_copyRow) := hD
  have hS : va_S A s.heap H locs := by rw [hH, hlocs]; exact hS
  clear hH hlocs
  refine lv_iconst (v := (1 : Int32)) hx hb dX12_refutedByCounting_0 (by decide) ?_
  refine lv_istore_n (lv' := [(1, .int (1 : Int32)), (0, .ref aM)]) hx hb dX12_refutedByCounting_1 rfl hl (by decide) rfl (fun ls hl => ?_)
  refine lv_iconst (v := (0 : Int32)) hx hb dX12_refutedByCounting_2 (by decide) ?_
  refine lv_istore_n (lv' := [(2, .int (0 : Int32)), (1, .int (1 : Int32)), (0, .ref aM)]) hx hb dX12_refutedByCounting_3 rfl hl (by decide) rfl (fun ls hl => ?_)
  exact L4 FU (1 : Int32) (0 : Int32) ls H locs (lv_sub hl [2, 1, 0] rfl) hP hD hS h
set_option maxHeartbeats 4000000 in
set_option maxRecDepth 100000 in
theorem mX12_layNode_trial (g : GP) (l : Launch) (aM aM_text aM_now aM_trial aM_read aM_diary aM_kept aM_isKept aM_constraint aM_readConstraint aM_word aM_size aM_number aM_firstOne aM_node aM_parent aM_rule aM_child aM_proof aM_witness aM_witnessSize aM_built aM_copyRow : Nat) (M_length : Int32) (M_acts : Int32) (M_next : Int32) (M_many : Int32) (M_readMany : Int32) (M_found : Int32) (M_shortest : Int32) (M_nodes : Int32) (M_solved : Int32) (M_dropped : Int32) (M_fits : Int32) (M_proofSize : Int32) (M_tooLong : Int32) (M_text : Nat → Int32) (M_now : Nat → Int32) (M_trial : Nat → Int32) (M_read : Nat → Int32) (M_diary : Nat → Int32) (M_kept : Nat → Int32) (M_isKept : Nat → Int32) (M_constraint : Nat → Int32) (M_readConstraint : Nat → Int32) (M_word : Nat → Int32) (M_size : Nat → Int32) (M_number : Nat → Int32) (M_firstOne : Nat → Int32) (M_node : Nat → Int32) (M_parent : Nat → Int32) (M_rule : Nat → Int32) (M_child : Nat → Int32) (M_proof : Nat → Int32) (M_witness : Nat → Int32) (M_witnessSize : Nat → Int32) (M_built : Nat → Int32) (M_copyRow : Nat → Int32) (x1 : Int32) (R2_o : Nat → Int32) (h : fM_layNode M_node M_trial x1 = some R2_o) : Ct g l yX12_layNode cX12_layNode 4 none rmX12_layNode [.ref aM, .int x1, .ref aM_trial] (wX12 g aM aM_text aM_now aM_trial aM_read aM_diary aM_kept aM_isKept aM_constraint aM_readConstraint aM_word aM_size aM_number aM_firstOne aM_node aM_parent aM_rule aM_child aM_proof aM_witness aM_witnessSize aM_built aM_copyRow M_length M_acts M_next M_many M_readMany M_found M_shortest M_nodes M_solved M_dropped M_fits M_proofSize M_tooLong M_text M_now M_trial M_read M_diary M_kept M_isKept M_constraint M_readConstraint M_word M_size M_number M_firstOne M_node M_parent M_rule M_child M_proof M_witness M_witnessSize M_built M_copyRow) none (wX12 g aM aM_text aM_now aM_trial aM_read aM_diary aM_kept aM_isKept aM_constraint aM_readConstraint aM_word aM_size aM_number aM_firstOne aM_node aM_parent aM_rule aM_child aM_proof aM_witness aM_witnessSize aM_built aM_copyRow M_length M_acts M_next M_many M_readMany M_found M_shortest M_nodes M_solved M_dropped M_fits M_proofSize M_tooLong M_text M_now R2_o M_read M_diary M_kept M_isKept M_constraint M_readConstraint M_word M_size M_number M_firstOne M_node M_parent M_rule M_child M_proof M_witness M_witnessSize M_built M_copyRow) := by
  refine Ct.introV (by decide) (Nat.le_of_ble_eq_true rfl) ?_
  intro p e s m below meth c A QQ ls hyp hret
  obtain ⟨hx, hb, hml, hts, hown, hA, hE, hP, hD, hl⟩ := hyp
  have hK := hE.1
  have hS : va_S A s.heap s.heap [] := va_S.rf
  have X : Here g p s m c cX12_layNode 4 ([.ref aM, .int x1, .ref aM_trial] : List Value).toArray RX12 A := ⟨⟨hx, hb, hml, hown, hts⟩, hE, hA⟩
  have L2 : ∀ (n2 : Nat), ∀ (M_trial : Nat → Int32) (v3 : Int32) (ls : Array Slot) (H : Heap) (locs : List Loc), lv_has ls 4 [(0, .ref aM), (1, .int x1), (2, .ref aM_trial), (3, .int v3)] → va_P g.1 vwCl (wX12 g aM aM_text aM_now aM_trial aM_read aM_diary aM_kept aM_isKept aM_constraint aM_readConstraint aM_word aM_size aM_number aM_firstOne aM_node aM_parent aM_rule aM_child aM_proof aM_witness aM_witnessSize aM_built aM_copyRow M_length M_acts M_next M_many M_readMany M_found M_shortest M_nodes M_solved M_dropped M_fits M_proofSize M_tooLong M_text M_now M_trial M_read M_diary M_kept M_isKept M_constraint M_readConstraint M_word M_size M_number M_firstOne M_node M_parent M_rule M_child M_proof M_witness M_witnessSize M_built M_copyRow) H → va_D A (wX12 g aM aM_text aM_now aM_trial aM_read aM_diary aM_kept aM_isKept aM_constraint aM_readConstraint aM_word aM_size aM_number aM_firstOne aM_node aM_parent aM_rule aM_child aM_proof aM_witness aM_witnessSize aM_built aM_copyRow M_length M_acts M_next M_many M_readMany M_found M_shortest M_nodes M_solved M_dropped M_fits M_proofSize M_tooLong M_text M_now M_trial M_read M_diary M_kept M_isKept M_constraint M_readConstraint M_word M_size M_number M_firstOne M_node M_parent M_rule M_child M_proof M_witness M_witnessSize M_built M_copyRow) → va_S A s.heap H locs → fx2 (fM_layNode_2 M_node x1) n2 M_trial v3 = some R2_o → W p l e rmX12_layNode s m ([.ref aM, .int x1, .ref aM_trial] : List Value).toArray below meth c H locs 0 0 QQ (F0 m 2 ls []) := by
    intro n2
    induction n2 with
    | zero => intro M_trial v3 ls H locs hl hP hD hS h; exact fx2_0 h
    | succ n2 ih2 =>
      intro M_trial v3 ls H locs hl hP hD hS h
      have h := (fx2_s (fM_layNode_2 M_node x1) n2 M_trial v3).symm.trans h
      refine lv_iload_n hx hb dX12_layNode_2 rfl (lv_at hl 3 rfl) ?_
      refine lv_bipush (v := (26 : Int32)) hx hb dX12_layNode_3 (by decide) ?_
      refine lv_icmp_ge (tgt := 28) hx hb dX12_layNode_5 (by decide) (fun q5 => ?_) (fun q5 => ?_)
      · have h := ifT h q5
        have h : some M_trial = some R2_o := h
        cases h
        exact hret _ _ _ _ hP hD hS dX12_layNode_28
      have h := ifF h q5
      refine lv_aload_n hx hb dX12_layNode_8 rfl (lv_at hl 2 rfl) ?_
      refine lv_iload_n hx hb dX12_layNode_9 rfl (lv_at hl 3 rfl) ?_
      refine lv_aload_n hx hb dX12_layNode_10 rfl (lv_at hl 0 rfl) ?_
      refine va_get (D := g.1) (ci := 11) (v := .ref aM_node) (C := RX12) (T := TX12) (N := 35) hx hb hts inBX12 hown hK hP 0 rfl rfl 20 (by decide) (hts _ wd4_216) (fun _ h9 => h9) rfl dX12_layNode_11 ?_
      refine lv_bipush (v := (26 : Int32)) hx hb dX12_layNode_14 (by decide) ?_
      refine lv_iload_n hx hb dX12_layNode_16 rfl (lv_at hl 1 rfl) ?_
      refine lv_imul hx hb dX12_layNode_17 ?_
      refine lv_iload_n hx hb dX12_layNode_18 rfl (lv_at hl 3 rfl) ?_
      refine lv_iadd hx hb dX12_layNode_19 ?_
      have hin := ld_in h
      refine va_iald hx hb hK hP 14 0 rfl rfl hin dX12_layNode_20 ?_
      refine lv_topi (fun t20 et20 => ?_)
      have h := ld_to h et20
      have hin := sti_in h
      refine va_iast hx hb hK hP hD hS 3 0 rfl rfl hin dX12_layNode_21 (fun H locs hP hD hS => ?_)
      obtain ⟨R2_21, eR2_21⟩ : ∃ y : Nat → Int32, y = upd M_trial (Int32.toNatClampNeg v3) t20 := ⟨_, rfl⟩
      have h := sti_to h eR2_21
      have hP : va_P g.1 vwCl (wX12 g aM aM_text aM_now aM_trial aM_read aM_diary aM_kept aM_isKept aM_constraint aM_readConstraint aM_word aM_size aM_number aM_firstOne aM_node aM_parent aM_rule aM_child aM_proof aM_witness aM_witnessSize aM_built aM_copyRow M_length M_acts M_next M_many M_readMany M_found M_shortest M_nodes M_solved M_dropped M_fits M_proofSize M_tooLong M_text M_now R2_21 M_read M_diary M_kept M_isKept M_constraint M_readConstraint M_word M_size M_number M_firstOne M_node M_parent M_rule M_child M_proof M_witness M_witnessSize M_built M_copyRow) H := by rw [eR2_21]; exact hP
      have hD : va_D A (wX12 g aM aM_text aM_now aM_trial aM_read aM_diary aM_kept aM_isKept aM_constraint aM_readConstraint aM_word aM_size aM_number aM_firstOne aM_node aM_parent aM_rule aM_child aM_proof aM_witness aM_witnessSize aM_built aM_copyRow M_length M_acts M_next M_many M_readMany M_found M_shortest M_nodes M_solved M_dropped M_fits M_proofSize M_tooLong M_text M_now R2_21 M_read M_diary M_kept M_isKept M_constraint M_readConstraint M_word M_size M_number M_firstOne M_node M_parent M_rule M_child M_proof M_witness M_witnessSize M_built M_copyRow) := by rw [eR2_21]; exact hD
      obtain ⟨t22, et22⟩ : ∃ y : Int32, y = v3 + (1 : Int32) := ⟨_, rfl⟩
      refine lv_iinc (v := t22) (lv' := [(3, .int t22), (0, .ref aM), (1, .int x1), (2, .ref aM_trial)]) hx hb dX12_layNode_22 hl (k := 3) rfl (by rw [et22]; rfl) (by decide) rfl (fun ls hl => ?_)
      have h := st_to h et22
      refine lv_goto (tgt := 2) hx hb dX12_layNode_25 (by decide) ?_
      exact ih2 R2_21 t22 ls H locs (lv_sub hl [1, 2, 3, 0] rfl) hP hD hS h
  have hl : lv_has ls 4 [(0, .ref aM), (1, .int x1), (2, .ref aM_trial)] := hl
  obtain ⟨H, hH⟩ : ∃ H, H = s.heap := ⟨_, rfl⟩
  obtain ⟨locs, hlocs⟩ : ∃ l : List Loc, l = [] := ⟨_, rfl⟩
  rw [show W p l e rmX12_layNode s m ([.ref aM, .int x1, .ref aM_trial] : List Value).toArray below meth c s.heap [] 0 0 QQ (F0 m 0 ls []) = W p l e rmX12_layNode s m ([.ref aM, .int x1, .ref aM_trial] : List Value).toArray below meth c H locs 0 0 QQ (F0 m 0 ls []) by rw [hH, hlocs]]
  have hP : va_P g.1 vwCl (wX12 g aM aM_text aM_now aM_trial aM_read aM_diary aM_kept aM_isKept aM_constraint aM_readConstraint aM_word aM_size aM_number aM_firstOne aM_node aM_parent aM_rule aM_child aM_proof aM_witness aM_witnessSize aM_built aM_copyRow M_length M_acts M_next M_many M_readMany M_found M_shortest M_nodes M_solved M_dropped M_fits M_proofSize M_tooLong M_text M_now M_trial M_read M_diary M_kept M_isKept M_constraint M_readConstraint M_word M_size M_number M_firstOne M_node M_parent M_rule M_child M_proof M_witness M_witnessSize M_built M_copyRow) H := by rw [hH]; exact hP
  have hD : va_D A (wX12 g aM aM_text aM_now aM_trial aM_read aM_diary aM_kept aM_isKept aM_constraint aM_readConstraint aM_word aM_size aM_number aM_firstOne aM_node aM_parent aM_rule aM_child aM_proof aM_witness aM_witnessSize aM_built aM_copyRow M_length M_acts M_next M_many M_readMany M_found M_shortest M_nodes M_solved M_dropped M_fits M_proofSize M_tooLong M_text M_now M_trial M_read M_diary M_kept M_isKept M_constraint M_readConstraint M_word M_size M_number M_firstOne M_node M_parent M_rule M_child M_proof M_witness M_witnessSize M_built M_copyRow) := hD
  have hS : va_S A s.heap H locs := by rw [hH, hlocs]; exact hS
  clear hH hlocs
  refine lv_iconst (v := (0 : Int32)) hx hb dX12_layNode_0 (by decide) ?_
  refine lv_istore_n (lv' := [(3, .int (0 : Int32)), (0, .ref aM), (1, .int x1), (2, .ref aM_trial)]) hx hb dX12_layNode_1 rfl hl (by decide) rfl (fun ls hl => ?_)
  exact L2 FU M_trial (0 : Int32) ls H locs (lv_sub hl [1, 2, 3, 0] rfl) hP hD hS h
