set_option maxHeartbeats 4000000 in
set_option maxRecDepth 100000 in
theorem mX12_save (g : GP) (l : Launch) (aM aM_text aM_now aM_trial aM_read aM_diary aM_kept aM_isKept aM_constraint aM_readConstraint aM_word aM_size aM_number aM_firstOne aM_node aM_parent aM_rule aM_child aM_proof aM_witness aM_witnessSize aM_built aM_copyRow : Nat) (M_length : Int32) (M_acts : Int32) (M_next : Int32) (M_many : Int32) (M_readMany : Int32) (M_found : Int32) (M_shortest : Int32) (M_nodes : Int32) (M_solved : Int32) (M_dropped : Int32) (M_fits : Int32) (M_proofSize : Int32) (M_tooLong : Int32) (M_text : Nat → Int32) (M_now : Nat → Int32) (M_trial : Nat → Int32) (M_read : Nat → Int32) (M_diary : Nat → Int32) (M_kept : Nat → Int32) (M_isKept : Nat → Int32) (M_constraint : Nat → Int32) (M_readConstraint : Nat → Int32) (M_word : Nat → Int32) (M_size : Nat → Int32) (M_number : Nat → Int32) (M_firstOne : Nat → Int32) (M_node : Nat → Int32) (M_parent : Nat → Int32) (M_rule : Nat → Int32) (M_child : Nat → Int32) (M_proof : Nat → Int32) (M_witness : Nat → Int32) (M_witnessSize : Nat → Int32) (M_built : Nat → Int32) (M_copyRow : Nat → Int32) (x1 : Int32) (r : Int32) (M_kept_o : Nat → Int32) (M_isKept_o : Nat → Int32) (h : fM_save M_now M_kept M_isKept x1 = some (r, M_kept_o, M_isKept_o)) : Ct g l yX12_save cX12_save 3 (some .int) rmX12_save [.ref aM, .int x1] (wX12 g aM aM_text aM_now aM_trial aM_read aM_diary aM_kept aM_isKept aM_constraint aM_readConstraint aM_word aM_size aM_number aM_firstOne aM_node aM_parent aM_rule aM_child aM_proof aM_witness aM_witnessSize aM_built aM_copyRow M_length M_acts M_next M_many M_readMany M_found M_shortest M_nodes M_solved M_dropped M_fits M_proofSize M_tooLong M_text M_now M_trial M_read M_diary M_kept M_isKept M_constraint M_readConstraint M_word M_size M_number M_firstOne M_node M_parent M_rule M_child M_proof M_witness M_witnessSize M_built M_copyRow) (some (.int r)) (wX12 g aM aM_text aM_now aM_trial aM_read aM_diary aM_kept aM_isKept aM_constraint aM_readConstraint aM_word aM_size aM_number aM_firstOne aM_node aM_parent aM_rule aM_child aM_proof aM_witness aM_witnessSize aM_built aM_copyRow M_length M_acts M_next M_many M_readMany M_found M_shortest M_nodes M_solved M_dropped M_fits M_proofSize M_tooLong M_text M_now M_trial M_read M_diary M_kept_o M_isKept_o M_constraint M_readConstraint M_word M_size M_number M_firstOne M_node M_parent M_rule M_child M_proof M_witness M_witnessSize M_built M_copyRow) := by
  refine Ct.introI (by decide) (Nat.le_of_ble_eq_true rfl) ?_
  intro p e s m below meth c A QQ ls hyp hret
  obtain ⟨hx, hb, hml, hts, hown, hA, hE, hP, hD, hl⟩ := hyp
  have hK := hE.1
  have hS : va_S A s.heap s.heap [] := va_S.rf
  have X : Here g p s m c cX12_save 3 ([.ref aM, .int x1] : List Value).toArray RX12 A := ⟨⟨hx, hb, hml, hown, hts⟩, hE, hA⟩
  have L21 : ∀ (n21 : Nat), ∀ (M_kept : Nat → Int32) (M_isKept : Nat → Int32) (v2 : Int32) (ls : Array Slot) (H : Heap) (locs : List Loc), lv_has ls 3 [(0, .ref aM), (1, .int x1), (2, .int v2)] → va_P g.1 vwCl (wX12 g aM aM_text aM_now aM_trial aM_read aM_diary aM_kept aM_isKept aM_constraint aM_readConstraint aM_word aM_size aM_number aM_firstOne aM_node aM_parent aM_rule aM_child aM_proof aM_witness aM_witnessSize aM_built aM_copyRow M_length M_acts M_next M_many M_readMany M_found M_shortest M_nodes M_solved M_dropped M_fits M_proofSize M_tooLong M_text M_now M_trial M_read M_diary M_kept M_isKept M_constraint M_readConstraint M_word M_size M_number M_firstOne M_node M_parent M_rule M_child M_proof M_witness M_witnessSize M_built M_copyRow) H → va_D A (wX12 g aM aM_text aM_now aM_trial aM_read aM_diary aM_kept aM_isKept aM_constraint aM_readConstraint aM_word aM_size aM_number aM_firstOne aM_node aM_parent aM_rule aM_child aM_proof aM_witness aM_witnessSize aM_built aM_copyRow M_length M_acts M_next M_many M_readMany M_found M_shortest M_nodes M_solved M_dropped M_fits M_proofSize M_tooLong M_text M_now M_trial M_read M_diary M_kept M_isKept M_constraint M_readConstraint M_word M_size M_number M_firstOne M_node M_parent M_rule M_child M_proof M_witness M_witnessSize M_built M_copyRow) → va_S A s.heap H locs → fx2 (fM_save_21 M_now M_isKept x1) n21 M_kept v2 = some (r, M_kept_o, M_isKept_o) → W p l e rmX12_save s m ([.ref aM, .int x1] : List Value).toArray below meth c H locs 0 0 QQ (F0 m 21 ls []) := by
    intro n21
    induction n21 with
    | zero => intro M_kept M_isKept v2 ls H locs hl hP hD hS h; exact fx2_0 h
    | succ n21 ih21 =>
      intro M_kept M_isKept v2 ls H locs hl hP hD hS h
      have h := (fx2_s (fM_save_21 M_now M_isKept x1) n21 M_kept v2).symm.trans h
      refine lv_iload_n hx hb dX12_save_21 rfl (lv_at hl 2 rfl) ?_
      refine lv_bipush (v := (26 : Int32)) hx hb dX12_save_22 (by decide) ?_
      refine lv_icmp_ge (tgt := 50) hx hb dX12_save_24 (by decide) (fun q24 => ?_) (fun q24 => ?_)
      · have h := ifT h q24
        refine lv_aload_n hx hb dX12_save_50 rfl (lv_at hl 0 rfl) ?_
        refine va_get (D := g.1) (ci := 11) (v := .ref aM_now) (C := RX12) (T := TX12) (N := 35) hx hb hts inBX12 hown hK hP 0 rfl rfl 2 (by decide) (hts _ wd4_198) (fun _ h9 => h9) rfl dX12_save_51 ?_
        refine lv_iconst (v := (0 : Int32)) hx hb dX12_save_54 (by decide) ?_
        have hin := ld_in h
        refine va_iald hx hb hK hP 2 0 rfl rfl hin dX12_save_55 ?_
        refine lv_topi (fun t55 et55 => ?_)
        have h := ld_to h et55
        refine lv_aload_n hx hb dX12_save_56 rfl (lv_at hl 0 rfl) ?_
        refine va_get (D := g.1) (ci := 11) (v := .ref aM_now) (C := RX12) (T := TX12) (N := 35) hx hb hts inBX12 hown hK hP 0 rfl rfl 2 (by decide) (hts _ wd4_198) (fun _ h9 => h9) rfl dX12_save_57 ?_
        refine lv_iconst (v := (1 : Int32)) hx hb dX12_save_60 (by decide) ?_
        have hin := ld_in h
        refine va_iald hx hb hK hP 2 0 rfl rfl hin dX12_save_61 ?_
        refine lv_topi (fun t61 et61 => ?_)
        have h := ld_to h et61
        refine lv_iadd hx hb dX12_save_62 ?_
        have h : some ((t55 + t61), M_kept, M_isKept) = some (r, M_kept_o, M_isKept_o) := h
        cases h
        exact hret _ _ _ _ hP hD hS dX12_save_63
      have h := ifF h q24
      refine lv_aload_n hx hb dX12_save_27 rfl (lv_at hl 0 rfl) ?_
      refine va_get (D := g.1) (ci := 11) (v := .ref aM_kept) (C := RX12) (T := TX12) (N := 35) hx hb hts inBX12 hown hK hP 0 rfl rfl 8 (by decide) (hts _ wd4_204) (fun _ h9 => h9) rfl dX12_save_28 ?_
      refine lv_bipush (v := (26 : Int32)) hx hb dX12_save_31 (by decide) ?_
      refine lv_iload_n hx hb dX12_save_33 rfl (lv_at hl 1 rfl) ?_
      refine lv_imul hx hb dX12_save_34 ?_
      refine lv_iload_n hx hb dX12_save_35 rfl (lv_at hl 2 rfl) ?_
      refine lv_iadd hx hb dX12_save_36 ?_
      refine lv_aload_n hx hb dX12_save_37 rfl (lv_at hl 0 rfl) ?_
      refine va_get (D := g.1) (ci := 11) (v := .ref aM_now) (C := RX12) (T := TX12) (N := 35) hx hb hts inBX12 hown hK hP 0 rfl rfl 2 (by decide) (hts _ wd4_198) (fun _ h9 => h9) rfl dX12_save_38 ?_
      refine lv_iload_n hx hb dX12_save_41 rfl (lv_at hl 2 rfl) ?_
      have hin := ld_in h
      refine va_iald hx hb hK hP 2 0 rfl rfl hin dX12_save_42 ?_
      refine lv_topi (fun t42 et42 => ?_)
      have h := ld_to h et42
      have hin := sti_in h
      refine va_iast hx hb hK hP hD hS 6 0 rfl rfl hin dX12_save_43 (fun H locs hP hD hS => ?_)
      obtain ⟨M_kept_43, eM_kept_43⟩ : ∃ y : Nat → Int32, y = upd M_kept (Int32.toNatClampNeg (((26 : Int32) * x1) + v2)) t42 := ⟨_, rfl⟩
      have h := sti_to h eM_kept_43
      have hP : va_P g.1 vwCl (wX12 g aM aM_text aM_now aM_trial aM_read aM_diary aM_kept aM_isKept aM_constraint aM_readConstraint aM_word aM_size aM_number aM_firstOne aM_node aM_parent aM_rule aM_child aM_proof aM_witness aM_witnessSize aM_built aM_copyRow M_length M_acts M_next M_many M_readMany M_found M_shortest M_nodes M_solved M_dropped M_fits M_proofSize M_tooLong M_text M_now M_trial M_read M_diary M_kept_43 M_isKept M_constraint M_readConstraint M_word M_size M_number M_firstOne M_node M_parent M_rule M_child M_proof M_witness M_witnessSize M_built M_copyRow) H := by rw [eM_kept_43]; exact hP
      have hD : va_D A (wX12 g aM aM_text aM_now aM_trial aM_read aM_diary aM_kept aM_isKept aM_constraint aM_readConstraint aM_word aM_size aM_number aM_firstOne aM_node aM_parent aM_rule aM_child aM_proof aM_witness aM_witnessSize aM_built aM_copyRow M_length M_acts M_next M_many M_readMany M_found M_shortest M_nodes M_solved M_dropped M_fits M_proofSize M_tooLong M_text M_now M_trial M_read M_diary M_kept_43 M_isKept M_constraint M_readConstraint M_word M_size M_number M_firstOne M_node M_parent M_rule M_child M_proof M_witness M_witnessSize M_built M_copyRow) := by rw [eM_kept_43]; exact hD
      obtain ⟨t44, et44⟩ : ∃ y : Int32, y = v2 + (1 : Int32) := ⟨_, rfl⟩
      refine lv_iinc (v := t44) (lv' := [(2, .int t44), (0, .ref aM), (1, .int x1)]) hx hb dX12_save_44 hl (k := 2) rfl (by rw [et44]; rfl) (by decide) rfl (fun ls hl => ?_)
      have h := st_to h et44
      refine lv_goto (tgt := 21) hx hb dX12_save_47 (by decide) ?_
      exact ih21 M_kept_43 M_isKept t44 ls H locs (lv_sub hl [1, 2, 0] rfl) hP hD hS h
  have hl : lv_has ls 3 [(0, .ref aM), (1, .int x1)] := hl
  obtain ⟨H, hH⟩ : ∃ H, H = s.heap := ⟨_, rfl⟩
  obtain ⟨locs, hlocs⟩ : ∃ l : List Loc, l = [] := ⟨_, rfl⟩
  rw [show W p l e rmX12_save s m ([.ref aM, .int x1] : List Value).toArray below meth c s.heap [] 0 0 QQ (F0 m 0 ls []) = W p l e rmX12_save s m ([.ref aM, .int x1] : List Value).toArray below meth c H locs 0 0 QQ (F0 m 0 ls []) by rw [hH, hlocs]]
  have hP : va_P g.1 vwCl (wX12 g aM aM_text aM_now aM_trial aM_read aM_diary aM_kept aM_isKept aM_constraint aM_readConstraint aM_word aM_size aM_number aM_firstOne aM_node aM_parent aM_rule aM_child aM_proof aM_witness aM_witnessSize aM_built aM_copyRow M_length M_acts M_next M_many M_readMany M_found M_shortest M_nodes M_solved M_dropped M_fits M_proofSize M_tooLong M_text M_now M_trial M_read M_diary M_kept M_isKept M_constraint M_readConstraint M_word M_size M_number M_firstOne M_node M_parent M_rule M_child M_proof M_witness M_witnessSize M_built M_copyRow) H := by rw [hH]; exact hP
  have hD : va_D A (wX12 g aM aM_text aM_now aM_trial aM_read aM_diary aM_kept aM_isKept aM_constraint aM_readConstraint aM_word aM_size aM_number aM_firstOne aM_node aM_parent aM_rule aM_child aM_proof aM_witness aM_witnessSize aM_built aM_copyRow M_length M_acts M_next M_many M_readMany M_found M_shortest M_nodes M_solved M_dropped M_fits M_proofSize M_tooLong M_text M_now M_trial M_read M_diary M_kept M_isKept M_constraint M_readConstraint M_word M_size M_number M_firstOne M_node M_parent M_rule M_child M_proof M_witness M_witnessSize M_built M_copyRow) := hD
  have hS : va_S A s.heap H locs := by rw [hH, hlocs]; exact hS
  clear hH hlocs
  refine lv_iload_n hx hb dX12_save_0 rfl (lv_at hl 1 rfl) ?_
  refine lv_i2l (v := (Int32.toInt64 x1)) hx hb dX12_save_1 rfl ?_
  refine lv_lconst (v := (0 : Int64)) hx hb dX12_save_2 (by decide) ?_
  refine lv_lconst (v := (1 : Int64)) hx hb dX12_save_3 (by decide) ?_
  obtain ⟨t4, hc4, h⟩ := bd1_to h
  refine go_0 (st1 := [.int t4]) (run_S (As := [.long (Int32.toInt64 x1), .long (0 : Int64), .long (1 : Int64)]) (rest := []) X hS (mX12_in g l  (Int32.toInt64 x1) (0 : Int64) (1 : Int64) t4 hc4) okX12_in wd5_67 ⟨Nat.le_of_ble_eq_true rfl, Nat.le_of_ble_eq_true rfl⟩ ⟨rfl, rfl⟩ nil_P nil_D (nil_F hS hA) rfl hl.1 rfl (Nat.le_of_ble_eq_true rfl) dX12_save_4 ⟨Nat.zero_le _, Nat.zero_le _⟩) hS hA hP rfl (fun H locs hP hS => ?_)
  refine lv_if_ne (tgt := 12) hx hb dX12_save_7 (by decide) (fun q7 => ?_) (fun q7 => ?_)
  · have h := ifF h q7
    refine lv_aload_n hx hb dX12_save_12 rfl (lv_at hl 0 rfl) ?_
    refine va_get (D := g.1) (ci := 11) (v := .ref aM_isKept) (C := RX12) (T := TX12) (N := 35) hx hb hts inBX12 hown hK hP 0 rfl rfl 9 (by decide) (hts _ wd4_205) (fun _ h9 => h9) rfl dX12_save_13 ?_
    refine lv_iload_n hx hb dX12_save_16 rfl (lv_at hl 1 rfl) ?_
    refine lv_iconst (v := (1 : Int32)) hx hb dX12_save_17 (by decide) ?_
    have hin := sti_in h
    refine va_zast hx hb hK hP hD hS 7 3 rfl rfl hin dX12_save_18 (fun H locs hP hD hS => ?_)
    obtain ⟨M_isKept_18, eM_isKept_18⟩ : ∃ y : Nat → Int32, y = upd M_isKept (Int32.toNatClampNeg x1) (vp_nar .boolean (1 : Int32)) := ⟨_, rfl⟩
    have h := sti_to h eM_isKept_18
    have hP : va_P g.1 vwCl (wX12 g aM aM_text aM_now aM_trial aM_read aM_diary aM_kept aM_isKept aM_constraint aM_readConstraint aM_word aM_size aM_number aM_firstOne aM_node aM_parent aM_rule aM_child aM_proof aM_witness aM_witnessSize aM_built aM_copyRow M_length M_acts M_next M_many M_readMany M_found M_shortest M_nodes M_solved M_dropped M_fits M_proofSize M_tooLong M_text M_now M_trial M_read M_diary M_kept M_isKept_18 M_constraint M_readConstraint M_word M_size M_number M_firstOne M_node M_parent M_rule M_child M_proof M_witness M_witnessSize M_built M_copyRow) H := by rw [eM_isKept_18]; exact hP
    have hD : va_D A (wX12 g aM aM_text aM_now aM_trial aM_read aM_diary aM_kept aM_isKept aM_constraint aM_readConstraint aM_word aM_size aM_number aM_firstOne aM_node aM_parent aM_rule aM_child aM_proof aM_witness aM_witnessSize aM_built aM_copyRow M_length M_acts M_next M_many M_readMany M_found M_shortest M_nodes M_solved M_dropped M_fits M_proofSize M_tooLong M_text M_now M_trial M_read M_diary M_kept M_isKept_18 M_constraint M_readConstraint M_word M_size M_number M_firstOne M_node M_parent M_rule M_child M_proof M_witness M_witnessSize M_built M_copyRow) := by rw [eM_isKept_18]; exact hD
    refine lv_iconst (v := (0 : Int32)) hx hb dX12_save_19 (by decide) ?_
    refine lv_istore_n (lv' := [(2, .int (0 : Int32)), (0, .ref aM), (1, .int x1)]) hx hb dX12_save_20 rfl hl (by decide) rfl (fun ls hl => ?_)
    exact L21 FU M_kept M_isKept_18 (0 : Int32) ls H locs (lv_sub hl [1, 2, 0] rfl) hP hD hS h
  have h := ifT h q7
  refine lv_iconst (v := ((-1) : Int32)) hx hb dX12_save_10 (by decide) ?_
  have h : some (((-1) : Int32), M_kept, M_isKept) = some (r, M_kept_o, M_isKept_o) := h
  cases h
  exact hret _ _ _ _ hP hD hS dX12_save_11
set_option maxHeartbeats 4000000 in
set_option maxRecDepth 100000 in
theorem mX12_restore (g : GP) (l : Launch) (aM aM_text aM_now aM_trial aM_read aM_diary aM_kept aM_isKept aM_constraint aM_readConstraint aM_word aM_size aM_number aM_firstOne aM_node aM_parent aM_rule aM_child aM_proof aM_witness aM_witnessSize aM_built aM_copyRow : Nat) (M_length : Int32) (M_acts : Int32) (M_next : Int32) (M_many : Int32) (M_readMany : Int32) (M_found : Int32) (M_shortest : Int32) (M_nodes : Int32) (M_solved : Int32) (M_dropped : Int32) (M_fits : Int32) (M_proofSize : Int32) (M_tooLong : Int32) (M_text : Nat → Int32) (M_now : Nat → Int32) (M_trial : Nat → Int32) (M_read : Nat → Int32) (M_diary : Nat → Int32) (M_kept : Nat → Int32) (M_isKept : Nat → Int32) (M_constraint : Nat → Int32) (M_readConstraint : Nat → Int32) (M_word : Nat → Int32) (M_size : Nat → Int32) (M_number : Nat → Int32) (M_firstOne : Nat → Int32) (M_node : Nat → Int32) (M_parent : Nat → Int32) (M_rule : Nat → Int32) (M_child : Nat → Int32) (M_proof : Nat → Int32) (M_witness : Nat → Int32) (M_witnessSize : Nat → Int32) (M_built : Nat → Int32) (M_copyRow : Nat → Int32) (x1 : Int32) (r : Int32) (M_acts_o : Int32) (M_now_o : Nat → Int32) (h : fM_restore M_acts M_now M_kept M_isKept x1 = some (r, M_acts_o, M_now_o)) : Ct g l yX12_restore cX12_restore 3 (some .int) rmX12_restore [.ref aM, .int x1] (wX12 g aM aM_text aM_now aM_trial aM_read aM_diary aM_kept aM_isKept aM_constraint aM_readConstraint aM_word aM_size aM_number aM_firstOne aM_node aM_parent aM_rule aM_child aM_proof aM_witness aM_witnessSize aM_built aM_copyRow M_length M_acts M_next M_many M_readMany M_found M_shortest M_nodes M_solved M_dropped M_fits M_proofSize M_tooLong M_text M_now M_trial M_read M_diary M_kept M_isKept M_constraint M_readConstraint M_word M_size M_number M_firstOne M_node M_parent M_rule M_child M_proof M_witness M_witnessSize M_built M_copyRow) (some (.int r)) (wX12 g aM aM_text aM_now aM_trial aM_read aM_diary aM_kept aM_isKept aM_constraint aM_readConstraint aM_word aM_size aM_number aM_firstOne aM_node aM_parent aM_rule aM_child aM_proof aM_witness aM_witnessSize aM_built aM_copyRow M_length M_acts_o M_next M_many M_readMany M_found M_shortest M_nodes M_solved M_dropped M_fits M_proofSize M_tooLong M_text M_now_o M_trial M_read M_diary M_kept M_isKept M_constraint M_readConstraint M_word M_size M_number M_firstOne M_node M_parent M_rule M_child M_proof M_witness M_witnessSize M_built M_copyRow) := by
  refine Ct.introI (by decide) (Nat.le_of_ble_eq_true rfl) ?_
  intro p e s m below meth c A QQ ls hyp hret
  obtain ⟨hx, hb, hml, hts, hown, hA, hE, hP, hD, hl⟩ := hyp
  have hK := hE.1
  have hS : va_S A s.heap s.heap [] := va_S.rf
  have X : Here g p s m c cX12_restore 3 ([.ref aM, .int x1] : List Value).toArray RX12 A := ⟨⟨hx, hb, hml, hown, hts⟩, hE, hA⟩
  have L26 : ∀ (n26 : Nat), ∀ (M_acts : Int32) (M_now : Nat → Int32) (v2 : Int32) (ls : Array Slot) (H : Heap) (locs : List Loc), lv_has ls 3 [(0, .ref aM), (1, .int x1), (2, .int v2)] → va_P g.1 vwCl (wX12 g aM aM_text aM_now aM_trial aM_read aM_diary aM_kept aM_isKept aM_constraint aM_readConstraint aM_word aM_size aM_number aM_firstOne aM_node aM_parent aM_rule aM_child aM_proof aM_witness aM_witnessSize aM_built aM_copyRow M_length M_acts M_next M_many M_readMany M_found M_shortest M_nodes M_solved M_dropped M_fits M_proofSize M_tooLong M_text M_now M_trial M_read M_diary M_kept M_isKept M_constraint M_readConstraint M_word M_size M_number M_firstOne M_node M_parent M_rule M_child M_proof M_witness M_witnessSize M_built M_copyRow) H → va_D A (wX12 g aM aM_text aM_now aM_trial aM_read aM_diary aM_kept aM_isKept aM_constraint aM_readConstraint aM_word aM_size aM_number aM_firstOne aM_node aM_parent aM_rule aM_child aM_proof aM_witness aM_witnessSize aM_built aM_copyRow M_length M_acts M_next M_many M_readMany M_found M_shortest M_nodes M_solved M_dropped M_fits M_proofSize M_tooLong M_text M_now M_trial M_read M_diary M_kept M_isKept M_constraint M_readConstraint M_word M_size M_number M_firstOne M_node M_parent M_rule M_child M_proof M_witness M_witnessSize M_built M_copyRow) → va_S A s.heap H locs → fx2 (fM_restore_26 M_kept x1) n26 M_now v2 = some (r, M_acts_o, M_now_o) → W p l e rmX12_restore s m ([.ref aM, .int x1] : List Value).toArray below meth c H locs 0 0 QQ (F0 m 26 ls []) := by
    intro n26
    induction n26 with
    | zero => intro M_acts M_now v2 ls H locs hl hP hD hS h; exact fx2_0 h
    | succ n26 ih26 =>
      intro M_acts M_now v2 ls H locs hl hP hD hS h
      have h := (fx2_s (fM_restore_26 M_kept x1) n26 M_now v2).symm.trans h
      refine lv_iload_n hx hb dX12_restore_26 rfl (lv_at hl 2 rfl) ?_
      refine lv_bipush (v := (26 : Int32)) hx hb dX12_restore_27 (by decide) ?_
      refine lv_icmp_ge (tgt := 55) hx hb dX12_restore_29 (by decide) (fun q29 => ?_) (fun q29 => ?_)
      · have h := ifT h q29
        refine lv_aload_n hx hb dX12_restore_55 rfl (lv_at hl 0 rfl) ?_
        refine lv_iconst (v := (0 : Int32)) hx hb dX12_restore_56 (by decide) ?_
        refine va_put (D := g.1) (ci := 11) (v := .int (0 : Int32)) (ty := .int) (C := RX12) (T := TX12) (N := 35) hx hb hts inBX12 tyX12 tyX12_ok nmX12 hown hK hP hD hS 0 rfl rfl 6 (by decide) (hts _ wd4_202) (fun _ h9 => h9) rfl (tyX12_ok 6 (by decide)) rfl rfl (Nat.le_of_ble_eq_true rfl) dX12_restore_57 (fun H locs hP hD hS => ?_)
        have hP : va_P g.1 vwCl (wX12 g aM aM_text aM_now aM_trial aM_read aM_diary aM_kept aM_isKept aM_constraint aM_readConstraint aM_word aM_size aM_number aM_firstOne aM_node aM_parent aM_rule aM_child aM_proof aM_witness aM_witnessSize aM_built aM_copyRow M_length (0 : Int32) M_next M_many M_readMany M_found M_shortest M_nodes M_solved M_dropped M_fits M_proofSize M_tooLong M_text M_now M_trial M_read M_diary M_kept M_isKept M_constraint M_readConstraint M_word M_size M_number M_firstOne M_node M_parent M_rule M_child M_proof M_witness M_witnessSize M_built M_copyRow) H := hP
        have hD : va_D A (wX12 g aM aM_text aM_now aM_trial aM_read aM_diary aM_kept aM_isKept aM_constraint aM_readConstraint aM_word aM_size aM_number aM_firstOne aM_node aM_parent aM_rule aM_child aM_proof aM_witness aM_witnessSize aM_built aM_copyRow M_length (0 : Int32) M_next M_many M_readMany M_found M_shortest M_nodes M_solved M_dropped M_fits M_proofSize M_tooLong M_text M_now M_trial M_read M_diary M_kept M_isKept M_constraint M_readConstraint M_word M_size M_number M_firstOne M_node M_parent M_rule M_child M_proof M_witness M_witnessSize M_built M_copyRow) := hD
        refine lv_aload_n hx hb dX12_restore_60 rfl (lv_at hl 0 rfl) ?_
        refine va_get (D := g.1) (ci := 11) (v := .ref aM_now) (C := RX12) (T := TX12) (N := 35) hx hb hts inBX12 hown hK hP 0 rfl rfl 2 (by decide) (hts _ wd4_198) (fun _ h9 => h9) rfl dX12_restore_61 ?_
        refine lv_iconst (v := (0 : Int32)) hx hb dX12_restore_64 (by decide) ?_
        have hin := ld_in h
        refine va_iald hx hb hK hP 2 0 rfl rfl hin dX12_restore_65 ?_
        refine lv_topi (fun t65 et65 => ?_)
        have h := ld_to h et65
        refine lv_aload_n hx hb dX12_restore_66 rfl (lv_at hl 0 rfl) ?_
        refine va_get (D := g.1) (ci := 11) (v := .ref aM_now) (C := RX12) (T := TX12) (N := 35) hx hb hts inBX12 hown hK hP 0 rfl rfl 2 (by decide) (hts _ wd4_198) (fun _ h9 => h9) rfl dX12_restore_67 ?_
        refine lv_iconst (v := (1 : Int32)) hx hb dX12_restore_70 (by decide) ?_
        have hin := ld_in h
        refine va_iald hx hb hK hP 2 0 rfl rfl hin dX12_restore_71 ?_
        refine lv_topi (fun t71 et71 => ?_)
        have h := ld_to h et71
        refine lv_iadd hx hb dX12_restore_72 ?_
        have h : some ((t65 + t71), (0 : Int32), M_now) = some (r, M_acts_o, M_now_o) := h
        cases h
        exact hret _ _ _ _ hP hD hS dX12_restore_73
      have h := ifF h q29
      refine lv_aload_n hx hb dX12_restore_32 rfl (lv_at hl 0 rfl) ?_
      refine va_get (D := g.1) (ci := 11) (v := .ref aM_now) (C := RX12) (T := TX12) (N := 35) hx hb hts inBX12 hown hK hP 0 rfl rfl 2 (by decide) (hts _ wd4_198) (fun _ h9 => h9) rfl dX12_restore_33 ?_
      refine lv_iload_n hx hb dX12_restore_36 rfl (lv_at hl 2 rfl) ?_
      refine lv_aload_n hx hb dX12_restore_37 rfl (lv_at hl 0 rfl) ?_
      refine va_get (D := g.1) (ci := 11) (v := .ref aM_kept) (C := RX12) (T := TX12) (N := 35) hx hb hts inBX12 hown hK hP 0 rfl rfl 8 (by decide) (hts _ wd4_204) (fun _ h9 => h9) rfl dX12_restore_38 ?_
      refine lv_bipush (v := (26 : Int32)) hx hb dX12_restore_41 (by decide) ?_
      refine lv_iload_n hx hb dX12_restore_43 rfl (lv_at hl 1 rfl) ?_
      refine lv_imul hx hb dX12_restore_44 ?_
      refine lv_iload_n hx hb dX12_restore_45 rfl (lv_at hl 2 rfl) ?_
      refine lv_iadd hx hb dX12_restore_46 ?_
      have hin := ld_in h
      refine va_iald hx hb hK hP 6 0 rfl rfl hin dX12_restore_47 ?_
      refine lv_topi (fun t47 et47 => ?_)
      have h := ld_to h et47
      have hin := sti_in h
      refine va_iast hx hb hK hP hD hS 2 0 rfl rfl hin dX12_restore_48 (fun H locs hP hD hS => ?_)
      obtain ⟨M_now_48, eM_now_48⟩ : ∃ y : Nat → Int32, y = upd M_now (Int32.toNatClampNeg v2) t47 := ⟨_, rfl⟩
      have h := sti_to h eM_now_48
      have hP : va_P g.1 vwCl (wX12 g aM aM_text aM_now aM_trial aM_read aM_diary aM_kept aM_isKept aM_constraint aM_readConstraint aM_word aM_size aM_number aM_firstOne aM_node aM_parent aM_rule aM_child aM_proof aM_witness aM_witnessSize aM_built aM_copyRow M_length M_acts M_next M_many M_readMany M_found M_shortest M_nodes M_solved M_dropped M_fits M_proofSize M_tooLong M_text M_now_48 M_trial M_read M_diary M_kept M_isKept M_constraint M_readConstraint M_word M_size M_number M_firstOne M_node M_parent M_rule M_child M_proof M_witness M_witnessSize M_built M_copyRow) H := by rw [eM_now_48]; exact hP
      have hD : va_D A (wX12 g aM aM_text aM_now aM_trial aM_read aM_diary aM_kept aM_isKept aM_constraint aM_readConstraint aM_word aM_size aM_number aM_firstOne aM_node aM_parent aM_rule aM_child aM_proof aM_witness aM_witnessSize aM_built aM_copyRow M_length M_acts M_next M_many M_readMany M_found M_shortest M_nodes M_solved M_dropped M_fits M_proofSize M_tooLong M_text M_now_48 M_trial M_read M_diary M_kept M_isKept M_constraint M_readConstraint M_word M_size M_number M_firstOne M_node M_parent M_rule M_child M_proof M_witness M_witnessSize M_built M_copyRow) := by rw [eM_now_48]; exact hD
      obtain ⟨t49, et49⟩ : ∃ y : Int32, y = v2 + (1 : Int32) := ⟨_, rfl⟩
      refine lv_iinc (v := t49) (lv' := [(2, .int t49), (0, .ref aM), (1, .int x1)]) hx hb dX12_restore_49 hl (k := 2) rfl (by rw [et49]; rfl) (by decide) rfl (fun ls hl => ?_)
      have h := st_to h et49
      refine lv_goto (tgt := 26) hx hb dX12_restore_52 (by decide) ?_
      exact ih26 M_acts M_now_48 t49 ls H locs (lv_sub hl [1, 2, 0] rfl) hP hD hS h
  have hl : lv_has ls 3 [(0, .ref aM), (1, .int x1)] := hl
  obtain ⟨H, hH⟩ : ∃ H, H = s.heap := ⟨_, rfl⟩
  obtain ⟨locs, hlocs⟩ : ∃ l : List Loc, l = [] := ⟨_, rfl⟩
  rw [show W p l e rmX12_restore s m ([.ref aM, .int x1] : List Value).toArray below meth c s.heap [] 0 0 QQ (F0 m 0 ls []) = W p l e rmX12_restore s m ([.ref aM, .int x1] : List Value).toArray below meth c H locs 0 0 QQ (F0 m 0 ls []) by rw [hH, hlocs]]
  have hP : va_P g.1 vwCl (wX12 g aM aM_text aM_now aM_trial aM_read aM_diary aM_kept aM_isKept aM_constraint aM_readConstraint aM_word aM_size aM_number aM_firstOne aM_node aM_parent aM_rule aM_child aM_proof aM_witness aM_witnessSize aM_built aM_copyRow M_length M_acts M_next M_many M_readMany M_found M_shortest M_nodes M_solved M_dropped M_fits M_proofSize M_tooLong M_text M_now M_trial M_read M_diary M_kept M_isKept M_constraint M_readConstraint M_word M_size M_number M_firstOne M_node M_parent M_rule M_child M_proof M_witness M_witnessSize M_built M_copyRow) H := by rw [hH]; exact hP
  have hD : va_D A (wX12 g aM aM_text aM_now aM_trial aM_read aM_diary aM_kept aM_isKept aM_constraint aM_readConstraint aM_word aM_size aM_number aM_firstOne aM_node aM_parent aM_rule aM_child aM_proof aM_witness aM_witnessSize aM_built aM_copyRow M_length M_acts M_next M_many M_readMany M_found M_shortest M_nodes M_solved M_dropped M_fits M_proofSize M_tooLong M_text M_now M_trial M_read M_diary M_kept M_isKept M_constraint M_readConstraint M_word M_size M_number M_firstOne M_node M_parent M_rule M_child M_proof M_witness M_witnessSize M_built M_copyRow) := hD
  have hS : va_S A s.heap H locs := by rw [hH, hlocs]; exact hS
  clear hH hlocs
  refine lv_iload_n hx hb dX12_restore_0 rfl (lv_at hl 1 rfl) ?_
  refine lv_i2l (v := (Int32.toInt64 x1)) hx hb dX12_restore_1 rfl ?_
  refine lv_lconst (v := (0 : Int64)) hx hb dX12_restore_2 (by decide) ?_
  refine lv_lconst (v := (1 : Int64)) hx hb dX12_restore_3 (by decide) ?_
  obtain ⟨t4, hc4, h⟩ := bd1_to h
  refine go_0 (st1 := [.int t4]) (run_S (As := [.long (Int32.toInt64 x1), .long (0 : Int64), .long (1 : Int64)]) (rest := []) X hS (mX12_in g l  (Int32.toInt64 x1) (0 : Int64) (1 : Int64) t4 hc4) okX12_in wd5_67 ⟨Nat.le_of_ble_eq_true rfl, Nat.le_of_ble_eq_true rfl⟩ ⟨rfl, rfl⟩ nil_P nil_D (nil_F hS hA) rfl hl.1 rfl (Nat.le_of_ble_eq_true rfl) dX12_restore_4 ⟨Nat.zero_le _, Nat.zero_le _⟩) hS hA hP rfl (fun H locs hP hS => ?_)
  refine lv_if_ne (tgt := 12) hx hb dX12_restore_7 (by decide) (fun q7 => ?_) (fun q7 => ?_)
  · have h := ifF h q7
    refine lv_aload_n hx hb dX12_restore_12 rfl (lv_at hl 0 rfl) ?_
    refine va_get (D := g.1) (ci := 11) (v := .ref aM_isKept) (C := RX12) (T := TX12) (N := 35) hx hb hts inBX12 hown hK hP 0 rfl rfl 9 (by decide) (hts _ wd4_205) (fun _ h9 => h9) rfl dX12_restore_13 ?_
    refine lv_iload_n hx hb dX12_restore_16 rfl (lv_at hl 1 rfl) ?_
    have hin := ld_in h
    refine va_zald hx hb hK hP 7 3 rfl rfl hin dX12_restore_17 ?_
    refine lv_topi (fun t17 et17 => ?_)
    have h := ld_to h et17
    refine lv_if_ne (tgt := 24) hx hb dX12_restore_18 (by decide) (fun q18 => ?_) (fun q18 => ?_)
    · have h := ifF h q18
      refine lv_iconst (v := (0 : Int32)) hx hb dX12_restore_24 (by decide) ?_
      refine lv_istore_n (lv' := [(2, .int (0 : Int32)), (0, .ref aM), (1, .int x1)]) hx hb dX12_restore_25 rfl hl (by decide) rfl (fun ls hl => ?_)
      exact L26 FU M_acts M_now (0 : Int32) ls H locs (lv_sub hl [1, 2, 0] rfl) hP hD hS h
    have h := ifT h q18
    refine lv_bipush (v := ((-3) : Int32)) hx hb dX12_restore_21 (by decide) ?_
    have h : some (((-3) : Int32), M_acts, M_now) = some (r, M_acts_o, M_now_o) := h
    cases h
    exact hret _ _ _ _ hP hD hS dX12_restore_23
  have h := ifT h q7
  refine lv_iconst (v := ((-1) : Int32)) hx hb dX12_restore_10 (by decide) ?_
  have h : some (((-1) : Int32), M_acts, M_now) = some (r, M_acts_o, M_now_o) := h
  cases h
  exact hret _ _ _ _ hP hD hS dX12_restore_11
