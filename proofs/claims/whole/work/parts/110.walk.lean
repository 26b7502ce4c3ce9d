set_option maxHeartbeats 4000000 in
set_option maxRecDepth 100000 in
theorem mX12_layProof (g : GP) (l : Launch) (aM aM_text aM_now aM_trial aM_read aM_diary aM_kept aM_isKept aM_constraint aM_readConstraint aM_word aM_size aM_number aM_firstOne aM_node aM_parent aM_rule aM_child aM_proof aM_witness aM_witnessSize aM_built aM_copyRow : Nat) (M_length : Int32) (M_acts : Int32) (M_next : Int32) (M_many : Int32) (M_readMany : Int32) (M_found : Int32) (M_shortest : Int32) (M_nodes : Int32) (M_solved : Int32) (M_dropped : Int32) (M_fits : Int32) (M_proofSize : Int32) (M_tooLong : Int32) (M_text : Nat → Int32) (M_now : Nat → Int32) (M_trial : Nat → Int32) (M_read : Nat → Int32) (M_diary : Nat → Int32) (M_kept : Nat → Int32) (M_isKept : Nat → Int32) (M_constraint : Nat → Int32) (M_readConstraint : Nat → Int32) (M_word : Nat → Int32) (M_size : Nat → Int32) (M_number : Nat → Int32) (M_firstOne : Nat → Int32) (M_node : Nat → Int32) (M_parent : Nat → Int32) (M_rule : Nat → Int32) (M_child : Nat → Int32) (M_proof : Nat → Int32) (M_witness : Nat → Int32) (M_witnessSize : Nat → Int32) (M_built : Nat → Int32) (M_copyRow : Nat → Int32)  (r : Int32) (M_nodes_o : Int32) (M_solved_o : Int32) (M_dropped_o : Int32) (M_fits_o : Int32) (M_proofSize_o : Int32) (M_trial_o : Nat → Int32) (M_node_o : Nat → Int32) (M_parent_o : Nat → Int32) (M_rule_o : Nat → Int32) (M_child_o : Nat → Int32) (M_proof_o : Nat → Int32) (h : fM_layProof M_fits M_proofSize M_now M_trial M_node M_parent M_rule M_child M_proof = some (r, M_nodes_o, M_solved_o, M_dropped_o, M_fits_o, M_proofSize_o, M_trial_o, M_node_o, M_parent_o, M_rule_o, M_child_o, M_proof_o)) : Ct g l yX12_layProof cX12_layProof 3 (some .boolean) rmX12_layProof [.ref aM] (wX12 g aM aM_text aM_now aM_trial aM_read aM_diary aM_kept aM_isKept aM_constraint aM_readConstraint aM_word aM_size aM_number aM_firstOne aM_node aM_parent aM_rule aM_child aM_proof aM_witness aM_witnessSize aM_built aM_copyRow M_length M_acts M_next M_many M_readMany M_found M_shortest M_nodes M_solved M_dropped M_fits M_proofSize M_tooLong M_text M_now M_trial M_read M_diary M_kept M_isKept M_constraint M_readConstraint M_word M_size M_number M_firstOne M_node M_parent M_rule M_child M_proof M_witness M_witnessSize M_built M_copyRow) (some (.int r)) (wX12 g aM aM_text aM_now aM_trial aM_read aM_diary aM_kept aM_isKept aM_constraint aM_readConstraint aM_word aM_size aM_number aM_firstOne aM_node aM_parent aM_rule aM_child aM_proof aM_witness aM_witnessSize aM_built aM_copyRow M_length M_acts M_next M_many M_readMany M_found M_shortest M_nodes_o M_solved_o M_dropped_o M_fits_o M_proofSize_o M_tooLong M_text M_now M_trial_o M_read M_diary M_kept M_isKept M_constraint M_readConstraint M_word M_size M_number M_firstOne M_node_o M_parent_o M_rule_o M_child_o M_proof_o M_witness M_witnessSize M_built M_copyRow) := by
  refine Ct.introZ (by decide) (Nat.le_of_ble_eq_true rfl) ?_
  intro p e s m below meth c A QQ ls hyp hret
  obtain ⟨hx, hb, hml, hts, hown, hA, hE, hP, hD, hl⟩ := hyp
  have hK := hE.1
  have hS : va_S A s.heap s.heap [] := va_S.rf
  have X : Here g p s m c cX12_layProof 3 ([.ref aM] : List Value).toArray RX12 A := ⟨⟨hx, hb, hml, hown, hts⟩, hE, hA⟩
  have L58 : ∀ (n58 : Nat), ∀ (M_nodes : Int32) (M_solved : Int32) (M_dropped : Int32) (M_fits : Int32) (M_proofSize : Int32) (M_trial : Nat → Int32) (M_node : Nat → Int32) (M_parent : Nat → Int32) (M_rule : Nat → Int32) (M_child : Nat → Int32) (M_proof : Nat → Int32) (v1 : Int32) (v2 : Int32) (ls : Array Slot) (H : Heap) (locs : List Loc), lv_has ls 3 [(0, .ref aM), (1, .int v1), (2, .int v2)] → va_P g.1 vwCl (wX12 g aM aM_text aM_now aM_trial aM_read aM_diary aM_kept aM_isKept aM_constraint aM_readConstraint aM_word aM_size aM_number aM_firstOne aM_node aM_parent aM_rule aM_child aM_proof aM_witness aM_witnessSize aM_built aM_copyRow M_length M_acts M_next M_many M_readMany M_found M_shortest M_nodes M_solved M_dropped M_fits M_proofSize M_tooLong M_text M_now M_trial M_read M_diary M_kept M_isKept M_constraint M_readConstraint M_word M_size M_number M_firstOne M_node M_parent M_rule M_child M_proof M_witness M_witnessSize M_built M_copyRow) H → va_D A (wX12 g aM aM_text aM_now aM_trial aM_read aM_diary aM_kept aM_isKept aM_constraint aM_readConstraint aM_word aM_size aM_number aM_firstOne aM_node aM_parent aM_rule aM_child aM_proof aM_witness aM_witnessSize aM_built aM_copyRow M_length M_acts M_next M_many M_readMany M_found M_shortest M_nodes M_solved M_dropped M_fits M_proofSize M_tooLong M_text M_now M_trial M_read M_diary M_kept M_isKept M_constraint M_readConstraint M_word M_size M_number M_firstOne M_node M_parent M_rule M_child M_proof M_witness M_witnessSize M_built M_copyRow) → va_S A s.heap H locs → fx3 (fM_layProof_58 M_nodes M_solved M_dropped M_fits M_proofSize M_trial M_node M_parent M_rule M_child) n58 M_proof v1 v2 = some (r, M_nodes_o, M_solved_o, M_dropped_o, M_fits_o, M_proofSize_o, M_trial_o, M_node_o, M_parent_o, M_rule_o, M_child_o, M_proof_o) → W p l e rmX12_layProof s m ([.ref aM] : List Value).toArray below meth c H locs 0 0 QQ (F0 m 58 ls []) := by
    intro n58
    induction n58 with
    | zero => intro M_nodes M_solved M_dropped M_fits M_proofSize M_trial M_node M_parent M_rule M_child M_proof v1 v2 ls H locs hl hP hD hS h; exact fx3_0 h
    | succ n58 ih58 =>
      intro M_nodes M_solved M_dropped M_fits M_proofSize M_trial M_node M_parent M_rule M_child M_proof v1 v2 ls H locs hl hP hD hS h
      have h := (fx3_s (fM_layProof_58 M_nodes M_solved M_dropped M_fits M_proofSize M_trial M_node M_parent M_rule M_child) n58 M_proof v1 v2).symm.trans h
      refine lv_iload_n hx hb dX12_layProof_58 rfl (lv_at hl 2 rfl) ?_
      refine lv_if_le (tgt := 82) hx hb dX12_layProof_59 (by decide) (fun q59 => ?_) (fun q59 => ?_)
      · have h := ifT h q59
        refine lv_iconst (v := (1 : Int32)) hx hb dX12_layProof_82 (by decide) ?_
        have h : some ((1 : Int32), M_nodes, M_solved, M_dropped, M_fits, M_proofSize, M_trial, M_node, M_parent, M_rule, M_child, M_proof) = some (r, M_nodes_o, M_solved_o, M_dropped_o, M_fits_o, M_proofSize_o, M_trial_o, M_node_o, M_parent_o, M_rule_o, M_child_o, M_proof_o) := h
        cases h
        exact hret _ _ _ _ rfl hP hD hS dX12_layProof_83
      have h := ifF h q59
      obtain ⟨t62, et62⟩ : ∃ y : Int32, y = v1 + ((-1) : Int32) := ⟨_, rfl⟩
      refine lv_iinc (v := t62) (lv' := [(1, .int t62), (0, .ref aM), (2, .int v2)]) hx hb dX12_layProof_62 hl (k := 1) rfl (by rw [et62]; rfl) (by decide) rfl (fun ls hl => ?_)
      have h := st_to h et62
      refine lv_aload_n hx hb dX12_layProof_65 rfl (lv_at hl 1 rfl) ?_
      refine va_get (D := g.1) (ci := 11) (v := .ref aM_proof) (C := RX12) (T := TX12) (N := 35) hx hb hts inBX12 hown hK hP 0 rfl rfl 28 (by decide) (hts _ wd4_224) (fun _ h9 => h9) rfl dX12_layProof_66 ?_
      refine lv_iload_n hx hb dX12_layProof_69 rfl (lv_at hl 0 rfl) ?_
      refine lv_iload_n hx hb dX12_layProof_70 rfl (lv_at hl 2 rfl) ?_
      have hin := sti_in h
      refine va_iast hx hb hK hP hD hS 18 0 rfl rfl hin dX12_layProof_71 (fun H locs hP hD hS => ?_)
      obtain ⟨M_proof_71, eM_proof_71⟩ : ∃ y : Nat → Int32, y = upd M_proof (Int32.toNatClampNeg t62) v2 := ⟨_, rfl⟩
      have h := sti_to h eM_proof_71
      have hP : va_P g.1 vwCl (wX12 g aM aM_text aM_now aM_trial aM_read aM_diary aM_kept aM_isKept aM_constraint aM_readConstraint aM_word aM_size aM_number aM_firstOne aM_node aM_parent aM_rule aM_child aM_proof aM_witness aM_witnessSize aM_built aM_copyRow M_length M_acts M_next M_many M_readMany M_found M_shortest M_nodes M_solved M_dropped M_fits M_proofSize M_tooLong M_text M_now M_trial M_read M_diary M_kept M_isKept M_constraint M_readConstraint M_word M_size M_number M_firstOne M_node M_parent M_rule M_child M_proof_71 M_witness M_witnessSize M_built M_copyRow) H := by rw [eM_proof_71]; exact hP
      have hD : va_D A (wX12 g aM aM_text aM_now aM_trial aM_read aM_diary aM_kept aM_isKept aM_constraint aM_readConstraint aM_word aM_size aM_number aM_firstOne aM_node aM_parent aM_rule aM_child aM_proof aM_witness aM_witnessSize aM_built aM_copyRow M_length M_acts M_next M_many M_readMany M_found M_shortest M_nodes M_solved M_dropped M_fits M_proofSize M_tooLong M_text M_now M_trial M_read M_diary M_kept M_isKept M_constraint M_readConstraint M_word M_size M_number M_firstOne M_node M_parent M_rule M_child M_proof_71 M_witness M_witnessSize M_built M_copyRow) := by rw [eM_proof_71]; exact hD
      refine lv_aload_n hx hb dX12_layProof_72 rfl (lv_at hl 1 rfl) ?_
      refine va_get (D := g.1) (ci := 11) (v := .ref aM_parent) (C := RX12) (T := TX12) (N := 35) hx hb hts inBX12 hown hK hP 0 rfl rfl 21 (by decide) (hts _ wd4_217) (fun _ h9 => h9) rfl dX12_layProof_73 ?_
      refine lv_iload_n hx hb dX12_layProof_76 rfl (lv_at hl 2 rfl) ?_
      have hin := ld_in h
      refine va_iald hx hb hK hP 15 0 rfl rfl hin dX12_layProof_77 ?_
      refine lv_topi (fun t77 et77 => ?_)
      have h := ld_to h et77
      refine lv_istore_n (lv' := [(2, .int t77), (1, .int t62), (0, .ref aM)]) hx hb dX12_layProof_78 rfl hl (by decide) rfl (fun ls hl => ?_)
      refine lv_goto (tgt := 58) hx hb dX12_layProof_79 (by decide) ?_
      exact ih58 M_nodes M_solved M_dropped M_fits M_proofSize M_trial M_node M_parent M_rule M_child M_proof_71 t62 t77 ls H locs (lv_sub hl [2, 1, 0] rfl) hP hD hS h
  have L24 : ∀ (n24 : Nat), ∀ (M_nodes : Int32) (M_solved : Int32) (M_dropped : Int32) (M_fits : Int32) (M_proofSize : Int32) (M_trial : Nat → Int32) (M_node : Nat → Int32) (M_parent : Nat → Int32) (M_rule : Nat → Int32) (M_child : Nat → Int32) (M_proof : Nat → Int32) (v1 : Int32) (ls : Array Slot) (H : Heap) (locs : List Loc), lv_has ls 3 [(0, .ref aM), (1, .int v1)] → va_P g.1 vwCl (wX12 g aM aM_text aM_now aM_trial aM_read aM_diary aM_kept aM_isKept aM_constraint aM_readConstraint aM_word aM_size aM_number aM_firstOne aM_node aM_parent aM_rule aM_child aM_proof aM_witness aM_witnessSize aM_built aM_copyRow M_length M_acts M_next M_many M_readMany M_found M_shortest M_nodes M_solved M_dropped M_fits M_proofSize M_tooLong M_text M_now M_trial M_read M_diary M_kept M_isKept M_constraint M_readConstraint M_word M_size M_number M_firstOne M_node M_parent M_rule M_child M_proof M_witness M_witnessSize M_built M_copyRow) H → va_D A (wX12 g aM aM_text aM_now aM_trial aM_read aM_diary aM_kept aM_isKept aM_constraint aM_readConstraint aM_word aM_size aM_number aM_firstOne aM_node aM_parent aM_rule aM_child aM_proof aM_witness aM_witnessSize aM_built aM_copyRow M_length M_acts M_next M_many M_readMany M_found M_shortest M_nodes M_solved M_dropped M_fits M_proofSize M_tooLong M_text M_now M_trial M_read M_diary M_kept M_isKept M_constraint M_readConstraint M_word M_size M_number M_firstOne M_node M_parent M_rule M_child M_proof M_witness M_witnessSize M_built M_copyRow) → va_S A s.heap H locs → fx2 (fM_layProof_24 M_nodes M_solved M_dropped M_fits M_trial M_node M_parent M_rule M_child M_proof) n24 M_proofSize v1 = some (r, M_nodes_o, M_solved_o, M_dropped_o, M_fits_o, M_proofSize_o, M_trial_o, M_node_o, M_parent_o, M_rule_o, M_child_o, M_proof_o) → W p l e rmX12_layProof s m ([.ref aM] : List Value).toArray below meth c H locs 0 0 QQ (F0 m 24 ls []) := by
    intro n24
    induction n24 with
    | zero => intro M_nodes M_solved M_dropped M_fits M_proofSize M_trial M_node M_parent M_rule M_child M_proof v1 ls H locs hl hP hD hS h; exact fx2_0 h
    | succ n24 ih24 =>
      intro M_nodes M_solved M_dropped M_fits M_proofSize M_trial M_node M_parent M_rule M_child M_proof v1 ls H locs hl hP hD hS h
      have h := (fx2_s (fM_layProof_24 M_nodes M_solved M_dropped M_fits M_trial M_node M_parent M_rule M_child M_proof) n24 M_proofSize v1).symm.trans h
      refine lv_iload_n hx hb dX12_layProof_24 rfl (lv_at hl 1 rfl) ?_
      refine lv_if_le (tgt := 48) hx hb dX12_layProof_25 (by decide) (fun q25 => ?_) (fun q25 => ?_)
      · have h := ifT h q25
        refine lv_aload_n hx hb dX12_layProof_48 rfl (lv_at hl 0 rfl) ?_
        refine va_get (D := g.1) (ci := 11) (v := .int M_proofSize) (C := RX12) (T := TX12) (N := 35) hx hb hts inBX12 hown hK hP 0 rfl rfl 29 (by decide) (hts _ wd4_225) (fun _ h9 => h9) rfl dX12_layProof_49 ?_
        refine lv_istore_n (lv' := [(1, .int M_proofSize), (0, .ref aM)]) hx hb dX12_layProof_52 rfl hl (by decide) rfl (fun ls hl => ?_)
        refine lv_aload_n hx hb dX12_layProof_53 rfl (lv_at hl 1 rfl) ?_
        refine va_get (D := g.1) (ci := 11) (v := .int M_solved) (C := RX12) (T := TX12) (N := 35) hx hb hts inBX12 hown hK hP 0 rfl rfl 24 (by decide) (hts _ wd4_220) (fun _ h9 => h9) rfl dX12_layProof_54 ?_
        refine lv_istore_n (lv' := [(2, .int M_solved), (1, .int M_proofSize), (0, .ref aM)]) hx hb dX12_layProof_57 rfl hl (by decide) rfl (fun ls hl => ?_)
        exact L58 FU M_nodes M_solved M_dropped M_fits M_proofSize M_trial M_node M_parent M_rule M_child M_proof M_proofSize M_solved ls H locs (lv_sub hl [2, 1, 0] rfl) hP hD hS h
      have h := ifF h q25
      refine lv_aload_n hx hb dX12_layProof_28 rfl (lv_at hl 0 rfl) ?_
      refine lv_dup hx hb dX12_layProof_29 rfl ?_
      refine va_get (D := g.1) (ci := 11) (v := .int M_proofSize) (C := RX12) (T := TX12) (N := 35) hx hb hts inBX12 hown hK hP 0 rfl rfl 29 (by decide) (hts _ wd4_225) (fun _ h9 => h9) rfl dX12_layProof_30 ?_
      refine lv_iconst (v := (1 : Int32)) hx hb dX12_layProof_33 (by decide) ?_
      refine lv_iadd hx hb dX12_layProof_34 ?_
      refine lv_topi (fun t35 et35 => ?_)
      have h := st_to h et35
      refine va_put (D := g.1) (ci := 11) (v := .int t35) (ty := .int) (C := RX12) (T := TX12) (N := 35) hx hb hts inBX12 tyX12 tyX12_ok nmX12 hown hK hP hD hS 0 rfl rfl 29 (by decide) (hts _ wd4_225) (fun _ h9 => h9) rfl (tyX12_ok 29 (by decide)) rfl rfl (Nat.le_of_ble_eq_true rfl) dX12_layProof_35 (fun H locs hP hD hS => ?_)
      have hP : va_P g.1 vwCl (wX12 g aM aM_text aM_now aM_trial aM_read aM_diary aM_kept aM_isKept aM_constraint aM_readConstraint aM_word aM_size aM_number aM_firstOne aM_node aM_parent aM_rule aM_child aM_proof aM_witness aM_witnessSize aM_built aM_copyRow M_length M_acts M_next M_many M_readMany M_found M_shortest M_nodes M_solved M_dropped M_fits t35 M_tooLong M_text M_now M_trial M_read M_diary M_kept M_isKept M_constraint M_readConstraint M_word M_size M_number M_firstOne M_node M_parent M_rule M_child M_proof M_witness M_witnessSize M_built M_copyRow) H := hP
      have hD : va_D A (wX12 g aM aM_text aM_now aM_trial aM_read aM_diary aM_kept aM_isKept aM_constraint aM_readConstraint aM_word aM_size aM_number aM_firstOne aM_node aM_parent aM_rule aM_child aM_proof aM_witness aM_witnessSize aM_built aM_copyRow M_length M_acts M_next M_many M_readMany M_found M_shortest M_nodes M_solved M_dropped M_fits t35 M_tooLong M_text M_now M_trial M_read M_diary M_kept M_isKept M_constraint M_readConstraint M_word M_size M_number M_firstOne M_node M_parent M_rule M_child M_proof M_witness M_witnessSize M_built M_copyRow) := hD
      refine lv_aload_n hx hb dX12_layProof_38 rfl (lv_at hl 0 rfl) ?_
      refine va_get (D := g.1) (ci := 11) (v := .ref aM_parent) (C := RX12) (T := TX12) (N := 35) hx hb hts inBX12 hown hK hP 0 rfl rfl 21 (by decide) (hts _ wd4_217) (fun _ h9 => h9) rfl dX12_layProof_39 ?_
      refine lv_iload_n hx hb dX12_layProof_42 rfl (lv_at hl 1 rfl) ?_
      have hin := ld_in h
      refine va_iald hx hb hK hP 15 0 rfl rfl hin dX12_layProof_43 ?_
      refine lv_topi (fun t43 et43 => ?_)
      have h := ld_to h et43
      refine lv_istore_n (lv' := [(1, .int t43), (0, .ref aM)]) hx hb dX12_layProof_44 rfl hl (by decide) rfl (fun ls hl => ?_)
      refine lv_goto (tgt := 24) hx hb dX12_layProof_45 (by decide) ?_
      exact ih24 M_nodes M_solved M_dropped M_fits t35 M_trial M_node M_parent M_rule M_child M_proof t43 ls H locs (lv_sub hl [1, 0] rfl) hP hD hS h
  have hl : lv_has ls 3 [(0, .ref aM)] := hl
  obtain ⟨H, hH⟩ : ∃ H, H = s.heap := ⟨_, rfl⟩
  obtain ⟨locs, hlocs⟩ : ∃ l : List Loc, l = [] := ⟨_, rfl⟩
  rw [show W p l e rmX12_layProof s m ([.ref aM] : List Value).toArray below meth c s.heap [] 0 0 QQ (F0 m 0 ls []) = W p l e rmX12_layProof s m ([.ref aM] : List Value).toArray below meth c H locs 0 0 QQ (F0 m 0 ls []) by rw [hH, hlocs]]
  have hP : va_P g.1 vwCl (wX12 g aM aM_text aM_now aM_trial aM_read aM_diary aM_kept aM_isKept aM_constraint aM_readConstraint aM_word aM_size aM_number aM_firstOne aM_node aM_parent aM_rule aM_child aM_proof aM_witness aM_witnessSize aM_built aM_copyRow M_length M_acts M_next M_many M_readMany M_found M_shortest M_nodes M_solved M_dropped M_fits M_proofSize M_tooLong M_text M_now M_trial M_read M_diary M_kept M_isKept M_constraint M_readConstraint M_word M_size M_number M_firstOne M_node M_parent M_rule M_child M_proof M_witness M_witnessSize M_built M_copyRow) H := by rw [hH]; exact hP
  have hD : va_D A (wX12 g aM aM_text aM_now aM_trial aM_read aM_diary aM_kept aM_isKept aM_constraint aM_readConstraint aM_word aM_size aM_number aM_firstOne aM_node aM_parent aM_rule aM_child aM_proof aM_witness aM_witnessSize aM_built aM_copyRow M_length M_acts M_next M_many M_readMany M_found M_shortest M_nodes M_solved M_dropped M_fits M_proofSize M_tooLong M_text M_now M_trial M_read M_diary M_kept M_isKept M_constraint M_readConstraint M_word M_size M_number M_firstOne M_node M_parent M_rule M_child M_proof M_witness M_witnessSize M_built M_copyRow) := hD
  have hS : va_S A s.heap H locs := by rw [hH, hlocs]; exact hS
  clear hH hlocs
  refine lv_aload_n hx hb dX12_layProof_0 rfl (lv_at hl 0 rfl) ?_
  refine lv_aload_n hx hb dX12_layProof_1 rfl (lv_at hl 0 rfl) ?_
  refine va_get (D := g.1) (ci := 11) (v := .ref aM_now) (C := RX12) (T := TX12) (N := 35) hx hb hts inBX12 hown hK hP 0 rfl rfl 2 (by decide) (hts _ wd4_198) (fun _ h9 => h9) rfl dX12_layProof_2 ?_
  obtain ⟨t5, M_nodes_5, M_solved_5, M_dropped_5, M_fits_5, M_trial_5, M_node_5, M_parent_5, M_rule_5, M_child_5, hc5, h⟩ := bd10_to h
  refine go_A (st1 := [.int t5]) (run_V (As := [.ref aM_now]) (rest := []) X hS (mX12_search_now g l  aM aM_text aM_now aM_trial aM_read aM_diary aM_kept aM_isKept aM_constraint aM_readConstraint aM_word aM_size aM_number aM_firstOne aM_node aM_parent aM_rule aM_child aM_proof aM_witness aM_witnessSize aM_built aM_copyRow M_length M_acts M_next M_many M_readMany M_found M_shortest M_nodes M_solved M_dropped M_fits M_proofSize M_tooLong M_text M_now M_trial M_read M_diary M_kept M_isKept M_constraint M_readConstraint M_word M_size M_number M_firstOne M_node M_parent M_rule M_child M_proof M_witness M_witnessSize M_built M_copyRow t5 M_nodes_5 M_solved_5 M_dropped_5 M_fits_5 M_trial_5 M_node_5 M_parent_5 M_rule_5 M_child_5 hc5) okX12_search wd5_225 ⟨Nat.le_of_ble_eq_true rfl, Nat.le_of_ble_eq_true rfl⟩ ⟨rfl, rfl⟩ (va_recv hK hP (ci := 11) (q0 := 0) rfl rfl) hP hD (all_F hS hA hD) rfl hl.1 rfl (Nat.le_of_ble_eq_true rfl) dX12_layProof_5 ⟨Nat.zero_le _, Nat.zero_le _⟩) hS (all_F hS hA hD) rfl (fun H locs hP hD hS => ?_)
  refine lv_iconst (v := (1 : Int32)) hx hb dX12_layProof_8 (by decide) ?_
  refine lv_icmp_eq (tgt := 14) hx hb dX12_layProof_9 (by decide) (fun q9 => ?_) (fun q9 => ?_)
  · have h := ifT h q9
    refine lv_aload_n hx hb dX12_layProof_14 rfl (lv_at hl 0 rfl) ?_
    refine lv_iconst (v := (0 : Int32)) hx hb dX12_layProof_15 (by decide) ?_
    refine va_put (D := g.1) (ci := 11) (v := .int (0 : Int32)) (ty := .int) (C := RX12) (T := TX12) (N := 35) hx hb hts inBX12 tyX12 tyX12_ok nmX12 hown hK hP hD hS 0 rfl rfl 29 (by decide) (hts _ wd4_225) (fun _ h9 => h9) rfl (tyX12_ok 29 (by decide)) rfl rfl (Nat.le_of_ble_eq_true rfl) dX12_layProof_16 (fun H locs hP hD hS => ?_)
    have hP : va_P g.1 vwCl (wX12 g aM aM_text aM_now aM_trial aM_read aM_diary aM_kept aM_isKept aM_constraint aM_readConstraint aM_word aM_size aM_number aM_firstOne aM_node aM_parent aM_rule aM_child aM_proof aM_witness aM_witnessSize aM_built aM_copyRow M_length M_acts M_next M_many M_readMany M_found M_shortest M_nodes_5 M_solved_5 M_dropped_5 M_fits_5 (0 : Int32) M_tooLong M_text M_now M_trial_5 M_read M_diary M_kept M_isKept M_constraint M_readConstraint M_word M_size M_number M_firstOne M_node_5 M_parent_5 M_rule_5 M_child_5 M_proof M_witness M_witnessSize M_built M_copyRow) H := hP
    have hD : va_D A (wX12 g aM aM_text aM_now aM_trial aM_read aM_diary aM_kept aM_isKept aM_constraint aM_readConstraint aM_word aM_size aM_number aM_firstOne aM_node aM_parent aM_rule aM_child aM_proof aM_witness aM_witnessSize aM_built aM_copyRow M_length M_acts M_next M_many M_readMany M_found M_shortest M_nodes_5 M_solved_5 M_dropped_5 M_fits_5 (0 : Int32) M_tooLong M_text M_now M_trial_5 M_read M_diary M_kept M_isKept M_constraint M_readConstraint M_word M_size M_number M_firstOne M_node_5 M_parent_5 M_rule_5 M_child_5 M_proof M_witness M_witnessSize M_built M_copyRow) := hD
    refine lv_aload_n hx hb dX12_layProof_19 rfl (lv_at hl 0 rfl) ?_
    refine va_get (D := g.1) (ci := 11) (v := .int M_solved_5) (C := RX12) (T := TX12) (N := 35) hx hb hts inBX12 hown hK hP 0 rfl rfl 24 (by decide) (hts _ wd4_220) (fun _ h9 => h9) rfl dX12_layProof_20 ?_
    refine lv_istore_n (lv' := [(1, .int M_solved_5), (0, .ref aM)]) hx hb dX12_layProof_23 rfl hl (by decide) rfl (fun ls hl => ?_)
    exact L24 FU M_nodes_5 M_solved_5 M_dropped_5 M_fits_5 (0 : Int32) M_trial_5 M_node_5 M_parent_5 M_rule_5 M_child_5 M_proof M_solved_5 ls H locs (lv_sub hl [1, 0] rfl) hP hD hS h
  have h := ifF h q9
  refine lv_iconst (v := (0 : Int32)) hx hb dX12_layProof_12 (by decide) ?_
  have h : some ((0 : Int32), M_nodes_5, M_solved_5, M_dropped_5, M_fits_5, M_proofSize, M_trial_5, M_node_5, M_parent_5, M_rule_5, M_child_5, M_proof) = some (r, M_nodes_o, M_solved_o, M_dropped_o, M_fits_o, M_proofSize_o, M_trial_o, M_node_o, M_parent_o, M_rule_o, M_child_o, M_proof_o) := h
  cases h
  exact hret _ _ _ _ rfl hP hD hS dX12_layProof_13
set_option maxHeartbeats 4000000 in
set_option maxRecDepth 100000 in
theorem mX12_proofLength (g : GP) (l : Launch) (aM aM_text aM_now aM_trial aM_read aM_diary aM_kept aM_isKept aM_constraint aM_readConstraint aM_word aM_size aM_number aM_firstOne aM_node aM_parent aM_rule aM_child aM_proof aM_witness aM_witnessSize aM_built aM_copyRow : Nat) (M_length : Int32) (M_acts : Int32) (M_next : Int32) (M_many : Int32) (M_readMany : Int32) (M_found : Int32) (M_shortest : Int32) (M_nodes : Int32) (M_solved : Int32) (M_dropped : Int32) (M_fits : Int32) (M_proofSize : Int32) (M_tooLong : Int32) (M_text : Nat → Int32) (M_now : Nat → Int32) (M_trial : Nat → Int32) (M_read : Nat → Int32) (M_diary : Nat → Int32) (M_kept : Nat → Int32) (M_isKept : Nat → Int32) (M_constraint : Nat → Int32) (M_readConstraint : Nat → Int32) (M_word : Nat → Int32) (M_size : Nat → Int32) (M_number : Nat → Int32) (M_firstOne : Nat → Int32) (M_node : Nat → Int32) (M_parent : Nat → Int32) (M_rule : Nat → Int32) (M_child : Nat → Int32) (M_proof : Nat → Int32) (M_witness : Nat → Int32) (M_witnessSize : Nat → Int32) (M_built : Nat → Int32) (M_copyRow : Nat → Int32)  (r : Int32) (M_nodes_o : Int32) (M_solved_o : Int32) (M_dropped_o : Int32) (M_fits_o : Int32) (M_proofSize_o : Int32) (M_trial_o : Nat → Int32) (M_node_o : Nat → Int32) (M_parent_o : Nat → Int32) (M_rule_o : Nat → Int32) (M_child_o : Nat → Int32) (M_proof_o : Nat → Int32) (h : fM_proofLength M_fits M_proofSize M_now M_trial M_node M_parent M_rule M_child M_proof = some (r, M_nodes_o, M_solved_o, M_dropped_o, M_fits_o, M_proofSize_o, M_trial_o, M_node_o, M_parent_o, M_rule_o, M_child_o, M_proof_o)) : Ct g l yX12_proofLength cX12_proofLength 1 (some .int) rmX12_proofLength [.ref aM] (wX12 g aM aM_text aM_now aM_trial aM_read aM_diary aM_kept aM_isKept aM_constraint aM_readConstraint aM_word aM_size aM_number aM_firstOne aM_node aM_parent aM_rule aM_child aM_proof aM_witness aM_witnessSize aM_built aM_copyRow M_length M_acts M_next M_many M_readMany M_found M_shortest M_nodes M_solved M_dropped M_fits M_proofSize M_tooLong M_text M_now M_trial M_read M_diary M_kept M_isKept M_constraint M_readConstraint M_word M_size M_number M_firstOne M_node M_parent M_rule M_child M_proof M_witness M_witnessSize M_built M_copyRow) (some (.int r)) (wX12 g aM aM_text aM_now aM_trial aM_read aM_diary aM_kept aM_isKept aM_constraint aM_readConstraint aM_word aM_size aM_number aM_firstOne aM_node aM_parent aM_rule aM_child aM_proof aM_witness aM_witnessSize aM_built aM_copyRow M_length M_acts M_next M_many M_readMany M_found M_shortest M_nodes_o M_solved_o M_dropped_o M_fits_o M_proofSize_o M_tooLong M_text M_now M_trial_o M_read M_diary M_kept M_isKept M_constraint M_readConstraint M_word M_size M_number M_firstOne M_node_o M_parent_o M_rule_o M_child_o M_proof_o M_witness M_witnessSize M_built M_copyRow) := by
  refine Ct.introI (by decide) (Nat.le_of_ble_eq_true rfl) ?_
  intro p e s m below meth c A QQ ls hyp hret
  obtain ⟨hx, hb, hml, hts, hown, hA, hE, hP, hD, hl⟩ := hyp
  have hK := hE.1
  have hS : va_S A s.heap s.heap [] := va_S.rf
  have X : Here g p s m c cX12_proofLength 1 ([.ref aM] : List Value).toArray RX12 A := ⟨⟨hx, hb, hml, hown, hts⟩, hE, hA⟩
  have hl : lv_has ls 1 [(0, .ref aM)] := hl
  obtain ⟨H, hH⟩ : ∃ H, H = s.heap := ⟨_, rfl⟩
  obtain ⟨locs, hlocs⟩ : ∃ l : List Loc, l = [] := ⟨_, rfl⟩
  rw [show W p l e rmX12_proofLength s m ([.ref aM] : List Value).toArray below meth c s.heap [] 0 0 QQ (F0 m 0 ls []) = W p l e rmX12_proofLength s m ([.ref aM] : List Value).toArray below meth c H locs 0 0 QQ (F0 m 0 ls []) by rw [hH, hlocs]]
  have hP : va_P g.1 vwCl (wX12 g aM aM_text aM_now aM_trial aM_read aM_diary aM_kept aM_isKept aM_constraint aM_readConstraint aM_word aM_size aM_number aM_firstOne aM_node aM_parent aM_rule aM_child aM_proof aM_witness aM_witnessSize aM_built aM_copyRow M_length M_acts M_next M_many M_readMany M_found M_shortest M_nodes M_solved M_dropped M_fits M_proofSize M_tooLong M_text M_now M_trial M_read M_diary M_kept M_isKept M_constraint M_readConstraint M_word M_size M_number M_firstOne M_node M_parent M_rule M_child M_proof M_witness M_witnessSize M_built M_copyRow) H := by rw [hH]; exact hP
  have hD : va_D A (wX12 g aM aM_text aM_now aM_trial aM_read aM_diary aM_kept aM_isKept aM_constraint aM_readConstraint aM_word aM_size aM_number aM_firstOne aM_node aM_parent aM_rule aM_child aM_proof aM_witness aM_witnessSize aM_built aM_copyRow M_length M_acts M_next M_many M_readMany M_found M_shortest M_nodes M_solved M_dropped M_fits M_proofSize M_tooLong M_text M_now M_trial M_read M_diary M_kept M_isKept M_constraint M_readConstraint M_word M_size M_number M_firstOne M_node M_parent M_rule M_child M_proof M_witness M_witnessSize M_built M_copyRow) := hD
  have hS : va_S A s.heap H locs := by rw [hH, hlocs]; exact hS
  clear hH hlocs
  refine lv_aload_n hx hb dX12_proofLength_0 rfl (lv_at hl 0 rfl) ?_
  obtain ⟨t1, M_nodes_1, M_solved_1, M_dropped_1, M_fits_1, M_proofSize_1, M_trial_1, M_node_1, M_parent_1, M_rule_1, M_child_1, M_proof_1, hc1, h⟩ := bd12_to h
  refine go_A (st1 := [.int t1]) (run_V (As := []) (rest := []) X hS (mX12_layProof g l  aM aM_text aM_now aM_trial aM_read aM_diary aM_kept aM_isKept aM_constraint aM_readConstraint aM_word aM_size aM_number aM_firstOne aM_node aM_parent aM_rule aM_child aM_proof aM_witness aM_witnessSize aM_built aM_copyRow M_length M_acts M_next M_many M_readMany M_found M_shortest M_nodes M_solved M_dropped M_fits M_proofSize M_tooLong M_text M_now M_trial M_read M_diary M_kept M_isKept M_constraint M_readConstraint M_word M_size M_number M_firstOne M_node M_parent M_rule M_child M_proof M_witness M_witnessSize M_built M_copyRow t1 M_nodes_1 M_solved_1 M_dropped_1 M_fits_1 M_proofSize_1 M_trial_1 M_node_1 M_parent_1 M_rule_1 M_child_1 M_proof_1 hc1) okX12_layProof wd6_18 ⟨Nat.le_of_ble_eq_true rfl, Nat.le_of_ble_eq_true rfl⟩ ⟨rfl, rfl⟩ (va_recv hK hP (ci := 11) (q0 := 0) rfl rfl) hP hD (all_F hS hA hD) rfl hl.1 rfl (Nat.le_of_ble_eq_true rfl) dX12_proofLength_1 ⟨Nat.zero_le _, Nat.zero_le _⟩) hS (all_F hS hA hD) rfl (fun H locs hP hD hS => ?_)
  refine lv_if_eq (tgt := 14) hx hb dX12_proofLength_4 (by decide) (fun q4 => ?_) (fun q4 => ?_)
  · have h := ifT h q4
    refine lv_bipush (v := ((-9) : Int32)) hx hb dX12_proofLength_14 (by decide) ?_
    have h : some (((-9) : Int32), M_nodes_1, M_solved_1, M_dropped_1, M_fits_1, M_proofSize_1, M_trial_1, M_node_1, M_parent_1, M_rule_1, M_child_1, M_proof_1) = some (r, M_nodes_o, M_solved_o, M_dropped_o, M_fits_o, M_proofSize_o, M_trial_o, M_node_o, M_parent_o, M_rule_o, M_child_o, M_proof_o) := h
    cases h
    exact hret _ _ _ _ hP hD hS dX12_proofLength_16
  have h := ifF h q4
  refine lv_aload_n hx hb dX12_proofLength_7 rfl (lv_at hl 0 rfl) ?_
  refine va_get (D := g.1) (ci := 11) (v := .int M_proofSize_1) (C := RX12) (T := TX12) (N := 35) hx hb hts inBX12 hown hK hP 0 rfl rfl 29 (by decide) (hts _ wd4_225) (fun _ h9 => h9) rfl dX12_proofLength_8 ?_
  refine lv_goto (tgt := 16) hx hb dX12_proofLength_11 (by decide) ?_
  have h : some (M_proofSize_1, M_nodes_1, M_solved_1, M_dropped_1, M_fits_1, M_proofSize_1, M_trial_1, M_node_1, M_parent_1, M_rule_1, M_child_1, M_proof_1) = some (r, M_nodes_o, M_solved_o, M_dropped_o, M_fits_o, M_proofSize_o, M_trial_o, M_node_o, M_parent_o, M_rule_o, M_child_o, M_proof_o) := h
  cases h
  exact hret _ _ _ _ hP hD hS dX12_proofLength_16
set_option maxHeartbeats 4000000 in
set_option maxRecDepth 100000 in
theorem mX12_proofRule (g : GP) (l : Launch) (aM aM_text aM_now aM_trial aM_read aM_diary aM_kept aM_isKept aM_constraint aM_readConstraint aM_word aM_size aM_number aM_firstOne aM_node aM_parent aM_rule aM_child aM_proof aM_witness aM_witnessSize aM_built aM_copyRow : Nat) (M_length : Int32) (M_acts : Int32) (M_next : Int32) (M_many : Int32) (M_readMany : Int32) (M_found : Int32) (M_shortest : Int32) (M_nodes : Int32) (M_solved : Int32) (M_dropped : Int32) (M_fits : Int32) (M_proofSize : Int32) (M_tooLong : Int32) (M_text : Nat → Int32) (M_now : Nat → Int32) (M_trial : Nat → Int32) (M_read : Nat → Int32) (M_diary : Nat → Int32) (M_kept : Nat → Int32) (M_isKept : Nat → Int32) (M_constraint : Nat → Int32) (M_readConstraint : Nat → Int32) (M_word : Nat → Int32) (M_size : Nat → Int32) (M_number : Nat → Int32) (M_firstOne : Nat → Int32) (M_node : Nat → Int32) (M_parent : Nat → Int32) (M_rule : Nat → Int32) (M_child : Nat → Int32) (M_proof : Nat → Int32) (M_witness : Nat → Int32) (M_witnessSize : Nat → Int32) (M_built : Nat → Int32) (M_copyRow : Nat → Int32) (x1 : Int32) (r : Int32) (M_nodes_o : Int32) (M_solved_o : Int32) (M_dropped_o : Int32) (M_fits_o : Int32) (M_proofSize_o : Int32) (M_trial_o : Nat → Int32) (M_node_o : Nat → Int32) (M_parent_o : Nat → Int32) (M_rule_o : Nat → Int32) (M_child_o : Nat → Int32) (M_proof_o : Nat → Int32) (h : fM_proofRule M_fits M_proofSize M_now M_trial M_node M_parent M_rule M_child M_proof x1 = some (r, M_nodes_o, M_solved_o, M_dropped_o, M_fits_o, M_proofSize_o, M_trial_o, M_node_o, M_parent_o, M_rule_o, M_child_o, M_proof_o)) : Ct g l yX12_proofRule cX12_proofRule 2 (some .int) rmX12_proofRule [.ref aM, .int x1] (wX12 g aM aM_text aM_now aM_trial aM_read aM_diary aM_kept aM_isKept aM_constraint aM_readConstraint aM_word aM_size aM_number aM_firstOne aM_node aM_parent aM_rule aM_child aM_proof aM_witness aM_witnessSize aM_built aM_copyRow M_length M_acts M_next M_many M_readMany M_found M_shortest M_nodes M_solved M_dropped M_fits M_proofSize M_tooLong M_text M_now M_trial M_read M_diary M_kept M_isKept M_constraint M_readConstraint M_word M_size M_number M_firstOne M_node M_parent M_rule M_child M_proof M_witness M_witnessSize M_built M_copyRow) (some (.int r)) (wX12 g aM aM_text aM_now aM_trial aM_read aM_diary aM_kept aM_isKept aM_constraint aM_readConstraint aM_word aM_size aM_number aM_firstOne aM_node aM_parent aM_rule aM_child aM_proof aM_witness aM_witnessSize aM_built aM_copyRow M_length M_acts M_next M_many M_readMany M_found M_shortest M_nodes_o M_solved_o M_dropped_o M_fits_o M_proofSize_o M_tooLong M_text M_now M_trial_o M_read M_diary M_kept M_isKept M_constraint M_readConstraint M_word M_size M_number M_firstOne M_node_o M_parent_o M_rule_o M_child_o M_proof_o M_witness M_witnessSize M_built M_copyRow) := by
  refine Ct.introI (by decide) (Nat.le_of_ble_eq_true rfl) ?_
  intro p e s m below meth c A QQ ls hyp hret
  obtain ⟨hx, hb, hml, hts, hown, hA, hE, hP, hD, hl⟩ := hyp
  have hK := hE.1
  have hS : va_S A s.heap s.heap [] := va_S.rf
  have X : Here g p s m c cX12_proofRule 2 ([.ref aM, .int x1] : List Value).toArray RX12 A := ⟨⟨hx, hb, hml, hown, hts⟩, hE, hA⟩
  have hl : lv_has ls 2 [(0, .ref aM), (1, .int x1)] := hl
  obtain ⟨H, hH⟩ : ∃ H, H = s.heap := ⟨_, rfl⟩
  obtain ⟨locs, hlocs⟩ : ∃ l : List Loc, l = [] := ⟨_, rfl⟩
  rw [show W p l e rmX12_proofRule s m ([.ref aM, .int x1] : List Value).toArray below meth c s.heap [] 0 0 QQ (F0 m 0 ls []) = W p l e rmX12_proofRule s m ([.ref aM, .int x1] : List Value).toArray below meth c H locs 0 0 QQ (F0 m 0 ls []) by rw [hH, hlocs]]
  have hP : va_P g.1 vwCl (wX12 g aM aM_text aM_now aM_trial aM_read aM_diary aM_kept aM_isKept aM_constraint aM_readConstraint aM_word aM_size aM_number aM_firstOne aM_node aM_parent aM_rule aM_child aM_proof aM_witness aM_witnessSize aM_built aM_copyRow M_length M_acts M_next M_many M_readMany M_found M_shortest M_nodes M_solved M_dropped M_fits M_proofSize M_tooLong M_text M_now M_trial M_read M_diary M_kept M_isKept M_constraint M_readConstraint M_word M_size M_number M_firstOne M_node M_parent M_rule M_child M_proof M_witness M_witnessSize M_built M_copyRow) H := by rw [hH]; exact hP
  have hD : va_D A (wX12 g aM aM_text aM_now aM_trial aM_read aM_diary aM_kept aM_isKept aM_constraint aM_readConstraint aM_word aM_size aM_number aM_firstOne aM_node aM_parent aM_rule aM_child aM_proof aM_witness aM_witnessSize aM_built aM_copyRow M_length M_acts M_next M_many M_readMany M_found M_shortest M_nodes M_solved M_dropped M_fits M_proofSize M_tooLong M_text M_now M_trial M_read M_diary M_kept M_isKept M_constraint M_readConstraint M_word M_size M_number M_firstOne M_node M_parent M_rule M_child M_proof M_witness M_witnessSize M_built M_copyRow) := hD
  have hS : va_S A s.heap H locs := by rw [hH, hlocs]; exact hS
  clear hH hlocs
  refine lv_aload_n hx hb dX12_proofRule_0 rfl (lv_at hl 0 rfl) ?_
  obtain ⟨t1, M_nodes_1, M_solved_1, M_dropped_1, M_fits_1, M_proofSize_1, M_trial_1, M_node_1, M_parent_1, M_rule_1, M_child_1, M_proof_1, hc1, h⟩ := bd12_to h
  refine go_A (st1 := [.int t1]) (run_V (As := []) (rest := []) X hS (mX12_layProof g l  aM aM_text aM_now aM_trial aM_read aM_diary aM_kept aM_isKept aM_constraint aM_readConstraint aM_word aM_size aM_number aM_firstOne aM_node aM_parent aM_rule aM_child aM_proof aM_witness aM_witnessSize aM_built aM_copyRow M_length M_acts M_next M_many M_readMany M_found M_shortest M_nodes M_solved M_dropped M_fits M_proofSize M_tooLong M_text M_now M_trial M_read M_diary M_kept M_isKept M_constraint M_readConstraint M_word M_size M_number M_firstOne M_node M_parent M_rule M_child M_proof M_witness M_witnessSize M_built M_copyRow t1 M_nodes_1 M_solved_1 M_dropped_1 M_fits_1 M_proofSize_1 M_trial_1 M_node_1 M_parent_1 M_rule_1 M_child_1 M_proof_1 hc1) okX12_layProof wd6_18 ⟨Nat.le_of_ble_eq_true rfl, Nat.le_of_ble_eq_true rfl⟩ ⟨rfl, rfl⟩ (va_recv hK hP (ci := 11) (q0 := 0) rfl rfl) hP hD (all_F hS hA hD) rfl hl.1 rfl (Nat.le_of_ble_eq_true rfl) dX12_proofRule_1 ⟨Nat.zero_le _, Nat.zero_le _⟩) hS (all_F hS hA hD) rfl (fun H locs hP hD hS => ?_)
  refine lv_if_ne (tgt := 10) hx hb dX12_proofRule_4 (by decide) (fun q4 => ?_) (fun q4 => ?_)
  · have h := ifF h q4
    refine lv_iload_n hx hb dX12_proofRule_10 rfl (lv_at hl 1 rfl) ?_
    refine lv_i2l (v := (Int32.toInt64 x1)) hx hb dX12_proofRule_11 rfl ?_
    refine lv_lconst (v := (0 : Int64)) hx hb dX12_proofRule_12 (by decide) ?_
    refine lv_aload_n hx hb dX12_proofRule_13 rfl (lv_at hl 0 rfl) ?_
    refine va_get (D := g.1) (ci := 11) (v := .int M_proofSize_1) (C := RX12) (T := TX12) (N := 35) hx hb hts inBX12 hown hK hP 0 rfl rfl 29 (by decide) (hts _ wd4_225) (fun _ h9 => h9) rfl dX12_proofRule_14 ?_
    refine lv_iconst (v := (1 : Int32)) hx hb dX12_proofRule_17 (by decide) ?_
    refine lv_isub hx hb dX12_proofRule_18 ?_
    refine lv_i2l (v := (Int32.toInt64 (M_proofSize_1 - (1 : Int32)))) hx hb dX12_proofRule_19 rfl ?_
    obtain ⟨t20, hc20, h⟩ := bd1_to h
    refine go_0 (st1 := [.int t20]) (run_S (As := [.long (Int32.toInt64 x1), .long (0 : Int64), .long (Int32.toInt64 (M_proofSize_1 - (1 : Int32)))]) (rest := []) X hS (mX12_in g l  (Int32.toInt64 x1) (0 : Int64) (Int32.toInt64 (M_proofSize_1 - (1 : Int32))) t20 hc20) okX12_in wd5_67 ⟨Nat.le_of_ble_eq_true rfl, Nat.le_of_ble_eq_true rfl⟩ ⟨rfl, rfl⟩ nil_P nil_D (nil_F hS hA) rfl hl.1 rfl (Nat.le_of_ble_eq_true rfl) dX12_proofRule_20 ⟨Nat.zero_le _, Nat.zero_le _⟩) hS hA hP rfl (fun H locs hP hS => ?_)
    refine lv_if_eq (tgt := 40) hx hb dX12_proofRule_23 (by decide) (fun q23 => ?_) (fun q23 => ?_)
    · have h := ifT h q23
      refine lv_iconst (v := ((-1) : Int32)) hx hb dX12_proofRule_40 (by decide) ?_
      have h : some (((-1) : Int32), M_nodes_1, M_solved_1, M_dropped_1, M_fits_1, M_proofSize_1, M_trial_1, M_node_1, M_parent_1, M_rule_1, M_child_1, M_proof_1) = some (r, M_nodes_o, M_solved_o, M_dropped_o, M_fits_o, M_proofSize_o, M_trial_o, M_node_o, M_parent_o, M_rule_o, M_child_o, M_proof_o) := h
      cases h
      exact hret _ _ _ _ hP hD hS dX12_proofRule_41
    have h := ifF h q23
    refine lv_aload_n hx hb dX12_proofRule_26 rfl (lv_at hl 0 rfl) ?_
    refine va_get (D := g.1) (ci := 11) (v := .ref aM_rule) (C := RX12) (T := TX12) (N := 35) hx hb hts inBX12 hown hK hP 0 rfl rfl 22 (by decide) (hts _ wd4_218) (fun _ h9 => h9) rfl dX12_proofRule_27 ?_
    refine lv_aload_n hx hb dX12_proofRule_30 rfl (lv_at hl 0 rfl) ?_
    refine va_get (D := g.1) (ci := 11) (v := .ref aM_proof) (C := RX12) (T := TX12) (N := 35) hx hb hts inBX12 hown hK hP 0 rfl rfl 28 (by decide) (hts _ wd4_224) (fun _ h9 => h9) rfl dX12_proofRule_31 ?_
    refine lv_iload_n hx hb dX12_proofRule_34 rfl (lv_at hl 1 rfl) ?_
    have hin := ld_in h
    refine va_iald hx hb hK hP 18 0 rfl rfl hin dX12_proofRule_35 ?_
    refine lv_topi (fun t35 et35 => ?_)
    have h := ld_to h et35
    have hin := ld_in h
    refine va_iald hx hb hK hP 16 0 rfl rfl hin dX12_proofRule_36 ?_
    refine lv_topi (fun t36 et36 => ?_)
    have h := ld_to h et36
    refine lv_goto (tgt := 41) hx hb dX12_proofRule_37 (by decide) ?_
    have h : some (t36, M_nodes_1, M_solved_1, M_dropped_1, M_fits_1, M_proofSize_1, M_trial_1, M_node_1, M_parent_1, M_rule_1, M_child_1, M_proof_1) = some (r, M_nodes_o, M_solved_o, M_dropped_o, M_fits_o, M_proofSize_o, M_trial_o, M_node_o, M_parent_o, M_rule_o, M_child_o, M_proof_o) := h
    cases h
    exact hret _ _ _ _ hP hD hS dX12_proofRule_41
  have h := ifT h q4
  refine lv_bipush (v := ((-9) : Int32)) hx hb dX12_proofRule_7 (by decide) ?_
  have h : some (((-9) : Int32), M_nodes_1, M_solved_1, M_dropped_1, M_fits_1, M_proofSize_1, M_trial_1, M_node_1, M_parent_1, M_rule_1, M_child_1, M_proof_1) = some (r, M_nodes_o, M_solved_o, M_dropped_o, M_fits_o, M_proofSize_o, M_trial_o, M_node_o, M_parent_o, M_rule_o, M_child_o, M_proof_o) := h
  cases h
  exact hret _ _ _ _ hP hD hS dX12_proofRule_9
set_option maxHeartbeats 4000000 in
set_option maxRecDepth 100000 in
theorem mX12_putAhead (g : GP) (l : Launch) (aM aM_text aM_now aM_trial aM_read aM_diary aM_kept aM_isKept aM_constraint aM_readConstraint aM_word aM_size aM_number aM_firstOne aM_node aM_parent aM_rule aM_child aM_proof aM_witness aM_witnessSize aM_built aM_copyRow : Nat) (M_length : Int32) (M_acts : Int32) (M_next : Int32) (M_many : Int32) (M_readMany : Int32) (M_found : Int32) (M_shortest : Int32) (M_nodes : Int32) (M_solved : Int32) (M_dropped : Int32) (M_fits : Int32) (M_proofSize : Int32) (M_tooLong : Int32) (M_text : Nat → Int32) (M_now : Nat → Int32) (M_trial : Nat → Int32) (M_read : Nat → Int32) (M_diary : Nat → Int32) (M_kept : Nat → Int32) (M_isKept : Nat → Int32) (M_constraint : Nat → Int32) (M_readConstraint : Nat → Int32) (M_word : Nat → Int32) (M_size : Nat → Int32) (M_number : Nat → Int32) (M_firstOne : Nat → Int32) (M_node : Nat → Int32) (M_parent : Nat → Int32) (M_rule : Nat → Int32) (M_child : Nat → Int32) (M_proof : Nat → Int32) (M_witness : Nat → Int32) (M_witnessSize : Nat → Int32) (M_built : Nat → Int32) (M_copyRow : Nat → Int32) (x1 : Int32) (x2 : Int32) (M_tooLong_o : Int32) (M_witness_o : Nat → Int32) (M_witnessSize_o : Nat → Int32) (M_built_o : Nat → Int32) (h : fM_putAhead M_tooLong M_witness M_witnessSize M_built x1 x2 = some (M_tooLong_o, M_witness_o, M_witnessSize_o, M_built_o)) : Ct g l yX12_putAhead cX12_putAhead 5 none rmX12_putAhead [.ref aM, .int x1, .int x2] (wX12 g aM aM_text aM_now aM_trial aM_read aM_diary aM_kept aM_isKept aM_constraint aM_readConstraint aM_word aM_size aM_number aM_firstOne aM_node aM_parent aM_rule aM_child aM_proof aM_witness aM_witnessSize aM_built aM_copyRow M_length M_acts M_next M_many M_readMany M_found M_shortest M_nodes M_solved M_dropped M_fits M_proofSize M_tooLong M_text M_now M_trial M_read M_diary M_kept M_isKept M_constraint M_readConstraint M_word M_size M_number M_firstOne M_node M_parent M_rule M_child M_proof M_witness M_witnessSize M_built M_copyRow) none (wX12 g aM aM_text aM_now aM_trial aM_read aM_diary aM_kept aM_isKept aM_constraint aM_readConstraint aM_word aM_size aM_number aM_firstOne aM_node aM_parent aM_rule aM_child aM_proof aM_witness aM_witnessSize aM_built aM_copyRow M_length M_acts M_next M_many M_readMany M_found M_shortest M_nodes M_solved M_dropped M_fits M_proofSize M_tooLong_o M_text M_now M_trial M_read M_diary M_kept M_isKept M_constraint M_readConstraint M_word M_size M_number M_firstOne M_node M_parent M_rule M_child M_proof M_witness_o M_witnessSize_o M_built_o M_copyRow) := by
  refine Ct.introV (by decide) (Nat.le_of_ble_eq_true rfl) ?_
  intro p e s m below meth c A QQ ls hyp hret
  obtain ⟨hx, hb, hml, hts, hown, hA, hE, hP, hD, hl⟩ := hyp
  have hK := hE.1
  have hS : va_S A s.heap s.heap [] := va_S.rf
  have X : Here g p s m c cX12_putAhead 5 ([.ref aM, .int x1, .int x2] : List Value).toArray RX12 A := ⟨⟨hx, hb, hml, hown, hts⟩, hE, hA⟩
  have L136 : ∀ (n136 : Nat), ∀ (M_tooLong : Int32) (M_witness : Nat → Int32) (M_witnessSize : Nat → Int32) (M_built : Nat → Int32) (v4 : Int32) (ls : Array Slot) (H : Heap) (locs : List Loc), lv_has ls 5 [(0, .ref aM), (1, .int x1), (4, .int v4)] → va_P g.1 vwCl (wX12 g aM aM_text aM_now aM_trial aM_read aM_diary aM_kept aM_isKept aM_constraint aM_readConstraint aM_word aM_size aM_number aM_firstOne aM_node aM_parent aM_rule aM_child aM_proof aM_witness aM_witnessSize aM_built aM_copyRow M_length M_acts M_next M_many M_readMany M_found M_shortest M_nodes M_solved M_dropped M_fits M_proofSize M_tooLong M_text M_now M_trial M_read M_diary M_kept M_isKept M_constraint M_readConstraint M_word M_size M_number M_firstOne M_node M_parent M_rule M_child M_proof M_witness M_witnessSize M_built M_copyRow) H → va_D A (wX12 g aM aM_text aM_now aM_trial aM_read aM_diary aM_kept aM_isKept aM_constraint aM_readConstraint aM_word aM_size aM_number aM_firstOne aM_node aM_parent aM_rule aM_child aM_proof aM_witness aM_witnessSize aM_built aM_copyRow M_length M_acts M_next M_many M_readMany M_found M_shortest M_nodes M_solved M_dropped M_fits M_proofSize M_tooLong M_text M_now M_trial M_read M_diary M_kept M_isKept M_constraint M_readConstraint M_word M_size M_number M_firstOne M_node M_parent M_rule M_child M_proof M_witness M_witnessSize M_built M_copyRow) → va_S A s.heap H locs → fx2 (fM_putAhead_136 M_tooLong M_witnessSize M_built x1) n136 M_witness v4 = some (M_tooLong_o, M_witness_o, M_witnessSize_o, M_built_o) → W p l e rmX12_putAhead s m ([.ref aM, .int x1, .int x2] : List Value).toArray below meth c H locs 0 0 QQ (F0 m 136 ls []) := by
    intro n136
    induction n136 with
    | zero => intro M_tooLong M_witness M_witnessSize M_built v4 ls H locs hl hP hD hS h; exact fx2_0 h
    | succ n136 ih136 =>
      intro M_tooLong M_witness M_witnessSize M_built v4 ls H locs hl hP hD hS h
      have h := (fx2_s (fM_putAhead_136 M_tooLong M_witnessSize M_built x1) n136 M_witness v4).symm.trans h
      refine lv_iload hx hb dX12_putAhead_136 (lv_at hl 2 rfl) ?_
      refine lv_aload_n hx hb dX12_putAhead_138 rfl (lv_at hl 0 rfl) ?_
      refine va_get (D := g.1) (ci := 11) (v := .ref aM_witnessSize) (C := RX12) (T := TX12) (N := 35) hx hb hts inBX12 hown hK hP 0 rfl rfl 31 (by decide) (hts _ wd4_227) (fun _ h9 => h9) rfl dX12_putAhead_139 ?_
      refine lv_iload_n hx hb dX12_putAhead_142 rfl (lv_at hl 1 rfl) ?_
      have hin := ld_in h
      refine va_iald hx hb hK hP 20 0 rfl rfl hin dX12_putAhead_143 ?_
      refine lv_topi (fun t143 et143 => ?_)
      have h := ld_to h et143
      refine lv_icmp_ge (tgt := 172) hx hb dX12_putAhead_144 (by decide) (fun q144 => ?_) (fun q144 => ?_)
      · have h := ifT h q144
        have h : some (M_tooLong, M_witness, M_witnessSize, M_built) = some (M_tooLong_o, M_witness_o, M_witnessSize_o, M_built_o) := h
        cases h
        exact hret _ _ _ _ hP hD hS dX12_putAhead_172
      have h := ifF h q144
      refine lv_aload_n hx hb dX12_putAhead_147 rfl (lv_at hl 0 rfl) ?_
      refine va_get (D := g.1) (ci := 11) (v := .ref aM_witness) (C := RX12) (T := TX12) (N := 35) hx hb hts inBX12 hown hK hP 0 rfl rfl 30 (by decide) (hts _ wd4_226) (fun _ h9 => h9) rfl dX12_putAhead_148 ?_
      refine lv_bipush (v := (60 : Int32)) hx hb dX12_putAhead_151 (by decide) ?_
      refine lv_iload_n hx hb dX12_putAhead_153 rfl (lv_at hl 1 rfl) ?_
      refine lv_imul hx hb dX12_putAhead_154 ?_
      refine lv_iload hx hb dX12_putAhead_155 (lv_at hl 2 rfl) ?_
      refine lv_iadd hx hb dX12_putAhead_157 ?_
      refine lv_aload_n hx hb dX12_putAhead_158 rfl (lv_at hl 0 rfl) ?_
      refine va_get (D := g.1) (ci := 11) (v := .ref aM_built) (C := RX12) (T := TX12) (N := 35) hx hb hts inBX12 hown hK hP 0 rfl rfl 33 (by decide) (hts _ wd4_229) (fun _ h9 => h9) rfl dX12_putAhead_159 ?_
      refine lv_iload hx hb dX12_putAhead_162 (lv_at hl 2 rfl) ?_
      have hin := ld_in h
      refine va_iald hx hb hK hP 21 0 rfl rfl hin dX12_putAhead_164 ?_
      refine lv_topi (fun t164 et164 => ?_)
      have h := ld_to h et164
      have hin := sti_in h
      refine va_iast hx hb hK hP hD hS 19 0 rfl rfl hin dX12_putAhead_165 (fun H locs hP hD hS => ?_)
      obtain ⟨M_witness_165, eM_witness_165⟩ : ∃ y : Nat → Int32, y = upd M_witness (Int32.toNatClampNeg (((60 : Int32) * x1) + v4)) t164 := ⟨_, rfl⟩
      have h := sti_to h eM_witness_165
      have hP : va_P g.1 vwCl (wX12 g aM aM_text aM_now aM_trial aM_read aM_diary aM_kept aM_isKept aM_constraint aM_readConstraint aM_word aM_size aM_number aM_firstOne aM_node aM_parent aM_rule aM_child aM_proof aM_witness aM_witnessSize aM_built aM_copyRow M_length M_acts M_next M_many M_readMany M_found M_shortest M_nodes M_solved M_dropped M_fits M_proofSize M_tooLong M_text M_now M_trial M_read M_diary M_kept M_isKept M_constraint M_readConstraint M_word M_size M_number M_firstOne M_node M_parent M_rule M_child M_proof M_witness_165 M_witnessSize M_built M_copyRow) H := by rw [eM_witness_165]; exact hP
      have hD : va_D A (wX12 g aM aM_text aM_now aM_trial aM_read aM_diary aM_kept aM_isKept aM_constraint aM_readConstraint aM_word aM_size aM_number aM_firstOne aM_node aM_parent aM_rule aM_child aM_proof aM_witness aM_witnessSize aM_built aM_copyRow M_length M_acts M_next M_many M_readMany M_found M_shortest M_nodes M_solved M_dropped M_fits M_proofSize M_tooLong M_text M_now M_trial M_read M_diary M_kept M_isKept M_constraint M_readConstraint M_word M_size M_number M_firstOne M_node M_parent M_rule M_child M_proof M_witness_165 M_witnessSize M_built M_copyRow) := by rw [eM_witness_165]; exact hD
      obtain ⟨t166, et166⟩ : ∃ y : Int32, y = v4 + (1 : Int32) := ⟨_, rfl⟩
      refine lv_iinc (v := t166) (lv' := [(4, .int t166), (0, .ref aM), (1, .int x1)]) hx hb dX12_putAhead_166 hl (k := 2) rfl (by rw [et166]; rfl) (by decide) rfl (fun ls hl => ?_)
      have h := st_to h et166
      refine lv_goto (tgt := 136) hx hb dX12_putAhead_169 (by decide) ?_
      exact ih136 M_tooLong M_witness_165 M_witnessSize M_built t166 ls H locs (lv_sub hl [1, 2, 0] rfl) hP hD hS h
  have L85 : ∀ (n85 : Nat), ∀ (M_tooLong : Int32) (M_witness : Nat → Int32) (M_witnessSize : Nat → Int32) (M_built : Nat → Int32) (v3 : Int32) (v4 : Int32) (ls : Array Slot) (H : Heap) (locs : List Loc), lv_has ls 5 [(0, .ref aM), (1, .int x1), (3, .int v3), (4, .int v4)] → va_P g.1 vwCl (wX12 g aM aM_text aM_now aM_trial aM_read aM_diary aM_kept aM_isKept aM_constraint aM_readConstraint aM_word aM_size aM_number aM_firstOne aM_node aM_parent aM_rule aM_child aM_proof aM_witness aM_witnessSize aM_built aM_copyRow M_length M_acts M_next M_many M_readMany M_found M_shortest M_nodes M_solved M_dropped M_fits M_proofSize M_tooLong M_text M_now M_trial M_read M_diary M_kept M_isKept M_constraint M_readConstraint M_word M_size M_number M_firstOne M_node M_parent M_rule M_child M_proof M_witness M_witnessSize M_built M_copyRow) H → va_D A (wX12 g aM aM_text aM_now aM_trial aM_read aM_diary aM_kept aM_isKept aM_constraint aM_readConstraint aM_word aM_size aM_number aM_firstOne aM_node aM_parent aM_rule aM_child aM_proof aM_witness aM_witnessSize aM_built aM_copyRow M_length M_acts M_next M_many M_readMany M_found M_shortest M_nodes M_solved M_dropped M_fits M_proofSize M_tooLong M_text M_now M_trial M_read M_diary M_kept M_isKept M_constraint M_readConstraint M_word M_size M_number M_firstOne M_node M_parent M_rule M_child M_proof M_witness M_witnessSize M_built M_copyRow) → va_S A s.heap H locs → fx2 (fM_putAhead_85 M_tooLong M_witness M_witnessSize x1 v3) n85 M_built v4 = some (M_tooLong_o, M_witness_o, M_witnessSize_o, M_built_o) → W p l e rmX12_putAhead s m ([.ref aM, .int x1, .int x2] : List Value).toArray below meth c H locs 0 0 QQ (F0 m 85 ls []) := by
    intro n85
    induction n85 with
    | zero => intro M_tooLong M_witness M_witnessSize M_built v3 v4 ls H locs hl hP hD hS h; exact fx2_0 h
    | succ n85 ih85 =>
      intro M_tooLong M_witness M_witnessSize M_built v3 v4 ls H locs hl hP hD hS h
      have h := (fx2_s (fM_putAhead_85 M_tooLong M_witness M_witnessSize x1 v3) n85 M_built v4).symm.trans h
      refine lv_iload hx hb dX12_putAhead_85 (lv_at hl 3 rfl) ?_
      refine lv_aload_n hx hb dX12_putAhead_87 rfl (lv_at hl 0 rfl) ?_
      refine va_get (D := g.1) (ci := 11) (v := .ref aM_witnessSize) (C := RX12) (T := TX12) (N := 35) hx hb hts inBX12 hown hK hP 0 rfl rfl 31 (by decide) (hts _ wd4_227) (fun _ h9 => h9) rfl dX12_putAhead_88 ?_
      refine lv_iload_n hx hb dX12_putAhead_91 rfl (lv_at hl 1 rfl) ?_
      have hin := ld_in h
      refine va_iald hx hb hK hP 20 0 rfl rfl hin dX12_putAhead_92 ?_
      refine lv_topi (fun t92 et92 => ?_)
      have h := ld_to h et92
      refine lv_icmp_ge (tgt := 123) hx hb dX12_putAhead_93 (by decide) (fun q93 => ?_) (fun q93 => ?_)
      · have h := ifT h q93
        refine lv_aload_n hx hb dX12_putAhead_123 rfl (lv_at hl 0 rfl) ?_
        refine va_get (D := g.1) (ci := 11) (v := .ref aM_witnessSize) (C := RX12) (T := TX12) (N := 35) hx hb hts inBX12 hown hK hP 0 rfl rfl 31 (by decide) (hts _ wd4_227) (fun _ h9 => h9) rfl dX12_putAhead_124 ?_
        refine lv_iload_n hx hb dX12_putAhead_127 rfl (lv_at hl 1 rfl) ?_
        refine lv_dup2_11 hx hb dX12_putAhead_128 rfl rfl ?_
        have hin := ld_in h
        refine va_iald hx hb hK hP 20 0 rfl rfl hin dX12_putAhead_129 ?_
        refine lv_topi (fun t129 et129 => ?_)
        have h := ld_to h et129
        refine lv_iload_n hx hb dX12_putAhead_130 rfl (lv_at hl 2 rfl) ?_
        refine lv_iadd hx hb dX12_putAhead_131 ?_
        have hin := sti_in h
        refine va_iast hx hb hK hP hD hS 20 0 rfl rfl hin dX12_putAhead_132 (fun H locs hP hD hS => ?_)
        obtain ⟨M_witnessSize_132, eM_witnessSize_132⟩ : ∃ y : Nat → Int32, y = upd M_witnessSize (Int32.toNatClampNeg x1) (t129 + v3) := ⟨_, rfl⟩
        have h := sti_to h eM_witnessSize_132
        have hP : va_P g.1 vwCl (wX12 g aM aM_text aM_now aM_trial aM_read aM_diary aM_kept aM_isKept aM_constraint aM_readConstraint aM_word aM_size aM_number aM_firstOne aM_node aM_parent aM_rule aM_child aM_proof aM_witness aM_witnessSize aM_built aM_copyRow M_length M_acts M_next M_many M_readMany M_found M_shortest M_nodes M_solved M_dropped M_fits M_proofSize M_tooLong M_text M_now M_trial M_read M_diary M_kept M_isKept M_constraint M_readConstraint M_word M_size M_number M_firstOne M_node M_parent M_rule M_child M_proof M_witness M_witnessSize_132 M_built M_copyRow) H := by rw [eM_witnessSize_132]; exact hP
        have hD : va_D A (wX12 g aM aM_text aM_now aM_trial aM_read aM_diary aM_kept aM_isKept aM_constraint aM_readConstraint aM_word aM_size aM_number aM_firstOne aM_node aM_parent aM_rule aM_child aM_proof aM_witness aM_witnessSize aM_built aM_copyRow M_length M_acts M_next M_many M_readMany M_found M_shortest M_nodes M_solved M_dropped M_fits M_proofSize M_tooLong M_text M_now M_trial M_read M_diary M_kept M_isKept M_constraint M_readConstraint M_word M_size M_number M_firstOne M_node M_parent M_rule M_child M_proof M_witness M_witnessSize_132 M_built M_copyRow) := by rw [eM_witnessSize_132]; exact hD
        refine lv_iconst (v := (0 : Int32)) hx hb dX12_putAhead_133 (by decide) ?_
        refine lv_istore (lv' := [(4, .int (0 : Int32)), (0, .ref aM), (1, .int x1), (3, .int v3)]) hx hb dX12_putAhead_134 hl (by decide) rfl (fun ls hl => ?_)
        exact L136 FU M_tooLong M_witness M_witnessSize_132 M_built (0 : Int32) ls H locs (lv_sub hl [1, 2, 0] rfl) hP hD hS h
      have h := ifF h q93
      refine lv_aload_n hx hb dX12_putAhead_96 rfl (lv_at hl 0 rfl) ?_
      refine va_get (D := g.1) (ci := 11) (v := .ref aM_built) (C := RX12) (T := TX12) (N := 35) hx hb hts inBX12 hown hK hP 0 rfl rfl 33 (by decide) (hts _ wd4_229) (fun _ h9 => h9) rfl dX12_putAhead_97 ?_
      refine lv_iload_n hx hb dX12_putAhead_100 rfl (lv_at hl 2 rfl) ?_
      refine lv_iload hx hb dX12_putAhead_101 (lv_at hl 3 rfl) ?_
      refine lv_iadd hx hb dX12_putAhead_103 ?_
      refine lv_aload_n hx hb dX12_putAhead_104 rfl (lv_at hl 0 rfl) ?_
      refine va_get (D := g.1) (ci := 11) (v := .ref aM_witness) (C := RX12) (T := TX12) (N := 35) hx hb hts inBX12 hown hK hP 0 rfl rfl 30 (by decide) (hts _ wd4_226) (fun _ h9 => h9) rfl dX12_putAhead_105 ?_
      refine lv_bipush (v := (60 : Int32)) hx hb dX12_putAhead_108 (by decide) ?_
      refine lv_iload_n hx hb dX12_putAhead_110 rfl (lv_at hl 1 rfl) ?_
      refine lv_imul hx hb dX12_putAhead_111 ?_
      refine lv_iload hx hb dX12_putAhead_112 (lv_at hl 3 rfl) ?_
      refine lv_iadd hx hb dX12_putAhead_114 ?_
      have hin := ld_in h
      refine va_iald hx hb hK hP 19 0 rfl rfl hin dX12_putAhead_115 ?_
      refine lv_topi (fun t115 et115 => ?_)
      have h := ld_to h et115
      have hin := sti_in h
      refine va_iast hx hb hK hP hD hS 21 0 rfl rfl hin dX12_putAhead_116 (fun H locs hP hD hS => ?_)
      obtain ⟨M_built_116, eM_built_116⟩ : ∃ y : Nat → Int32, y = upd M_built (Int32.toNatClampNeg (v3 + v4)) t115 := ⟨_, rfl⟩
      have h := sti_to h eM_built_116
      have hP : va_P g.1 vwCl (wX12 g aM aM_text aM_now aM_trial aM_read aM_diary aM_kept aM_isKept aM_constraint aM_readConstraint aM_word aM_size aM_number aM_firstOne aM_node aM_parent aM_rule aM_child aM_proof aM_witness aM_witnessSize aM_built aM_copyRow M_length M_acts M_next M_many M_readMany M_found M_shortest M_nodes M_solved M_dropped M_fits M_proofSize M_tooLong M_text M_now M_trial M_read M_diary M_kept M_isKept M_constraint M_readConstraint M_word M_size M_number M_firstOne M_node M_parent M_rule M_child M_proof M_witness M_witnessSize M_built_116 M_copyRow) H := by rw [eM_built_116]; exact hP
      have hD : va_D A (wX12 g aM aM_text aM_now aM_trial aM_read aM_diary aM_kept aM_isKept aM_constraint aM_readConstraint aM_word aM_size aM_number aM_firstOne aM_node aM_parent aM_rule aM_child aM_proof aM_witness aM_witnessSize aM_built aM_copyRow M_length M_acts M_next M_many M_readMany M_found M_shortest M_nodes M_solved M_dropped M_fits M_proofSize M_tooLong M_text M_now M_trial M_read M_diary M_kept M_isKept M_constraint M_readConstraint M_word M_size M_number M_firstOne M_node M_parent M_rule M_child M_proof M_witness M_witnessSize M_built_116 M_copyRow) := by rw [eM_built_116]; exact hD
      obtain ⟨t117, et117⟩ : ∃ y : Int32, y = v4 + (1 : Int32) := ⟨_, rfl⟩
      refine lv_iinc (v := t117) (lv' := [(4, .int t117), (0, .ref aM), (1, .int x1), (3, .int v3)]) hx hb dX12_putAhead_117 hl (k := 3) rfl (by rw [et117]; rfl) (by decide) rfl (fun ls hl => ?_)
      have h := st_to h et117
      refine lv_goto (tgt := 85) hx hb dX12_putAhead_120 (by decide) ?_
      exact ih85 M_tooLong M_witness M_witnessSize M_built_116 v3 t117 ls H locs (lv_sub hl [1, 2, 3, 0] rfl) hP hD hS h
  have L40 : ∀ (n40 : Nat), ∀ (M_tooLong : Int32) (M_witness : Nat → Int32) (M_witnessSize : Nat → Int32) (M_built : Nat → Int32) (v3 : Int32) (v4 : Int32) (ls : Array Slot) (H : Heap) (locs : List Loc), lv_has ls 5 [(0, .ref aM), (1, .int x1), (2, .int x2), (3, .int v3), (4, .int v4)] → va_P g.1 vwCl (wX12 g aM aM_text aM_now aM_trial aM_read aM_diary aM_kept aM_isKept aM_constraint aM_readConstraint aM_word aM_size aM_number aM_firstOne aM_node aM_parent aM_rule aM_child aM_proof aM_witness aM_witnessSize aM_built aM_copyRow M_length M_acts M_next M_many M_readMany M_found M_shortest M_nodes M_solved M_dropped M_fits M_proofSize M_tooLong M_text M_now M_trial M_read M_diary M_kept M_isKept M_constraint M_readConstraint M_word M_size M_number M_firstOne M_node M_parent M_rule M_child M_proof M_witness M_witnessSize M_built M_copyRow) H → va_D A (wX12 g aM aM_text aM_now aM_trial aM_read aM_diary aM_kept aM_isKept aM_constraint aM_readConstraint aM_word aM_size aM_number aM_firstOne aM_node aM_parent aM_rule aM_child aM_proof aM_witness aM_witnessSize aM_built aM_copyRow M_length M_acts M_next M_many M_readMany M_found M_shortest M_nodes M_solved M_dropped M_fits M_proofSize M_tooLong M_text M_now M_trial M_read M_diary M_kept M_isKept M_constraint M_readConstraint M_word M_size M_number M_firstOne M_node M_parent M_rule M_child M_proof M_witness M_witnessSize M_built M_copyRow) → va_S A s.heap H locs → fx2 (fM_putAhead_40 M_tooLong M_witness M_witnessSize x1 x2 v3) n40 M_built v4 = some (M_tooLong_o, M_witness_o, M_witnessSize_o, M_built_o) → W p l e rmX12_putAhead s m ([.ref aM, .int x1, .int x2] : List Value).toArray below meth c H locs 0 0 QQ (F0 m 40 ls []) := by
    intro n40
    induction n40 with
    | zero => intro M_tooLong M_witness M_witnessSize M_built v3 v4 ls H locs hl hP hD hS h; exact fx2_0 h
    | succ n40 ih40 =>
      intro M_tooLong M_witness M_witnessSize M_built v3 v4 ls H locs hl hP hD hS h
      have h := (fx2_s (fM_putAhead_40 M_tooLong M_witness M_witnessSize x1 x2 v3) n40 M_built v4).symm.trans h
      have B75 : ∀ (M_built : Nat → Int32) (v4 : Int32) (s1 : Int32) (s2 : Int32) (ls : Array Slot) (H : Heap) (locs : List Loc), lv_has ls 5 [(0, .ref aM), (1, .int x1), (2, .int x2), (3, .int v3), (4, .int v4)] → va_P g.1 vwCl (wX12 g aM aM_text aM_now aM_trial aM_read aM_diary aM_kept aM_isKept aM_constraint aM_readConstraint aM_word aM_size aM_number aM_firstOne aM_node aM_parent aM_rule aM_child aM_proof aM_witness aM_witnessSize aM_built aM_copyRow M_length M_acts M_next M_many M_readMany M_found M_shortest M_nodes M_solved M_dropped M_fits M_proofSize M_tooLong M_text M_now M_trial M_read M_diary M_kept M_isKept M_constraint M_readConstraint M_word M_size M_number M_firstOne M_node M_parent M_rule M_child M_proof M_witness M_witnessSize M_built M_copyRow) H → va_D A (wX12 g aM aM_text aM_now aM_trial aM_read aM_diary aM_kept aM_isKept aM_constraint aM_readConstraint aM_word aM_size aM_number aM_firstOne aM_node aM_parent aM_rule aM_child aM_proof aM_witness aM_witnessSize aM_built aM_copyRow M_length M_acts M_next M_many M_readMany M_found M_shortest M_nodes M_solved M_dropped M_fits M_proofSize M_tooLong M_text M_now M_trial M_read M_diary M_kept M_isKept M_constraint M_readConstraint M_word M_size M_number M_firstOne M_node M_parent M_rule M_child M_proof M_witness M_witnessSize M_built M_copyRow) → va_S A s.heap H locs → fM_putAhead_75 (fx2 (fM_putAhead_40 M_tooLong M_witness M_witnessSize x1 x2 v3) n40) M_tooLong M_witness M_witnessSize M_built x1 x2 v3 v4 s1 s2 = some (M_tooLong_o, M_witness_o, M_witnessSize_o, M_built_o) → W p l e rmX12_putAhead s m ([.ref aM, .int x1, .int x2] : List Value).toArray below meth c H locs 0 0 QQ (F0 m 75 ls [.int s2, .int s1, .ref aM_built]) := by
        intro M_built v4 s1 s2 ls H locs hl hP hD hS h
        have hin := sti_in h
        refine va_iast hx hb hK hP hD hS 21 0 rfl rfl hin dX12_putAhead_75 (fun H locs hP hD hS => ?_)
        obtain ⟨M_built_75, eM_built_75⟩ : ∃ y : Nat → Int32, y = upd M_built (Int32.toNatClampNeg s1) s2 := ⟨_, rfl⟩
        have h := sti_to h eM_built_75
        have hP : va_P g.1 vwCl (wX12 g aM aM_text aM_now aM_trial aM_read aM_diary aM_kept aM_isKept aM_constraint aM_readConstraint aM_word aM_size aM_number aM_firstOne aM_node aM_parent aM_rule aM_child aM_proof aM_witness aM_witnessSize aM_built aM_copyRow M_length M_acts M_next M_many M_readMany M_found M_shortest M_nodes M_solved M_dropped M_fits M_proofSize M_tooLong M_text M_now M_trial M_read M_diary M_kept M_isKept M_constraint M_readConstraint M_word M_size M_number M_firstOne M_node M_parent M_rule M_child M_proof M_witness M_witnessSize M_built_75 M_copyRow) H := by rw [eM_built_75]; exact hP
        have hD : va_D A (wX12 g aM aM_text aM_now aM_trial aM_read aM_diary aM_kept aM_isKept aM_constraint aM_readConstraint aM_word aM_size aM_number aM_firstOne aM_node aM_parent aM_rule aM_child aM_proof aM_witness aM_witnessSize aM_built aM_copyRow M_length M_acts M_next M_many M_readMany M_found M_shortest M_nodes M_solved M_dropped M_fits M_proofSize M_tooLong M_text M_now M_trial M_read M_diary M_kept M_isKept M_constraint M_readConstraint M_word M_size M_number M_firstOne M_node M_parent M_rule M_child M_proof M_witness M_witnessSize M_built_75 M_copyRow) := by rw [eM_built_75]; exact hD
        obtain ⟨t76, et76⟩ : ∃ y : Int32, y = v4 + (1 : Int32) := ⟨_, rfl⟩
        refine lv_iinc (v := t76) (lv' := [(4, .int t76), (0, .ref aM), (1, .int x1), (2, .int x2), (3, .int v3)]) hx hb dX12_putAhead_76 hl (k := 4) rfl (by rw [et76]; rfl) (by decide) rfl (fun ls hl => ?_)
        have h := st_to h et76
        refine lv_goto (tgt := 40) hx hb dX12_putAhead_79 (by decide) ?_
        exact ih40 M_tooLong M_witness M_witnessSize M_built_75 v3 t76 ls H locs (lv_sub hl [1, 2, 3, 4, 0] rfl) hP hD hS h
      refine lv_iload hx hb dX12_putAhead_40 (lv_at hl 4 rfl) ?_
      refine lv_iload_n hx hb dX12_putAhead_42 rfl (lv_at hl 3 rfl) ?_
      refine lv_icmp_ge (tgt := 82) hx hb dX12_putAhead_43 (by decide) (fun q43 => ?_) (fun q43 => ?_)
      · have h := ifT h q43
        refine lv_iconst (v := (0 : Int32)) hx hb dX12_putAhead_82 (by decide) ?_
        refine lv_istore (lv' := [(4, .int (0 : Int32)), (0, .ref aM), (1, .int x1), (2, .int x2), (3, .int v3)]) hx hb dX12_putAhead_83 hl (by decide) rfl (fun ls hl => ?_)
        exact L85 FU M_tooLong M_witness M_witnessSize M_built v3 (0 : Int32) ls H locs (lv_sub hl [1, 2, 4, 0] rfl) hP hD hS h
      have h := ifF h q43
      refine lv_aload_n hx hb dX12_putAhead_46 rfl (lv_at hl 0 rfl) ?_
      refine va_get (D := g.1) (ci := 11) (v := .ref aM_built) (C := RX12) (T := TX12) (N := 35) hx hb hts inBX12 hown hK hP 0 rfl rfl 33 (by decide) (hts _ wd4_229) (fun _ h9 => h9) rfl dX12_putAhead_47 ?_
      refine lv_iload hx hb dX12_putAhead_50 (lv_at hl 4 rfl) ?_
      refine lv_iload_n hx hb dX12_putAhead_52 rfl (lv_at hl 2 rfl) ?_
      refine lv_iconst (v := (2 : Int32)) hx hb dX12_putAhead_53 (by decide) ?_
      refine lv_icmp_ge (tgt := 61) hx hb dX12_putAhead_54 (by decide) (fun q54 => ?_) (fun q54 => ?_)
      · have h := ifT h q54
        refine lv_aload_n hx hb dX12_putAhead_61 rfl (lv_at hl 0 rfl) ?_
        refine va_get (D := g.1) (ci := 11) (v := .ref aM_witness) (C := RX12) (T := TX12) (N := 35) hx hb hts inBX12 hown hK hP 0 rfl rfl 30 (by decide) (hts _ wd4_226) (fun _ h9 => h9) rfl dX12_putAhead_62 ?_
        refine lv_bipush (v := (60 : Int32)) hx hb dX12_putAhead_65 (by decide) ?_
        refine lv_iload_n hx hb dX12_putAhead_67 rfl (lv_at hl 2 rfl) ?_
        refine lv_iconst (v := (2 : Int32)) hx hb dX12_putAhead_68 (by decide) ?_
        refine lv_isub hx hb dX12_putAhead_69 ?_
        refine lv_imul hx hb dX12_putAhead_70 ?_
        refine lv_iload hx hb dX12_putAhead_71 (lv_at hl 4 rfl) ?_
        refine lv_iadd hx hb dX12_putAhead_73 ?_
        have hin := ld_in h
        refine va_iald hx hb hK hP 19 0 rfl rfl hin dX12_putAhead_74 ?_
        refine lv_topi (fun t74 et74 => ?_)
        have h := ld_to h et74
        exact B75 M_built v4 v4 t74 ls H locs (lv_sub hl [0, 1, 2, 3, 4] rfl) hP hD hS h
      have h := ifF h q54
      refine lv_iload_n hx hb dX12_putAhead_57 rfl (lv_at hl 2 rfl) ?_
      refine lv_goto (tgt := 75) hx hb dX12_putAhead_58 (by decide) ?_
      exact B75 M_built v4 v4 x2 ls H locs (lv_sub hl [0, 1, 2, 3, 4] rfl) hP hD hS h
  have B17 : ∀ (M_tooLong : Int32) (M_witness : Nat → Int32) (M_witnessSize : Nat → Int32) (M_built : Nat → Int32) (s0 : Int32) (ls : Array Slot) (H : Heap) (locs : List Loc), lv_has ls 5 [(0, .ref aM), (1, .int x1), (2, .int x2)] → va_P g.1 vwCl (wX12 g aM aM_text aM_now aM_trial aM_read aM_diary aM_kept aM_isKept aM_constraint aM_readConstraint aM_word aM_size aM_number aM_firstOne aM_node aM_parent aM_rule aM_child aM_proof aM_witness aM_witnessSize aM_built aM_copyRow M_length M_acts M_next M_many M_readMany M_found M_shortest M_nodes M_solved M_dropped M_fits M_proofSize M_tooLong M_text M_now M_trial M_read M_diary M_kept M_isKept M_constraint M_readConstraint M_word M_size M_number M_firstOne M_node M_parent M_rule M_child M_proof M_witness M_witnessSize M_built M_copyRow) H → va_D A (wX12 g aM aM_text aM_now aM_trial aM_read aM_diary aM_kept aM_isKept aM_constraint aM_readConstraint aM_word aM_size aM_number aM_firstOne aM_node aM_parent aM_rule aM_child aM_proof aM_witness aM_witnessSize aM_built aM_copyRow M_length M_acts M_next M_many M_readMany M_found M_shortest M_nodes M_solved M_dropped M_fits M_proofSize M_tooLong M_text M_now M_trial M_read M_diary M_kept M_isKept M_constraint M_readConstraint M_word M_size M_number M_firstOne M_node M_parent M_rule M_child M_proof M_witness M_witnessSize M_built M_copyRow) → va_S A s.heap H locs → fM_putAhead_17 M_tooLong M_witness M_witnessSize M_built x1 x2 s0 = some (M_tooLong_o, M_witness_o, M_witnessSize_o, M_built_o) → W p l e rmX12_putAhead s m ([.ref aM, .int x1, .int x2] : List Value).toArray below meth c H locs 0 0 QQ (F0 m 17 ls [.int s0]) := by
    intro M_tooLong M_witness M_witnessSize M_built s0 ls H locs hl hP hD hS h
    refine lv_istore_n (lv' := [(3, .int s0), (0, .ref aM), (1, .int x1), (2, .int x2)]) hx hb dX12_putAhead_17 rfl hl (by decide) rfl (fun ls hl => ?_)
    refine lv_iload_n hx hb dX12_putAhead_18 rfl (lv_at hl 0 rfl) ?_
    refine lv_aload_n hx hb dX12_putAhead_19 rfl (lv_at hl 1 rfl) ?_
    refine va_get (D := g.1) (ci := 11) (v := .ref aM_witnessSize) (C := RX12) (T := TX12) (N := 35) hx hb hts inBX12 hown hK hP 0 rfl rfl 31 (by decide) (hts _ wd4_227) (fun _ h9 => h9) rfl dX12_putAhead_20 ?_
    refine lv_iload_n hx hb dX12_putAhead_23 rfl (lv_at hl 2 rfl) ?_
    have hin := ld_in h
    refine va_iald hx hb hK hP 20 0 rfl rfl hin dX12_putAhead_24 ?_
    refine lv_topi (fun t24 et24 => ?_)
    have h := ld_to h et24
    refine lv_iadd hx hb dX12_putAhead_25 ?_
    refine lv_bipush (v := (60 : Int32)) hx hb dX12_putAhead_26 (by decide) ?_
    refine lv_icmp_le (tgt := 37) hx hb dX12_putAhead_28 (by decide) (fun q28 => ?_) (fun q28 => ?_)
    · have h := ifT h q28
      refine lv_iconst (v := (0 : Int32)) hx hb dX12_putAhead_37 (by decide) ?_
      refine lv_istore (lv' := [(4, .int (0 : Int32)), (3, .int s0), (0, .ref aM), (1, .int x1), (2, .int x2)]) hx hb dX12_putAhead_38 hl (by decide) rfl (fun ls hl => ?_)
      exact L40 FU M_tooLong M_witness M_witnessSize M_built s0 (0 : Int32) ls H locs (lv_sub hl [2, 3, 4, 1, 0] rfl) hP hD hS h
    have h := ifF h q28
    refine lv_aload_n hx hb dX12_putAhead_31 rfl (lv_at hl 1 rfl) ?_
    refine lv_iconst (v := (1 : Int32)) hx hb dX12_putAhead_32 (by decide) ?_
    refine va_put (D := g.1) (ci := 11) (v := .int (1 : Int32)) (ty := .boolean) (C := RX12) (T := TX12) (N := 35) hx hb hts inBX12 tyX12 tyX12_ok nmX12 hown hK hP hD hS 0 rfl rfl 32 (by decide) (hts _ wd4_228) (fun _ h9 => h9) rfl (tyX12_ok 32 (by decide)) rfl rfl (Nat.le_of_ble_eq_true rfl) dX12_putAhead_33 (fun H locs hP hD hS => ?_)
    have hP : va_P g.1 vwCl (wX12 g aM aM_text aM_now aM_trial aM_read aM_diary aM_kept aM_isKept aM_constraint aM_readConstraint aM_word aM_size aM_number aM_firstOne aM_node aM_parent aM_rule aM_child aM_proof aM_witness aM_witnessSize aM_built aM_copyRow M_length M_acts M_next M_many M_readMany M_found M_shortest M_nodes M_solved M_dropped M_fits M_proofSize (1 : Int32) M_text M_now M_trial M_read M_diary M_kept M_isKept M_constraint M_readConstraint M_word M_size M_number M_firstOne M_node M_parent M_rule M_child M_proof M_witness M_witnessSize M_built M_copyRow) H := hP
    have hD : va_D A (wX12 g aM aM_text aM_now aM_trial aM_read aM_diary aM_kept aM_isKept aM_constraint aM_readConstraint aM_word aM_size aM_number aM_firstOne aM_node aM_parent aM_rule aM_child aM_proof aM_witness aM_witnessSize aM_built aM_copyRow M_length M_acts M_next M_many M_readMany M_found M_shortest M_nodes M_solved M_dropped M_fits M_proofSize (1 : Int32) M_text M_now M_trial M_read M_diary M_kept M_isKept M_constraint M_readConstraint M_word M_size M_number M_firstOne M_node M_parent M_rule M_child M_proof M_witness M_witnessSize M_built M_copyRow) := hD
    have h : some ((1 : Int32), M_witness, M_witnessSize, M_built) = some (M_tooLong_o, M_witness_o, M_witnessSize_o, M_built_o) := h
    cases h
    exact hret _ _ _ _ hP hD hS dX12_putAhead_36
  have hl : lv_has ls 5 [(0, .ref aM), (1, .int x1), (2, .int x2)] := hl
  obtain ⟨H, hH⟩ : ∃ H, H = s.heap := ⟨_, rfl⟩
  obtain ⟨locs, hlocs⟩ : ∃ l : List Loc, l = [] := ⟨_, rfl⟩
  rw [show W p l e rmX12_putAhead s m ([.ref aM, .int x1, .int x2] : List Value).toArray below meth c s.heap [] 0 0 QQ (F0 m 0 ls []) = W p l e rmX12_putAhead s m ([.ref aM, .int x1, .int x2] : List Value).toArray below meth c H locs 0 0 QQ (F0 m 0 ls []) by rw [hH, hlocs]]
  have hP : va_P g.1 vwCl (wX12 g aM aM_text aM_now aM_trial aM_read aM_diary aM_kept aM_isKept aM_constraint aM_readConstraint aM_word aM_size aM_number aM_firstOne aM_node aM_parent aM_rule aM_child aM_proof aM_witness aM_witnessSize aM_built aM_copyRow M_length M_acts M_next M_many M_readMany M_found M_shortest M_nodes M_solved M_dropped M_fits M_proofSize M_tooLong M_text M_now M_trial M_read M_diary M_kept M_isKept M_constraint M_readConstraint M_word M_size M_number M_firstOne M_node M_parent M_rule M_child M_proof M_witness M_witnessSize M_built M_copyRow) H := by rw [hH]; exact hP
  have hD : va_D A (wX12 g aM aM_text aM_now aM_trial aM_read aM_diary aM_kept aM_isKept aM_constraint aM_readConstraint aM_word aM_size aM_number aM_firstOne aM_node aM_parent aM_rule aM_child aM_proof aM_witness aM_witnessSize aM_built aM_copyRow M_length M_acts M_next M_many M_readMany M_found M_shortest M_nodes M_solved M_dropped M_fits M_proofSize M_tooLong M_text M_now M_trial M_read M_diary M_kept M_isKept M_constraint M_readConstraint M_word M_size M_number M_firstOne M_node M_parent M_rule M_child M_proof M_witness M_witnessSize M_built M_copyRow) := hD
  have hS : va_S A s.heap H locs := by rw [hH, hlocs]; exact hS
  clear hH hlocs
  refine lv_iload_n hx hb dX12_putAhead_0 rfl (lv_at hl 2 rfl) ?_
  refine lv_iconst (v := (2 : Int32)) hx hb dX12_putAhead_1 (by decide) ?_
  refine lv_icmp_ge (tgt := 9) hx hb dX12_putAhead_2 (by decide) (fun q2 => ?_) (fun q2 => ?_)
  · have h := ifT h q2
    refine lv_aload_n hx hb dX12_putAhead_9 rfl (lv_at hl 0 rfl) ?_
    refine va_get (D := g.1) (ci := 11) (v := .ref aM_witnessSize) (C := RX12) (T := TX12) (N := 35) hx hb hts inBX12 hown hK hP 0 rfl rfl 31 (by decide) (hts _ wd4_227) (fun _ h9 => h9) rfl dX12_putAhead_10 ?_
    refine lv_iload_n hx hb dX12_putAhead_13 rfl (lv_at hl 2 rfl) ?_
    refine lv_iconst (v := (2 : Int32)) hx hb dX12_putAhead_14 (by decide) ?_
    refine lv_isub hx hb dX12_putAhead_15 ?_
    have hin := ld_in h
    refine va_iald hx hb hK hP 20 0 rfl rfl hin dX12_putAhead_16 ?_
    refine lv_topi (fun t16 et16 => ?_)
    have h := ld_to h et16
    exact B17 M_tooLong M_witness M_witnessSize M_built t16 ls H locs (lv_sub hl [0, 1, 2] rfl) hP hD hS h
  have h := ifF h q2
  refine lv_iconst (v := (1 : Int32)) hx hb dX12_putAhead_5 (by decide) ?_
  refine lv_goto (tgt := 17) hx hb dX12_putAhead_6 (by decide) ?_
  exact B17 M_tooLong M_witness M_witnessSize M_built (1 : Int32) ls H locs (lv_sub hl [0, 1, 2] rfl) hP hD hS h
set_option maxHeartbeats 4000000 in
set_option maxRecDepth 100000 in
theorem mX12_layWitness (g : GP) (l : Launch) (aM aM_text aM_now aM_trial aM_read aM_diary aM_kept aM_isKept aM_constraint aM_readConstraint aM_word aM_size aM_number aM_firstOne aM_node aM_parent aM_rule aM_child aM_proof aM_witness aM_witnessSize aM_built aM_copyRow : Nat) (M_length : Int32) (M_acts : Int32) (M_next : Int32) (M_many : Int32) (M_readMany : Int32) (M_found : Int32) (M_shortest : Int32) (M_nodes : Int32) (M_solved : Int32) (M_dropped : Int32) (M_fits : Int32) (M_proofSize : Int32) (M_tooLong : Int32) (M_text : Nat → Int32) (M_now : Nat → Int32) (M_trial : Nat → Int32) (M_read : Nat → Int32) (M_diary : Nat → Int32) (M_kept : Nat → Int32) (M_isKept : Nat → Int32) (M_constraint : Nat → Int32) (M_readConstraint : Nat → Int32) (M_word : Nat → Int32) (M_size : Nat → Int32) (M_number : Nat → Int32) (M_firstOne : Nat → Int32) (M_node : Nat → Int32) (M_parent : Nat → Int32) (M_rule : Nat → Int32) (M_child : Nat → Int32) (M_proof : Nat → Int32) (M_witness : Nat → Int32) (M_witnessSize : Nat → Int32) (M_built : Nat → Int32) (M_copyRow : Nat → Int32)  (r : Int32) (M_nodes_o : Int32) (M_solved_o : Int32) (M_dropped_o : Int32) (M_fits_o : Int32) (M_proofSize_o : Int32) (M_tooLong_o : Int32) (M_trial_o : Nat → Int32) (M_node_o : Nat → Int32) (M_parent_o : Nat → Int32) (M_rule_o : Nat → Int32) (M_child_o : Nat → Int32) (M_proof_o : Nat → Int32) (M_witness_o : Nat → Int32) (M_witnessSize_o : Nat → Int32) (M_built_o : Nat → Int32) (h : fM_layWitness M_fits M_proofSize M_tooLong M_now M_trial M_node M_parent M_rule M_child M_proof M_witness M_witnessSize M_built = some (r, M_nodes_o, M_solved_o, M_dropped_o, M_fits_o, M_proofSize_o, M_tooLong_o, M_trial_o, M_node_o, M_parent_o, M_rule_o, M_child_o, M_proof_o, M_witness_o, M_witnessSize_o, M_built_o)) : Ct g l yX12_layWitness cX12_layWitness 5 (some .boolean) rmX12_layWitness [.ref aM] (wX12 g aM aM_text aM_now aM_trial aM_read aM_diary aM_kept aM_isKept aM_constraint aM_readConstraint aM_word aM_size aM_number aM_firstOne aM_node aM_parent aM_rule aM_child aM_proof aM_witness aM_witnessSize aM_built aM_copyRow M_length M_acts M_next M_many M_readMany M_found M_shortest M_nodes M_solved M_dropped M_fits M_proofSize M_tooLong M_text M_now M_trial M_read M_diary M_kept M_isKept M_constraint M_readConstraint M_word M_size M_number M_firstOne M_node M_parent M_rule M_child M_proof M_witness M_witnessSize M_built M_copyRow) (some (.int r)) (wX12 g aM aM_text aM_now aM_trial aM_read aM_diary aM_kept aM_isKept aM_constraint aM_readConstraint aM_word aM_size aM_number aM_firstOne aM_node aM_parent aM_rule aM_child aM_proof aM_witness aM_witnessSize aM_built aM_copyRow M_length M_acts M_next M_many M_readMany M_found M_shortest M_nodes_o M_solved_o M_dropped_o M_fits_o M_proofSize_o M_tooLong_o M_text M_now M_trial_o M_read M_diary M_kept M_isKept M_constraint M_readConstraint M_word M_size M_number M_firstOne M_node_o M_parent_o M_rule_o M_child_o M_proof_o M_witness_o M_witnessSize_o M_built_o M_copyRow) := by
  refine Ct.introZ (by decide) (Nat.le_of_ble_eq_true rfl) ?_
  intro p e s m below meth c A QQ ls hyp hret
  obtain ⟨hx, hb, hml, hts, hown, hA, hE, hP, hD, hl⟩ := hyp
  have hK := hE.1
  have hS : va_S A s.heap s.heap [] := va_S.rf
  have X : Here g p s m c cX12_layWitness 5 ([.ref aM] : List Value).toArray RX12 A := ⟨⟨hx, hb, hml, hown, hts⟩, hE, hA⟩
  have B169 : ∀ (M_nodes : Int32) (M_solved : Int32) (M_dropped : Int32) (M_fits : Int32) (M_proofSize : Int32) (M_tooLong : Int32) (M_trial : Nat → Int32) (M_node : Nat → Int32) (M_parent : Nat → Int32) (M_rule : Nat → Int32) (M_child : Nat → Int32) (M_proof : Nat → Int32) (M_witness : Nat → Int32) (M_witnessSize : Nat → Int32) (M_built : Nat → Int32) (ls : Array Slot) (H : Heap) (locs : List Loc), lv_has ls 5 [(0, .ref aM)] → va_P g.1 vwCl (wX12 g aM aM_text aM_now aM_trial aM_read aM_diary aM_kept aM_isKept aM_constraint aM_readConstraint aM_word aM_size aM_number aM_firstOne aM_node aM_parent aM_rule aM_child aM_proof aM_witness aM_witnessSize aM_built aM_copyRow M_length M_acts M_next M_many M_readMany M_found M_shortest M_nodes M_solved M_dropped M_fits M_proofSize M_tooLong M_text M_now M_trial M_read M_diary M_kept M_isKept M_constraint M_readConstraint M_word M_size M_number M_firstOne M_node M_parent M_rule M_child M_proof M_witness M_witnessSize M_built M_copyRow) H → va_D A (wX12 g aM aM_text aM_now aM_trial aM_read aM_diary aM_kept aM_isKept aM_constraint aM_readConstraint aM_word aM_size aM_number aM_firstOne aM_node aM_parent aM_rule aM_child aM_proof aM_witness aM_witnessSize aM_built aM_copyRow M_length M_acts M_next M_many M_readMany M_found M_shortest M_nodes M_solved M_dropped M_fits M_proofSize M_tooLong M_text M_now M_trial M_read M_diary M_kept M_isKept M_constraint M_readConstraint M_word M_size M_number M_firstOne M_node M_parent M_rule M_child M_proof M_witness M_witnessSize M_built M_copyRow) → va_S A s.heap H locs → fM_layWitness_169 M_nodes M_solved M_dropped M_fits M_proofSize M_tooLong M_trial M_node M_parent M_rule M_child M_proof M_witness M_witnessSize M_built = some (r, M_nodes_o, M_solved_o, M_dropped_o, M_fits_o, M_proofSize_o, M_tooLong_o, M_trial_o, M_node_o, M_parent_o, M_rule_o, M_child_o, M_proof_o, M_witness_o, M_witnessSize_o, M_built_o) → W p l e rmX12_layWitness s m ([.ref aM] : List Value).toArray below meth c H locs 0 0 QQ (F0 m 169 ls []) := by
    intro M_nodes M_solved M_dropped M_fits M_proofSize M_tooLong M_trial M_node M_parent M_rule M_child M_proof M_witness M_witnessSize M_built ls H locs hl hP hD hS h
    refine lv_aload_n hx hb dX12_layWitness_169 rfl (lv_at hl 0 rfl) ?_
    refine va_get (D := g.1) (ci := 11) (v := .int M_tooLong) (C := RX12) (T := TX12) (N := 35) hx hb hts inBX12 hown hK hP 0 rfl rfl 32 (by decide) (hts _ wd4_228) (fun _ h9 => h9) rfl dX12_layWitness_170 ?_
    refine lv_if_ne (tgt := 180) hx hb dX12_layWitness_173 (by decide) (fun q173 => ?_) (fun q173 => ?_)
    · have h := ifF h q173
      refine lv_iconst (v := (0 : Int32)) hx hb dX12_layWitness_180 (by decide) ?_
      have h : some ((0 : Int32), M_nodes, M_solved, M_dropped, M_fits, M_proofSize, M_tooLong, M_trial, M_node, M_parent, M_rule, M_child, M_proof, M_witness, M_witnessSize, M_built) = some (r, M_nodes_o, M_solved_o, M_dropped_o, M_fits_o, M_proofSize_o, M_tooLong_o, M_trial_o, M_node_o, M_parent_o, M_rule_o, M_child_o, M_proof_o, M_witness_o, M_witnessSize_o, M_built_o) := h
      cases h
      exact hret _ _ _ _ rfl hP hD hS dX12_layWitness_181
    have h := ifT h q173
    refine lv_iconst (v := (1 : Int32)) hx hb dX12_layWitness_176 (by decide) ?_
    refine lv_goto (tgt := 181) hx hb dX12_layWitness_177 (by decide) ?_
    have h : some ((1 : Int32), M_nodes, M_solved, M_dropped, M_fits, M_proofSize, M_tooLong, M_trial, M_node, M_parent, M_rule, M_child, M_proof, M_witness, M_witnessSize, M_built) = some (r, M_nodes_o, M_solved_o, M_dropped_o, M_fits_o, M_proofSize_o, M_tooLong_o, M_trial_o, M_node_o, M_parent_o, M_rule_o, M_child_o, M_proof_o, M_witness_o, M_witnessSize_o, M_built_o) := h
    cases h
    exact hret _ _ _ _ rfl hP hD hS dX12_layWitness_181
  have L41 : ∀ (n41 : Nat), ∀ (M_nodes : Int32) (M_solved : Int32) (M_dropped : Int32) (M_fits : Int32) (M_proofSize : Int32) (M_tooLong : Int32) (M_trial : Nat → Int32) (M_node : Nat → Int32) (M_parent : Nat → Int32) (M_rule : Nat → Int32) (M_child : Nat → Int32) (M_proof : Nat → Int32) (M_witness : Nat → Int32) (M_witnessSize : Nat → Int32) (M_built : Nat → Int32) (v1 : Int32) (ls : Array Slot) (H : Heap) (locs : List Loc), lv_has ls 5 [(0, .ref aM), (1, .int v1)] → va_P g.1 vwCl (wX12 g aM aM_text aM_now aM_trial aM_read aM_diary aM_kept aM_isKept aM_constraint aM_readConstraint aM_word aM_size aM_number aM_firstOne aM_node aM_parent aM_rule aM_child aM_proof aM_witness aM_witnessSize aM_built aM_copyRow M_length M_acts M_next M_many M_readMany M_found M_shortest M_nodes M_solved M_dropped M_fits M_proofSize M_tooLong M_text M_now M_trial M_read M_diary M_kept M_isKept M_constraint M_readConstraint M_word M_size M_number M_firstOne M_node M_parent M_rule M_child M_proof M_witness M_witnessSize M_built M_copyRow) H → va_D A (wX12 g aM aM_text aM_now aM_trial aM_read aM_diary aM_kept aM_isKept aM_constraint aM_readConstraint aM_word aM_size aM_number aM_firstOne aM_node aM_parent aM_rule aM_child aM_proof aM_witness aM_witnessSize aM_built aM_copyRow M_length M_acts M_next M_many M_readMany M_found M_shortest M_nodes M_solved M_dropped M_fits M_proofSize M_tooLong M_text M_now M_trial M_read M_diary M_kept M_isKept M_constraint M_readConstraint M_word M_size M_number M_firstOne M_node M_parent M_rule M_child M_proof M_witness M_witnessSize M_built M_copyRow) → va_S A s.heap H locs → fx6 (fM_layWitness_41 M_nodes M_solved M_dropped M_fits M_proofSize M_node M_parent M_rule M_child M_proof) n41 M_tooLong M_trial M_witness M_witnessSize M_built v1 = some (r, M_nodes_o, M_solved_o, M_dropped_o, M_fits_o, M_proofSize_o, M_tooLong_o, M_trial_o, M_node_o, M_parent_o, M_rule_o, M_child_o, M_proof_o, M_witness_o, M_witnessSize_o, M_built_o) → W p l e rmX12_layWitness s m ([.ref aM] : List Value).toArray below meth c H locs 0 0 QQ (F0 m 41 ls []) := by
    intro n41
    induction n41 with
    | zero => intro M_nodes M_solved M_dropped M_fits M_proofSize M_tooLong M_trial M_node M_parent M_rule M_child M_proof M_witness M_witnessSize M_built v1 ls H locs hl hP hD hS h; exact fx6_0 h
    | succ n41 ih41 =>
      intro M_nodes M_solved M_dropped M_fits M_proofSize M_tooLong M_trial M_node M_parent M_rule M_child M_proof M_witness M_witnessSize M_built v1 ls H locs hl hP hD hS h
      have h := (fx6_s (fM_layWitness_41 M_nodes M_solved M_dropped M_fits M_proofSize M_node M_parent M_rule M_child M_proof) n41 M_tooLong M_trial M_witness M_witnessSize M_built v1).symm.trans h
      have B149 : ∀ (M_tooLong : Int32) (M_trial : Nat → Int32) (M_witness : Nat → Int32) (M_witnessSize : Nat → Int32) (M_built : Nat → Int32) (v1 : Int32) (v2 : Int32) (v3 : Int32) (v4 : Int32) (ls : Array Slot) (H : Heap) (locs : List Loc), lv_has ls 5 [(0, .ref aM), (1, .int v1), (2, .int v2), (3, .int v3), (4, .int v4)] → va_P g.1 vwCl (wX12 g aM aM_text aM_now aM_trial aM_read aM_diary aM_kept aM_isKept aM_constraint aM_readConstraint aM_word aM_size aM_number aM_firstOne aM_node aM_parent aM_rule aM_child aM_proof aM_witness aM_witnessSize aM_built aM_copyRow M_length M_acts M_next M_many M_readMany M_found M_shortest M_nodes M_solved M_dropped M_fits M_proofSize M_tooLong M_text M_now M_trial M_read M_diary M_kept M_isKept M_constraint M_readConstraint M_word M_size M_number M_firstOne M_node M_parent M_rule M_child M_proof M_witness M_witnessSize M_built M_copyRow) H → va_D A (wX12 g aM aM_text aM_now aM_trial aM_read aM_diary aM_kept aM_isKept aM_constraint aM_readConstraint aM_word aM_size aM_number aM_firstOne aM_node aM_parent aM_rule aM_child aM_proof aM_witness aM_witnessSize aM_built aM_copyRow M_length M_acts M_next M_many M_readMany M_found M_shortest M_nodes M_solved M_dropped M_fits M_proofSize M_tooLong M_text M_now M_trial M_read M_diary M_kept M_isKept M_constraint M_readConstraint M_word M_size M_number M_firstOne M_node M_parent M_rule M_child M_proof M_witness M_witnessSize M_built M_copyRow) → va_S A s.heap H locs → fM_layWitness_149 (fx6 (fM_layWitness_41 M_nodes M_solved M_dropped M_fits M_proofSize M_node M_parent M_rule M_child M_proof) n41) M_nodes M_solved M_dropped M_fits M_proofSize M_tooLong M_trial M_node M_parent M_rule M_child M_proof M_witness M_witnessSize M_built v1 v2 v3 v4 = some (r, M_nodes_o, M_solved_o, M_dropped_o, M_fits_o, M_proofSize_o, M_tooLong_o, M_trial_o, M_node_o, M_parent_o, M_rule_o, M_child_o, M_proof_o, M_witness_o, M_witnessSize_o, M_built_o) → W p l e rmX12_layWitness s m ([.ref aM] : List Value).toArray below meth c H locs 0 0 QQ (F0 m 149 ls []) := by
        intro M_tooLong M_trial M_witness M_witnessSize M_built v1 v2 v3 v4 ls H locs hl hP hD hS h
        refine lv_iload_n hx hb dX12_layWitness_149 rfl (lv_at hl 2 rfl) ?_
        refine lv_iconst (v := (4 : Int32)) hx hb dX12_layWitness_150 (by decide) ?_
        refine lv_icmp_ne (tgt := 163) hx hb dX12_layWitness_151 (by decide) (fun q151 => ?_) (fun q151 => ?_)
        · have h := ifF h q151
          obtain ⟨t163, et163⟩ : ∃ y : Int32, y = v1 + ((-1) : Int32) := ⟨_, rfl⟩
          refine lv_iinc (v := t163) (lv' := [(1, .int t163), (0, .ref aM), (2, .int v2), (3, .int v3), (4, .int v4)]) hx hb dX12_layWitness_163 hl (k := 1) rfl (by rw [et163]; rfl) (by decide) rfl (fun ls hl => ?_)
          have h := st_to h et163
          refine lv_goto (tgt := 41) hx hb dX12_layWitness_166 (by decide) ?_
          exact ih41 M_nodes M_solved M_dropped M_fits M_proofSize M_tooLong M_trial M_node M_parent M_rule M_child M_proof M_witness M_witnessSize M_built t163 ls H locs (lv_sub hl [1, 0] rfl) hP hD hS h
        have h := ifT h q151
        refine lv_aload_n hx hb dX12_layWitness_154 rfl (lv_at hl 0 rfl) ?_
        refine lv_iload hx hb dX12_layWitness_155 (lv_at hl 4 rfl) ?_
        refine lv_iconst (v := (2 : Int32)) hx hb dX12_layWitness_157 (by decide) ?_
        refine lv_isub hx hb dX12_layWitness_158 ?_
        refine lv_iload_n hx hb dX12_layWitness_159 rfl (lv_at hl 3 rfl) ?_
        obtain ⟨M_tooLong_160, M_witness_160, M_witnessSize_160, M_built_160, hc160, h⟩ := bd4_to h
        refine go_A (st1 := []) (run_V (As := [.int (v4 - (2 : Int32)), .int v3]) (rest := []) X hS (mX12_putAhead g l  aM aM_text aM_now aM_trial aM_read aM_diary aM_kept aM_isKept aM_constraint aM_readConstraint aM_word aM_size aM_number aM_firstOne aM_node aM_parent aM_rule aM_child aM_proof aM_witness aM_witnessSize aM_built aM_copyRow M_length M_acts M_next M_many M_readMany M_found M_shortest M_nodes M_solved M_dropped M_fits M_proofSize M_tooLong M_text M_now M_trial M_read M_diary M_kept M_isKept M_constraint M_readConstraint M_word M_size M_number M_firstOne M_node M_parent M_rule M_child M_proof M_witness M_witnessSize M_built M_copyRow (v4 - (2 : Int32)) v3 M_tooLong_160 M_witness_160 M_witnessSize_160 M_built_160 hc160) okX12_putAhead wd6_34 ⟨Nat.le_of_ble_eq_true rfl, Nat.le_of_ble_eq_true rfl⟩ ⟨rfl, rfl⟩ (va_recv hK hP (ci := 11) (q0 := 0) rfl rfl) hP hD (all_F hS hA hD) rfl hl.1 rfl (Nat.le_of_ble_eq_true rfl) dX12_layWitness_160 ⟨Nat.zero_le _, Nat.zero_le _⟩) hS (all_F hS hA hD) rfl (fun H locs hP hD hS => ?_)
        obtain ⟨t163, et163⟩ : ∃ y : Int32, y = v1 + ((-1) : Int32) := ⟨_, rfl⟩
        refine lv_iinc (v := t163) (lv' := [(1, .int t163), (0, .ref aM), (2, .int v2), (3, .int v3), (4, .int v4)]) hx hb dX12_layWitness_163 hl (k := 1) rfl (by rw [et163]; rfl) (by decide) rfl (fun ls hl => ?_)
        have h := st_to h et163
        refine lv_goto (tgt := 41) hx hb dX12_layWitness_166 (by decide) ?_
        exact ih41 M_nodes M_solved M_dropped M_fits M_proofSize M_tooLong_160 M_trial M_node M_parent M_rule M_child M_proof M_witness_160 M_witnessSize_160 M_built_160 t163 ls H locs (lv_sub hl [1, 0] rfl) hP hD hS h
      have B135 : ∀ (M_tooLong : Int32) (M_trial : Nat → Int32) (M_witness : Nat → Int32) (M_witnessSize : Nat → Int32) (M_built : Nat → Int32) (v1 : Int32) (v2 : Int32) (v3 : Int32) (v4 : Int32) (ls : Array Slot) (H : Heap) (locs : List Loc), lv_has ls 5 [(0, .ref aM), (1, .int v1), (2, .int v2), (3, .int v3), (4, .int v4)] → va_P g.1 vwCl (wX12 g aM aM_text aM_now aM_trial aM_read aM_diary aM_kept aM_isKept aM_constraint aM_readConstraint aM_word aM_size aM_number aM_firstOne aM_node aM_parent aM_rule aM_child aM_proof aM_witness aM_witnessSize aM_built aM_copyRow M_length M_acts M_next M_many M_readMany M_found M_shortest M_nodes M_solved M_dropped M_fits M_proofSize M_tooLong M_text M_now M_trial M_read M_diary M_kept M_isKept M_constraint M_readConstraint M_word M_size M_number M_firstOne M_node M_parent M_rule M_child M_proof M_witness M_witnessSize M_built M_copyRow) H → va_D A (wX12 g aM aM_text aM_now aM_trial aM_read aM_diary aM_kept aM_isKept aM_constraint aM_readConstraint aM_word aM_size aM_number aM_firstOne aM_node aM_parent aM_rule aM_child aM_proof aM_witness aM_witnessSize aM_built aM_copyRow M_length M_acts M_next M_many M_readMany M_found M_shortest M_nodes M_solved M_dropped M_fits M_proofSize M_tooLong M_text M_now M_trial M_read M_diary M_kept M_isKept M_constraint M_readConstraint M_word M_size M_number M_firstOne M_node M_parent M_rule M_child M_proof M_witness M_witnessSize M_built M_copyRow) → va_S A s.heap H locs → fM_layWitness_135 (fx6 (fM_layWitness_41 M_nodes M_solved M_dropped M_fits M_proofSize M_node M_parent M_rule M_child M_proof) n41) M_nodes M_solved M_dropped M_fits M_proofSize M_tooLong M_trial M_node M_parent M_rule M_child M_proof M_witness M_witnessSize M_built v1 v2 v3 v4 = some (r, M_nodes_o, M_solved_o, M_dropped_o, M_fits_o, M_proofSize_o, M_tooLong_o, M_trial_o, M_node_o, M_parent_o, M_rule_o, M_child_o, M_proof_o, M_witness_o, M_witnessSize_o, M_built_o) → W p l e rmX12_layWitness s m ([.ref aM] : List Value).toArray below meth c H locs 0 0 QQ (F0 m 135 ls []) := by
        intro M_tooLong M_trial M_witness M_witnessSize M_built v1 v2 v3 v4 ls H locs hl hP hD hS h
        refine lv_iload_n hx hb dX12_layWitness_135 rfl (lv_at hl 2 rfl) ?_
        refine lv_iconst (v := (3 : Int32)) hx hb dX12_layWitness_136 (by decide) ?_
        refine lv_icmp_ne (tgt := 149) hx hb dX12_layWitness_137 (by decide) (fun q137 => ?_) (fun q137 => ?_)
        · have h := ifF h q137
          exact B149 M_tooLong M_trial M_witness M_witnessSize M_built v1 v2 v3 v4 ls H locs (lv_sub hl [0, 1, 2, 3, 4] rfl) hP hD hS h
        have h := ifT h q137
        refine lv_aload_n hx hb dX12_layWitness_140 rfl (lv_at hl 0 rfl) ?_
        refine lv_iload_n hx hb dX12_layWitness_141 rfl (lv_at hl 3 rfl) ?_
        refine lv_iconst (v := (2 : Int32)) hx hb dX12_layWitness_142 (by decide) ?_
        refine lv_isub hx hb dX12_layWitness_143 ?_
        refine lv_iload hx hb dX12_layWitness_144 (lv_at hl 4 rfl) ?_
        obtain ⟨M_tooLong_146, M_witness_146, M_witnessSize_146, M_built_146, hc146, h⟩ := bd4_to h
        refine go_A (st1 := []) (run_V (As := [.int (v3 - (2 : Int32)), .int v4]) (rest := []) X hS (mX12_putAhead g l  aM aM_text aM_now aM_trial aM_read aM_diary aM_kept aM_isKept aM_constraint aM_readConstraint aM_word aM_size aM_number aM_firstOne aM_node aM_parent aM_rule aM_child aM_proof aM_witness aM_witnessSize aM_built aM_copyRow M_length M_acts M_next M_many M_readMany M_found M_shortest M_nodes M_solved M_dropped M_fits M_proofSize M_tooLong M_text M_now M_trial M_read M_diary M_kept M_isKept M_constraint M_readConstraint M_word M_size M_number M_firstOne M_node M_parent M_rule M_child M_proof M_witness M_witnessSize M_built M_copyRow (v3 - (2 : Int32)) v4 M_tooLong_146 M_witness_146 M_witnessSize_146 M_built_146 hc146) okX12_putAhead wd6_34 ⟨Nat.le_of_ble_eq_true rfl, Nat.le_of_ble_eq_true rfl⟩ ⟨rfl, rfl⟩ (va_recv hK hP (ci := 11) (q0 := 0) rfl rfl) hP hD (all_F hS hA hD) rfl hl.1 rfl (Nat.le_of_ble_eq_true rfl) dX12_layWitness_146 ⟨Nat.zero_le _, Nat.zero_le _⟩) hS (all_F hS hA hD) rfl (fun H locs hP hD hS => ?_)
        exact B149 M_tooLong_146 M_trial M_witness_146 M_witnessSize_146 M_built_146 v1 v2 v3 v4 ls H locs (lv_sub hl [0, 1, 2, 3, 4] rfl) hP hD hS h
      have B131 : ∀ (M_tooLong : Int32) (M_trial : Nat → Int32) (M_witness : Nat → Int32) (M_witnessSize : Nat → Int32) (M_built : Nat → Int32) (v1 : Int32) (v2 : Int32) (v3 : Int32) (v4 : Int32) (s1 : Int32) (ls : Array Slot) (H : Heap) (locs : List Loc), lv_has ls 5 [(0, .ref aM), (1, .int v1), (2, .int v2), (3, .int v3), (4, .int v4)] → va_P g.1 vwCl (wX12 g aM aM_text aM_now aM_trial aM_read aM_diary aM_kept aM_isKept aM_constraint aM_readConstraint aM_word aM_size aM_number aM_firstOne aM_node aM_parent aM_rule aM_child aM_proof aM_witness aM_witnessSize aM_built aM_copyRow M_length M_acts M_next M_many M_readMany M_found M_shortest M_nodes M_solved M_dropped M_fits M_proofSize M_tooLong M_text M_now M_trial M_read M_diary M_kept M_isKept M_constraint M_readConstraint M_word M_size M_number M_firstOne M_node M_parent M_rule M_child M_proof M_witness M_witnessSize M_built M_copyRow) H → va_D A (wX12 g aM aM_text aM_now aM_trial aM_read aM_diary aM_kept aM_isKept aM_constraint aM_readConstraint aM_word aM_size aM_number aM_firstOne aM_node aM_parent aM_rule aM_child aM_proof aM_witness aM_witnessSize aM_built aM_copyRow M_length M_acts M_next M_many M_readMany M_found M_shortest M_nodes M_solved M_dropped M_fits M_proofSize M_tooLong M_text M_now M_trial M_read M_diary M_kept M_isKept M_constraint M_readConstraint M_word M_size M_number M_firstOne M_node M_parent M_rule M_child M_proof M_witness M_witnessSize M_built M_copyRow) → va_S A s.heap H locs → fM_layWitness_131 (fx6 (fM_layWitness_41 M_nodes M_solved M_dropped M_fits M_proofSize M_node M_parent M_rule M_child M_proof) n41) M_nodes M_solved M_dropped M_fits M_proofSize M_tooLong M_trial M_node M_parent M_rule M_child M_proof M_witness M_witnessSize M_built v1 v2 v3 v4 s1 = some (r, M_nodes_o, M_solved_o, M_dropped_o, M_fits_o, M_proofSize_o, M_tooLong_o, M_trial_o, M_node_o, M_parent_o, M_rule_o, M_child_o, M_proof_o, M_witness_o, M_witnessSize_o, M_built_o) → W p l e rmX12_layWitness s m ([.ref aM] : List Value).toArray below meth c H locs 0 0 QQ (F0 m 131 ls [.int s1, .ref aM_witnessSize]) := by
        intro M_tooLong M_trial M_witness M_witnessSize M_built v1 v2 v3 v4 s1 ls H locs hl hP hD hS h
        refine lv_iconst (v := (2 : Int32)) hx hb dX12_layWitness_131 (by decide) ?_
        refine lv_isub hx hb dX12_layWitness_132 ?_
        refine lv_iconst (v := (0 : Int32)) hx hb dX12_layWitness_133 (by decide) ?_
        have hin := sti_in h
        refine va_iast hx hb hK hP hD hS 20 0 rfl rfl hin dX12_layWitness_134 (fun H locs hP hD hS => ?_)
        obtain ⟨M_witnessSize_134, eM_witnessSize_134⟩ : ∃ y : Nat → Int32, y = upd M_witnessSize (Int32.toNatClampNeg (s1 - (2 : Int32))) (0 : Int32) := ⟨_, rfl⟩
        have h := sti_to h eM_witnessSize_134
        have hP : va_P g.1 vwCl (wX12 g aM aM_text aM_now aM_trial aM_read aM_diary aM_kept aM_isKept aM_constraint aM_readConstraint aM_word aM_size aM_number aM_firstOne aM_node aM_parent aM_rule aM_child aM_proof aM_witness aM_witnessSize aM_built aM_copyRow M_length M_acts M_next M_many M_readMany M_found M_shortest M_nodes M_solved M_dropped M_fits M_proofSize M_tooLong M_text M_now M_trial M_read M_diary M_kept M_isKept M_constraint M_readConstraint M_word M_size M_number M_firstOne M_node M_parent M_rule M_child M_proof M_witness M_witnessSize_134 M_built M_copyRow) H := by rw [eM_witnessSize_134]; exact hP
        have hD : va_D A (wX12 g aM aM_text aM_now aM_trial aM_read aM_diary aM_kept aM_isKept aM_constraint aM_readConstraint aM_word aM_size aM_number aM_firstOne aM_node aM_parent aM_rule aM_child aM_proof aM_witness aM_witnessSize aM_built aM_copyRow M_length M_acts M_next M_many M_readMany M_found M_shortest M_nodes M_solved M_dropped M_fits M_proofSize M_tooLong M_text M_now M_trial M_read M_diary M_kept M_isKept M_constraint M_readConstraint M_word M_size M_number M_firstOne M_node M_parent M_rule M_child M_proof M_witness M_witnessSize_134 M_built M_copyRow) := by rw [eM_witnessSize_134]; exact hD
        exact B135 M_tooLong M_trial M_witness M_witnessSize_134 M_built v1 v2 v3 v4 ls H locs (lv_sub hl [0, 1, 2, 3, 4] rfl) hP hD hS h
      have B116 : ∀ (M_tooLong : Int32) (M_trial : Nat → Int32) (M_witness : Nat → Int32) (M_witnessSize : Nat → Int32) (M_built : Nat → Int32) (v1 : Int32) (v2 : Int32) (v3 : Int32) (v4 : Int32) (ls : Array Slot) (H : Heap) (locs : List Loc), lv_has ls 5 [(0, .ref aM), (1, .int v1), (2, .int v2), (3, .int v3), (4, .int v4)] → va_P g.1 vwCl (wX12 g aM aM_text aM_now aM_trial aM_read aM_diary aM_kept aM_isKept aM_constraint aM_readConstraint aM_word aM_size aM_number aM_firstOne aM_node aM_parent aM_rule aM_child aM_proof aM_witness aM_witnessSize aM_built aM_copyRow M_length M_acts M_next M_many M_readMany M_found M_shortest M_nodes M_solved M_dropped M_fits M_proofSize M_tooLong M_text M_now M_trial M_read M_diary M_kept M_isKept M_constraint M_readConstraint M_word M_size M_number M_firstOne M_node M_parent M_rule M_child M_proof M_witness M_witnessSize M_built M_copyRow) H → va_D A (wX12 g aM aM_text aM_now aM_trial aM_read aM_diary aM_kept aM_isKept aM_constraint aM_readConstraint aM_word aM_size aM_number aM_firstOne aM_node aM_parent aM_rule aM_child aM_proof aM_witness aM_witnessSize aM_built aM_copyRow M_length M_acts M_next M_many M_readMany M_found M_shortest M_nodes M_solved M_dropped M_fits M_proofSize M_tooLong M_text M_now M_trial M_read M_diary M_kept M_isKept M_constraint M_readConstraint M_word M_size M_number M_firstOne M_node M_parent M_rule M_child M_proof M_witness M_witnessSize M_built M_copyRow) → va_S A s.heap H locs → fM_layWitness_116 (fx6 (fM_layWitness_41 M_nodes M_solved M_dropped M_fits M_proofSize M_node M_parent M_rule M_child M_proof) n41) M_nodes M_solved M_dropped M_fits M_proofSize M_tooLong M_trial M_node M_parent M_rule M_child M_proof M_witness M_witnessSize M_built v1 v2 v3 v4 = some (r, M_nodes_o, M_solved_o, M_dropped_o, M_fits_o, M_proofSize_o, M_tooLong_o, M_trial_o, M_node_o, M_parent_o, M_rule_o, M_child_o, M_proof_o, M_witness_o, M_witnessSize_o, M_built_o) → W p l e rmX12_layWitness s m ([.ref aM] : List Value).toArray below meth c H locs 0 0 QQ (F0 m 116 ls []) := by
        intro M_tooLong M_trial M_witness M_witnessSize M_built v1 v2 v3 v4 ls H locs hl hP hD hS h
        refine lv_aload_n hx hb dX12_layWitness_116 rfl (lv_at hl 0 rfl) ?_
        refine va_get (D := g.1) (ci := 11) (v := .ref aM_witnessSize) (C := RX12) (T := TX12) (N := 35) hx hb hts inBX12 hown hK hP 0 rfl rfl 31 (by decide) (hts _ wd4_227) (fun _ h9 => h9) rfl dX12_layWitness_117 ?_
        refine lv_iload_n hx hb dX12_layWitness_120 rfl (lv_at hl 2 rfl) ?_
        refine lv_iconst (v := (1 : Int32)) hx hb dX12_layWitness_121 (by decide) ?_
        refine lv_icmp_ne (tgt := 129) hx hb dX12_layWitness_122 (by decide) (fun q122 => ?_) (fun q122 => ?_)
        · have h := ifF h q122
          refine lv_iload hx hb dX12_layWitness_129 (lv_at hl 4 rfl) ?_
          exact B131 M_tooLong M_trial M_witness M_witnessSize M_built v1 v2 v3 v4 v4 ls H locs (lv_sub hl [0, 1, 2, 3, 4] rfl) hP hD hS h
        have h := ifT h q122
        refine lv_iload_n hx hb dX12_layWitness_125 rfl (lv_at hl 3 rfl) ?_
        refine lv_goto (tgt := 131) hx hb dX12_layWitness_126 (by decide) ?_
        exact B131 M_tooLong M_trial M_witness M_witnessSize M_built v1 v2 v3 v4 v3 ls H locs (lv_sub hl [0, 1, 2, 3, 4] rfl) hP hD hS h
      refine lv_iload_n hx hb dX12_layWitness_41 rfl (lv_at hl 1 rfl) ?_
      refine lv_if_lt (tgt := 169) hx hb dX12_layWitness_42 (by decide) (fun q42 => ?_) (fun q42 => ?_)
      · have h := ifT h q42
        exact B169 M_nodes M_solved M_dropped M_fits M_proofSize M_tooLong M_trial M_node M_parent M_rule M_child M_proof M_witness M_witnessSize M_built ls H locs (lv_sub hl [0] rfl) hP hD hS h
      have h := ifF h q42
      refine lv_aload_n hx hb dX12_layWitness_45 rfl (lv_at hl 0 rfl) ?_
      refine va_get (D := g.1) (ci := 11) (v := .int M_tooLong) (C := RX12) (T := TX12) (N := 35) hx hb hts inBX12 hown hK hP 0 rfl rfl 32 (by decide) (hts _ wd4_228) (fun _ h9 => h9) rfl dX12_layWitness_46 ?_
      refine lv_if_ne (tgt := 169) hx hb dX12_layWitness_49 (by decide) (fun q49 => ?_) (fun q49 => ?_)
      · have h := ifF h q49
        exact B169 M_nodes M_solved M_dropped M_fits M_proofSize M_tooLong M_trial M_node M_parent M_rule M_child M_proof M_witness M_witnessSize M_built ls H locs (lv_sub hl [0] rfl) hP hD hS h
      have h := ifT h q49
      refine lv_aload_n hx hb dX12_layWitness_52 rfl (lv_at hl 0 rfl) ?_
      refine va_get (D := g.1) (ci := 11) (v := .ref aM_rule) (C := RX12) (T := TX12) (N := 35) hx hb hts inBX12 hown hK hP 0 rfl rfl 22 (by decide) (hts _ wd4_218) (fun _ h9 => h9) rfl dX12_layWitness_53 ?_
      refine lv_aload_n hx hb dX12_layWitness_56 rfl (lv_at hl 0 rfl) ?_
      refine va_get (D := g.1) (ci := 11) (v := .ref aM_proof) (C := RX12) (T := TX12) (N := 35) hx hb hts inBX12 hown hK hP 0 rfl rfl 28 (by decide) (hts _ wd4_224) (fun _ h9 => h9) rfl dX12_layWitness_57 ?_
      refine lv_iload_n hx hb dX12_layWitness_60 rfl (lv_at hl 1 rfl) ?_
      have hin := ld_in h
      refine va_iald hx hb hK hP 18 0 rfl rfl hin dX12_layWitness_61 ?_
      refine lv_topi (fun t61 et61 => ?_)
      have h := ld_to h et61
      have hin := ld_in h
      refine va_iald hx hb hK hP 16 0 rfl rfl hin dX12_layWitness_62 ?_
      refine lv_topi (fun t62 et62 => ?_)
      have h := ld_to h et62
      refine lv_istore_n (lv' := [(2, .int t62), (0, .ref aM), (1, .int v1)]) hx hb dX12_layWitness_63 rfl hl (by decide) rfl (fun ls hl => ?_)
      refine lv_aload_n hx hb dX12_layWitness_64 rfl (lv_at hl 1 rfl) ?_
      refine lv_aload_n hx hb dX12_layWitness_65 rfl (lv_at hl 1 rfl) ?_
      refine va_get (D := g.1) (ci := 11) (v := .ref aM_parent) (C := RX12) (T := TX12) (N := 35) hx hb hts inBX12 hown hK hP 0 rfl rfl 21 (by decide) (hts _ wd4_217) (fun _ h9 => h9) rfl dX12_layWitness_66 ?_
      refine lv_aload_n hx hb dX12_layWitness_69 rfl (lv_at hl 1 rfl) ?_
      refine va_get (D := g.1) (ci := 11) (v := .ref aM_proof) (C := RX12) (T := TX12) (N := 35) hx hb hts inBX12 hown hK hP 0 rfl rfl 28 (by decide) (hts _ wd4_224) (fun _ h9 => h9) rfl dX12_layWitness_70 ?_
      refine lv_iload_n hx hb dX12_layWitness_73 rfl (lv_at hl 2 rfl) ?_
      have hin := ld_in h
      refine va_iald hx hb hK hP 18 0 rfl rfl hin dX12_layWitness_74 ?_
      refine lv_topi (fun t74 et74 => ?_)
      have h := ld_to h et74
      have hin := ld_in h
      refine va_iald hx hb hK hP 15 0 rfl rfl hin dX12_layWitness_75 ?_
      refine lv_topi (fun t75 et75 => ?_)
      have h := ld_to h et75
      refine lv_aload_n hx hb dX12_layWitness_76 rfl (lv_at hl 1 rfl) ?_
      refine va_get (D := g.1) (ci := 11) (v := .ref aM_trial) (C := RX12) (T := TX12) (N := 35) hx hb hts inBX12 hown hK hP 0 rfl rfl 3 (by decide) (hts _ wd4_199) (fun _ h9 => h9) rfl dX12_layWitness_77 ?_
      obtain ⟨M_trial_80, hc80, h⟩ := bd1_to h
      refine go_A (st1 := []) (run_V (As := [.int t75, .ref aM_trial]) (rest := []) X hS (mX12_layNode_trial g l  aM aM_text aM_now aM_trial aM_read aM_diary aM_kept aM_isKept aM_constraint aM_readConstraint aM_word aM_size aM_number aM_firstOne aM_node aM_parent aM_rule aM_child aM_proof aM_witness aM_witnessSize aM_built aM_copyRow M_length M_acts M_next M_many M_readMany M_found M_shortest M_nodes M_solved M_dropped M_fits M_proofSize M_tooLong M_text M_now M_trial M_read M_diary M_kept M_isKept M_constraint M_readConstraint M_word M_size M_number M_firstOne M_node M_parent M_rule M_child M_proof M_witness M_witnessSize M_built M_copyRow t75 M_trial_80 hc80) okX12_layNode wd5_229 ⟨Nat.le_of_ble_eq_true rfl, Nat.le_of_ble_eq_true rfl⟩ ⟨rfl, rfl⟩ (va_recv hK hP (ci := 11) (q0 := 0) rfl rfl) hP hD (all_F hS hA hD) rfl hl.1 rfl (Nat.le_of_ble_eq_true rfl) dX12_layWitness_80 ⟨Nat.zero_le _, Nat.zero_le _⟩) hS (all_F hS hA hD) rfl (fun H locs hP hD hS => ?_)
      refine lv_aload_n hx hb dX12_layWitness_83 rfl (lv_at hl 1 rfl) ?_
      refine va_get (D := g.1) (ci := 11) (v := .ref aM_trial) (C := RX12) (T := TX12) (N := 35) hx hb hts inBX12 hown hK hP 0 rfl rfl 3 (by decide) (hts _ wd4_199) (fun _ h9 => h9) rfl dX12_layWitness_84 ?_
      refine lv_iconst (v := (0 : Int32)) hx hb dX12_layWitness_87 (by decide) ?_
      refine lv_iconst (v := (0 : Int32)) hx hb dX12_layWitness_88 (by decide) ?_
      obtain ⟨t89, hc89, h⟩ := bd1_to h
      refine go_0 (st1 := [.int t89, .ref aM_trial]) (run_S (As := [.int (0 : Int32), .int (0 : Int32)]) (rest := [.ref aM_trial]) X hS (mX12_at g l  (0 : Int32) (0 : Int32) t89 hc89) okX12_at wd5_87 ⟨Nat.le_of_ble_eq_true rfl, Nat.le_of_ble_eq_true rfl⟩ ⟨rfl, rfl⟩ nil_P nil_D (nil_F hS hA) rfl hl.1 rfl (Nat.le_of_ble_eq_true rfl) dX12_layWitness_89 ⟨Nat.zero_le _, Nat.zero_le _⟩) hS hA hP rfl (fun H locs hP hS => ?_)
      have hin := ld_in h
      refine va_iald hx hb hK hP 3 0 rfl rfl hin dX12_layWitness_92 ?_
      refine lv_topi (fun t92 et92 => ?_)
      have h := ld_to h et92
      refine lv_istore_n (lv' := [(3, .int t92), (2, .int t62), (0, .ref aM), (1, .int v1)]) hx hb dX12_layWitness_93 rfl hl (by decide) rfl (fun ls hl => ?_)
      refine lv_aload_n hx hb dX12_layWitness_94 rfl (lv_at hl 2 rfl) ?_
      refine va_get (D := g.1) (ci := 11) (v := .ref aM_trial) (C := RX12) (T := TX12) (N := 35) hx hb hts inBX12 hown hK hP 0 rfl rfl 3 (by decide) (hts _ wd4_199) (fun _ h9 => h9) rfl dX12_layWitness_95 ?_
      refine lv_iconst (v := (1 : Int32)) hx hb dX12_layWitness_98 (by decide) ?_
      refine lv_iconst (v := (0 : Int32)) hx hb dX12_layWitness_99 (by decide) ?_
      obtain ⟨t100, hc100, h⟩ := bd1_to h
      refine go_0 (st1 := [.int t100, .ref aM_trial]) (run_S (As := [.int (1 : Int32), .int (0 : Int32)]) (rest := [.ref aM_trial]) X hS (mX12_at g l  (1 : Int32) (0 : Int32) t100 hc100) okX12_at wd5_87 ⟨Nat.le_of_ble_eq_true rfl, Nat.le_of_ble_eq_true rfl⟩ ⟨rfl, rfl⟩ nil_P nil_D (nil_F hS hA) rfl hl.1 rfl (Nat.le_of_ble_eq_true rfl) dX12_layWitness_100 ⟨Nat.zero_le _, Nat.zero_le _⟩) hS hA hP rfl (fun H locs hP hS => ?_)
      have hin := ld_in h
      refine va_iald hx hb hK hP 3 0 rfl rfl hin dX12_layWitness_103 ?_
      refine lv_topi (fun t103 et103 => ?_)
      have h := ld_to h et103
      refine lv_istore (lv' := [(4, .int t103), (3, .int t92), (2, .int t62), (0, .ref aM), (1, .int v1)]) hx hb dX12_layWitness_104 hl (by decide) rfl (fun ls hl => ?_)
      refine lv_iload_n hx hb dX12_layWitness_106 rfl (lv_at hl 2 rfl) ?_
      refine lv_iconst (v := (1 : Int32)) hx hb dX12_layWitness_107 (by decide) ?_
      refine lv_icmp_eq (tgt := 116) hx hb dX12_layWitness_108 (by decide) (fun q108 => ?_) (fun q108 => ?_)
      · have h := ifT h q108
        exact B116 M_tooLong M_trial_80 M_witness M_witnessSize M_built v1 t62 t92 t103 ls H locs (lv_sub hl [3, 4, 2, 1, 0] rfl) hP hD hS h
      have h := ifF h q108
      refine lv_iload_n hx hb dX12_layWitness_111 rfl (lv_at hl 2 rfl) ?_
      refine lv_iconst (v := (2 : Int32)) hx hb dX12_layWitness_112 (by decide) ?_
      refine lv_icmp_ne (tgt := 135) hx hb dX12_layWitness_113 (by decide) (fun q113 => ?_) (fun q113 => ?_)
      · have h := ifF h q113
        exact B135 M_tooLong M_trial_80 M_witness M_witnessSize M_built v1 t62 t92 t103 ls H locs (lv_sub hl [3, 4, 2, 1, 0] rfl) hP hD hS h
      have h := ifT h q113
      exact B116 M_tooLong M_trial_80 M_witness M_witnessSize M_built v1 t62 t92 t103 ls H locs (lv_sub hl [3, 4, 2, 1, 0] rfl) hP hD hS h
  have L16 : ∀ (n16 : Nat), ∀ (M_nodes : Int32) (M_solved : Int32) (M_dropped : Int32) (M_fits : Int32) (M_proofSize : Int32) (M_tooLong : Int32) (M_trial : Nat → Int32) (M_node : Nat → Int32) (M_parent : Nat → Int32) (M_rule : Nat → Int32) (M_child : Nat → Int32) (M_proof : Nat → Int32) (M_witness : Nat → Int32) (M_witnessSize : Nat → Int32) (M_built : Nat → Int32) (v1 : Int32) (ls : Array Slot) (H : Heap) (locs : List Loc), lv_has ls 5 [(0, .ref aM), (1, .int v1)] → va_P g.1 vwCl (wX12 g aM aM_text aM_now aM_trial aM_read aM_diary aM_kept aM_isKept aM_constraint aM_readConstraint aM_word aM_size aM_number aM_firstOne aM_node aM_parent aM_rule aM_child aM_proof aM_witness aM_witnessSize aM_built aM_copyRow M_length M_acts M_next M_many M_readMany M_found M_shortest M_nodes M_solved M_dropped M_fits M_proofSize M_tooLong M_text M_now M_trial M_read M_diary M_kept M_isKept M_constraint M_readConstraint M_word M_size M_number M_firstOne M_node M_parent M_rule M_child M_proof M_witness M_witnessSize M_built M_copyRow) H → va_D A (wX12 g aM aM_text aM_now aM_trial aM_read aM_diary aM_kept aM_isKept aM_constraint aM_readConstraint aM_word aM_size aM_number aM_firstOne aM_node aM_parent aM_rule aM_child aM_proof aM_witness aM_witnessSize aM_built aM_copyRow M_length M_acts M_next M_many M_readMany M_found M_shortest M_nodes M_solved M_dropped M_fits M_proofSize M_tooLong M_text M_now M_trial M_read M_diary M_kept M_isKept M_constraint M_readConstraint M_word M_size M_number M_firstOne M_node M_parent M_rule M_child M_proof M_witness M_witnessSize M_built M_copyRow) → va_S A s.heap H locs → fx2 (fM_layWitness_16 M_nodes M_solved M_dropped M_fits M_proofSize M_tooLong M_trial M_node M_parent M_rule M_child M_proof M_witness M_built) n16 M_witnessSize v1 = some (r, M_nodes_o, M_solved_o, M_dropped_o, M_fits_o, M_proofSize_o, M_tooLong_o, M_trial_o, M_node_o, M_parent_o, M_rule_o, M_child_o, M_proof_o, M_witness_o, M_witnessSize_o, M_built_o) → W p l e rmX12_layWitness s m ([.ref aM] : List Value).toArray below meth c H locs 0 0 QQ (F0 m 16 ls []) := by
    intro n16
    induction n16 with
    | zero => intro M_nodes M_solved M_dropped M_fits M_proofSize M_tooLong M_trial M_node M_parent M_rule M_child M_proof M_witness M_witnessSize M_built v1 ls H locs hl hP hD hS h; exact fx2_0 h
    | succ n16 ih16 =>
      intro M_nodes M_solved M_dropped M_fits M_proofSize M_tooLong M_trial M_node M_parent M_rule M_child M_proof M_witness M_witnessSize M_built v1 ls H locs hl hP hD hS h
      have h := (fx2_s (fM_layWitness_16 M_nodes M_solved M_dropped M_fits M_proofSize M_tooLong M_trial M_node M_parent M_rule M_child M_proof M_witness M_built) n16 M_witnessSize v1).symm.trans h
      refine lv_iload_n hx hb dX12_layWitness_16 rfl (lv_at hl 1 rfl) ?_
      refine lv_iconst (v := (4 : Int32)) hx hb dX12_layWitness_17 (by decide) ?_
      refine lv_icmp_ge (tgt := 34) hx hb dX12_layWitness_18 (by decide) (fun q18 => ?_) (fun q18 => ?_)
      · have h := ifT h q18
        refine lv_aload_n hx hb dX12_layWitness_34 rfl (lv_at hl 0 rfl) ?_
        refine va_get (D := g.1) (ci := 11) (v := .int M_proofSize) (C := RX12) (T := TX12) (N := 35) hx hb hts inBX12 hown hK hP 0 rfl rfl 29 (by decide) (hts _ wd4_225) (fun _ h9 => h9) rfl dX12_layWitness_35 ?_
        refine lv_iconst (v := (1 : Int32)) hx hb dX12_layWitness_38 (by decide) ?_
        refine lv_isub hx hb dX12_layWitness_39 ?_
        refine lv_topi (fun t40 et40 => ?_)
        have h := st_to h et40
        refine lv_istore_n (lv' := [(1, .int t40), (0, .ref aM)]) hx hb dX12_layWitness_40 rfl hl (by decide) rfl (fun ls hl => ?_)
        exact L41 FU M_nodes M_solved M_dropped M_fits M_proofSize M_tooLong M_trial M_node M_parent M_rule M_child M_proof M_witness M_witnessSize M_built t40 ls H locs (lv_sub hl [1, 0] rfl) hP hD hS h
      have h := ifF h q18
      refine lv_aload_n hx hb dX12_layWitness_21 rfl (lv_at hl 0 rfl) ?_
      refine va_get (D := g.1) (ci := 11) (v := .ref aM_witnessSize) (C := RX12) (T := TX12) (N := 35) hx hb hts inBX12 hown hK hP 0 rfl rfl 31 (by decide) (hts _ wd4_227) (fun _ h9 => h9) rfl dX12_layWitness_22 ?_
      refine lv_iload_n hx hb dX12_layWitness_25 rfl (lv_at hl 1 rfl) ?_
      refine lv_iconst (v := (0 : Int32)) hx hb dX12_layWitness_26 (by decide) ?_
      have hin := sti_in h
      refine va_iast hx hb hK hP hD hS 20 0 rfl rfl hin dX12_layWitness_27 (fun H locs hP hD hS => ?_)
      obtain ⟨M_witnessSize_27, eM_witnessSize_27⟩ : ∃ y : Nat → Int32, y = upd M_witnessSize (Int32.toNatClampNeg v1) (0 : Int32) := ⟨_, rfl⟩
      have h := sti_to h eM_witnessSize_27
      have hP : va_P g.1 vwCl (wX12 g aM aM_text aM_now aM_trial aM_read aM_diary aM_kept aM_isKept aM_constraint aM_readConstraint aM_word aM_size aM_number aM_firstOne aM_node aM_parent aM_rule aM_child aM_proof aM_witness aM_witnessSize aM_built aM_copyRow M_length M_acts M_next M_many M_readMany M_found M_shortest M_nodes M_solved M_dropped M_fits M_proofSize M_tooLong M_text M_now M_trial M_read M_diary M_kept M_isKept M_constraint M_readConstraint M_word M_size M_number M_firstOne M_node M_parent M_rule M_child M_proof M_witness M_witnessSize_27 M_built M_copyRow) H := by rw [eM_witnessSize_27]; exact hP
      have hD : va_D A (wX12 g aM aM_text aM_now aM_trial aM_read aM_diary aM_kept aM_isKept aM_constraint aM_readConstraint aM_word aM_size aM_number aM_firstOne aM_node aM_parent aM_rule aM_child aM_proof aM_witness aM_witnessSize aM_built aM_copyRow M_length M_acts M_next M_many M_readMany M_found M_shortest M_nodes M_solved M_dropped M_fits M_proofSize M_tooLong M_text M_now M_trial M_read M_diary M_kept M_isKept M_constraint M_readConstraint M_word M_size M_number M_firstOne M_node M_parent M_rule M_child M_proof M_witness M_witnessSize_27 M_built M_copyRow) := by rw [eM_witnessSize_27]; exact hD
      obtain ⟨t28, et28⟩ : ∃ y : Int32, y = v1 + (1 : Int32) := ⟨_, rfl⟩
      refine lv_iinc (v := t28) (lv' := [(1, .int t28), (0, .ref aM)]) hx hb dX12_layWitness_28 hl (k := 1) rfl (by rw [et28]; rfl) (by decide) rfl (fun ls hl => ?_)
      have h := st_to h et28
      refine lv_goto (tgt := 16) hx hb dX12_layWitness_31 (by decide) ?_
      exact ih16 M_nodes M_solved M_dropped M_fits M_proofSize M_tooLong M_trial M_node M_parent M_rule M_child M_proof M_witness M_witnessSize_27 M_built t28 ls H locs (lv_sub hl [1, 0] rfl) hP hD hS h
  have hl : lv_has ls 5 [(0, .ref aM)] := hl
  obtain ⟨H, hH⟩ : ∃ H, H = s.heap := ⟨_, rfl⟩
  obtain ⟨locs, hlocs⟩ : ∃ l : List Loc, l = [] := ⟨_, rfl⟩
  rw [show W p l e rmX12_layWitness s m ([.ref aM] : List Value).toArray below meth c s.heap [] 0 0 QQ (F0 m 0 ls []) = W p l e rmX12_layWitness s m ([.ref aM] : List Value).toArray below meth c H locs 0 0 QQ (F0 m 0 ls []) by rw [hH, hlocs]]
  have hP : va_P g.1 vwCl (wX12 g aM aM_text aM_now aM_trial aM_read aM_diary aM_kept aM_isKept aM_constraint aM_readConstraint aM_word aM_size aM_number aM_firstOne aM_node aM_parent aM_rule aM_child aM_proof aM_witness aM_witnessSize aM_built aM_copyRow M_length M_acts M_next M_many M_readMany M_found M_shortest M_nodes M_solved M_dropped M_fits M_proofSize M_tooLong M_text M_now M_trial M_read M_diary M_kept M_isKept M_constraint M_readConstraint M_word M_size M_number M_firstOne M_node M_parent M_rule M_child M_proof M_witness M_witnessSize M_built M_copyRow) H := by rw [hH]; exact hP
  have hD : va_D A (wX12 g aM aM_text aM_now aM_trial aM_read aM_diary aM_kept aM_isKept aM_constraint aM_readConstraint aM_word aM_size aM_number aM_firstOne aM_node aM_parent aM_rule aM_child aM_proof aM_witness aM_witnessSize aM_built aM_copyRow M_length M_acts M_next M_many M_readMany M_found M_shortest M_nodes M_solved M_dropped M_fits M_proofSize M_tooLong M_text M_now M_trial M_read M_diary M_kept M_isKept M_constraint M_readConstraint M_word M_size M_number M_firstOne M_node M_parent M_rule M_child M_proof M_witness M_witnessSize M_built M_copyRow) := hD
  have hS : va_S A s.heap H locs := by rw [hH, hlocs]; exact hS
  clear hH hlocs
  refine lv_aload_n hx hb dX12_layWitness_0 rfl (lv_at hl 0 rfl) ?_
  obtain ⟨t1, M_nodes_1, M_solved_1, M_dropped_1, M_fits_1, M_proofSize_1, M_trial_1, M_node_1, M_parent_1, M_rule_1, M_child_1, M_proof_1, hc1, h⟩ := bd12_to h
  refine go_A (st1 := [.int t1]) (run_V (As := []) (rest := []) X hS (mX12_layProof g l  aM aM_text aM_now aM_trial aM_read aM_diary aM_kept aM_isKept aM_constraint aM_readConstraint aM_word aM_size aM_number aM_firstOne aM_node aM_parent aM_rule aM_child aM_proof aM_witness aM_witnessSize aM_built aM_copyRow M_length M_acts M_next M_many M_readMany M_found M_shortest M_nodes M_solved M_dropped M_fits M_proofSize M_tooLong M_text M_now M_trial M_read M_diary M_kept M_isKept M_constraint M_readConstraint M_word M_size M_number M_firstOne M_node M_parent M_rule M_child M_proof M_witness M_witnessSize M_built M_copyRow t1 M_nodes_1 M_solved_1 M_dropped_1 M_fits_1 M_proofSize_1 M_trial_1 M_node_1 M_parent_1 M_rule_1 M_child_1 M_proof_1 hc1) okX12_layProof wd6_18 ⟨Nat.le_of_ble_eq_true rfl, Nat.le_of_ble_eq_true rfl⟩ ⟨rfl, rfl⟩ (va_recv hK hP (ci := 11) (q0 := 0) rfl rfl) hP hD (all_F hS hA hD) rfl hl.1 rfl (Nat.le_of_ble_eq_true rfl) dX12_layWitness_1 ⟨Nat.zero_le _, Nat.zero_le _⟩) hS (all_F hS hA hD) rfl (fun H locs hP hD hS => ?_)
  refine lv_if_ne (tgt := 9) hx hb dX12_layWitness_4 (by decide) (fun q4 => ?_) (fun q4 => ?_)
  · have h := ifF h q4
    refine lv_aload_n hx hb dX12_layWitness_9 rfl (lv_at hl 0 rfl) ?_
    refine lv_iconst (v := (0 : Int32)) hx hb dX12_layWitness_10 (by decide) ?_
    refine va_put (D := g.1) (ci := 11) (v := .int (0 : Int32)) (ty := .boolean) (C := RX12) (T := TX12) (N := 35) hx hb hts inBX12 tyX12 tyX12_ok nmX12 hown hK hP hD hS 0 rfl rfl 32 (by decide) (hts _ wd4_228) (fun _ h9 => h9) rfl (tyX12_ok 32 (by decide)) rfl rfl (Nat.le_of_ble_eq_true rfl) dX12_layWitness_11 (fun H locs hP hD hS => ?_)
    have hP : va_P g.1 vwCl (wX12 g aM aM_text aM_now aM_trial aM_read aM_diary aM_kept aM_isKept aM_constraint aM_readConstraint aM_word aM_size aM_number aM_firstOne aM_node aM_parent aM_rule aM_child aM_proof aM_witness aM_witnessSize aM_built aM_copyRow M_length M_acts M_next M_many M_readMany M_found M_shortest M_nodes_1 M_solved_1 M_dropped_1 M_fits_1 M_proofSize_1 (0 : Int32) M_text M_now M_trial_1 M_read M_diary M_kept M_isKept M_constraint M_readConstraint M_word M_size M_number M_firstOne M_node_1 M_parent_1 M_rule_1 M_child_1 M_proof_1 M_witness M_witnessSize M_built M_copyRow) H := hP
    have hD : va_D A (wX12 g aM aM_text aM_now aM_trial aM_read aM_diary aM_kept aM_isKept aM_constraint aM_readConstraint aM_word aM_size aM_number aM_firstOne aM_node aM_parent aM_rule aM_child aM_proof aM_witness aM_witnessSize aM_built aM_copyRow M_length M_acts M_next M_many M_readMany M_found M_shortest M_nodes_1 M_solved_1 M_dropped_1 M_fits_1 M_proofSize_1 (0 : Int32) M_text M_now M_trial_1 M_read M_diary M_kept M_isKept M_constraint M_readConstraint M_word M_size M_number M_firstOne M_node_1 M_parent_1 M_rule_1 M_child_1 M_proof_1 M_witness M_witnessSize M_built M_copyRow) := hD
    refine lv_iconst (v := (0 : Int32)) hx hb dX12_layWitness_14 (by decide) ?_
    refine lv_istore_n (lv' := [(1, .int (0 : Int32)), (0, .ref aM)]) hx hb dX12_layWitness_15 rfl hl (by decide) rfl (fun ls hl => ?_)
    exact L16 FU M_nodes_1 M_solved_1 M_dropped_1 M_fits_1 M_proofSize_1 (0 : Int32) M_trial_1 M_node_1 M_parent_1 M_rule_1 M_child_1 M_proof_1 M_witness M_witnessSize M_built (0 : Int32) ls H locs (lv_sub hl [1, 0] rfl) hP hD hS h
  have h := ifT h q4
  refine lv_iconst (v := (0 : Int32)) hx hb dX12_layWitness_7 (by decide) ?_
  have h : some ((0 : Int32), M_nodes_1, M_solved_1, M_dropped_1, M_fits_1, M_proofSize_1, M_tooLong, M_trial_1, M_node_1, M_parent_1, M_rule_1, M_child_1, M_proof_1, M_witness, M_witnessSize, M_built) = some (r, M_nodes_o, M_solved_o, M_dropped_o, M_fits_o, M_proofSize_o, M_tooLong_o, M_trial_o, M_node_o, M_parent_o, M_rule_o, M_child_o, M_proof_o, M_witness_o, M_witnessSize_o, M_built_o) := h
  cases h
  exact hret _ _ _ _ rfl hP hD hS dX12_layWitness_8
set_option maxHeartbeats 4000000 in
set_option maxRecDepth 100000 in
theorem mX12_witnessLength (g : GP) (l : Launch) (aM aM_text aM_now aM_trial aM_read aM_diary aM_kept aM_isKept aM_constraint aM_readConstraint aM_word aM_size aM_number aM_firstOne aM_node aM_parent aM_rule aM_child aM_proof aM_witness aM_witnessSize aM_built aM_copyRow : Nat) (M_length : Int32) (M_acts : Int32) (M_next : Int32) (M_many : Int32) (M_readMany : Int32) (M_found : Int32) (M_shortest : Int32) (M_nodes : Int32) (M_solved : Int32) (M_dropped : Int32) (M_fits : Int32) (M_proofSize : Int32) (M_tooLong : Int32) (M_text : Nat → Int32) (M_now : Nat → Int32) (M_trial : Nat → Int32) (M_read : Nat → Int32) (M_diary : Nat → Int32) (M_kept : Nat → Int32) (M_isKept : Nat → Int32) (M_constraint : Nat → Int32) (M_readConstraint : Nat → Int32) (M_word : Nat → Int32) (M_size : Nat → Int32) (M_number : Nat → Int32) (M_firstOne : Nat → Int32) (M_node : Nat → Int32) (M_parent : Nat → Int32) (M_rule : Nat → Int32) (M_child : Nat → Int32) (M_proof : Nat → Int32) (M_witness : Nat → Int32) (M_witnessSize : Nat → Int32) (M_built : Nat → Int32) (M_copyRow : Nat → Int32) (x1 : Int32) (r : Int32) (M_nodes_o : Int32) (M_solved_o : Int32) (M_dropped_o : Int32) (M_fits_o : Int32) (M_proofSize_o : Int32) (M_tooLong_o : Int32) (M_trial_o : Nat → Int32) (M_node_o : Nat → Int32) (M_parent_o : Nat → Int32) (M_rule_o : Nat → Int32) (M_child_o : Nat → Int32) (M_proof_o : Nat → Int32) (M_witness_o : Nat → Int32) (M_witnessSize_o : Nat → Int32) (M_built_o : Nat → Int32) (h : fM_witnessLength M_nodes M_solved M_dropped M_fits M_proofSize M_tooLong M_now M_trial M_node M_parent M_rule M_child M_proof M_witness M_witnessSize M_built x1 = some (r, M_nodes_o, M_solved_o, M_dropped_o, M_fits_o, M_proofSize_o, M_tooLong_o, M_trial_o, M_node_o, M_parent_o, M_rule_o, M_child_o, M_proof_o, M_witness_o, M_witnessSize_o, M_built_o)) : Ct g l yX12_witnessLength cX12_witnessLength 2 (some .int) rmX12_witnessLength [.ref aM, .int x1] (wX12 g aM aM_text aM_now aM_trial aM_read aM_diary aM_kept aM_isKept aM_constraint aM_readConstraint aM_word aM_size aM_number aM_firstOne aM_node aM_parent aM_rule aM_child aM_proof aM_witness aM_witnessSize aM_built aM_copyRow M_length M_acts M_next M_many M_readMany M_found M_shortest M_nodes M_solved M_dropped M_fits M_proofSize M_tooLong M_text M_now M_trial M_read M_diary M_kept M_isKept M_constraint M_readConstraint M_word M_size M_number M_firstOne M_node M_parent M_rule M_child M_proof M_witness M_witnessSize M_built M_copyRow) (some (.int r)) (wX12 g aM aM_text aM_now aM_trial aM_read aM_diary aM_kept aM_isKept aM_constraint aM_readConstraint aM_word aM_size aM_number aM_firstOne aM_node aM_parent aM_rule aM_child aM_proof aM_witness aM_witnessSize aM_built aM_copyRow M_length M_acts M_next M_many M_readMany M_found M_shortest M_nodes_o M_solved_o M_dropped_o M_fits_o M_proofSize_o M_tooLong_o M_text M_now M_trial_o M_read M_diary M_kept M_isKept M_constraint M_readConstraint M_word M_size M_number M_firstOne M_node_o M_parent_o M_rule_o M_child_o M_proof_o M_witness_o M_witnessSize_o M_built_o M_copyRow) := by
  refine Ct.introI (by decide) (Nat.le_of_ble_eq_true rfl) ?_
  intro p e s m below meth c A QQ ls hyp hret
  obtain ⟨hx, hb, hml, hts, hown, hA, hE, hP, hD, hl⟩ := hyp
  have hK := hE.1
  have hS : va_S A s.heap s.heap [] := va_S.rf
  have X : Here g p s m c cX12_witnessLength 2 ([.ref aM, .int x1] : List Value).toArray RX12 A := ⟨⟨hx, hb, hml, hown, hts⟩, hE, hA⟩
  have hl : lv_has ls 2 [(0, .ref aM), (1, .int x1)] := hl
  obtain ⟨H, hH⟩ : ∃ H, H = s.heap := ⟨_, rfl⟩
  obtain ⟨locs, hlocs⟩ : ∃ l : List Loc, l = [] := ⟨_, rfl⟩
  rw [show W p l e rmX12_witnessLength s m ([.ref aM, .int x1] : List Value).toArray below meth c s.heap [] 0 0 QQ (F0 m 0 ls []) = W p l e rmX12_witnessLength s m ([.ref aM, .int x1] : List Value).toArray below meth c H locs 0 0 QQ (F0 m 0 ls []) by rw [hH, hlocs]]
  have hP : va_P g.1 vwCl (wX12 g aM aM_text aM_now aM_trial aM_read aM_diary aM_kept aM_isKept aM_constraint aM_readConstraint aM_word aM_size aM_number aM_firstOne aM_node aM_parent aM_rule aM_child aM_proof aM_witness aM_witnessSize aM_built aM_copyRow M_length M_acts M_next M_many M_readMany M_found M_shortest M_nodes M_solved M_dropped M_fits M_proofSize M_tooLong M_text M_now M_trial M_read M_diary M_kept M_isKept M_constraint M_readConstraint M_word M_size M_number M_firstOne M_node M_parent M_rule M_child M_proof M_witness M_witnessSize M_built M_copyRow) H := by rw [hH]; exact hP
  have hD : va_D A (wX12 g aM aM_text aM_now aM_trial aM_read aM_diary aM_kept aM_isKept aM_constraint aM_readConstraint aM_word aM_size aM_number aM_firstOne aM_node aM_parent aM_rule aM_child aM_proof aM_witness aM_witnessSize aM_built aM_copyRow M_length M_acts M_next M_many M_readMany M_found M_shortest M_nodes M_solved M_dropped M_fits M_proofSize M_tooLong M_text M_now M_trial M_read M_diary M_kept M_isKept M_constraint M_readConstraint M_word M_size M_number M_firstOne M_node M_parent M_rule M_child M_proof M_witness M_witnessSize M_built M_copyRow) := hD
  have hS : va_S A s.heap H locs := by rw [hH, hlocs]; exact hS
  clear hH hlocs
  refine lv_iload_n hx hb dX12_witnessLength_0 rfl (lv_at hl 1 rfl) ?_
  obtain ⟨t1, hc1, h⟩ := bd1_to h
  refine go_0 (st1 := [.int t1]) (run_S (As := [.int x1]) (rest := []) X hS (mX12_isVariable g l  x1 t1 hc1) okX12_isVariable wd5_120 ⟨Nat.le_of_ble_eq_true rfl, Nat.le_of_ble_eq_true rfl⟩ ⟨rfl, rfl⟩ nil_P nil_D (nil_F hS hA) rfl hl.1 rfl (Nat.le_of_ble_eq_true rfl) dX12_witnessLength_1 ⟨Nat.zero_le _, Nat.zero_le _⟩) hS hA hP rfl (fun H locs hP hS => ?_)
  refine lv_if_ne (tgt := 9) hx hb dX12_witnessLength_4 (by decide) (fun q4 => ?_) (fun q4 => ?_)
  · have h := ifF h q4
    refine lv_aload_n hx hb dX12_witnessLength_9 rfl (lv_at hl 0 rfl) ?_
    obtain ⟨t10, M_nodes_10, M_solved_10, M_dropped_10, M_fits_10, M_proofSize_10, M_tooLong_10, M_trial_10, M_node_10, M_parent_10, M_rule_10, M_child_10, M_proof_10, M_witness_10, M_witnessSize_10, M_built_10, hc10, h⟩ := bd16_to h
    refine go_A (st1 := [.int t10]) (run_V (As := []) (rest := []) X hS (mX12_layWitness g l  aM aM_text aM_now aM_trial aM_read aM_diary aM_kept aM_isKept aM_constraint aM_readConstraint aM_word aM_size aM_number aM_firstOne aM_node aM_parent aM_rule aM_child aM_proof aM_witness aM_witnessSize aM_built aM_copyRow M_length M_acts M_next M_many M_readMany M_found M_shortest M_nodes M_solved M_dropped M_fits M_proofSize M_tooLong M_text M_now M_trial M_read M_diary M_kept M_isKept M_constraint M_readConstraint M_word M_size M_number M_firstOne M_node M_parent M_rule M_child M_proof M_witness M_witnessSize M_built M_copyRow t10 M_nodes_10 M_solved_10 M_dropped_10 M_fits_10 M_proofSize_10 M_tooLong_10 M_trial_10 M_node_10 M_parent_10 M_rule_10 M_child_10 M_proof_10 M_witness_10 M_witnessSize_10 M_built_10 hc10) okX12_layWitness wd6_30 ⟨Nat.le_of_ble_eq_true rfl, Nat.le_of_ble_eq_true rfl⟩ ⟨rfl, rfl⟩ (va_recv hK hP (ci := 11) (q0 := 0) rfl rfl) hP hD (all_F hS hA hD) rfl hl.1 rfl (Nat.le_of_ble_eq_true rfl) dX12_witnessLength_10 ⟨Nat.zero_le _, Nat.zero_le _⟩) hS (all_F hS hA hD) rfl (fun H locs hP hD hS => ?_)
    refine lv_if_eq (tgt := 25) hx hb dX12_witnessLength_13 (by decide) (fun q13 => ?_) (fun q13 => ?_)
    · have h := ifT h q13
      refine lv_bipush (v := ((-9) : Int32)) hx hb dX12_witnessLength_25 (by decide) ?_
      have h : some (((-9) : Int32), M_nodes_10, M_solved_10, M_dropped_10, M_fits_10, M_proofSize_10, M_tooLong_10, M_trial_10, M_node_10, M_parent_10, M_rule_10, M_child_10, M_proof_10, M_witness_10, M_witnessSize_10, M_built_10) = some (r, M_nodes_o, M_solved_o, M_dropped_o, M_fits_o, M_proofSize_o, M_tooLong_o, M_trial_o, M_node_o, M_parent_o, M_rule_o, M_child_o, M_proof_o, M_witness_o, M_witnessSize_o, M_built_o) := h
      cases h
      exact hret _ _ _ _ hP hD hS dX12_witnessLength_27
    have h := ifF h q13
    refine lv_aload_n hx hb dX12_witnessLength_16 rfl (lv_at hl 0 rfl) ?_
    refine va_get (D := g.1) (ci := 11) (v := .ref aM_witnessSize) (C := RX12) (T := TX12) (N := 35) hx hb hts inBX12 hown hK hP 0 rfl rfl 31 (by decide) (hts _ wd4_227) (fun _ h9 => h9) rfl dX12_witnessLength_17 ?_
    refine lv_iload_n hx hb dX12_witnessLength_20 rfl (lv_at hl 1 rfl) ?_
    have hin := ld_in h
    refine va_iald hx hb hK hP 20 0 rfl rfl hin dX12_witnessLength_21 ?_
    refine lv_topi (fun t21 et21 => ?_)
    have h := ld_to h et21
    refine lv_goto (tgt := 27) hx hb dX12_witnessLength_22 (by decide) ?_
    have h : some (t21, M_nodes_10, M_solved_10, M_dropped_10, M_fits_10, M_proofSize_10, M_tooLong_10, M_trial_10, M_node_10, M_parent_10, M_rule_10, M_child_10, M_proof_10, M_witness_10, M_witnessSize_10, M_built_10) = some (r, M_nodes_o, M_solved_o, M_dropped_o, M_fits_o, M_proofSize_o, M_tooLong_o, M_trial_o, M_node_o, M_parent_o, M_rule_o, M_child_o, M_proof_o, M_witness_o, M_witnessSize_o, M_built_o) := h
    cases h
    exact hret _ _ _ _ hP hD hS dX12_witnessLength_27
  have h := ifT h q4
  refine lv_iconst (v := ((-1) : Int32)) hx hb dX12_witnessLength_7 (by decide) ?_
  have h : some (((-1) : Int32), M_nodes, M_solved, M_dropped, M_fits, M_proofSize, M_tooLong, M_trial, M_node, M_parent, M_rule, M_child, M_proof, M_witness, M_witnessSize, M_built) = some (r, M_nodes_o, M_solved_o, M_dropped_o, M_fits_o, M_proofSize_o, M_tooLong_o, M_trial_o, M_node_o, M_parent_o, M_rule_o, M_child_o, M_proof_o, M_witness_o, M_witnessSize_o, M_built_o) := h
  cases h
  exact hret _ _ _ _ hP hD hS dX12_witnessLength_8
set_option maxHeartbeats 4000000 in
set_option maxRecDepth 100000 in
theorem mX12_witnessLetter (g : GP) (l : Launch) (aM aM_text aM_now aM_trial aM_read aM_diary aM_kept aM_isKept aM_constraint aM_readConstraint aM_word aM_size aM_number aM_firstOne aM_node aM_parent aM_rule aM_child aM_proof aM_witness aM_witnessSize aM_built aM_copyRow : Nat) (M_length : Int32) (M_acts : Int32) (M_next : Int32) (M_many : Int32) (M_readMany : Int32) (M_found : Int32) (M_shortest : Int32) (M_nodes : Int32) (M_solved : Int32) (M_dropped : Int32) (M_fits : Int32) (M_proofSize : Int32) (M_tooLong : Int32) (M_text : Nat → Int32) (M_now : Nat → Int32) (M_trial : Nat → Int32) (M_read : Nat → Int32) (M_diary : Nat → Int32) (M_kept : Nat → Int32) (M_isKept : Nat → Int32) (M_constraint : Nat → Int32) (M_readConstraint : Nat → Int32) (M_word : Nat → Int32) (M_size : Nat → Int32) (M_number : Nat → Int32) (M_firstOne : Nat → Int32) (M_node : Nat → Int32) (M_parent : Nat → Int32) (M_rule : Nat → Int32) (M_child : Nat → Int32) (M_proof : Nat → Int32) (M_witness : Nat → Int32) (M_witnessSize : Nat → Int32) (M_built : Nat → Int32) (M_copyRow : Nat → Int32) (x1 : Int32) (x2 : Int32) (r : Int32) (M_nodes_o : Int32) (M_solved_o : Int32) (M_dropped_o : Int32) (M_fits_o : Int32) (M_proofSize_o : Int32) (M_tooLong_o : Int32) (M_trial_o : Nat → Int32) (M_node_o : Nat → Int32) (M_parent_o : Nat → Int32) (M_rule_o : Nat → Int32) (M_child_o : Nat → Int32) (M_proof_o : Nat → Int32) (M_witness_o : Nat → Int32) (M_witnessSize_o : Nat → Int32) (M_built_o : Nat → Int32) (h : fM_witnessLetter M_nodes M_solved M_dropped M_fits M_proofSize M_tooLong M_now M_trial M_node M_parent M_rule M_child M_proof M_witness M_witnessSize M_built x1 x2 = some (r, M_nodes_o, M_solved_o, M_dropped_o, M_fits_o, M_proofSize_o, M_tooLong_o, M_trial_o, M_node_o, M_parent_o, M_rule_o, M_child_o, M_proof_o, M_witness_o, M_witnessSize_o, M_built_o)) : Ct g l yX12_witnessLetter cX12_witnessLetter 3 (some .int) rmX12_witnessLetter [.ref aM, .int x1, .int x2] (wX12 g aM aM_text aM_now aM_trial aM_read aM_diary aM_kept aM_isKept aM_constraint aM_readConstraint aM_word aM_size aM_number aM_firstOne aM_node aM_parent aM_rule aM_child aM_proof aM_witness aM_witnessSize aM_built aM_copyRow M_length M_acts M_next M_many M_readMany M_found M_shortest M_nodes M_solved M_dropped M_fits M_proofSize M_tooLong M_text M_now M_trial M_read M_diary M_kept M_isKept M_constraint M_readConstraint M_word M_size M_number M_firstOne M_node M_parent M_rule M_child M_proof M_witness M_witnessSize M_built M_copyRow) (some (.int r)) (wX12 g aM aM_text aM_now aM_trial aM_read aM_diary aM_kept aM_isKept aM_constraint aM_readConstraint aM_word aM_size aM_number aM_firstOne aM_node aM_parent aM_rule aM_child aM_proof aM_witness aM_witnessSize aM_built aM_copyRow M_length M_acts M_next M_many M_readMany M_found M_shortest M_nodes_o M_solved_o M_dropped_o M_fits_o M_proofSize_o M_tooLong_o M_text M_now M_trial_o M_read M_diary M_kept M_isKept M_constraint M_readConstraint M_word M_size M_number M_firstOne M_node_o M_parent_o M_rule_o M_child_o M_proof_o M_witness_o M_witnessSize_o M_built_o M_copyRow) := by
  refine Ct.introI (by decide) (Nat.le_of_ble_eq_true rfl) ?_
  intro p e s m below meth c A QQ ls hyp hret
  obtain ⟨hx, hb, hml, hts, hown, hA, hE, hP, hD, hl⟩ := hyp
  have hK := hE.1
  have hS : va_S A s.heap s.heap [] := va_S.rf
  have X : Here g p s m c cX12_witnessLetter 3 ([.ref aM, .int x1, .int x2] : List Value).toArray RX12 A := ⟨⟨hx, hb, hml, hown, hts⟩, hE, hA⟩
  have hl : lv_has ls 3 [(0, .ref aM), (1, .int x1), (2, .int x2)] := hl
  obtain ⟨H, hH⟩ : ∃ H, H = s.heap := ⟨_, rfl⟩
  obtain ⟨locs, hlocs⟩ : ∃ l : List Loc, l = [] := ⟨_, rfl⟩
  rw [show W p l e rmX12_witnessLetter s m ([.ref aM, .int x1, .int x2] : List Value).toArray below meth c s.heap [] 0 0 QQ (F0 m 0 ls []) = W p l e rmX12_witnessLetter s m ([.ref aM, .int x1, .int x2] : List Value).toArray below meth c H locs 0 0 QQ (F0 m 0 ls []) by rw [hH, hlocs]]
  have hP : va_P g.1 vwCl (wX12 g aM aM_text aM_now aM_trial aM_read aM_diary aM_kept aM_isKept aM_constraint aM_readConstraint aM_word aM_size aM_number aM_firstOne aM_node aM_parent aM_rule aM_child aM_proof aM_witness aM_witnessSize aM_built aM_copyRow M_length M_acts M_next M_many M_readMany M_found M_shortest M_nodes M_solved M_dropped M_fits M_proofSize M_tooLong M_text M_now M_trial M_read M_diary M_kept M_isKept M_constraint M_readConstraint M_word M_size M_number M_firstOne M_node M_parent M_rule M_child M_proof M_witness M_witnessSize M_built M_copyRow) H := by rw [hH]; exact hP
  have hD : va_D A (wX12 g aM aM_text aM_now aM_trial aM_read aM_diary aM_kept aM_isKept aM_constraint aM_readConstraint aM_word aM_size aM_number aM_firstOne aM_node aM_parent aM_rule aM_child aM_proof aM_witness aM_witnessSize aM_built aM_copyRow M_length M_acts M_next M_many M_readMany M_found M_shortest M_nodes M_solved M_dropped M_fits M_proofSize M_tooLong M_text M_now M_trial M_read M_diary M_kept M_isKept M_constraint M_readConstraint M_word M_size M_number M_firstOne M_node M_parent M_rule M_child M_proof M_witness M_witnessSize M_built M_copyRow) := hD
  have hS : va_S A s.heap H locs := by rw [hH, hlocs]; exact hS
  clear hH hlocs
  refine lv_iload_n hx hb dX12_witnessLetter_0 rfl (lv_at hl 1 rfl) ?_
  obtain ⟨t1, hc1, h⟩ := bd1_to h
  refine go_0 (st1 := [.int t1]) (run_S (As := [.int x1]) (rest := []) X hS (mX12_isVariable g l  x1 t1 hc1) okX12_isVariable wd5_120 ⟨Nat.le_of_ble_eq_true rfl, Nat.le_of_ble_eq_true rfl⟩ ⟨rfl, rfl⟩ nil_P nil_D (nil_F hS hA) rfl hl.1 rfl (Nat.le_of_ble_eq_true rfl) dX12_witnessLetter_1 ⟨Nat.zero_le _, Nat.zero_le _⟩) hS hA hP rfl (fun H locs hP hS => ?_)
  refine lv_if_ne (tgt := 9) hx hb dX12_witnessLetter_4 (by decide) (fun q4 => ?_) (fun q4 => ?_)
  · have h := ifF h q4
    refine lv_aload_n hx hb dX12_witnessLetter_9 rfl (lv_at hl 0 rfl) ?_
    obtain ⟨t10, M_nodes_10, M_solved_10, M_dropped_10, M_fits_10, M_proofSize_10, M_tooLong_10, M_trial_10, M_node_10, M_parent_10, M_rule_10, M_child_10, M_proof_10, M_witness_10, M_witnessSize_10, M_built_10, hc10, h⟩ := bd16_to h
    refine go_A (st1 := [.int t10]) (run_V (As := []) (rest := []) X hS (mX12_layWitness g l  aM aM_text aM_now aM_trial aM_read aM_diary aM_kept aM_isKept aM_constraint aM_readConstraint aM_word aM_size aM_number aM_firstOne aM_node aM_parent aM_rule aM_child aM_proof aM_witness aM_witnessSize aM_built aM_copyRow M_length M_acts M_next M_many M_readMany M_found M_shortest M_nodes M_solved M_dropped M_fits M_proofSize M_tooLong M_text M_now M_trial M_read M_diary M_kept M_isKept M_constraint M_readConstraint M_word M_size M_number M_firstOne M_node M_parent M_rule M_child M_proof M_witness M_witnessSize M_built M_copyRow t10 M_nodes_10 M_solved_10 M_dropped_10 M_fits_10 M_proofSize_10 M_tooLong_10 M_trial_10 M_node_10 M_parent_10 M_rule_10 M_child_10 M_proof_10 M_witness_10 M_witnessSize_10 M_built_10 hc10) okX12_layWitness wd6_30 ⟨Nat.le_of_ble_eq_true rfl, Nat.le_of_ble_eq_true rfl⟩ ⟨rfl, rfl⟩ (va_recv hK hP (ci := 11) (q0 := 0) rfl rfl) hP hD (all_F hS hA hD) rfl hl.1 rfl (Nat.le_of_ble_eq_true rfl) dX12_witnessLetter_10 ⟨Nat.zero_le _, Nat.zero_le _⟩) hS (all_F hS hA hD) rfl (fun H locs hP hD hS => ?_)
    refine lv_if_eq (tgt := 51) hx hb dX12_witnessLetter_13 (by decide) (fun q13 => ?_) (fun q13 => ?_)
    · have h := ifT h q13
      refine lv_bipush (v := ((-9) : Int32)) hx hb dX12_witnessLetter_51 (by decide) ?_
      have h : some (((-9) : Int32), M_nodes_10, M_solved_10, M_dropped_10, M_fits_10, M_proofSize_10, M_tooLong_10, M_trial_10, M_node_10, M_parent_10, M_rule_10, M_child_10, M_proof_10, M_witness_10, M_witnessSize_10, M_built_10) = some (r, M_nodes_o, M_solved_o, M_dropped_o, M_fits_o, M_proofSize_o, M_tooLong_o, M_trial_o, M_node_o, M_parent_o, M_rule_o, M_child_o, M_proof_o, M_witness_o, M_witnessSize_o, M_built_o) := h
      cases h
      exact hret _ _ _ _ hP hD hS dX12_witnessLetter_53
    have h := ifF h q13
    refine lv_iload_n hx hb dX12_witnessLetter_16 rfl (lv_at hl 2 rfl) ?_
    refine lv_i2l (v := (Int32.toInt64 x2)) hx hb dX12_witnessLetter_17 rfl ?_
    refine lv_lconst (v := (0 : Int64)) hx hb dX12_witnessLetter_18 (by decide) ?_
    refine lv_aload_n hx hb dX12_witnessLetter_19 rfl (lv_at hl 0 rfl) ?_
    refine va_get (D := g.1) (ci := 11) (v := .ref aM_witnessSize) (C := RX12) (T := TX12) (N := 35) hx hb hts inBX12 hown hK hP 0 rfl rfl 31 (by decide) (hts _ wd4_227) (fun _ h9 => h9) rfl dX12_witnessLetter_20 ?_
    refine lv_iload_n hx hb dX12_witnessLetter_23 rfl (lv_at hl 1 rfl) ?_
    have hin := ld_in h
    refine va_iald hx hb hK hP 20 0 rfl rfl hin dX12_witnessLetter_24 ?_
    refine lv_topi (fun t24 et24 => ?_)
    have h := ld_to h et24
    refine lv_iconst (v := (1 : Int32)) hx hb dX12_witnessLetter_25 (by decide) ?_
    refine lv_isub hx hb dX12_witnessLetter_26 ?_
    refine lv_i2l (v := (Int32.toInt64 (t24 - (1 : Int32)))) hx hb dX12_witnessLetter_27 rfl ?_
    obtain ⟨t28, hc28, h⟩ := bd1_to h
    refine go_0 (st1 := [.int t28]) (run_S (As := [.long (Int32.toInt64 x2), .long (0 : Int64), .long (Int32.toInt64 (t24 - (1 : Int32)))]) (rest := []) X hS (mX12_in g l  (Int32.toInt64 x2) (0 : Int64) (Int32.toInt64 (t24 - (1 : Int32))) t28 hc28) okX12_in wd5_67 ⟨Nat.le_of_ble_eq_true rfl, Nat.le_of_ble_eq_true rfl⟩ ⟨rfl, rfl⟩ nil_P nil_D (nil_F hS hA) rfl hl.1 rfl (Nat.le_of_ble_eq_true rfl) dX12_witnessLetter_28 ⟨Nat.zero_le _, Nat.zero_le _⟩) hS hA hP rfl (fun H locs hP hS => ?_)
    refine lv_if_eq (tgt := 51) hx hb dX12_witnessLetter_31 (by decide) (fun q31 => ?_) (fun q31 => ?_)
    · have h := ifT h q31
      refine lv_bipush (v := ((-9) : Int32)) hx hb dX12_witnessLetter_51 (by decide) ?_
      have h : some (((-9) : Int32), M_nodes_10, M_solved_10, M_dropped_10, M_fits_10, M_proofSize_10, M_tooLong_10, M_trial_10, M_node_10, M_parent_10, M_rule_10, M_child_10, M_proof_10, M_witness_10, M_witnessSize_10, M_built_10) = some (r, M_nodes_o, M_solved_o, M_dropped_o, M_fits_o, M_proofSize_o, M_tooLong_o, M_trial_o, M_node_o, M_parent_o, M_rule_o, M_child_o, M_proof_o, M_witness_o, M_witnessSize_o, M_built_o) := h
      cases h
      exact hret _ _ _ _ hP hD hS dX12_witnessLetter_53
    have h := ifF h q31
    refine lv_aload_n hx hb dX12_witnessLetter_34 rfl (lv_at hl 0 rfl) ?_
    refine va_get (D := g.1) (ci := 11) (v := .ref aM_witness) (C := RX12) (T := TX12) (N := 35) hx hb hts inBX12 hown hK hP 0 rfl rfl 30 (by decide) (hts _ wd4_226) (fun _ h9 => h9) rfl dX12_witnessLetter_35 ?_
    refine lv_bipush (v := (60 : Int32)) hx hb dX12_witnessLetter_38 (by decide) ?_
    refine lv_iload_n hx hb dX12_witnessLetter_40 rfl (lv_at hl 1 rfl) ?_
    refine lv_imul hx hb dX12_witnessLetter_41 ?_
    refine lv_iload_n hx hb dX12_witnessLetter_42 rfl (lv_at hl 2 rfl) ?_
    refine lv_iadd hx hb dX12_witnessLetter_43 ?_
    have hin := ld_in h
    refine va_iald hx hb hK hP 19 0 rfl rfl hin dX12_witnessLetter_44 ?_
    refine lv_topi (fun t44 et44 => ?_)
    have h := ld_to h et44
    obtain ⟨t45, hc45, h⟩ := bd1_to h
    refine go_0 (st1 := [.int t45]) (run_S (As := [.int t44]) (rest := []) X hS (mX12_charOf g l  t44 t45 hc45) okX12_charOf wd5_113 ⟨Nat.le_of_ble_eq_true rfl, Nat.le_of_ble_eq_true rfl⟩ ⟨rfl, rfl⟩ nil_P nil_D (nil_F hS hA) rfl hl.1 rfl (Nat.le_of_ble_eq_true rfl) dX12_witnessLetter_45 ⟨Nat.zero_le _, Nat.zero_le _⟩) hS hA hP rfl (fun H locs hP hS => ?_)
    refine lv_goto (tgt := 53) hx hb dX12_witnessLetter_48 (by decide) ?_
    have h : some (t45, M_nodes_10, M_solved_10, M_dropped_10, M_fits_10, M_proofSize_10, M_tooLong_10, M_trial_10, M_node_10, M_parent_10, M_rule_10, M_child_10, M_proof_10, M_witness_10, M_witnessSize_10, M_built_10) = some (r, M_nodes_o, M_solved_o, M_dropped_o, M_fits_o, M_proofSize_o, M_tooLong_o, M_trial_o, M_node_o, M_parent_o, M_rule_o, M_child_o, M_proof_o, M_witness_o, M_witnessSize_o, M_built_o) := h
    cases h
    exact hret _ _ _ _ hP hD hS dX12_witnessLetter_53
  have h := ifT h q4
  refine lv_iconst (v := ((-1) : Int32)) hx hb dX12_witnessLetter_7 (by decide) ?_
  have h : some (((-1) : Int32), M_nodes, M_solved, M_dropped, M_fits, M_proofSize, M_tooLong, M_trial, M_node, M_parent, M_rule, M_child, M_proof, M_witness, M_witnessSize, M_built) = some (r, M_nodes_o, M_solved_o, M_dropped_o, M_fits_o, M_proofSize_o, M_tooLong_o, M_trial_o, M_node_o, M_parent_o, M_rule_o, M_child_o, M_proof_o, M_witness_o, M_witnessSize_o, M_built_o) := h
  cases h
  exact hret _ _ _ _ hP hD hS dX12_witnessLetter_8
set_option maxHeartbeats 4000000 in
set_option maxRecDepth 100000 in
theorem mX12_thousands (g : GP) (l : Launch)  (x0 : Int32) (r : Int64) (h : fM_thousands x0 = some r) : Ct g l yX12_thousands cX12_thousands 4 (some .long) rmX12_thousands [.int x0] [] (some (.long r)) [] := by
  refine Ct.introL (by decide) (Nat.le_of_ble_eq_true rfl) ?_
  intro p e s m below meth c A QQ ls hyp hret
  obtain ⟨hx, hb, hml, hts, hown, hA, hE, hP, hD, hl⟩ := hyp
  have hK := hE.1
  have hS : va_S A s.heap s.heap [] := va_S.rf
  have X : Here g p s m c cX12_thousands 4 ([.int x0] : List Value).toArray RX12 A := ⟨⟨hx, hb, hml, hown, hts⟩, hE, hA⟩
  have L4 : ∀ (n4 : Nat), ∀ (v1 : Int64) (v3 : Int32) (ls : Array Slot) (H : Heap) (locs : List Loc), lv_has ls 4 [(0, .int x0), (1, .long v1), (3, .int v3)] → va_P g.1 vwCl [] H → va_D A [] → va_S A s.heap H locs → fx2 (fM_thousands_4 x0) n4 v1 v3 = some r → W p l e rmX12_thousands s m ([.int x0] : List Value).toArray below meth c H locs 0 0 QQ (F0 m 4 ls []) := by
    intro n4
    induction n4 with
    | zero => intro v1 v3 ls H locs hl hP hD hS h; exact fx2_0 h
    | succ n4 ih4 =>
      intro v1 v3 ls H locs hl hP hD hS h
      have h := (fx2_s (fM_thousands_4 x0) n4 v1 v3).symm.trans h
      refine lv_iload_n hx hb dX12_thousands_4 rfl (lv_at hl 2 rfl) ?_
      refine lv_iload_n hx hb dX12_thousands_5 rfl (lv_at hl 0 rfl) ?_
      refine lv_icmp_ge (tgt := 21) hx hb dX12_thousands_6 (by decide) (fun q6 => ?_) (fun q6 => ?_)
      · have h := ifT h q6
        refine lv_lload_n hx hb dX12_thousands_21 rfl (lv_at hl 1 rfl) ?_
        have h : some v1 = some r := h
        cases h
        exact hret _ _ _ _ hP hD hS dX12_thousands_22
      have h := ifF h q6
      refine lv_lload_n hx hb dX12_thousands_9 rfl (lv_at hl 1 rfl) ?_
      refine lv_ldc2 (v := (1000 : Int64)) hx hb hown (hts _ wd6_50) dX12_thousands_10 ?_
      refine lv_lmul hx hb dX12_thousands_13 ?_
      refine lv_topl (fun t14 et14 => ?_)
      have h := st_to h et14
      refine lv_lstore_n (lv' := [(1, .long t14), (0, .int x0), (3, .int v3)]) hx hb dX12_thousands_14 rfl hl (by decide) rfl (fun ls hl => ?_)
      obtain ⟨t15, et15⟩ : ∃ y : Int32, y = v3 + (1 : Int32) := ⟨_, rfl⟩
      refine lv_iinc (v := t15) (lv' := [(3, .int t15), (1, .long t14), (0, .int x0)]) hx hb dX12_thousands_15 hl (k := 2) rfl (by rw [et15]; rfl) (by decide) rfl (fun ls hl => ?_)
      have h := st_to h et15
      refine lv_goto (tgt := 4) hx hb dX12_thousands_18 (by decide) ?_
      exact ih4 t14 t15 ls H locs (lv_sub hl [2, 1, 0] rfl) hP hD hS h
  have hl : lv_has ls 4 [(0, .int x0)] := hl
  obtain ⟨H, hH⟩ : ∃ H, H = s.heap := ⟨_, rfl⟩
  obtain ⟨locs, hlocs⟩ : ∃ l : List Loc, l = [] := ⟨_, rfl⟩
  rw [show W p l e rmX12_thousands s m ([.int x0] : List Value).toArray below meth c s.heap [] 0 0 QQ (F0 m 0 ls []) = W p l e rmX12_thousands s m ([.int x0] : List Value).toArray below meth c H locs 0 0 QQ (F0 m 0 ls []) by rw [hH, hlocs]]
  have hP : va_P g.1 vwCl [] H := by rw [hH]; exact hP
  have hD : va_D A [] := hD
  have hS : va_S A s.heap H locs := by rw [hH, hlocs]; exact hS
  clear hH hlocs
  refine lv_lconst (v := (1 : Int64)) hx hb dX12_thousands_0 (by decide) ?_
  refine lv_lstore_n (lv' := [(1, .long (1 : Int64)), (0, .int x0)]) hx hb dX12_thousands_1 rfl hl (by decide) rfl (fun ls hl => ?_)
  refine lv_iconst (v := (0 : Int32)) hx hb dX12_thousands_2 (by decide) ?_
  refine lv_istore_n (lv' := [(3, .int (0 : Int32)), (1, .long (1 : Int64)), (0, .int x0)]) hx hb dX12_thousands_3 rfl hl (by decide) rfl (fun ls hl => ?_)
  exact L4 FU (1 : Int64) (0 : Int32) ls H locs (lv_sub hl [2, 1, 0] rfl) hP hD hS h
set_option maxHeartbeats 4000000 in
set_option maxRecDepth 100000 in
theorem mX12_command (g : GP) (l : Launch) (aM aM_text aM_now aM_trial aM_read aM_diary aM_kept aM_isKept aM_constraint aM_readConstraint aM_word aM_size aM_number aM_firstOne aM_node aM_parent aM_rule aM_child aM_proof aM_witness aM_witnessSize aM_built aM_copyRow : Nat) (M_length : Int32) (M_acts : Int32) (M_next : Int32) (M_many : Int32) (M_readMany : Int32) (M_found : Int32) (M_shortest : Int32) (M_nodes : Int32) (M_solved : Int32) (M_dropped : Int32) (M_fits : Int32) (M_proofSize : Int32) (M_tooLong : Int32) (M_text : Nat → Int32) (M_now : Nat → Int32) (M_trial : Nat → Int32) (M_read : Nat → Int32) (M_diary : Nat → Int32) (M_kept : Nat → Int32) (M_isKept : Nat → Int32) (M_constraint : Nat → Int32) (M_readConstraint : Nat → Int32) (M_word : Nat → Int32) (M_size : Nat → Int32) (M_number : Nat → Int32) (M_firstOne : Nat → Int32) (M_node : Nat → Int32) (M_parent : Nat → Int32) (M_rule : Nat → Int32) (M_child : Nat → Int32) (M_proof : Nat → Int32) (M_witness : Nat → Int32) (M_witnessSize : Nat → Int32) (M_built : Nat → Int32) (M_copyRow : Nat → Int32) (x1 : Int32) (x2 : Int32) (x3 : Int32) (r : Int32) (M_found_o : Int32) (M_shortest_o : Int32) (M_nodes_o : Int32) (M_solved_o : Int32) (M_dropped_o : Int32) (M_fits_o : Int32) (M_trial_o : Nat → Int32) (M_word_o : Nat → Int32) (M_size_o : Nat → Int32) (M_number_o : Nat → Int32) (M_firstOne_o : Nat → Int32) (M_node_o : Nat → Int32) (M_parent_o : Nat → Int32) (M_rule_o : Nat → Int32) (M_child_o : Nat → Int32) (M_copyRow_o : Nat → Int32) (h : fM_command M_many M_found M_shortest M_nodes M_solved M_dropped M_fits M_trial M_constraint M_word M_size M_number M_firstOne M_node M_parent M_rule M_child M_copyRow x1 x2 x3 = some (r, M_found_o, M_shortest_o, M_nodes_o, M_solved_o, M_dropped_o, M_fits_o, M_trial_o, M_word_o, M_size_o, M_number_o, M_firstOne_o, M_node_o, M_parent_o, M_rule_o, M_child_o, M_copyRow_o)) : Ct g l yX12_command cX12_command 5 (some .boolean) rmX12_command [.ref aM, .int x1, .int x2, .int x3] (wX12 g aM aM_text aM_now aM_trial aM_read aM_diary aM_kept aM_isKept aM_constraint aM_readConstraint aM_word aM_size aM_number aM_firstOne aM_node aM_parent aM_rule aM_child aM_proof aM_witness aM_witnessSize aM_built aM_copyRow M_length M_acts M_next M_many M_readMany M_found M_shortest M_nodes M_solved M_dropped M_fits M_proofSize M_tooLong M_text M_now M_trial M_read M_diary M_kept M_isKept M_constraint M_readConstraint M_word M_size M_number M_firstOne M_node M_parent M_rule M_child M_proof M_witness M_witnessSize M_built M_copyRow) (some (.int r)) (wX12 g aM aM_text aM_now aM_trial aM_read aM_diary aM_kept aM_isKept aM_constraint aM_readConstraint aM_word aM_size aM_number aM_firstOne aM_node aM_parent aM_rule aM_child aM_proof aM_witness aM_witnessSize aM_built aM_copyRow M_length M_acts M_next M_many M_readMany M_found_o M_shortest_o M_nodes_o M_solved_o M_dropped_o M_fits_o M_proofSize M_tooLong M_text M_now M_trial_o M_read M_diary M_kept M_isKept M_constraint M_readConstraint M_word_o M_size_o M_number_o M_firstOne_o M_node_o M_parent_o M_rule_o M_child_o M_proof M_witness M_witnessSize M_built M_copyRow_o) := by
  refine Ct.introZ (by decide) (Nat.le_of_ble_eq_true rfl) ?_
  intro p e s m below meth c A QQ ls hyp hret
  obtain ⟨hx, hb, hml, hts, hown, hA, hE, hP, hD, hl⟩ := hyp
  have hK := hE.1
  have hS : va_S A s.heap s.heap [] := va_S.rf
  have X : Here g p s m c cX12_command 5 ([.ref aM, .int x1, .int x2, .int x3] : List Value).toArray RX12 A := ⟨⟨hx, hb, hml, hown, hts⟩, hE, hA⟩
  have B65 : ∀ (M_found : Int32) (M_shortest : Int32) (M_nodes : Int32) (M_solved : Int32) (M_dropped : Int32) (M_fits : Int32) (M_trial : Nat → Int32) (M_word : Nat → Int32) (M_size : Nat → Int32) (M_number : Nat → Int32) (M_firstOne : Nat → Int32) (M_node : Nat → Int32) (M_parent : Nat → Int32) (M_rule : Nat → Int32) (M_child : Nat → Int32) (M_copyRow : Nat → Int32) (ls : Array Slot) (H : Heap) (locs : List Loc), lv_has ls 5 [(2, .int x2), (3, .int x3)] → va_P g.1 vwCl (wX12 g aM aM_text aM_now aM_trial aM_read aM_diary aM_kept aM_isKept aM_constraint aM_readConstraint aM_word aM_size aM_number aM_firstOne aM_node aM_parent aM_rule aM_child aM_proof aM_witness aM_witnessSize aM_built aM_copyRow M_length M_acts M_next M_many M_readMany M_found M_shortest M_nodes M_solved M_dropped M_fits M_proofSize M_tooLong M_text M_now M_trial M_read M_diary M_kept M_isKept M_constraint M_readConstraint M_word M_size M_number M_firstOne M_node M_parent M_rule M_child M_proof M_witness M_witnessSize M_built M_copyRow) H → va_D A (wX12 g aM aM_text aM_now aM_trial aM_read aM_diary aM_kept aM_isKept aM_constraint aM_readConstraint aM_word aM_size aM_number aM_firstOne aM_node aM_parent aM_rule aM_child aM_proof aM_witness aM_witnessSize aM_built aM_copyRow M_length M_acts M_next M_many M_readMany M_found M_shortest M_nodes M_solved M_dropped M_fits M_proofSize M_tooLong M_text M_now M_trial M_read M_diary M_kept M_isKept M_constraint M_readConstraint M_word M_size M_number M_firstOne M_node M_parent M_rule M_child M_proof M_witness M_witnessSize M_built M_copyRow) → va_S A s.heap H locs → fM_command_65 M_found M_shortest M_nodes M_solved M_dropped M_fits M_trial M_word M_size M_number M_firstOne M_node M_parent M_rule M_child M_copyRow x2 x3 = some (r, M_found_o, M_shortest_o, M_nodes_o, M_solved_o, M_dropped_o, M_fits_o, M_trial_o, M_word_o, M_size_o, M_number_o, M_firstOne_o, M_node_o, M_parent_o, M_rule_o, M_child_o, M_copyRow_o) → W p l e rmX12_command s m ([.ref aM, .int x1, .int x2, .int x3] : List Value).toArray below meth c H locs 0 0 QQ (F0 m 65 ls []) := by
    intro M_found M_shortest M_nodes M_solved M_dropped M_fits M_trial M_word M_size M_number M_firstOne M_node M_parent M_rule M_child M_copyRow ls H locs hl hP hD hS h
    refine lv_iload_n hx hb dX12_command_65 rfl (lv_at hl 0 rfl) ?_
    refine lv_iload_n hx hb dX12_command_66 rfl (lv_at hl 1 rfl) ?_
    refine lv_iadd hx hb dX12_command_67 ?_
    refine lv_if_ne (tgt := 75) hx hb dX12_command_68 (by decide) (fun q68 => ?_) (fun q68 => ?_)
    · have h := ifF h q68
      refine lv_iconst (v := (0 : Int32)) hx hb dX12_command_75 (by decide) ?_
      have h : some ((0 : Int32), M_found, M_shortest, M_nodes, M_solved, M_dropped, M_fits, M_trial, M_word, M_size, M_number, M_firstOne, M_node, M_parent, M_rule, M_child, M_copyRow) = some (r, M_found_o, M_shortest_o, M_nodes_o, M_solved_o, M_dropped_o, M_fits_o, M_trial_o, M_word_o, M_size_o, M_number_o, M_firstOne_o, M_node_o, M_parent_o, M_rule_o, M_child_o, M_copyRow_o) := h
      cases h
      exact hret _ _ _ _ rfl hP hD hS dX12_command_76
    have h := ifT h q68
    refine lv_iconst (v := (1 : Int32)) hx hb dX12_command_71 (by decide) ?_
    refine lv_goto (tgt := 76) hx hb dX12_command_72 (by decide) ?_
    have h : some ((1 : Int32), M_found, M_shortest, M_nodes, M_solved, M_dropped, M_fits, M_trial, M_word, M_size, M_number, M_firstOne, M_node, M_parent, M_rule, M_child, M_copyRow) = some (r, M_found_o, M_shortest_o, M_nodes_o, M_solved_o, M_dropped_o, M_fits_o, M_trial_o, M_word_o, M_size_o, M_number_o, M_firstOne_o, M_node_o, M_parent_o, M_rule_o, M_child_o, M_copyRow_o) := h
    cases h
    exact hret _ _ _ _ rfl hP hD hS dX12_command_76
  have B90 : ∀ (M_found : Int32) (M_shortest : Int32) (M_nodes : Int32) (M_solved : Int32) (M_dropped : Int32) (M_fits : Int32) (M_trial : Nat → Int32) (M_word : Nat → Int32) (M_size : Nat → Int32) (M_number : Nat → Int32) (M_firstOne : Nat → Int32) (M_node : Nat → Int32) (M_parent : Nat → Int32) (M_rule : Nat → Int32) (M_child : Nat → Int32) (M_copyRow : Nat → Int32) (ls : Array Slot) (H : Heap) (locs : List Loc), lv_has ls 5 [(2, .int x2), (3, .int x3)] → va_P g.1 vwCl (wX12 g aM aM_text aM_now aM_trial aM_read aM_diary aM_kept aM_isKept aM_constraint aM_readConstraint aM_word aM_size aM_number aM_firstOne aM_node aM_parent aM_rule aM_child aM_proof aM_witness aM_witnessSize aM_built aM_copyRow M_length M_acts M_next M_many M_readMany M_found M_shortest M_nodes M_solved M_dropped M_fits M_proofSize M_tooLong M_text M_now M_trial M_read M_diary M_kept M_isKept M_constraint M_readConstraint M_word M_size M_number M_firstOne M_node M_parent M_rule M_child M_proof M_witness M_witnessSize M_built M_copyRow) H → va_D A (wX12 g aM aM_text aM_now aM_trial aM_read aM_diary aM_kept aM_isKept aM_constraint aM_readConstraint aM_word aM_size aM_number aM_firstOne aM_node aM_parent aM_rule aM_child aM_proof aM_witness aM_witnessSize aM_built aM_copyRow M_length M_acts M_next M_many M_readMany M_found M_shortest M_nodes M_solved M_dropped M_fits M_proofSize M_tooLong M_text M_now M_trial M_read M_diary M_kept M_isKept M_constraint M_readConstraint M_word M_size M_number M_firstOne M_node M_parent M_rule M_child M_proof M_witness M_witnessSize M_built M_copyRow) → va_S A s.heap H locs → fM_command_90 M_found M_shortest M_nodes M_solved M_dropped M_fits M_trial M_word M_size M_number M_firstOne M_node M_parent M_rule M_child M_copyRow x2 x3 = some (r, M_found_o, M_shortest_o, M_nodes_o, M_solved_o, M_dropped_o, M_fits_o, M_trial_o, M_word_o, M_size_o, M_number_o, M_firstOne_o, M_node_o, M_parent_o, M_rule_o, M_child_o, M_copyRow_o) → W p l e rmX12_command s m ([.ref aM, .int x1, .int x2, .int x3] : List Value).toArray below meth c H locs 0 0 QQ (F0 m 90 ls []) := by
    intro M_found M_shortest M_nodes M_solved M_dropped M_fits M_trial M_word M_size M_number M_firstOne M_node M_parent M_rule M_child M_copyRow ls H locs hl hP hD hS h
    refine lv_iload_n hx hb dX12_command_90 rfl (lv_at hl 0 rfl) ?_
    refine lv_iload_n hx hb dX12_command_91 rfl (lv_at hl 1 rfl) ?_
    refine lv_iadd hx hb dX12_command_92 ?_
    refine lv_if_ne (tgt := 100) hx hb dX12_command_93 (by decide) (fun q93 => ?_) (fun q93 => ?_)
    · have h := ifF h q93
      refine lv_iconst (v := (0 : Int32)) hx hb dX12_command_100 (by decide) ?_
      have h : some ((0 : Int32), M_found, M_shortest, M_nodes, M_solved, M_dropped, M_fits, M_trial, M_word, M_size, M_number, M_firstOne, M_node, M_parent, M_rule, M_child, M_copyRow) = some (r, M_found_o, M_shortest_o, M_nodes_o, M_solved_o, M_dropped_o, M_fits_o, M_trial_o, M_word_o, M_size_o, M_number_o, M_firstOne_o, M_node_o, M_parent_o, M_rule_o, M_child_o, M_copyRow_o) := h
      cases h
      exact hret _ _ _ _ rfl hP hD hS dX12_command_101
    have h := ifT h q93
    refine lv_iconst (v := (1 : Int32)) hx hb dX12_command_96 (by decide) ?_
    refine lv_goto (tgt := 101) hx hb dX12_command_97 (by decide) ?_
    have h : some ((1 : Int32), M_found, M_shortest, M_nodes, M_solved, M_dropped, M_fits, M_trial, M_word, M_size, M_number, M_firstOne, M_node, M_parent, M_rule, M_child, M_copyRow) = some (r, M_found_o, M_shortest_o, M_nodes_o, M_solved_o, M_dropped_o, M_fits_o, M_trial_o, M_word_o, M_size_o, M_number_o, M_firstOne_o, M_node_o, M_parent_o, M_rule_o, M_child_o, M_copyRow_o) := h
    cases h
    exact hret _ _ _ _ rfl hP hD hS dX12_command_101
  have B119 : ∀ (M_found : Int32) (M_shortest : Int32) (M_nodes : Int32) (M_solved : Int32) (M_dropped : Int32) (M_fits : Int32) (M_trial : Nat → Int32) (M_word : Nat → Int32) (M_size : Nat → Int32) (M_number : Nat → Int32) (M_firstOne : Nat → Int32) (M_node : Nat → Int32) (M_parent : Nat → Int32) (M_rule : Nat → Int32) (M_child : Nat → Int32) (M_copyRow : Nat → Int32) (s0 : Int32) (ls : Array Slot) (H : Heap) (locs : List Loc), lv_has ls 5 [(2, .int x2), (3, .int x3)] → va_P g.1 vwCl (wX12 g aM aM_text aM_now aM_trial aM_read aM_diary aM_kept aM_isKept aM_constraint aM_readConstraint aM_word aM_size aM_number aM_firstOne aM_node aM_parent aM_rule aM_child aM_proof aM_witness aM_witnessSize aM_built aM_copyRow M_length M_acts M_next M_many M_readMany M_found M_shortest M_nodes M_solved M_dropped M_fits M_proofSize M_tooLong M_text M_now M_trial M_read M_diary M_kept M_isKept M_constraint M_readConstraint M_word M_size M_number M_firstOne M_node M_parent M_rule M_child M_proof M_witness M_witnessSize M_built M_copyRow) H → va_D A (wX12 g aM aM_text aM_now aM_trial aM_read aM_diary aM_kept aM_isKept aM_constraint aM_readConstraint aM_word aM_size aM_number aM_firstOne aM_node aM_parent aM_rule aM_child aM_proof aM_witness aM_witnessSize aM_built aM_copyRow M_length M_acts M_next M_many M_readMany M_found M_shortest M_nodes M_solved M_dropped M_fits M_proofSize M_tooLong M_text M_now M_trial M_read M_diary M_kept M_isKept M_constraint M_readConstraint M_word M_size M_number M_firstOne M_node M_parent M_rule M_child M_proof M_witness M_witnessSize M_built M_copyRow) → va_S A s.heap H locs → fM_command_119 M_found M_shortest M_nodes M_solved M_dropped M_fits M_trial M_word M_size M_number M_firstOne M_node M_parent M_rule M_child M_copyRow x2 x3 s0 = some (r, M_found_o, M_shortest_o, M_nodes_o, M_solved_o, M_dropped_o, M_fits_o, M_trial_o, M_word_o, M_size_o, M_number_o, M_firstOne_o, M_node_o, M_parent_o, M_rule_o, M_child_o, M_copyRow_o) → W p l e rmX12_command s m ([.ref aM, .int x1, .int x2, .int x3] : List Value).toArray below meth c H locs 0 0 QQ (F0 m 119 ls [.int s0]) := by
    intro M_found M_shortest M_nodes M_solved M_dropped M_fits M_trial M_word M_size M_number M_firstOne M_node M_parent M_rule M_child M_copyRow s0 ls H locs hl hP hD hS h
    refine lv_istore (lv' := [(4, .int s0), (2, .int x2), (3, .int x3)]) hx hb dX12_command_119 hl (by decide) rfl (fun ls hl => ?_)
    refine lv_iload_n hx hb dX12_command_121 rfl (lv_at hl 1 rfl) ?_
    refine lv_iload_n hx hb dX12_command_122 rfl (lv_at hl 2 rfl) ?_
    refine lv_iadd hx hb dX12_command_123 ?_
    refine lv_if_ne (tgt := 131) hx hb dX12_command_124 (by decide) (fun q124 => ?_) (fun q124 => ?_)
    · have h := ifF h q124
      refine lv_iconst (v := (0 : Int32)) hx hb dX12_command_131 (by decide) ?_
      have h : some ((0 : Int32), M_found, M_shortest, M_nodes, M_solved, M_dropped, M_fits, M_trial, M_word, M_size, M_number, M_firstOne, M_node, M_parent, M_rule, M_child, M_copyRow) = some (r, M_found_o, M_shortest_o, M_nodes_o, M_solved_o, M_dropped_o, M_fits_o, M_trial_o, M_word_o, M_size_o, M_number_o, M_firstOne_o, M_node_o, M_parent_o, M_rule_o, M_child_o, M_copyRow_o) := h
      cases h
      exact hret _ _ _ _ rfl hP hD hS dX12_command_132
    have h := ifT h q124
    refine lv_iconst (v := (1 : Int32)) hx hb dX12_command_127 (by decide) ?_
    refine lv_goto (tgt := 132) hx hb dX12_command_128 (by decide) ?_
    have h : some ((1 : Int32), M_found, M_shortest, M_nodes, M_solved, M_dropped, M_fits, M_trial, M_word, M_size, M_number, M_firstOne, M_node, M_parent, M_rule, M_child, M_copyRow) = some (r, M_found_o, M_shortest_o, M_nodes_o, M_solved_o, M_dropped_o, M_fits_o, M_trial_o, M_word_o, M_size_o, M_number_o, M_firstOne_o, M_node_o, M_parent_o, M_rule_o, M_child_o, M_copyRow_o) := h
    cases h
    exact hret _ _ _ _ rfl hP hD hS dX12_command_132
  have hl : lv_has ls 5 [(0, .ref aM), (1, .int x1), (2, .int x2), (3, .int x3)] := hl
  obtain ⟨H, hH⟩ : ∃ H, H = s.heap := ⟨_, rfl⟩
  obtain ⟨locs, hlocs⟩ : ∃ l : List Loc, l = [] := ⟨_, rfl⟩
  rw [show W p l e rmX12_command s m ([.ref aM, .int x1, .int x2, .int x3] : List Value).toArray below meth c s.heap [] 0 0 QQ (F0 m 0 ls []) = W p l e rmX12_command s m ([.ref aM, .int x1, .int x2, .int x3] : List Value).toArray below meth c H locs 0 0 QQ (F0 m 0 ls []) by rw [hH, hlocs]]
  have hP : va_P g.1 vwCl (wX12 g aM aM_text aM_now aM_trial aM_read aM_diary aM_kept aM_isKept aM_constraint aM_readConstraint aM_word aM_size aM_number aM_firstOne aM_node aM_parent aM_rule aM_child aM_proof aM_witness aM_witnessSize aM_built aM_copyRow M_length M_acts M_next M_many M_readMany M_found M_shortest M_nodes M_solved M_dropped M_fits M_proofSize M_tooLong M_text M_now M_trial M_read M_diary M_kept M_isKept M_constraint M_readConstraint M_word M_size M_number M_firstOne M_node M_parent M_rule M_child M_proof M_witness M_witnessSize M_built M_copyRow) H := by rw [hH]; exact hP
  have hD : va_D A (wX12 g aM aM_text aM_now aM_trial aM_read aM_diary aM_kept aM_isKept aM_constraint aM_readConstraint aM_word aM_size aM_number aM_firstOne aM_node aM_parent aM_rule aM_child aM_proof aM_witness aM_witnessSize aM_built aM_copyRow M_length M_acts M_next M_many M_readMany M_found M_shortest M_nodes M_solved M_dropped M_fits M_proofSize M_tooLong M_text M_now M_trial M_read M_diary M_kept M_isKept M_constraint M_readConstraint M_word M_size M_number M_firstOne M_node M_parent M_rule M_child M_proof M_witness M_witnessSize M_built M_copyRow) := hD
  have hS : va_S A s.heap H locs := by rw [hH, hlocs]; exact hS
  clear hH hlocs
  refine lv_iconst (v := (0 : Int32)) hx hb dX12_command_0 (by decide) ?_
  refine lv_istore (lv' := [(4, .int (0 : Int32)), (0, .ref aM), (1, .int x1), (2, .int x2), (3, .int x3)]) hx hb dX12_command_1 hl (by decide) rfl (fun ls hl => ?_)
  refine lv_iload_n hx hb dX12_command_3 rfl (lv_at hl 2 rfl) ?_
  by_cases q4_1 : x1 = (1 : Int32)
  · have h := ifT h q4_1
    refine lv_tableIn (off := 48) (tgt := 52) hx hb dX12_command_4 (by rw [q4_1]; decide) (by rw [q4_1]; decide) (by rw [q4_1]; rfl) (by decide) ?_
    refine lv_iload_n hx hb dX12_command_52 rfl (lv_at hl 3 rfl) ?_
    refine lv_iload_n hx hb dX12_command_53 rfl (lv_at hl 4 rfl) ?_
    refine lv_iadd hx hb dX12_command_54 ?_
    refine lv_if_ne (tgt := 65) hx hb dX12_command_55 (by decide) (fun q55 => ?_) (fun q55 => ?_)
    · have h := ifF h q55
      exact B65 M_found M_shortest M_nodes M_solved M_dropped M_fits M_trial M_word M_size M_number M_firstOne M_node M_parent M_rule M_child M_copyRow ls H locs (lv_sub hl [3, 4] rfl) hP hD hS h
    have h := ifT h q55
    refine lv_aload_n hx hb dX12_command_58 rfl (lv_at hl 1 rfl) ?_
    refine va_get (D := g.1) (ci := 11) (v := .ref aM_copyRow) (C := RX12) (T := TX12) (N := 35) hx hb hts inBX12 hown hK hP 0 rfl rfl 34 (by decide) (hts _ wd4_230) (fun _ h9 => h9) rfl dX12_command_59 ?_
    obtain ⟨M_copyRow_62, hc62, h⟩ := bd1_to h
    refine go_P (st1 := []) (W1 := (wX12 g aM aM_text aM_now aM_trial aM_read aM_diary aM_kept aM_isKept aM_constraint aM_readConstraint aM_word aM_size aM_number aM_firstOne aM_node aM_parent aM_rule aM_child aM_proof aM_witness aM_witnessSize aM_built aM_copyRow M_length M_acts M_next M_many M_readMany M_found M_shortest M_nodes M_solved M_dropped M_fits M_proofSize M_tooLong M_text M_now M_trial M_read M_diary M_kept M_isKept M_constraint M_readConstraint M_word M_size M_number M_firstOne M_node M_parent M_rule M_child M_proof M_witness M_witnessSize M_built M_copyRow_62)) (run_S (As := [.ref aM_copyRow]) (rest := []) X hS (mX12_swapIn g l  aM_copyRow M_copyRow M_copyRow_62 hc62) okX12_swapIn wd5_135 ⟨Nat.le_of_ble_eq_true rfl, Nat.le_of_ble_eq_true rfl⟩ ⟨rfl, rfl⟩ (sub_P hP [22] rfl) (hD.sub [22] (by decide) rfl) (va_free hD hS hA [22] rfl) rfl hl.1 rfl (Nat.le_of_ble_eq_true rfl) dX12_command_62 ⟨Nat.zero_le _, Nat.zero_le _⟩) hS (va_free hD hS hA [22] rfl) hP hD [22] [0, 1, 2, 3, 4, 5, 6, 7, 8, 9, 10, 11, 12, 13, 14, 15, 16, 17, 18, 19, 20, 21] [0, 1, 2, 3, 4, 5, 6, 7, 8, 9, 10, 11, 12, 13, 14, 15, 16, 17, 18, 19, 20, 21, 22] rfl rfl (by decide) (by decide) rfl (by decide) rfl (fun H locs hP hD hS => ?_)
    exact B65 M_found M_shortest M_nodes M_solved M_dropped M_fits M_trial M_word M_size M_number M_firstOne M_node M_parent M_rule M_child M_copyRow_62 ls H locs (lv_sub hl [3, 4] rfl) hP hD hS h
  have h := ifF h q4_1
  by_cases q4_2 : x1 = (2 : Int32)
  · have h := ifT h q4_2
    refine lv_tableIn (off := 73) (tgt := 77) hx hb dX12_command_4 (by rw [q4_2]; decide) (by rw [q4_2]; decide) (by rw [q4_2]; rfl) (by decide) ?_
    refine lv_iload_n hx hb dX12_command_77 rfl (lv_at hl 3 rfl) ?_
    refine lv_iload_n hx hb dX12_command_78 rfl (lv_at hl 4 rfl) ?_
    refine lv_iadd hx hb dX12_command_79 ?_
    refine lv_if_ne (tgt := 90) hx hb dX12_command_80 (by decide) (fun q80 => ?_) (fun q80 => ?_)
    · have h := ifF h q80
      exact B90 M_found M_shortest M_nodes M_solved M_dropped M_fits M_trial M_word M_size M_number M_firstOne M_node M_parent M_rule M_child M_copyRow ls H locs (lv_sub hl [3, 4] rfl) hP hD hS h
    have h := ifT h q80
    refine lv_aload_n hx hb dX12_command_83 rfl (lv_at hl 1 rfl) ?_
    refine va_get (D := g.1) (ci := 11) (v := .ref aM_copyRow) (C := RX12) (T := TX12) (N := 35) hx hb hts inBX12 hown hK hP 0 rfl rfl 34 (by decide) (hts _ wd4_230) (fun _ h9 => h9) rfl dX12_command_84 ?_
    obtain ⟨M_copyRow_87, hc87, h⟩ := bd1_to h
    refine go_P (st1 := []) (W1 := (wX12 g aM aM_text aM_now aM_trial aM_read aM_diary aM_kept aM_isKept aM_constraint aM_readConstraint aM_word aM_size aM_number aM_firstOne aM_node aM_parent aM_rule aM_child aM_proof aM_witness aM_witnessSize aM_built aM_copyRow M_length M_acts M_next M_many M_readMany M_found M_shortest M_nodes M_solved M_dropped M_fits M_proofSize M_tooLong M_text M_now M_trial M_read M_diary M_kept M_isKept M_constraint M_readConstraint M_word M_size M_number M_firstOne M_node M_parent M_rule M_child M_proof M_witness M_witnessSize M_built M_copyRow_87)) (run_S (As := [.ref aM_copyRow]) (rest := []) X hS (mX12_reverseIn g l  aM_copyRow M_copyRow M_copyRow_87 hc87) okX12_reverseIn wd5_142 ⟨Nat.le_of_ble_eq_true rfl, Nat.le_of_ble_eq_true rfl⟩ ⟨rfl, rfl⟩ (sub_P hP [22] rfl) (hD.sub [22] (by decide) rfl) (va_free hD hS hA [22] rfl) rfl hl.1 rfl (Nat.le_of_ble_eq_true rfl) dX12_command_87 ⟨Nat.zero_le _, Nat.zero_le _⟩) hS (va_free hD hS hA [22] rfl) hP hD [22] [0, 1, 2, 3, 4, 5, 6, 7, 8, 9, 10, 11, 12, 13, 14, 15, 16, 17, 18, 19, 20, 21] [0, 1, 2, 3, 4, 5, 6, 7, 8, 9, 10, 11, 12, 13, 14, 15, 16, 17, 18, 19, 20, 21, 22] rfl rfl (by decide) (by decide) rfl (by decide) rfl (fun H locs hP hD hS => ?_)
    exact B90 M_found M_shortest M_nodes M_solved M_dropped M_fits M_trial M_word M_size M_number M_firstOne M_node M_parent M_rule M_child M_copyRow_87 ls H locs (lv_sub hl [3, 4] rfl) hP hD hS h
  have h := ifF h q4_2
  by_cases q4_3 : x1 = (3 : Int32)
  · have h := ifT h q4_3
    refine lv_tableIn (off := 98) (tgt := 102) hx hb dX12_command_4 (by rw [q4_3]; decide) (by rw [q4_3]; decide) (by rw [q4_3]; rfl) (by decide) ?_
    refine lv_iload_n hx hb dX12_command_102 rfl (lv_at hl 3 rfl) ?_
    refine lv_iload_n hx hb dX12_command_103 rfl (lv_at hl 4 rfl) ?_
    refine lv_iadd hx hb dX12_command_104 ?_
    refine lv_if_ne (tgt := 118) hx hb dX12_command_105 (by decide) (fun q105 => ?_) (fun q105 => ?_)
    · have h := ifF h q105
      refine lv_iconst (v := (0 : Int32)) hx hb dX12_command_118 (by decide) ?_
      exact B119 M_found M_shortest M_nodes M_solved M_dropped M_fits M_trial M_word M_size M_number M_firstOne M_node M_parent M_rule M_child M_copyRow (0 : Int32) ls H locs (lv_sub hl [3, 4] rfl) hP hD hS h
    have h := ifT h q105
    refine lv_aload_n hx hb dX12_command_108 rfl (lv_at hl 1 rfl) ?_
    refine va_get (D := g.1) (ci := 11) (v := .ref aM_copyRow) (C := RX12) (T := TX12) (N := 35) hx hb hts inBX12 hown hK hP 0 rfl rfl 34 (by decide) (hts _ wd4_230) (fun _ h9 => h9) rfl dX12_command_109 ?_
    obtain ⟨t112, M_copyRow_112, hc112, h⟩ := bd2_to h
    refine go_P (st1 := [.int t112]) (W1 := (wX12 g aM aM_text aM_now aM_trial aM_read aM_diary aM_kept aM_isKept aM_constraint aM_readConstraint aM_word aM_size aM_number aM_firstOne aM_node aM_parent aM_rule aM_child aM_proof aM_witness aM_witnessSize aM_built aM_copyRow M_length M_acts M_next M_many M_readMany M_found M_shortest M_nodes M_solved M_dropped M_fits M_proofSize M_tooLong M_text M_now M_trial M_read M_diary M_kept M_isKept M_constraint M_readConstraint M_word M_size M_number M_firstOne M_node M_parent M_rule M_child M_proof M_witness M_witnessSize M_built M_copyRow_112)) (run_S (As := [.ref aM_copyRow]) (rest := []) X hS (mX12_cancelIn g l  aM_copyRow M_copyRow t112 M_copyRow_112 hc112) okX12_cancelIn wd5_149 ⟨Nat.le_of_ble_eq_true rfl, Nat.le_of_ble_eq_true rfl⟩ ⟨rfl, rfl⟩ (sub_P hP [22] rfl) (hD.sub [22] (by decide) rfl) (va_free hD hS hA [22] rfl) rfl hl.1 rfl (Nat.le_of_ble_eq_true rfl) dX12_command_112 ⟨Nat.zero_le _, Nat.zero_le _⟩) hS (va_free hD hS hA [22] rfl) hP hD [22] [0, 1, 2, 3, 4, 5, 6, 7, 8, 9, 10, 11, 12, 13, 14, 15, 16, 17, 18, 19, 20, 21] [0, 1, 2, 3, 4, 5, 6, 7, 8, 9, 10, 11, 12, 13, 14, 15, 16, 17, 18, 19, 20, 21, 22] rfl rfl (by decide) (by decide) rfl (by decide) rfl (fun H locs hP hD hS => ?_)
    refine lv_goto (tgt := 119) hx hb dX12_command_115 (by decide) ?_
    exact B119 M_found M_shortest M_nodes M_solved M_dropped M_fits M_trial M_word M_size M_number M_firstOne M_node M_parent M_rule M_child M_copyRow_112 t112 ls H locs (lv_sub hl [3, 4] rfl) hP hD hS h
  have h := ifF h q4_3
  by_cases q4_4 : x1 = (4 : Int32)
  · have h := ifT h q4_4
    refine lv_tableIn (off := 129) (tgt := 133) hx hb dX12_command_4 (by rw [q4_4]; decide) (by rw [q4_4]; decide) (by rw [q4_4]; rfl) (by decide) ?_
    refine lv_iload_n hx hb dX12_command_133 rfl (lv_at hl 3 rfl) ?_
    obtain ⟨t134, hc134, h⟩ := bd1_to h
    refine go_0 (st1 := [.int t134]) (run_S (As := [.int x2]) (rest := []) X hS (mX12_isVariable g l  x2 t134 hc134) okX12_isVariable wd5_120 ⟨Nat.le_of_ble_eq_true rfl, Nat.le_of_ble_eq_true rfl⟩ ⟨rfl, rfl⟩ nil_P nil_D (nil_F hS hA) rfl hl.1 rfl (Nat.le_of_ble_eq_true rfl) dX12_command_134 ⟨Nat.zero_le _, Nat.zero_le _⟩) hS hA hP rfl (fun H locs hP hS => ?_)
    refine lv_if_eq (tgt := 144) hx hb dX12_command_137 (by decide) (fun q137 => ?_) (fun q137 => ?_)
    · have h := ifT h q137
      refine lv_iconst (v := (0 : Int32)) hx hb dX12_command_144 (by decide) ?_
      have h : some ((0 : Int32), M_found, M_shortest, M_nodes, M_solved, M_dropped, M_fits, M_trial, M_word, M_size, M_number, M_firstOne, M_node, M_parent, M_rule, M_child, M_copyRow) = some (r, M_found_o, M_shortest_o, M_nodes_o, M_solved_o, M_dropped_o, M_fits_o, M_trial_o, M_word_o, M_size_o, M_number_o, M_firstOne_o, M_node_o, M_parent_o, M_rule_o, M_child_o, M_copyRow_o) := h
      cases h
      exact hret _ _ _ _ rfl hP hD hS dX12_command_145
    have h := ifF h q137
    refine lv_iload_n hx hb dX12_command_140 rfl (lv_at hl 4 rfl) ?_
    refine lv_if_eq (tgt := 146) hx hb dX12_command_141 (by decide) (fun q141 => ?_) (fun q141 => ?_)
    · have h := ifT h q141
      refine lv_aload_n hx hb dX12_command_146 rfl (lv_at hl 1 rfl) ?_
      refine va_get (D := g.1) (ci := 11) (v := .ref aM_copyRow) (C := RX12) (T := TX12) (N := 35) hx hb hts inBX12 hown hK hP 0 rfl rfl 34 (by decide) (hts _ wd4_230) (fun _ h9 => h9) rfl dX12_command_147 ?_
      refine lv_iload_n hx hb dX12_command_150 rfl (lv_at hl 3 rfl) ?_
      obtain ⟨t151, M_copyRow_151, hc151, h⟩ := bd2_to h
      refine go_P (st1 := [.int t151]) (W1 := (wX12 g aM aM_text aM_now aM_trial aM_read aM_diary aM_kept aM_isKept aM_constraint aM_readConstraint aM_word aM_size aM_number aM_firstOne aM_node aM_parent aM_rule aM_child aM_proof aM_witness aM_witnessSize aM_built aM_copyRow M_length M_acts M_next M_many M_readMany M_found M_shortest M_nodes M_solved M_dropped M_fits M_proofSize M_tooLong M_text M_now M_trial M_read M_diary M_kept M_isKept M_constraint M_readConstraint M_word M_size M_number M_firstOne M_node M_parent M_rule M_child M_proof M_witness M_witnessSize M_built M_copyRow_151)) (run_S (As := [.ref aM_copyRow, .int x2]) (rest := []) X hS (mX12_eliminateIn g l  aM_copyRow M_copyRow x2 t151 M_copyRow_151 hc151) okX12_eliminateIn wd5_163 ⟨Nat.le_of_ble_eq_true rfl, Nat.le_of_ble_eq_true rfl⟩ ⟨rfl, rfl⟩ (sub_P hP [22] rfl) (hD.sub [22] (by decide) rfl) (va_free hD hS hA [22] rfl) rfl hl.1 rfl (Nat.le_of_ble_eq_true rfl) dX12_command_151 ⟨Nat.zero_le _, Nat.zero_le _⟩) hS (va_free hD hS hA [22] rfl) hP hD [22] [0, 1, 2, 3, 4, 5, 6, 7, 8, 9, 10, 11, 12, 13, 14, 15, 16, 17, 18, 19, 20, 21] [0, 1, 2, 3, 4, 5, 6, 7, 8, 9, 10, 11, 12, 13, 14, 15, 16, 17, 18, 19, 20, 21, 22] rfl rfl (by decide) (by decide) rfl (by decide) rfl (fun H locs hP hD hS => ?_)
      refine lv_istore (lv' := [(4, .int t151), (0, .ref aM), (1, .int x1), (2, .int x2), (3, .int x3)]) hx hb dX12_command_154 hl (by decide) rfl (fun ls hl => ?_)
      refine lv_iconst (v := (1 : Int32)) hx hb dX12_command_156 (by decide) ?_
      have h : some ((1 : Int32), M_found, M_shortest, M_nodes, M_solved, M_dropped, M_fits, M_trial, M_word, M_size, M_number, M_firstOne, M_node, M_parent, M_rule, M_child, M_copyRow_151) = some (r, M_found_o, M_shortest_o, M_nodes_o, M_solved_o, M_dropped_o, M_fits_o, M_trial_o, M_word_o, M_size_o, M_number_o, M_firstOne_o, M_node_o, M_parent_o, M_rule_o, M_child_o, M_copyRow_o) := h
      cases h
      exact hret _ _ _ _ rfl hP hD hS dX12_command_157
    have h := ifF h q141
    refine lv_iconst (v := (0 : Int32)) hx hb dX12_command_144 (by decide) ?_
    have h : some ((0 : Int32), M_found, M_shortest, M_nodes, M_solved, M_dropped, M_fits, M_trial, M_word, M_size, M_number, M_firstOne, M_node, M_parent, M_rule, M_child, M_copyRow) = some (r, M_found_o, M_shortest_o, M_nodes_o, M_solved_o, M_dropped_o, M_fits_o, M_trial_o, M_word_o, M_size_o, M_number_o, M_firstOne_o, M_node_o, M_parent_o, M_rule_o, M_child_o, M_copyRow_o) := h
    cases h
    exact hret _ _ _ _ rfl hP hD hS dX12_command_145
  have h := ifF h q4_4
  by_cases q4_5 : x1 = (5 : Int32)
  · have h := ifT h q4_5
    refine lv_tableIn (off := 154) (tgt := 158) hx hb dX12_command_4 (by rw [q4_5]; decide) (by rw [q4_5]; decide) (by rw [q4_5]; rfl) (by decide) ?_
    refine lv_iload_n hx hb dX12_command_158 rfl (lv_at hl 3 rfl) ?_
    refine lv_i2l (v := (Int32.toInt64 x2)) hx hb dX12_command_159 rfl ?_
    refine lv_lconst (v := (0 : Int64)) hx hb dX12_command_160 (by decide) ?_
    refine lv_lconst (v := (1 : Int64)) hx hb dX12_command_161 (by decide) ?_
    obtain ⟨t162, hc162, h⟩ := bd1_to h
    refine go_0 (st1 := [.int t162]) (run_S (As := [.long (Int32.toInt64 x2), .long (0 : Int64), .long (1 : Int64)]) (rest := []) X hS (mX12_in g l  (Int32.toInt64 x2) (0 : Int64) (1 : Int64) t162 hc162) okX12_in wd5_67 ⟨Nat.le_of_ble_eq_true rfl, Nat.le_of_ble_eq_true rfl⟩ ⟨rfl, rfl⟩ nil_P nil_D (nil_F hS hA) rfl hl.1 rfl (Nat.le_of_ble_eq_true rfl) dX12_command_162 ⟨Nat.zero_le _, Nat.zero_le _⟩) hS hA hP rfl (fun H locs hP hS => ?_)
    refine lv_if_eq (tgt := 182) hx hb dX12_command_165 (by decide) (fun q165 => ?_) (fun q165 => ?_)
    · have h := ifT h q165
      refine lv_iconst (v := (0 : Int32)) hx hb dX12_command_182 (by decide) ?_
      have h : some ((0 : Int32), M_found, M_shortest, M_nodes, M_solved, M_dropped, M_fits, M_trial, M_word, M_size, M_number, M_firstOne, M_node, M_parent, M_rule, M_child, M_copyRow) = some (r, M_found_o, M_shortest_o, M_nodes_o, M_solved_o, M_dropped_o, M_fits_o, M_trial_o, M_word_o, M_size_o, M_number_o, M_firstOne_o, M_node_o, M_parent_o, M_rule_o, M_child_o, M_copyRow_o) := h
      cases h
      exact hret _ _ _ _ rfl hP hD hS dX12_command_183
    have h := ifF h q165
    refine lv_aload_n hx hb dX12_command_168 rfl (lv_at hl 1 rfl) ?_
    refine va_get (D := g.1) (ci := 11) (v := .ref aM_copyRow) (C := RX12) (T := TX12) (N := 35) hx hb hts inBX12 hown hK hP 0 rfl rfl 34 (by decide) (hts _ wd4_230) (fun _ h9 => h9) rfl dX12_command_169 ?_
    refine lv_iload_n hx hb dX12_command_172 rfl (lv_at hl 3 rfl) ?_
    have hin := ld_in h
    refine va_iald hx hb hK hP 22 0 rfl rfl hin dX12_command_173 ?_
    refine lv_topi (fun t173 et173 => ?_)
    have h := ld_to h et173
    refine lv_iload_n hx hb dX12_command_174 rfl (lv_at hl 4 rfl) ?_
    refine lv_icmp_ne (tgt := 182) hx hb dX12_command_175 (by decide) (fun q175 => ?_) (fun q175 => ?_)
    · have h := ifF h q175
      refine lv_iconst (v := (0 : Int32)) hx hb dX12_command_182 (by decide) ?_
      have h : some ((0 : Int32), M_found, M_shortest, M_nodes, M_solved, M_dropped, M_fits, M_trial, M_word, M_size, M_number, M_firstOne, M_node, M_parent, M_rule, M_child, M_copyRow) = some (r, M_found_o, M_shortest_o, M_nodes_o, M_solved_o, M_dropped_o, M_fits_o, M_trial_o, M_word_o, M_size_o, M_number_o, M_firstOne_o, M_node_o, M_parent_o, M_rule_o, M_child_o, M_copyRow_o) := h
      cases h
      exact hret _ _ _ _ rfl hP hD hS dX12_command_183
    have h := ifT h q175
    refine lv_iconst (v := (1 : Int32)) hx hb dX12_command_178 (by decide) ?_
    refine lv_goto (tgt := 183) hx hb dX12_command_179 (by decide) ?_
    have h : some ((1 : Int32), M_found, M_shortest, M_nodes, M_solved, M_dropped, M_fits, M_trial, M_word, M_size, M_number, M_firstOne, M_node, M_parent, M_rule, M_child, M_copyRow) = some (r, M_found_o, M_shortest_o, M_nodes_o, M_solved_o, M_dropped_o, M_fits_o, M_trial_o, M_word_o, M_size_o, M_number_o, M_firstOne_o, M_node_o, M_parent_o, M_rule_o, M_child_o, M_copyRow_o) := h
    cases h
    exact hret _ _ _ _ rfl hP hD hS dX12_command_183
  have h := ifF h q4_5
  by_cases q4_6 : x1 = (6 : Int32)
  · have h := ifT h q4_6
    refine lv_tableIn (off := 180) (tgt := 184) hx hb dX12_command_4 (by rw [q4_6]; decide) (by rw [q4_6]; decide) (by rw [q4_6]; rfl) (by decide) ?_
    refine lv_aload_n hx hb dX12_command_184 rfl (lv_at hl 1 rfl) ?_
    refine lv_aload_n hx hb dX12_command_185 rfl (lv_at hl 1 rfl) ?_
    refine va_get (D := g.1) (ci := 11) (v := .ref aM_copyRow) (C := RX12) (T := TX12) (N := 35) hx hb hts inBX12 hown hK hP 0 rfl rfl 34 (by decide) (hts _ wd4_230) (fun _ h9 => h9) rfl dX12_command_186 ?_
    refine lv_iconst (v := (2 : Int32)) hx hb dX12_command_189 (by decide) ?_
    obtain ⟨M_found_190, M_shortest_190, M_word_190, M_size_190, M_number_190, M_firstOne_190, hc190, h⟩ := bd6_to h
    refine go_A (st1 := []) (run_V (As := [.ref aM_copyRow, .int (2 : Int32)]) (rest := []) X hS (mX12_lookThrough_copyRow g l  aM aM_text aM_now aM_trial aM_read aM_diary aM_kept aM_isKept aM_constraint aM_readConstraint aM_word aM_size aM_number aM_firstOne aM_node aM_parent aM_rule aM_child aM_proof aM_witness aM_witnessSize aM_built aM_copyRow M_length M_acts M_next M_many M_readMany M_found M_shortest M_nodes M_solved M_dropped M_fits M_proofSize M_tooLong M_text M_now M_trial M_read M_diary M_kept M_isKept M_constraint M_readConstraint M_word M_size M_number M_firstOne M_node M_parent M_rule M_child M_proof M_witness M_witnessSize M_built M_copyRow (2 : Int32) M_found_190 M_shortest_190 M_word_190 M_size_190 M_number_190 M_firstOne_190 hc190) okX12_lookThrough wd5_193 ⟨Nat.le_of_ble_eq_true rfl, Nat.le_of_ble_eq_true rfl⟩ ⟨rfl, rfl⟩ (va_recv hK hP (ci := 11) (q0 := 0) rfl rfl) hP hD (all_F hS hA hD) rfl hl.1 rfl (Nat.le_of_ble_eq_true rfl) dX12_command_190 ⟨Nat.zero_le _, Nat.zero_le _⟩) hS (all_F hS hA hD) rfl (fun H locs hP hD hS => ?_)
    refine lv_aload_n hx hb dX12_command_193 rfl (lv_at hl 1 rfl) ?_
    refine va_get (D := g.1) (ci := 11) (v := .int M_found_190) (C := RX12) (T := TX12) (N := 35) hx hb hts inBX12 hown hK hP 0 rfl rfl 18 (by decide) (hts _ wd4_214) (fun _ h9 => h9) rfl dX12_command_194 ?_
    refine lv_bipush (v := (10 : Int32)) hx hb dX12_command_197 (by decide) ?_
    refine lv_iload_n hx hb dX12_command_199 rfl (lv_at hl 3 rfl) ?_
    refine lv_imul hx hb dX12_command_200 ?_
    refine lv_iload_n hx hb dX12_command_201 rfl (lv_at hl 4 rfl) ?_
    refine lv_iadd hx hb dX12_command_202 ?_
    refine lv_icmp_ne (tgt := 210) hx hb dX12_command_203 (by decide) (fun q203 => ?_) (fun q203 => ?_)
    · have h := ifF h q203
      refine lv_iconst (v := (0 : Int32)) hx hb dX12_command_210 (by decide) ?_
      have h : some ((0 : Int32), M_found_190, M_shortest_190, M_nodes, M_solved, M_dropped, M_fits, M_trial, M_word_190, M_size_190, M_number_190, M_firstOne_190, M_node, M_parent, M_rule, M_child, M_copyRow) = some (r, M_found_o, M_shortest_o, M_nodes_o, M_solved_o, M_dropped_o, M_fits_o, M_trial_o, M_word_o, M_size_o, M_number_o, M_firstOne_o, M_node_o, M_parent_o, M_rule_o, M_child_o, M_copyRow_o) := h
      cases h
      exact hret _ _ _ _ rfl hP hD hS dX12_command_211
    have h := ifT h q203
    refine lv_iconst (v := (1 : Int32)) hx hb dX12_command_206 (by decide) ?_
    refine lv_goto (tgt := 211) hx hb dX12_command_207 (by decide) ?_
    have h : some ((1 : Int32), M_found_190, M_shortest_190, M_nodes, M_solved, M_dropped, M_fits, M_trial, M_word_190, M_size_190, M_number_190, M_firstOne_190, M_node, M_parent, M_rule, M_child, M_copyRow) = some (r, M_found_o, M_shortest_o, M_nodes_o, M_solved_o, M_dropped_o, M_fits_o, M_trial_o, M_word_o, M_size_o, M_number_o, M_firstOne_o, M_node_o, M_parent_o, M_rule_o, M_child_o, M_copyRow_o) := h
    cases h
    exact hret _ _ _ _ rfl hP hD hS dX12_command_211
  have h := ifF h q4_6
  by_cases q4_7 : x1 = (7 : Int32)
  · have h := ifT h q4_7
    refine lv_tableIn (off := 208) (tgt := 212) hx hb dX12_command_4 (by rw [q4_7]; decide) (by rw [q4_7]; decide) (by rw [q4_7]; rfl) (by decide) ?_
    refine lv_iload_n hx hb dX12_command_212 rfl (lv_at hl 3 rfl) ?_
    refine lv_if_ne (tgt := 237) hx hb dX12_command_213 (by decide) (fun q213 => ?_) (fun q213 => ?_)
    · have h := ifF h q213
      refine lv_iconst (v := (0 : Int32)) hx hb dX12_command_237 (by decide) ?_
      have h : some ((0 : Int32), M_found, M_shortest, M_nodes, M_solved, M_dropped, M_fits, M_trial, M_word, M_size, M_number, M_firstOne, M_node, M_parent, M_rule, M_child, M_copyRow) = some (r, M_found_o, M_shortest_o, M_nodes_o, M_solved_o, M_dropped_o, M_fits_o, M_trial_o, M_word_o, M_size_o, M_number_o, M_firstOne_o, M_node_o, M_parent_o, M_rule_o, M_child_o, M_copyRow_o) := h
      cases h
      exact hret _ _ _ _ rfl hP hD hS dX12_command_238
    have h := ifT h q213
    refine lv_iload_n hx hb dX12_command_216 rfl (lv_at hl 4 rfl) ?_
    refine lv_iconst (v := (3 : Int32)) hx hb dX12_command_217 (by decide) ?_
    refine lv_icmp_ge (tgt := 237) hx hb dX12_command_218 (by decide) (fun q218 => ?_) (fun q218 => ?_)
    · have h := ifT h q218
      refine lv_iconst (v := (0 : Int32)) hx hb dX12_command_237 (by decide) ?_
      have h : some ((0 : Int32), M_found, M_shortest, M_nodes, M_solved, M_dropped, M_fits, M_trial, M_word, M_size, M_number, M_firstOne, M_node, M_parent, M_rule, M_child, M_copyRow) = some (r, M_found_o, M_shortest_o, M_nodes_o, M_solved_o, M_dropped_o, M_fits_o, M_trial_o, M_word_o, M_size_o, M_number_o, M_firstOne_o, M_node_o, M_parent_o, M_rule_o, M_child_o, M_copyRow_o) := h
      cases h
      exact hret _ _ _ _ rfl hP hD hS dX12_command_238
    have h := ifF h q218
    refine lv_aload_n hx hb dX12_command_221 rfl (lv_at hl 1 rfl) ?_
    refine lv_aload_n hx hb dX12_command_222 rfl (lv_at hl 1 rfl) ?_
    refine va_get (D := g.1) (ci := 11) (v := .ref aM_copyRow) (C := RX12) (T := TX12) (N := 35) hx hb hts inBX12 hown hK hP 0 rfl rfl 34 (by decide) (hts _ wd4_230) (fun _ h9 => h9) rfl dX12_command_223 ?_
    obtain ⟨t226, M_nodes_226, M_solved_226, M_dropped_226, M_fits_226, M_trial_226, M_node_226, M_parent_226, M_rule_226, M_child_226, hc226, h⟩ := bd10_to h
    refine go_A (st1 := [.int t226]) (run_V (As := [.ref aM_copyRow]) (rest := []) X hS (mX12_search_copyRow g l  aM aM_text aM_now aM_trial aM_read aM_diary aM_kept aM_isKept aM_constraint aM_readConstraint aM_word aM_size aM_number aM_firstOne aM_node aM_parent aM_rule aM_child aM_proof aM_witness aM_witnessSize aM_built aM_copyRow M_length M_acts M_next M_many M_readMany M_found M_shortest M_nodes M_solved M_dropped M_fits M_proofSize M_tooLong M_text M_now M_trial M_read M_diary M_kept M_isKept M_constraint M_readConstraint M_word M_size M_number M_firstOne M_node M_parent M_rule M_child M_proof M_witness M_witnessSize M_built M_copyRow t226 M_nodes_226 M_solved_226 M_dropped_226 M_fits_226 M_trial_226 M_node_226 M_parent_226 M_rule_226 M_child_226 hc226) okX12_search wd5_225 ⟨Nat.le_of_ble_eq_true rfl, Nat.le_of_ble_eq_true rfl⟩ ⟨rfl, rfl⟩ (va_recv hK hP (ci := 11) (q0 := 0) rfl rfl) hP hD (all_F hS hA hD) rfl hl.1 rfl (Nat.le_of_ble_eq_true rfl) dX12_command_226 ⟨Nat.zero_le _, Nat.zero_le _⟩) hS (all_F hS hA hD) rfl (fun H locs hP hD hS => ?_)
    refine lv_iload_n hx hb dX12_command_229 rfl (lv_at hl 4 rfl) ?_
    refine lv_icmp_ne (tgt := 237) hx hb dX12_command_230 (by decide) (fun q230 => ?_) (fun q230 => ?_)
    · have h := ifF h q230
      refine lv_iconst (v := (0 : Int32)) hx hb dX12_command_237 (by decide) ?_
      have h : some ((0 : Int32), M_found, M_shortest, M_nodes_226, M_solved_226, M_dropped_226, M_fits_226, M_trial_226, M_word, M_size, M_number, M_firstOne, M_node_226, M_parent_226, M_rule_226, M_child_226, M_copyRow) = some (r, M_found_o, M_shortest_o, M_nodes_o, M_solved_o, M_dropped_o, M_fits_o, M_trial_o, M_word_o, M_size_o, M_number_o, M_firstOne_o, M_node_o, M_parent_o, M_rule_o, M_child_o, M_copyRow_o) := h
      cases h
      exact hret _ _ _ _ rfl hP hD hS dX12_command_238
    have h := ifT h q230
    refine lv_iconst (v := (1 : Int32)) hx hb dX12_command_233 (by decide) ?_
    refine lv_goto (tgt := 238) hx hb dX12_command_234 (by decide) ?_
    have h : some ((1 : Int32), M_found, M_shortest, M_nodes_226, M_solved_226, M_dropped_226, M_fits_226, M_trial_226, M_word, M_size, M_number, M_firstOne, M_node_226, M_parent_226, M_rule_226, M_child_226, M_copyRow) = some (r, M_found_o, M_shortest_o, M_nodes_o, M_solved_o, M_dropped_o, M_fits_o, M_trial_o, M_word_o, M_size_o, M_number_o, M_firstOne_o, M_node_o, M_parent_o, M_rule_o, M_child_o, M_copyRow_o) := h
    cases h
    exact hret _ _ _ _ rfl hP hD hS dX12_command_238
  have h := ifF h q4_7
  by_cases q4_8 : x1 = (8 : Int32)
  · have h := ifT h q4_8
    refine lv_tableIn (off := 235) (tgt := 239) hx hb dX12_command_4 (by rw [q4_8]; decide) (by rw [q4_8]; decide) (by rw [q4_8]; rfl) (by decide) ?_
    refine lv_iload_n hx hb dX12_command_239 rfl (lv_at hl 3 rfl) ?_
    obtain ⟨t240, hc240, h⟩ := bd1_to h
    refine go_0 (st1 := [.int t240]) (run_S (As := [.int x2]) (rest := []) X hS (mX12_isVariable g l  x2 t240 hc240) okX12_isVariable wd5_120 ⟨Nat.le_of_ble_eq_true rfl, Nat.le_of_ble_eq_true rfl⟩ ⟨rfl, rfl⟩ nil_P nil_D (nil_F hS hA) rfl hl.1 rfl (Nat.le_of_ble_eq_true rfl) dX12_command_240 ⟨Nat.zero_le _, Nat.zero_le _⟩) hS hA hP rfl (fun H locs hP hS => ?_)
    refine lv_if_eq (tgt := 277) hx hb dX12_command_243 (by decide) (fun q243 => ?_) (fun q243 => ?_)
    · have h := ifT h q243
      refine lv_iconst (v := (0 : Int32)) hx hb dX12_command_277 (by decide) ?_
      have h : some ((0 : Int32), M_found, M_shortest, M_nodes, M_solved, M_dropped, M_fits, M_trial, M_word, M_size, M_number, M_firstOne, M_node, M_parent, M_rule, M_child, M_copyRow) = some (r, M_found_o, M_shortest_o, M_nodes_o, M_solved_o, M_dropped_o, M_fits_o, M_trial_o, M_word_o, M_size_o, M_number_o, M_firstOne_o, M_node_o, M_parent_o, M_rule_o, M_child_o, M_copyRow_o) := h
      cases h
      exact hret _ _ _ _ rfl hP hD hS dX12_command_278
    have h := ifF h q243
    refine lv_aload_n hx hb dX12_command_246 rfl (lv_at hl 1 rfl) ?_
    refine va_get (D := g.1) (ci := 11) (v := .ref aM_copyRow) (C := RX12) (T := TX12) (N := 35) hx hb hts inBX12 hown hK hP 0 rfl rfl 34 (by decide) (hts _ wd4_230) (fun _ h9 => h9) rfl dX12_command_247 ?_
    refine lv_iconst (v := (0 : Int32)) hx hb dX12_command_250 (by decide) ?_
    refine lv_iload_n hx hb dX12_command_251 rfl (lv_at hl 3 rfl) ?_
    refine lv_iconst (v := (2 : Int32)) hx hb dX12_command_252 (by decide) ?_
    refine lv_iadd hx hb dX12_command_253 ?_
    obtain ⟨t254, hc254, h⟩ := bd1_to h
    refine go_P (st1 := [.int t254]) (W1 := (wX12 g aM aM_text aM_now aM_trial aM_read aM_diary aM_kept aM_isKept aM_constraint aM_readConstraint aM_word aM_size aM_number aM_firstOne aM_node aM_parent aM_rule aM_child aM_proof aM_witness aM_witnessSize aM_built aM_copyRow M_length M_acts M_next M_many M_readMany M_found M_shortest M_nodes M_solved M_dropped M_fits M_proofSize M_tooLong M_text M_now M_trial M_read M_diary M_kept M_isKept M_constraint M_readConstraint M_word M_size M_number M_firstOne M_node M_parent M_rule M_child M_proof M_witness M_witnessSize M_built M_copyRow)) (run_S (As := [.ref aM_copyRow, .int (0 : Int32), .int (x2 + (2 : Int32))]) (rest := []) X hS (mX12_countOf g l  aM_copyRow M_copyRow (0 : Int32) (x2 + (2 : Int32)) t254 hc254) okX12_countOf wd5_124 ⟨Nat.le_of_ble_eq_true rfl, Nat.le_of_ble_eq_true rfl⟩ ⟨rfl, rfl⟩ (sub_P hP [22] rfl) (hD.sub [22] (by decide) rfl) (va_free hD hS hA [22] rfl) rfl hl.1 rfl (Nat.le_of_ble_eq_true rfl) dX12_command_254 ⟨Nat.zero_le _, Nat.zero_le _⟩) hS (va_free hD hS hA [22] rfl) hP hD [22] [0, 1, 2, 3, 4, 5, 6, 7, 8, 9, 10, 11, 12, 13, 14, 15, 16, 17, 18, 19, 20, 21] [0, 1, 2, 3, 4, 5, 6, 7, 8, 9, 10, 11, 12, 13, 14, 15, 16, 17, 18, 19, 20, 21, 22] rfl rfl (by decide) (by decide) rfl (by decide) rfl (fun H locs hP hD hS => ?_)
    refine lv_aload_n hx hb dX12_command_257 rfl (lv_at hl 1 rfl) ?_
    refine va_get (D := g.1) (ci := 11) (v := .ref aM_copyRow) (C := RX12) (T := TX12) (N := 35) hx hb hts inBX12 hown hK hP 0 rfl rfl 34 (by decide) (hts _ wd4_230) (fun _ h9 => h9) rfl dX12_command_258 ?_
    refine lv_iconst (v := (1 : Int32)) hx hb dX12_command_261 (by decide) ?_
    refine lv_iload_n hx hb dX12_command_262 rfl (lv_at hl 3 rfl) ?_
    refine lv_iconst (v := (2 : Int32)) hx hb dX12_command_263 (by decide) ?_
    refine lv_iadd hx hb dX12_command_264 ?_
    obtain ⟨t265, hc265, h⟩ := bd1_to h
    refine go_P (st1 := [.int t265, .int t254]) (W1 := (wX12 g aM aM_text aM_now aM_trial aM_read aM_diary aM_kept aM_isKept aM_constraint aM_readConstraint aM_word aM_size aM_number aM_firstOne aM_node aM_parent aM_rule aM_child aM_proof aM_witness aM_witnessSize aM_built aM_copyRow M_length M_acts M_next M_many M_readMany M_found M_shortest M_nodes M_solved M_dropped M_fits M_proofSize M_tooLong M_text M_now M_trial M_read M_diary M_kept M_isKept M_constraint M_readConstraint M_word M_size M_number M_firstOne M_node M_parent M_rule M_child M_proof M_witness M_witnessSize M_built M_copyRow)) (run_S (As := [.ref aM_copyRow, .int (1 : Int32), .int (x2 + (2 : Int32))]) (rest := [.int t254]) X hS (mX12_countOf g l  aM_copyRow M_copyRow (1 : Int32) (x2 + (2 : Int32)) t265 hc265) okX12_countOf wd5_124 ⟨Nat.le_of_ble_eq_true rfl, Nat.le_of_ble_eq_true rfl⟩ ⟨rfl, rfl⟩ (sub_P hP [22] rfl) (hD.sub [22] (by decide) rfl) (va_free hD hS hA [22] rfl) rfl hl.1 rfl (Nat.le_of_ble_eq_true rfl) dX12_command_265 ⟨Nat.zero_le _, Nat.zero_le _⟩) hS (va_free hD hS hA [22] rfl) hP hD [22] [0, 1, 2, 3, 4, 5, 6, 7, 8, 9, 10, 11, 12, 13, 14, 15, 16, 17, 18, 19, 20, 21] [0, 1, 2, 3, 4, 5, 6, 7, 8, 9, 10, 11, 12, 13, 14, 15, 16, 17, 18, 19, 20, 21, 22] rfl rfl (by decide) (by decide) rfl (by decide) rfl (fun H locs hP hD hS => ?_)
    refine lv_iadd hx hb dX12_command_268 ?_
    refine lv_iload_n hx hb dX12_command_269 rfl (lv_at hl 4 rfl) ?_
    refine lv_icmp_ne (tgt := 277) hx hb dX12_command_270 (by decide) (fun q270 => ?_) (fun q270 => ?_)
    · have h := ifF h q270
      refine lv_iconst (v := (0 : Int32)) hx hb dX12_command_277 (by decide) ?_
      have h : some ((0 : Int32), M_found, M_shortest, M_nodes, M_solved, M_dropped, M_fits, M_trial, M_word, M_size, M_number, M_firstOne, M_node, M_parent, M_rule, M_child, M_copyRow) = some (r, M_found_o, M_shortest_o, M_nodes_o, M_solved_o, M_dropped_o, M_fits_o, M_trial_o, M_word_o, M_size_o, M_number_o, M_firstOne_o, M_node_o, M_parent_o, M_rule_o, M_child_o, M_copyRow_o) := h
      cases h
      exact hret _ _ _ _ rfl hP hD hS dX12_command_278
    have h := ifT h q270
    refine lv_iconst (v := (1 : Int32)) hx hb dX12_command_273 (by decide) ?_
    refine lv_goto (tgt := 278) hx hb dX12_command_274 (by decide) ?_
    have h : some ((1 : Int32), M_found, M_shortest, M_nodes, M_solved, M_dropped, M_fits, M_trial, M_word, M_size, M_number, M_firstOne, M_node, M_parent, M_rule, M_child, M_copyRow) = some (r, M_found_o, M_shortest_o, M_nodes_o, M_solved_o, M_dropped_o, M_fits_o, M_trial_o, M_word_o, M_size_o, M_number_o, M_firstOne_o, M_node_o, M_parent_o, M_rule_o, M_child_o, M_copyRow_o) := h
    cases h
    exact hret _ _ _ _ rfl hP hD hS dX12_command_278
  have h := ifF h q4_8
  refine lv_tableOut (tgt := 279) hx hb dX12_command_4 (by have z1 := lv_neT (a := 1) q4_1 (by decide); have z2 := lv_neT (a := 2) q4_2 (by decide); have z3 := lv_neT (a := 3) q4_3 (by decide); have z4 := lv_neT (a := 4) q4_4 (by decide); have z5 := lv_neT (a := 5) q4_5 (by decide); have z6 := lv_neT (a := 6) q4_6 (by decide); have z7 := lv_neT (a := 7) q4_7 (by decide); have z8 := lv_neT (a := 8) q4_8 (by decide); omega) (by decide) ?_
  refine lv_iconst (v := (0 : Int32)) hx hb dX12_command_279 (by decide) ?_
  have h : some ((0 : Int32), M_found, M_shortest, M_nodes, M_solved, M_dropped, M_fits, M_trial, M_word, M_size, M_number, M_firstOne, M_node, M_parent, M_rule, M_child, M_copyRow) = some (r, M_found_o, M_shortest_o, M_nodes_o, M_solved_o, M_dropped_o, M_fits_o, M_trial_o, M_word_o, M_size_o, M_number_o, M_firstOne_o, M_node_o, M_parent_o, M_rule_o, M_child_o, M_copyRow_o) := h
  cases h
  exact hret _ _ _ _ rfl hP hD hS dX12_command_280
set_option maxHeartbeats 4000000 in
set_option maxRecDepth 100000 in
theorem mX12_runScript (g : GP) (l : Launch) (aM aM_text aM_now aM_trial aM_read aM_diary aM_kept aM_isKept aM_constraint aM_readConstraint aM_word aM_size aM_number aM_firstOne aM_node aM_parent aM_rule aM_child aM_proof aM_witness aM_witnessSize aM_built aM_copyRow : Nat) (M_length : Int32) (M_acts : Int32) (M_next : Int32) (M_many : Int32) (M_readMany : Int32) (M_found : Int32) (M_shortest : Int32) (M_nodes : Int32) (M_solved : Int32) (M_dropped : Int32) (M_fits : Int32) (M_proofSize : Int32) (M_tooLong : Int32) (M_text : Nat → Int32) (M_now : Nat → Int32) (M_trial : Nat → Int32) (M_read : Nat → Int32) (M_diary : Nat → Int32) (M_kept : Nat → Int32) (M_isKept : Nat → Int32) (M_constraint : Nat → Int32) (M_readConstraint : Nat → Int32) (M_word : Nat → Int32) (M_size : Nat → Int32) (M_number : Nat → Int32) (M_firstOne : Nat → Int32) (M_node : Nat → Int32) (M_parent : Nat → Int32) (M_rule : Nat → Int32) (M_child : Nat → Int32) (M_proof : Nat → Int32) (M_witness : Nat → Int32) (M_witnessSize : Nat → Int32) (M_built : Nat → Int32) (M_copyRow : Nat → Int32) (x1 : Int32) (x2 : Int64) (r : Int32) (M_found_o : Int32) (M_shortest_o : Int32) (M_nodes_o : Int32) (M_solved_o : Int32) (M_dropped_o : Int32) (M_fits_o : Int32) (M_trial_o : Nat → Int32) (M_word_o : Nat → Int32) (M_size_o : Nat → Int32) (M_number_o : Nat → Int32) (M_firstOne_o : Nat → Int32) (M_node_o : Nat → Int32) (M_parent_o : Nat → Int32) (M_rule_o : Nat → Int32) (M_child_o : Nat → Int32) (M_copyRow_o : Nat → Int32) (h : fM_runScript M_many M_found M_shortest M_nodes M_solved M_dropped M_fits M_now M_trial M_constraint M_word M_size M_number M_firstOne M_node M_parent M_rule M_child M_copyRow x1 x2 = some (r, M_found_o, M_shortest_o, M_nodes_o, M_solved_o, M_dropped_o, M_fits_o, M_trial_o, M_word_o, M_size_o, M_number_o, M_firstOne_o, M_node_o, M_parent_o, M_rule_o, M_child_o, M_copyRow_o)) : Ct g l yX12_runScript cX12_runScript 6 (some .int) rmX12_runScript [.ref aM, .int x1, .long x2] (wX12 g aM aM_text aM_now aM_trial aM_read aM_diary aM_kept aM_isKept aM_constraint aM_readConstraint aM_word aM_size aM_number aM_firstOne aM_node aM_parent aM_rule aM_child aM_proof aM_witness aM_witnessSize aM_built aM_copyRow M_length M_acts M_next M_many M_readMany M_found M_shortest M_nodes M_solved M_dropped M_fits M_proofSize M_tooLong M_text M_now M_trial M_read M_diary M_kept M_isKept M_constraint M_readConstraint M_word M_size M_number M_firstOne M_node M_parent M_rule M_child M_proof M_witness M_witnessSize M_built M_copyRow) (some (.int r)) (wX12 g aM aM_text aM_now aM_trial aM_read aM_diary aM_kept aM_isKept aM_constraint aM_readConstraint aM_word aM_size aM_number aM_firstOne aM_node aM_parent aM_rule aM_child aM_proof aM_witness aM_witnessSize aM_built aM_copyRow M_length M_acts M_next M_many M_readMany M_found_o M_shortest_o M_nodes_o M_solved_o M_dropped_o M_fits_o M_proofSize M_tooLong M_text M_now M_trial_o M_read M_diary M_kept M_isKept M_constraint M_readConstraint M_word_o M_size_o M_number_o M_firstOne_o M_node_o M_parent_o M_rule_o M_child_o M_proof M_witness M_witnessSize M_built M_copyRow_o) := by
  refine Ct.introI (by decide) (Nat.le_of_ble_eq_true rfl) ?_
  intro p e s m below meth c A QQ ls hyp hret
  obtain ⟨hx, hb, hml, hts, hown, hA, hE, hP, hD, hl⟩ := hyp
  have hK := hE.1
  have hS : va_S A s.heap s.heap [] := va_S.rf
  have X : Here g p s m c cX12_runScript 6 ([.ref aM, .int x1, .long x2] : List Value).toArray RX12 A := ⟨⟨hx, hb, hml, hown, hts⟩, hE, hA⟩
  have L43 : ∀ (n43 : Nat), ∀ (M_found : Int32) (M_shortest : Int32) (M_nodes : Int32) (M_solved : Int32) (M_dropped : Int32) (M_fits : Int32) (M_trial : Nat → Int32) (M_word : Nat → Int32) (M_size : Nat → Int32) (M_number : Nat → Int32) (M_firstOne : Nat → Int32) (M_node : Nat → Int32) (M_parent : Nat → Int32) (M_rule : Nat → Int32) (M_child : Nat → Int32) (M_copyRow : Nat → Int32) (v4 : Int32) (ls : Array Slot) (H : Heap) (locs : List Loc), lv_has ls 6 [(0, .ref aM), (1, .int x1), (2, .long x2), (4, .int v4)] → va_P g.1 vwCl (wX12 g aM aM_text aM_now aM_trial aM_read aM_diary aM_kept aM_isKept aM_constraint aM_readConstraint aM_word aM_size aM_number aM_firstOne aM_node aM_parent aM_rule aM_child aM_proof aM_witness aM_witnessSize aM_built aM_copyRow M_length M_acts M_next M_many M_readMany M_found M_shortest M_nodes M_solved M_dropped M_fits M_proofSize M_tooLong M_text M_now M_trial M_read M_diary M_kept M_isKept M_constraint M_readConstraint M_word M_size M_number M_firstOne M_node M_parent M_rule M_child M_proof M_witness M_witnessSize M_built M_copyRow) H → va_D A (wX12 g aM aM_text aM_now aM_trial aM_read aM_diary aM_kept aM_isKept aM_constraint aM_readConstraint aM_word aM_size aM_number aM_firstOne aM_node aM_parent aM_rule aM_child aM_proof aM_witness aM_witnessSize aM_built aM_copyRow M_length M_acts M_next M_many M_readMany M_found M_shortest M_nodes M_solved M_dropped M_fits M_proofSize M_tooLong M_text M_now M_trial M_read M_diary M_kept M_isKept M_constraint M_readConstraint M_word M_size M_number M_firstOne M_node M_parent M_rule M_child M_proof M_witness M_witnessSize M_built M_copyRow) → va_S A s.heap H locs → fx17 (fM_runScript_43 M_many M_constraint x1 x2) n43 M_found M_shortest M_nodes M_solved M_dropped M_fits M_trial M_word M_size M_number M_firstOne M_node M_parent M_rule M_child M_copyRow v4 = some (r, M_found_o, M_shortest_o, M_nodes_o, M_solved_o, M_dropped_o, M_fits_o, M_trial_o, M_word_o, M_size_o, M_number_o, M_firstOne_o, M_node_o, M_parent_o, M_rule_o, M_child_o, M_copyRow_o) → W p l e rmX12_runScript s m ([.ref aM, .int x1, .long x2] : List Value).toArray below meth c H locs 0 0 QQ (F0 m 43 ls []) := by
    intro n43
    induction n43 with
    | zero => intro M_found M_shortest M_nodes M_solved M_dropped M_fits M_trial M_word M_size M_number M_firstOne M_node M_parent M_rule M_child M_copyRow v4 ls H locs hl hP hD hS h; exact fx17_0 h
    | succ n43 ih43 =>
      intro M_found M_shortest M_nodes M_solved M_dropped M_fits M_trial M_word M_size M_number M_firstOne M_node M_parent M_rule M_child M_copyRow v4 ls H locs hl hP hD hS h
      have h := (fx17_s (fM_runScript_43 M_many M_constraint x1 x2) n43 M_found M_shortest M_nodes M_solved M_dropped M_fits M_trial M_word M_size M_number M_firstOne M_node M_parent M_rule M_child M_copyRow v4).symm.trans h
      refine lv_iload hx hb dX12_runScript_43 (lv_at hl 3 rfl) ?_
      refine lv_iload_n hx hb dX12_runScript_45 rfl (lv_at hl 1 rfl) ?_
      refine lv_icmp_ge (tgt := 101) hx hb dX12_runScript_46 (by decide) (fun q46 => ?_) (fun q46 => ?_)
      · have h := ifT h q46
        refine lv_bipush (v := ((-9) : Int32)) hx hb dX12_runScript_101 (by decide) ?_
        have h : some (((-9) : Int32), M_found, M_shortest, M_nodes, M_solved, M_dropped, M_fits, M_trial, M_word, M_size, M_number, M_firstOne, M_node, M_parent, M_rule, M_child, M_copyRow) = some (r, M_found_o, M_shortest_o, M_nodes_o, M_solved_o, M_dropped_o, M_fits_o, M_trial_o, M_word_o, M_size_o, M_number_o, M_firstOne_o, M_node_o, M_parent_o, M_rule_o, M_child_o, M_copyRow_o) := h
        cases h
        exact hret _ _ _ _ hP hD hS dX12_runScript_103
      have h := ifF h q46
      refine lv_lload_n hx hb dX12_runScript_49 rfl (lv_at hl 2 rfl) ?_
      refine lv_iload_n hx hb dX12_runScript_50 rfl (lv_at hl 1 rfl) ?_
      refine lv_iconst (v := (1 : Int32)) hx hb dX12_runScript_51 (by decide) ?_
      refine lv_isub hx hb dX12_runScript_52 ?_
      refine lv_iload hx hb dX12_runScript_53 (lv_at hl 3 rfl) ?_
      refine lv_isub hx hb dX12_runScript_55 ?_
      obtain ⟨t56, hc56, h⟩ := bd1_to h
      refine go_0 (st1 := [.long t56, .long x2]) (run_S (As := [.int ((x1 - (1 : Int32)) - v4)]) (rest := [.long x2]) X hS (mX12_thousands g l  ((x1 - (1 : Int32)) - v4) t56 hc56) okX12_thousands wd6_47 ⟨Nat.le_of_ble_eq_true rfl, Nat.le_of_ble_eq_true rfl⟩ ⟨rfl, rfl⟩ nil_P nil_D (nil_F hS hA) rfl hl.1 rfl (Nat.le_of_ble_eq_true rfl) dX12_runScript_56 ⟨Nat.zero_le _, Nat.zero_le _⟩) hS hA hP rfl (fun H locs hP hS => ?_)
      by_cases q59 : t56 = 0
      · cases (ifT h q59)
      have h := ifF h q59
      refine lv_ldiv hx hb dX12_runScript_59 q59 ?_
      refine lv_ldc2 (v := (1000 : Int64)) hx hb hown (hts _ wd6_50) dX12_runScript_60 ?_
      refine lv_lrem hx hb dX12_runScript_63 (by decide) ?_
      refine lv_l2i (v := (Int64.toInt32 (remL (x2 / t56) (1000 : Int64)))) hx hb dX12_runScript_64 rfl ?_
      refine lv_topi (fun t65 et65 => ?_)
      have h := st_to h et65
      refine lv_istore (lv' := [(5, .int t65), (0, .ref aM), (1, .int x1), (2, .long x2), (4, .int v4)]) hx hb dX12_runScript_65 hl (by decide) rfl (fun ls hl => ?_)
      refine lv_aload_n hx hb dX12_runScript_67 rfl (lv_at hl 1 rfl) ?_
      refine lv_iload hx hb dX12_runScript_68 (lv_at hl 0 rfl) ?_
      refine lv_bipush (v := (100 : Int32)) hx hb dX12_runScript_70 (by decide) ?_
      refine lv_idiv hx hb dX12_runScript_72 (by decide) ?_
      refine lv_iload hx hb dX12_runScript_73 (lv_at hl 0 rfl) ?_
      refine lv_bipush (v := (10 : Int32)) hx hb dX12_runScript_75 (by decide) ?_
      refine lv_idiv hx hb dX12_runScript_77 (by decide) ?_
      refine lv_bipush (v := (10 : Int32)) hx hb dX12_runScript_78 (by decide) ?_
      refine lv_irem hx hb dX12_runScript_80 (by decide) ?_
      refine lv_iload hx hb dX12_runScript_81 (lv_at hl 0 rfl) ?_
      refine lv_bipush (v := (10 : Int32)) hx hb dX12_runScript_83 (by decide) ?_
      refine lv_irem hx hb dX12_runScript_85 (by decide) ?_
      obtain ⟨t86, M_found_86, M_shortest_86, M_nodes_86, M_solved_86, M_dropped_86, M_fits_86, M_trial_86, M_word_86, M_size_86, M_number_86, M_firstOne_86, M_node_86, M_parent_86, M_rule_86, M_child_86, M_copyRow_86, hc86, h⟩ := bd17_to h
      refine go_A (st1 := [.int t86]) (run_V (As := [.int (t65 / (100 : Int32)), .int (rem (t65 / (10 : Int32)) (10 : Int32)), .int (rem t65 (10 : Int32))]) (rest := []) X hS (mX12_command g l  aM aM_text aM_now aM_trial aM_read aM_diary aM_kept aM_isKept aM_constraint aM_readConstraint aM_word aM_size aM_number aM_firstOne aM_node aM_parent aM_rule aM_child aM_proof aM_witness aM_witnessSize aM_built aM_copyRow M_length M_acts M_next M_many M_readMany M_found M_shortest M_nodes M_solved M_dropped M_fits M_proofSize M_tooLong M_text M_now M_trial M_read M_diary M_kept M_isKept M_constraint M_readConstraint M_word M_size M_number M_firstOne M_node M_parent M_rule M_child M_proof M_witness M_witnessSize M_built M_copyRow (t65 / (100 : Int32)) (rem (t65 / (10 : Int32)) (10 : Int32)) (rem t65 (10 : Int32)) t86 M_found_86 M_shortest_86 M_nodes_86 M_solved_86 M_dropped_86 M_fits_86 M_trial_86 M_word_86 M_size_86 M_number_86 M_firstOne_86 M_node_86 M_parent_86 M_rule_86 M_child_86 M_copyRow_86 hc86) okX12_command wd6_51 ⟨Nat.le_of_ble_eq_true rfl, Nat.le_of_ble_eq_true rfl⟩ ⟨rfl, rfl⟩ (va_recv hK hP (ci := 11) (q0 := 0) rfl rfl) hP hD (all_F hS hA hD) rfl hl.1 rfl (Nat.le_of_ble_eq_true rfl) dX12_runScript_86 ⟨Nat.zero_le _, Nat.zero_le _⟩) hS (all_F hS hA hD) rfl (fun H locs hP hD hS => ?_)
      refine lv_if_ne (tgt := 95) hx hb dX12_runScript_89 (by decide) (fun q89 => ?_) (fun q89 => ?_)
      · have h := ifF h q89
        obtain ⟨t95, et95⟩ : ∃ y : Int32, y = v4 + (1 : Int32) := ⟨_, rfl⟩
        refine lv_iinc (v := t95) (lv' := [(4, .int t95), (5, .int t65), (0, .ref aM), (1, .int x1), (2, .long x2)]) hx hb dX12_runScript_95 hl (k := 4) rfl (by rw [et95]; rfl) (by decide) rfl (fun ls hl => ?_)
        have h := st_to h et95
        refine lv_goto (tgt := 43) hx hb dX12_runScript_98 (by decide) ?_
        exact ih43 M_found_86 M_shortest_86 M_nodes_86 M_solved_86 M_dropped_86 M_fits_86 M_trial_86 M_word_86 M_size_86 M_number_86 M_firstOne_86 M_node_86 M_parent_86 M_rule_86 M_child_86 M_copyRow_86 t95 ls H locs (lv_sub hl [2, 3, 4, 0] rfl) hP hD hS h
      have h := ifT h q89
      refine lv_iload hx hb dX12_runScript_92 (lv_at hl 4 rfl) ?_
      have h : some (v4, M_found_86, M_shortest_86, M_nodes_86, M_solved_86, M_dropped_86, M_fits_86, M_trial_86, M_word_86, M_size_86, M_number_86, M_firstOne_86, M_node_86, M_parent_86, M_rule_86, M_child_86, M_copyRow_86) = some (r, M_found_o, M_shortest_o, M_nodes_o, M_solved_o, M_dropped_o, M_fits_o, M_trial_o, M_word_o, M_size_o, M_number_o, M_firstOne_o, M_node_o, M_parent_o, M_rule_o, M_child_o, M_copyRow_o) := h
      cases h
      exact hret _ _ _ _ hP hD hS dX12_runScript_94
  have hl : lv_has ls 6 [(0, .ref aM), (1, .int x1), (2, .long x2)] := hl
  obtain ⟨H, hH⟩ : ∃ H, H = s.heap := ⟨_, rfl⟩
  obtain ⟨locs, hlocs⟩ : ∃ l : List Loc, l = [] := ⟨_, rfl⟩
  rw [show W p l e rmX12_runScript s m ([.ref aM, .int x1, .long x2] : List Value).toArray below meth c s.heap [] 0 0 QQ (F0 m 0 ls []) = W p l e rmX12_runScript s m ([.ref aM, .int x1, .long x2] : List Value).toArray below meth c H locs 0 0 QQ (F0 m 0 ls []) by rw [hH, hlocs]]
  have hP : va_P g.1 vwCl (wX12 g aM aM_text aM_now aM_trial aM_read aM_diary aM_kept aM_isKept aM_constraint aM_readConstraint aM_word aM_size aM_number aM_firstOne aM_node aM_parent aM_rule aM_child aM_proof aM_witness aM_witnessSize aM_built aM_copyRow M_length M_acts M_next M_many M_readMany M_found M_shortest M_nodes M_solved M_dropped M_fits M_proofSize M_tooLong M_text M_now M_trial M_read M_diary M_kept M_isKept M_constraint M_readConstraint M_word M_size M_number M_firstOne M_node M_parent M_rule M_child M_proof M_witness M_witnessSize M_built M_copyRow) H := by rw [hH]; exact hP
  have hD : va_D A (wX12 g aM aM_text aM_now aM_trial aM_read aM_diary aM_kept aM_isKept aM_constraint aM_readConstraint aM_word aM_size aM_number aM_firstOne aM_node aM_parent aM_rule aM_child aM_proof aM_witness aM_witnessSize aM_built aM_copyRow M_length M_acts M_next M_many M_readMany M_found M_shortest M_nodes M_solved M_dropped M_fits M_proofSize M_tooLong M_text M_now M_trial M_read M_diary M_kept M_isKept M_constraint M_readConstraint M_word M_size M_number M_firstOne M_node M_parent M_rule M_child M_proof M_witness M_witnessSize M_built M_copyRow) := hD
  have hS : va_S A s.heap H locs := by rw [hH, hlocs]; exact hS
  clear hH hlocs
  refine lv_iload_n hx hb dX12_runScript_0 rfl (lv_at hl 1 rfl) ?_
  refine lv_i2l (v := (Int32.toInt64 x1)) hx hb dX12_runScript_1 rfl ?_
  refine lv_lconst (v := (1 : Int64)) hx hb dX12_runScript_2 (by decide) ?_
  refine lv_ldc2 (v := (4 : Int64)) hx hb hown (hts _ wd6_46) dX12_runScript_3 ?_
  obtain ⟨t6, hc6, h⟩ := bd1_to h
  refine go_0 (st1 := [.int t6]) (run_S (As := [.long (Int32.toInt64 x1), .long (1 : Int64), .long (4 : Int64)]) (rest := []) X hS (mX12_in g l  (Int32.toInt64 x1) (1 : Int64) (4 : Int64) t6 hc6) okX12_in wd5_67 ⟨Nat.le_of_ble_eq_true rfl, Nat.le_of_ble_eq_true rfl⟩ ⟨rfl, rfl⟩ nil_P nil_D (nil_F hS hA) rfl hl.1 rfl (Nat.le_of_ble_eq_true rfl) dX12_runScript_6 ⟨Nat.zero_le _, Nat.zero_le _⟩) hS hA hP rfl (fun H locs hP hS => ?_)
  refine lv_if_eq (tgt := 26) hx hb dX12_runScript_9 (by decide) (fun q9 => ?_) (fun q9 => ?_)
  · have h := ifT h q9
    refine lv_bipush (v := ((-2) : Int32)) hx hb dX12_runScript_26 (by decide) ?_
    have h : some (((-2) : Int32), M_found, M_shortest, M_nodes, M_solved, M_dropped, M_fits, M_trial, M_word, M_size, M_number, M_firstOne, M_node, M_parent, M_rule, M_child, M_copyRow) = some (r, M_found_o, M_shortest_o, M_nodes_o, M_solved_o, M_dropped_o, M_fits_o, M_trial_o, M_word_o, M_size_o, M_number_o, M_firstOne_o, M_node_o, M_parent_o, M_rule_o, M_child_o, M_copyRow_o) := h
    cases h
    exact hret _ _ _ _ hP hD hS dX12_runScript_28
  have h := ifF h q9
  refine lv_lload_n hx hb dX12_runScript_12 rfl (lv_at hl 2 rfl) ?_
  refine lv_lconst (v := (0 : Int64)) hx hb dX12_runScript_13 (by decide) ?_
  refine lv_iload_n hx hb dX12_runScript_14 rfl (lv_at hl 1 rfl) ?_
  obtain ⟨t15, hc15, h⟩ := bd1_to h
  refine go_0 (st1 := [.long t15, .long (0 : Int64), .long x2]) (run_S (As := [.int x1]) (rest := [.long (0 : Int64), .long x2]) X hS (mX12_thousands g l  x1 t15 hc15) okX12_thousands wd6_47 ⟨Nat.le_of_ble_eq_true rfl, Nat.le_of_ble_eq_true rfl⟩ ⟨rfl, rfl⟩ nil_P nil_D (nil_F hS hA) rfl hl.1 rfl (Nat.le_of_ble_eq_true rfl) dX12_runScript_15 ⟨Nat.zero_le _, Nat.zero_le _⟩) hS hA hP rfl (fun H locs hP hS => ?_)
  refine lv_lconst (v := (1 : Int64)) hx hb dX12_runScript_18 (by decide) ?_
  refine lv_lsub hx hb dX12_runScript_19 ?_
  obtain ⟨t20, hc20, h⟩ := bd1_to h
  refine go_0 (st1 := [.int t20]) (run_S (As := [.long x2, .long (0 : Int64), .long (t15 - (1 : Int64))]) (rest := []) X hS (mX12_in g l  x2 (0 : Int64) (t15 - (1 : Int64)) t20 hc20) okX12_in wd5_67 ⟨Nat.le_of_ble_eq_true rfl, Nat.le_of_ble_eq_true rfl⟩ ⟨rfl, rfl⟩ nil_P nil_D (nil_F hS hA) rfl hl.1 rfl (Nat.le_of_ble_eq_true rfl) dX12_runScript_20 ⟨Nat.zero_le _, Nat.zero_le _⟩) hS hA hP rfl (fun H locs hP hS => ?_)
  refine lv_if_ne (tgt := 29) hx hb dX12_runScript_23 (by decide) (fun q23 => ?_) (fun q23 => ?_)
  · have h := ifF h q23
    refine lv_aload_n hx hb dX12_runScript_29 rfl (lv_at hl 0 rfl) ?_
    refine va_get (D := g.1) (ci := 11) (v := .ref aM_now) (C := RX12) (T := TX12) (N := 35) hx hb hts inBX12 hown hK hP 0 rfl rfl 2 (by decide) (hts _ wd4_198) (fun _ h9 => h9) rfl dX12_runScript_30 ?_
    refine lv_aload_n hx hb dX12_runScript_33 rfl (lv_at hl 0 rfl) ?_
    refine va_get (D := g.1) (ci := 11) (v := .ref aM_copyRow) (C := RX12) (T := TX12) (N := 35) hx hb hts inBX12 hown hK hP 0 rfl rfl 34 (by decide) (hts _ wd4_230) (fun _ h9 => h9) rfl dX12_runScript_34 ?_
    obtain ⟨M_copyRow_37, hc37, h⟩ := bd1_to h
    refine go_P (st1 := []) (W1 := (wX12 g aM aM_text aM_now aM_trial aM_read aM_diary aM_kept aM_isKept aM_constraint aM_readConstraint aM_word aM_size aM_number aM_firstOne aM_node aM_parent aM_rule aM_child aM_proof aM_witness aM_witnessSize aM_built aM_copyRow M_length M_acts M_next M_many M_readMany M_found M_shortest M_nodes M_solved M_dropped M_fits M_proofSize M_tooLong M_text M_now M_trial M_read M_diary M_kept M_isKept M_constraint M_readConstraint M_word M_size M_number M_firstOne M_node M_parent M_rule M_child M_proof M_witness M_witnessSize M_built M_copyRow_37)) (run_S (As := [.ref aM_now, .ref aM_copyRow]) (rest := []) X hS (mX12_copy g l  aM_now aM_copyRow M_now M_copyRow M_copyRow_37 hc37) okX12_copy wd5_102 ⟨Nat.le_of_ble_eq_true rfl, Nat.le_of_ble_eq_true rfl⟩ ⟨rfl, rfl⟩ (sub_P hP [2, 22] rfl) (hD.sub [2, 22] (by decide) rfl) (va_free hD hS hA [2, 22] rfl) rfl hl.1 rfl (Nat.le_of_ble_eq_true rfl) dX12_runScript_37 ⟨Nat.zero_le _, Nat.zero_le _⟩) hS (va_free hD hS hA [2, 22] rfl) hP hD [2, 22] [0, 1, 3, 4, 5, 6, 7, 8, 9, 10, 11, 12, 13, 14, 15, 16, 17, 18, 19, 20, 21] [0, 1, 21, 2, 3, 4, 5, 6, 7, 8, 9, 10, 11, 12, 13, 14, 15, 16, 17, 18, 19, 20, 22] rfl rfl (by decide) (by decide) rfl (by decide) rfl (fun H locs hP hD hS => ?_)
    refine lv_iconst (v := (0 : Int32)) hx hb dX12_runScript_40 (by decide) ?_
    refine lv_istore (lv' := [(4, .int (0 : Int32)), (0, .ref aM), (1, .int x1), (2, .long x2)]) hx hb dX12_runScript_41 hl (by decide) rfl (fun ls hl => ?_)
    exact L43 FU M_found M_shortest M_nodes M_solved M_dropped M_fits M_trial M_word M_size M_number M_firstOne M_node M_parent M_rule M_child M_copyRow_37 (0 : Int32) ls H locs (lv_sub hl [1, 2, 3, 0] rfl) hP hD hS h
  have h := ifT h q23
  refine lv_bipush (v := ((-2) : Int32)) hx hb dX12_runScript_26 (by decide) ?_
  have h : some (((-2) : Int32), M_found, M_shortest, M_nodes, M_solved, M_dropped, M_fits, M_trial, M_word, M_size, M_number, M_firstOne, M_node, M_parent, M_rule, M_child, M_copyRow) = some (r, M_found_o, M_shortest_o, M_nodes_o, M_solved_o, M_dropped_o, M_fits_o, M_trial_o, M_word_o, M_size_o, M_number_o, M_firstOne_o, M_node_o, M_parent_o, M_rule_o, M_child_o, M_copyRow_o) := h
  cases h
  exact hret _ _ _ _ hP hD hS dX12_runScript_28
set_option maxHeartbeats 4000000 in
set_option maxRecDepth 100000 in
theorem mX12_randomChecks (g : GP) (l : Launch) (aM aM_text aM_now aM_trial aM_read aM_diary aM_kept aM_isKept aM_constraint aM_readConstraint aM_word aM_size aM_number aM_firstOne aM_node aM_parent aM_rule aM_child aM_proof aM_witness aM_witnessSize aM_built aM_copyRow : Nat) (M_length : Int32) (M_acts : Int32) (M_next : Int32) (M_many : Int32) (M_readMany : Int32) (M_found : Int32) (M_shortest : Int32) (M_nodes : Int32) (M_solved : Int32) (M_dropped : Int32) (M_fits : Int32) (M_proofSize : Int32) (M_tooLong : Int32) (M_text : Nat → Int32) (M_now : Nat → Int32) (M_trial : Nat → Int32) (M_read : Nat → Int32) (M_diary : Nat → Int32) (M_kept : Nat → Int32) (M_isKept : Nat → Int32) (M_constraint : Nat → Int32) (M_readConstraint : Nat → Int32) (M_word : Nat → Int32) (M_size : Nat → Int32) (M_number : Nat → Int32) (M_firstOne : Nat → Int32) (M_node : Nat → Int32) (M_parent : Nat → Int32) (M_rule : Nat → Int32) (M_child : Nat → Int32) (M_proof : Nat → Int32) (M_witness : Nat → Int32) (M_witnessSize : Nat → Int32) (M_built : Nat → Int32) (M_copyRow : Nat → Int32) (x1 : Int64) (x3 : Int32) (r : Int32) (M_word_o : Nat → Int32) (M_size_o : Nat → Int32) (M_number_o : Nat → Int32) (h : fM_randomChecks M_many M_now M_constraint M_word M_size M_number x1 x3 = some (r, M_word_o, M_size_o, M_number_o)) : Ct g l yX12_randomChecks cX12_randomChecks 10 (some .int) rmX12_randomChecks [.ref aM, .long x1, .int x3] (wX12 g aM aM_text aM_now aM_trial aM_read aM_diary aM_kept aM_isKept aM_constraint aM_readConstraint aM_word aM_size aM_number aM_firstOne aM_node aM_parent aM_rule aM_child aM_proof aM_witness aM_witnessSize aM_built aM_copyRow M_length M_acts M_next M_many M_readMany M_found M_shortest M_nodes M_solved M_dropped M_fits M_proofSize M_tooLong M_text M_now M_trial M_read M_diary M_kept M_isKept M_constraint M_readConstraint M_word M_size M_number M_firstOne M_node M_parent M_rule M_child M_proof M_witness M_witnessSize M_built M_copyRow) (some (.int r)) (wX12 g aM aM_text aM_now aM_trial aM_read aM_diary aM_kept aM_isKept aM_constraint aM_readConstraint aM_word aM_size aM_number aM_firstOne aM_node aM_parent aM_rule aM_child aM_proof aM_witness aM_witnessSize aM_built aM_copyRow M_length M_acts M_next M_many M_readMany M_found M_shortest M_nodes M_solved M_dropped M_fits M_proofSize M_tooLong M_text M_now M_trial M_read M_diary M_kept M_isKept M_constraint M_readConstraint M_word_o M_size_o M_number_o M_firstOne M_node M_parent M_rule M_child M_proof M_witness M_witnessSize M_built M_copyRow) := by
  refine Ct.introI (by decide) (Nat.le_of_ble_eq_true rfl) ?_
  intro p e s m below meth c A QQ ls hyp hret
  obtain ⟨hx, hb, hml, hts, hown, hA, hE, hP, hD, hl⟩ := hyp
  have hK := hE.1
  have hS : va_S A s.heap s.heap [] := va_S.rf
  have X : Here g p s m c cX12_randomChecks 10 ([.ref aM, .long x1, .int x3] : List Value).toArray RX12 A := ⟨⟨hx, hb, hml, hown, hts⟩, hE, hA⟩
  have L24 : ∀ (n24 : Nat), ∀ (M_word : Nat → Int32) (M_size : Nat → Int32) (M_number : Nat → Int32) (v4 : Int64) (v6 : Int32) (v7 : Int32) (ls : Array Slot) (H : Heap) (locs : List Loc), lv_has ls 10 [(0, .ref aM), (3, .int x3), (4, .long v4), (6, .int v6), (7, .int v7)] → va_P g.1 vwCl (wX12 g aM aM_text aM_now aM_trial aM_read aM_diary aM_kept aM_isKept aM_constraint aM_readConstraint aM_word aM_size aM_number aM_firstOne aM_node aM_parent aM_rule aM_child aM_proof aM_witness aM_witnessSize aM_built aM_copyRow M_length M_acts M_next M_many M_readMany M_found M_shortest M_nodes M_solved M_dropped M_fits M_proofSize M_tooLong M_text M_now M_trial M_read M_diary M_kept M_isKept M_constraint M_readConstraint M_word M_size M_number M_firstOne M_node M_parent M_rule M_child M_proof M_witness M_witnessSize M_built M_copyRow) H → va_D A (wX12 g aM aM_text aM_now aM_trial aM_read aM_diary aM_kept aM_isKept aM_constraint aM_readConstraint aM_word aM_size aM_number aM_firstOne aM_node aM_parent aM_rule aM_child aM_proof aM_witness aM_witnessSize aM_built aM_copyRow M_length M_acts M_next M_many M_readMany M_found M_shortest M_nodes M_solved M_dropped M_fits M_proofSize M_tooLong M_text M_now M_trial M_read M_diary M_kept M_isKept M_constraint M_readConstraint M_word M_size M_number M_firstOne M_node M_parent M_rule M_child M_proof M_witness M_witnessSize M_built M_copyRow) → va_S A s.heap H locs → fx6 (fM_randomChecks_24 M_many M_now M_constraint x3) n24 M_word M_size M_number v4 v6 v7 = some (r, M_word_o, M_size_o, M_number_o) → W p l e rmX12_randomChecks s m ([.ref aM, .long x1, .int x3] : List Value).toArray below meth c H locs 0 0 QQ (F0 m 24 ls []) := by
    intro n24
    induction n24 with
    | zero => intro M_word M_size M_number v4 v6 v7 ls H locs hl hP hD hS h; exact fx6_0 h
    | succ n24 ih24 =>
      intro M_word M_size M_number v4 v6 v7 ls H locs hl hP hD hS h
      have h := (fx6_s (fM_randomChecks_24 M_many M_now M_constraint x3) n24 M_word M_size M_number v4 v6 v7).symm.trans h
      have L53 : ∀ (n53 : Nat), ∀ (M_word : Nat → Int32) (M_size : Nat → Int32) (M_number : Nat → Int32) (v4 : Int64) (v6 : Int32) (v7 : Int32) (v8 : Int32) (v9 : Int32) (ls : Array Slot) (H : Heap) (locs : List Loc), lv_has ls 10 [(0, .ref aM), (3, .int x3), (4, .long v4), (6, .int v6), (7, .int v7), (8, .int v8), (9, .int v9)] → va_P g.1 vwCl (wX12 g aM aM_text aM_now aM_trial aM_read aM_diary aM_kept aM_isKept aM_constraint aM_readConstraint aM_word aM_size aM_number aM_firstOne aM_node aM_parent aM_rule aM_child aM_proof aM_witness aM_witnessSize aM_built aM_copyRow M_length M_acts M_next M_many M_readMany M_found M_shortest M_nodes M_solved M_dropped M_fits M_proofSize M_tooLong M_text M_now M_trial M_read M_diary M_kept M_isKept M_constraint M_readConstraint M_word M_size M_number M_firstOne M_node M_parent M_rule M_child M_proof M_witness M_witnessSize M_built M_copyRow) H → va_D A (wX12 g aM aM_text aM_now aM_trial aM_read aM_diary aM_kept aM_isKept aM_constraint aM_readConstraint aM_word aM_size aM_number aM_firstOne aM_node aM_parent aM_rule aM_child aM_proof aM_witness aM_witnessSize aM_built aM_copyRow M_length M_acts M_next M_many M_readMany M_found M_shortest M_nodes M_solved M_dropped M_fits M_proofSize M_tooLong M_text M_now M_trial M_read M_diary M_kept M_isKept M_constraint M_readConstraint M_word M_size M_number M_firstOne M_node M_parent M_rule M_child M_proof M_witness M_witnessSize M_built M_copyRow) → va_S A s.heap H locs → fx3 (fM_randomChecks_53 (fx6 (fM_randomChecks_24 M_many M_now M_constraint x3) n24) M_many M_now M_constraint M_word M_size x3 v4 v6 v7) n53 M_number v8 v9 = some (r, M_word_o, M_size_o, M_number_o) → W p l e rmX12_randomChecks s m ([.ref aM, .long x1, .int x3] : List Value).toArray below meth c H locs 0 0 QQ (F0 m 53 ls []) := by
        intro n53
        induction n53 with
        | zero => intro M_word M_size M_number v4 v6 v7 v8 v9 ls H locs hl hP hD hS h; exact fx3_0 h
        | succ n53 ih53 =>
          intro M_word M_size M_number v4 v6 v7 v8 v9 ls H locs hl hP hD hS h
          have h := (fx3_s (fM_randomChecks_53 (fx6 (fM_randomChecks_24 M_many M_now M_constraint x3) n24) M_many M_now M_constraint M_word M_size x3 v4 v6 v7) n53 M_number v8 v9).symm.trans h
          refine lv_iload hx hb dX12_randomChecks_53 (lv_at hl 6 rfl) ?_
          refine lv_iconst (v := (4 : Int32)) hx hb dX12_randomChecks_55 (by decide) ?_
          refine lv_icmp_ge (tgt := 84) hx hb dX12_randomChecks_56 (by decide) (fun q56 => ?_) (fun q56 => ?_)
          · have h := ifT h q56
            refine lv_iload hx hb dX12_randomChecks_84 (lv_at hl 3 rfl) ?_
            refine lv_aload_n hx hb dX12_randomChecks_86 rfl (lv_at hl 0 rfl) ?_
            refine lv_aload_n hx hb dX12_randomChecks_87 rfl (lv_at hl 0 rfl) ?_
            refine va_get (D := g.1) (ci := 11) (v := .ref aM_now) (C := RX12) (T := TX12) (N := 35) hx hb hts inBX12 hown hK hP 0 rfl rfl 2 (by decide) (hts _ wd4_198) (fun _ h9 => h9) rfl dX12_randomChecks_88 ?_
            obtain ⟨t91, M_word_91, M_size_91, hc91, h⟩ := bd3_to h
            refine go_A (st1 := [.int t91, .int v6]) (run_V (As := [.ref aM_now]) (rest := [.int v6]) X hS (mX12_isSolution_now g l  aM aM_text aM_now aM_trial aM_read aM_diary aM_kept aM_isKept aM_constraint aM_readConstraint aM_word aM_size aM_number aM_firstOne aM_node aM_parent aM_rule aM_child aM_proof aM_witness aM_witnessSize aM_built aM_copyRow M_length M_acts M_next M_many M_readMany M_found M_shortest M_nodes M_solved M_dropped M_fits M_proofSize M_tooLong M_text M_now M_trial M_read M_diary M_kept M_isKept M_constraint M_readConstraint M_word M_size M_number M_firstOne M_node M_parent M_rule M_child M_proof M_witness M_witnessSize M_built M_copyRow t91 M_word_91 M_size_91 hc91) okX12_isSolution wd5_178 ⟨Nat.le_of_ble_eq_true rfl, Nat.le_of_ble_eq_true rfl⟩ ⟨rfl, rfl⟩ (va_recv hK hP (ci := 11) (q0 := 0) rfl rfl) hP hD (all_F hS hA hD) rfl hl.1 rfl (Nat.le_of_ble_eq_true rfl) dX12_randomChecks_91 ⟨Nat.zero_le _, Nat.zero_le _⟩) hS (all_F hS hA hD) rfl (fun H locs hP hD hS => ?_)
            refine lv_if_eq (tgt := 101) hx hb dX12_randomChecks_94 (by decide) (fun q94 => ?_) (fun q94 => ?_)
            · have h := ifT h q94
              refine lv_iconst (v := (0 : Int32)) hx hb dX12_randomChecks_101 (by decide) ?_
              refine lv_iadd hx hb dX12_randomChecks_102 ?_
              refine lv_topi (fun t103 et103 => ?_)
              have h := st_to h et103
              refine lv_istore (lv' := [(6, .int t103), (0, .ref aM), (3, .int x3), (4, .long v4), (7, .int v7), (8, .int v8), (9, .int v9)]) hx hb dX12_randomChecks_103 hl (by decide) rfl (fun ls hl => ?_)
              obtain ⟨t105, et105⟩ : ∃ y : Int32, y = v7 + (1 : Int32) := ⟨_, rfl⟩
              refine lv_iinc (v := t105) (lv' := [(7, .int t105), (6, .int t103), (0, .ref aM), (3, .int x3), (4, .long v4), (8, .int v8), (9, .int v9)]) hx hb dX12_randomChecks_105 hl (k := 4) rfl (by rw [et105]; rfl) (by decide) rfl (fun ls hl => ?_)
              have h := st_to h et105
              refine lv_goto (tgt := 24) hx hb dX12_randomChecks_108 (by decide) ?_
              exact ih24 M_word_91 M_size_91 M_number v4 t103 t105 ls H locs (lv_sub hl [2, 3, 4, 1, 0] rfl) hP hD hS h
            have h := ifF h q94
            refine lv_iconst (v := (1 : Int32)) hx hb dX12_randomChecks_97 (by decide) ?_
            refine lv_goto (tgt := 102) hx hb dX12_randomChecks_98 (by decide) ?_
            refine lv_iadd hx hb dX12_randomChecks_102 ?_
            refine lv_topi (fun t103 et103 => ?_)
            have h := st_to h et103
            refine lv_istore (lv' := [(6, .int t103), (0, .ref aM), (3, .int x3), (4, .long v4), (7, .int v7), (8, .int v8), (9, .int v9)]) hx hb dX12_randomChecks_103 hl (by decide) rfl (fun ls hl => ?_)
            obtain ⟨t105, et105⟩ : ∃ y : Int32, y = v7 + (1 : Int32) := ⟨_, rfl⟩
            refine lv_iinc (v := t105) (lv' := [(7, .int t105), (6, .int t103), (0, .ref aM), (3, .int x3), (4, .long v4), (8, .int v8), (9, .int v9)]) hx hb dX12_randomChecks_105 hl (k := 4) rfl (by rw [et105]; rfl) (by decide) rfl (fun ls hl => ?_)
            have h := st_to h et105
            refine lv_goto (tgt := 24) hx hb dX12_randomChecks_108 (by decide) ?_
            exact ih24 M_word_91 M_size_91 M_number v4 t103 t105 ls H locs (lv_sub hl [2, 3, 4, 1, 0] rfl) hP hD hS h
          have h := ifF h q56
          refine lv_aload_n hx hb dX12_randomChecks_59 rfl (lv_at hl 0 rfl) ?_
          refine va_get (D := g.1) (ci := 11) (v := .ref aM_number) (C := RX12) (T := TX12) (N := 35) hx hb hts inBX12 hown hK hP 0 rfl rfl 16 (by decide) (hts _ wd4_212) (fun _ h9 => h9) rfl dX12_randomChecks_60 ?_
          refine lv_iload hx hb dX12_randomChecks_63 (lv_at hl 6 rfl) ?_
          refine lv_iload hx hb dX12_randomChecks_65 (lv_at hl 5 rfl) ?_
          refine lv_bipush (v := (15 : Int32)) hx hb dX12_randomChecks_67 (by decide) ?_
          refine lv_irem hx hb dX12_randomChecks_69 (by decide) ?_
          have hin := sti_in h
          refine va_iast hx hb hK hP hD hS 12 0 rfl rfl hin dX12_randomChecks_70 (fun H locs hP hD hS => ?_)
          obtain ⟨M_number_70, eM_number_70⟩ : ∃ y : Nat → Int32, y = upd M_number (Int32.toNatClampNeg v9) (rem v8 (15 : Int32)) := ⟨_, rfl⟩
          have h := sti_to h eM_number_70
          have hP : va_P g.1 vwCl (wX12 g aM aM_text aM_now aM_trial aM_read aM_diary aM_kept aM_isKept aM_constraint aM_readConstraint aM_word aM_size aM_number aM_firstOne aM_node aM_parent aM_rule aM_child aM_proof aM_witness aM_witnessSize aM_built aM_copyRow M_length M_acts M_next M_many M_readMany M_found M_shortest M_nodes M_solved M_dropped M_fits M_proofSize M_tooLong M_text M_now M_trial M_read M_diary M_kept M_isKept M_constraint M_readConstraint M_word M_size M_number_70 M_firstOne M_node M_parent M_rule M_child M_proof M_witness M_witnessSize M_built M_copyRow) H := by rw [eM_number_70]; exact hP
          have hD : va_D A (wX12 g aM aM_text aM_now aM_trial aM_read aM_diary aM_kept aM_isKept aM_constraint aM_readConstraint aM_word aM_size aM_number aM_firstOne aM_node aM_parent aM_rule aM_child aM_proof aM_witness aM_witnessSize aM_built aM_copyRow M_length M_acts M_next M_many M_readMany M_found M_shortest M_nodes M_solved M_dropped M_fits M_proofSize M_tooLong M_text M_now M_trial M_read M_diary M_kept M_isKept M_constraint M_readConstraint M_word M_size M_number_70 M_firstOne M_node M_parent M_rule M_child M_proof M_witness M_witnessSize M_built M_copyRow) := by rw [eM_number_70]; exact hD
          refine lv_iload hx hb dX12_randomChecks_71 (lv_at hl 5 rfl) ?_
          refine lv_bipush (v := (15 : Int32)) hx hb dX12_randomChecks_73 (by decide) ?_
          refine lv_idiv hx hb dX12_randomChecks_75 (by decide) ?_
          refine lv_topi (fun t76 et76 => ?_)
          have h := st_to h et76
          refine lv_istore (lv' := [(8, .int t76), (0, .ref aM), (3, .int x3), (4, .long v4), (6, .int v6), (7, .int v7), (9, .int v9)]) hx hb dX12_randomChecks_76 hl (by decide) rfl (fun ls hl => ?_)
          obtain ⟨t78, et78⟩ : ∃ y : Int32, y = v9 + (1 : Int32) := ⟨_, rfl⟩
          refine lv_iinc (v := t78) (lv' := [(9, .int t78), (8, .int t76), (0, .ref aM), (3, .int x3), (4, .long v4), (6, .int v6), (7, .int v7)]) hx hb dX12_randomChecks_78 hl (k := 6) rfl (by rw [et78]; rfl) (by decide) rfl (fun ls hl => ?_)
          have h := st_to h et78
          refine lv_goto (tgt := 53) hx hb dX12_randomChecks_81 (by decide) ?_
          exact ih53 M_word M_size M_number_70 v4 v6 v7 t76 t78 ls H locs (lv_sub hl [2, 3, 4, 5, 6, 1, 0] rfl) hP hD hS h
      refine lv_iload hx hb dX12_randomChecks_24 (lv_at hl 4 rfl) ?_
      refine lv_iload_n hx hb dX12_randomChecks_26 rfl (lv_at hl 1 rfl) ?_
      refine lv_icmp_ge (tgt := 111) hx hb dX12_randomChecks_27 (by decide) (fun q27 => ?_) (fun q27 => ?_)
      · have h := ifT h q27
        refine lv_iload hx hb dX12_randomChecks_111 (lv_at hl 3 rfl) ?_
        have h : some (v6, M_word, M_size, M_number) = some (r, M_word_o, M_size_o, M_number_o) := h
        cases h
        exact hret _ _ _ _ hP hD hS dX12_randomChecks_113
      have h := ifF h q27
      refine lv_lload hx hb dX12_randomChecks_30 (lv_at hl 2 rfl) ?_
      refine lv_ldc2 (v := (6364136223846793005 : Int64)) hx hb hown (hts _ wd6_60) dX12_randomChecks_32 ?_
      refine lv_lmul hx hb dX12_randomChecks_35 ?_
      refine lv_ldc2 (v := (1442695040888963407 : Int64)) hx hb hown (hts _ wd6_61) dX12_randomChecks_36 ?_
      refine lv_ladd hx hb dX12_randomChecks_39 ?_
      refine lv_topl (fun t40 et40 => ?_)
      have h := st_to h et40
      refine lv_lstore (lv' := [(4, .long t40), (0, .ref aM), (3, .int x3), (6, .int v6), (7, .int v7)]) hx hb dX12_randomChecks_40 hl (by decide) rfl (fun ls hl => ?_)
      refine lv_lload hx hb dX12_randomChecks_42 (lv_at hl 0 rfl) ?_
      refine lv_bipush (v := (33 : Int32)) hx hb dX12_randomChecks_44 (by decide) ?_
      refine lv_lushr (v := (ushrL t40 (33 : Int32))) hx hb dX12_randomChecks_46 rfl ?_
      refine lv_l2i (v := (Int64.toInt32 (ushrL t40 (33 : Int32)))) hx hb dX12_randomChecks_47 rfl ?_
      refine lv_topi (fun t48 et48 => ?_)
      have h := st_to h et48
      refine lv_istore (lv' := [(8, .int t48), (4, .long t40), (0, .ref aM), (3, .int x3), (6, .int v6), (7, .int v7)]) hx hb dX12_randomChecks_48 hl (by decide) rfl (fun ls hl => ?_)
      refine lv_iconst (v := (0 : Int32)) hx hb dX12_randomChecks_50 (by decide) ?_
      refine lv_istore (lv' := [(9, .int (0 : Int32)), (8, .int t48), (4, .long t40), (0, .ref aM), (3, .int x3), (6, .int v6), (7, .int v7)]) hx hb dX12_randomChecks_51 hl (by decide) rfl (fun ls hl => ?_)
      exact L53 FU M_word M_size M_number t40 v6 v7 t48 (0 : Int32) ls H locs (lv_sub hl [3, 4, 2, 5, 6, 1, 0] rfl) hP hD hS h
  have hl : lv_has ls 10 [(0, .ref aM), (1, .long x1), (3, .int x3)] := hl
  obtain ⟨H, hH⟩ : ∃ H, H = s.heap := ⟨_, rfl⟩
  obtain ⟨locs, hlocs⟩ : ∃ l : List Loc, l = [] := ⟨_, rfl⟩
  rw [show W p l e rmX12_randomChecks s m ([.ref aM, .long x1, .int x3] : List Value).toArray below meth c s.heap [] 0 0 QQ (F0 m 0 ls []) = W p l e rmX12_randomChecks s m ([.ref aM, .long x1, .int x3] : List Value).toArray below meth c H locs 0 0 QQ (F0 m 0 ls []) by rw [hH, hlocs]]
  have hP : va_P g.1 vwCl (wX12 g aM aM_text aM_now aM_trial aM_read aM_diary aM_kept aM_isKept aM_constraint aM_readConstraint aM_word aM_size aM_number aM_firstOne aM_node aM_parent aM_rule aM_child aM_proof aM_witness aM_witnessSize aM_built aM_copyRow M_length M_acts M_next M_many M_readMany M_found M_shortest M_nodes M_solved M_dropped M_fits M_proofSize M_tooLong M_text M_now M_trial M_read M_diary M_kept M_isKept M_constraint M_readConstraint M_word M_size M_number M_firstOne M_node M_parent M_rule M_child M_proof M_witness M_witnessSize M_built M_copyRow) H := by rw [hH]; exact hP
  have hD : va_D A (wX12 g aM aM_text aM_now aM_trial aM_read aM_diary aM_kept aM_isKept aM_constraint aM_readConstraint aM_word aM_size aM_number aM_firstOne aM_node aM_parent aM_rule aM_child aM_proof aM_witness aM_witnessSize aM_built aM_copyRow M_length M_acts M_next M_many M_readMany M_found M_shortest M_nodes M_solved M_dropped M_fits M_proofSize M_tooLong M_text M_now M_trial M_read M_diary M_kept M_isKept M_constraint M_readConstraint M_word M_size M_number M_firstOne M_node M_parent M_rule M_child M_proof M_witness M_witnessSize M_built M_copyRow) := hD
  have hS : va_S A s.heap H locs := by rw [hH, hlocs]; exact hS
  clear hH hlocs
  refine lv_iload_n hx hb dX12_randomChecks_0 rfl (lv_at hl 2 rfl) ?_
  refine lv_i2l (v := (Int32.toInt64 x3)) hx hb dX12_randomChecks_1 rfl ?_
  refine lv_lconst (v := (1 : Int64)) hx hb dX12_randomChecks_2 (by decide) ?_
  refine lv_ldc2 (v := (200 : Int64)) hx hb hown (hts _ wd6_59) dX12_randomChecks_3 ?_
  obtain ⟨t6, hc6, h⟩ := bd1_to h
  refine go_0 (st1 := [.int t6]) (run_S (As := [.long (Int32.toInt64 x3), .long (1 : Int64), .long (200 : Int64)]) (rest := []) X hS (mX12_in g l  (Int32.toInt64 x3) (1 : Int64) (200 : Int64) t6 hc6) okX12_in wd5_67 ⟨Nat.le_of_ble_eq_true rfl, Nat.le_of_ble_eq_true rfl⟩ ⟨rfl, rfl⟩ nil_P nil_D (nil_F hS hA) rfl hl.1 rfl (Nat.le_of_ble_eq_true rfl) dX12_randomChecks_6 ⟨Nat.zero_le _, Nat.zero_le _⟩) hS hA hP rfl (fun H locs hP hS => ?_)
  refine lv_if_ne (tgt := 15) hx hb dX12_randomChecks_9 (by decide) (fun q9 => ?_) (fun q9 => ?_)
  · have h := ifF h q9
    refine lv_lload_n hx hb dX12_randomChecks_15 rfl (lv_at hl 1 rfl) ?_
    refine lv_lstore (lv' := [(4, .long x1), (0, .ref aM), (1, .long x1), (3, .int x3)]) hx hb dX12_randomChecks_16 hl (by decide) rfl (fun ls hl => ?_)
    refine lv_iconst (v := (0 : Int32)) hx hb dX12_randomChecks_18 (by decide) ?_
    refine lv_istore (lv' := [(6, .int (0 : Int32)), (4, .long x1), (0, .ref aM), (1, .long x1), (3, .int x3)]) hx hb dX12_randomChecks_19 hl (by decide) rfl (fun ls hl => ?_)
    refine lv_iconst (v := (0 : Int32)) hx hb dX12_randomChecks_21 (by decide) ?_
    refine lv_istore (lv' := [(7, .int (0 : Int32)), (6, .int (0 : Int32)), (4, .long x1), (0, .ref aM), (1, .long x1), (3, .int x3)]) hx hb dX12_randomChecks_22 hl (by decide) rfl (fun ls hl => ?_)
    exact L24 FU M_word M_size M_number x1 (0 : Int32) (0 : Int32) ls H locs (lv_sub hl [3, 5, 2, 1, 0] rfl) hP hD hS h
  have h := ifT h q9
  refine lv_bipush (v := ((-2) : Int32)) hx hb dX12_randomChecks_12 (by decide) ?_
  have h : some (((-2) : Int32), M_word, M_size, M_number) = some (r, M_word_o, M_size_o, M_number_o) := h
  cases h
  exact hret _ _ _ _ hP hD hS dX12_randomChecks_14
