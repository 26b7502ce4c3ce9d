set_option maxHeartbeats 4000000 in
set_option maxRecDepth 100000 in
theorem mX12_substitute (g : GP) (l : Launch) (aM aM_text aM_now aM_trial aM_read aM_diary aM_kept aM_isKept aM_constraint aM_readConstraint aM_word aM_size aM_number aM_firstOne aM_node aM_parent aM_rule aM_child aM_proof aM_witness aM_witnessSize aM_built aM_copyRow : Nat) (M_length : Int32) (M_acts : Int32) (M_next : Int32) (M_many : Int32) (M_readMany : Int32) (M_found : Int32) (M_shortest : Int32) (M_nodes : Int32) (M_solved : Int32) (M_dropped : Int32) (M_fits : Int32) (M_proofSize : Int32) (M_tooLong : Int32) (M_text : Nat → Int32) (M_now : Nat → Int32) (M_trial : Nat → Int32) (M_read : Nat → Int32) (M_diary : Nat → Int32) (M_kept : Nat → Int32) (M_isKept : Nat → Int32) (M_constraint : Nat → Int32) (M_readConstraint : Nat → Int32) (M_word : Nat → Int32) (M_size : Nat → Int32) (M_number : Nat → Int32) (M_firstOne : Nat → Int32) (M_node : Nat → Int32) (M_parent : Nat → Int32) (M_rule : Nat → Int32) (M_child : Nat → Int32) (M_proof : Nat → Int32) (M_witness : Nat → Int32) (M_witnessSize : Nat → Int32) (M_built : Nat → Int32) (M_copyRow : Nat → Int32) (x1 : Int32) (r : Int32) (M_acts_o : Int32) (M_next_o : Int32) (M_now_o : Nat → Int32) (M_trial_o : Nat → Int32) (M_diary_o : Nat → Int32) (h : fM_substitute M_length M_acts M_next M_text M_now M_trial M_diary x1 = some (r, M_acts_o, M_next_o, M_now_o, M_trial_o, M_diary_o)) : Ct g l yX12_substitute cX12_substitute 9 (some .int) rmX12_substitute [.ref aM, .int x1] (wX12 g aM aM_text aM_now aM_trial aM_read aM_diary aM_kept aM_isKept aM_constraint aM_readConstraint aM_word aM_size aM_number aM_firstOne aM_node aM_parent aM_rule aM_child aM_proof aM_witness aM_witnessSize aM_built aM_copyRow M_length M_acts M_next M_many M_readMany M_found M_shortest M_nodes M_solved M_dropped M_fits M_proofSize M_tooLong M_text M_now M_trial M_read M_diary M_kept M_isKept M_constraint M_readConstraint M_word M_size M_number M_firstOne M_node M_parent M_rule M_child M_proof M_witness M_witnessSize M_built M_copyRow) (some (.int r)) (wX12 g aM aM_text aM_now aM_trial aM_read aM_diary aM_kept aM_isKept aM_constraint aM_readConstraint aM_word aM_size aM_number aM_firstOne aM_node aM_parent aM_rule aM_child aM_proof aM_witness aM_witnessSize aM_built aM_copyRow M_length M_acts_o M_next_o M_many M_readMany M_found M_shortest M_nodes M_solved M_dropped M_fits M_proofSize M_tooLong M_text M_now_o M_trial_o M_read M_diary_o M_kept M_isKept M_constraint M_readConstraint M_word M_size M_number M_firstOne M_node M_parent M_rule M_child M_proof M_witness M_witnessSize M_built M_copyRow) := by
  refine Ct.introI (by decide) (Nat.le_of_ble_eq_true rfl) ?_
  intro p e s m below meth c A QQ ls hyp hret
  obtain ⟨hx, hb, hml, hts, hown, hA, hE, hP, hD, hl⟩ := hyp
  have hK := hE.1
  have hS : va_S A s.heap s.heap [] := va_S.rf
  have X : Here g p s m c cX12_substitute 9 ([.ref aM, .int x1] : List Value).toArray RX12 A := ⟨⟨hx, hb, hml, hown, hts⟩, hE, hA⟩
  have L67 : ∀ (n67 : Nat), ∀ (M_acts : Int32) (M_next : Int32) (M_now : Nat → Int32) (M_trial : Nat → Int32) (M_diary : Nat → Int32) (v2 : Int32) (v3 : Int32) (ls : Array Slot) (H : Heap) (locs : List Loc), lv_has ls 9 [(0, .ref aM), (1, .int x1), (2, .int v2), (3, .int v3)] → va_P g.1 vwCl (wX12 g aM aM_text aM_now aM_trial aM_read aM_diary aM_kept aM_isKept aM_constraint aM_readConstraint aM_word aM_size aM_number aM_firstOne aM_node aM_parent aM_rule aM_child aM_proof aM_witness aM_witnessSize aM_built aM_copyRow M_length M_acts M_next M_many M_readMany M_found M_shortest M_nodes M_solved M_dropped M_fits M_proofSize M_tooLong M_text M_now M_trial M_read M_diary M_kept M_isKept M_constraint M_readConstraint M_word M_size M_number M_firstOne M_node M_parent M_rule M_child M_proof M_witness M_witnessSize M_built M_copyRow) H → va_D A (wX12 g aM aM_text aM_now aM_trial aM_read aM_diary aM_kept aM_isKept aM_constraint aM_readConstraint aM_word aM_size aM_number aM_firstOne aM_node aM_parent aM_rule aM_child aM_proof aM_witness aM_witnessSize aM_built aM_copyRow M_length M_acts M_next M_many M_readMany M_found M_shortest M_nodes M_solved M_dropped M_fits M_proofSize M_tooLong M_text M_now M_trial M_read M_diary M_kept M_isKept M_constraint M_readConstraint M_word M_size M_number M_firstOne M_node M_parent M_rule M_child M_proof M_witness M_witnessSize M_built M_copyRow) → va_S A s.heap H locs → fx3 (fM_substitute_67 M_length M_acts M_next M_text M_now M_diary x1) n67 M_trial v2 v3 = some (r, M_acts_o, M_next_o, M_now_o, M_trial_o, M_diary_o) → W p l e rmX12_substitute s m ([.ref aM, .int x1] : List Value).toArray below meth c H locs 0 0 QQ (F0 m 67 ls []) := by
    intro n67
    induction n67 with
    | zero => intro M_acts M_next M_now M_trial M_diary v2 v3 ls H locs hl hP hD hS h; exact fx3_0 h
    | succ n67 ih67 =>
      intro M_acts M_next M_now M_trial M_diary v2 v3 ls H locs hl hP hD hS h
      have h := (fx3_s (fM_substitute_67 M_length M_acts M_next M_text M_now M_diary x1) n67 M_trial v2 v3).symm.trans h
      have L117 : ∀ (n117 : Nat), ∀ (M_trial : Nat → Int32) (v2 : Int32) (v3 : Int32) (v5 : Int32) (ls : Array Slot) (H : Heap) (locs : List Loc), lv_has ls 9 [(0, .ref aM), (1, .int x1), (2, .int v2), (3, .int v3), (5, .int v5)] → va_P g.1 vwCl (wX12 g aM aM_text aM_now aM_trial aM_read aM_diary aM_kept aM_isKept aM_constraint aM_readConstraint aM_word aM_size aM_number aM_firstOne aM_node aM_parent aM_rule aM_child aM_proof aM_witness aM_witnessSize aM_built aM_copyRow M_length M_acts M_next M_many M_readMany M_found M_shortest M_nodes M_solved M_dropped M_fits M_proofSize M_tooLong M_text M_now M_trial M_read M_diary M_kept M_isKept M_constraint M_readConstraint M_word M_size M_number M_firstOne M_node M_parent M_rule M_child M_proof M_witness M_witnessSize M_built M_copyRow) H → va_D A (wX12 g aM aM_text aM_now aM_trial aM_read aM_diary aM_kept aM_isKept aM_constraint aM_readConstraint aM_word aM_size aM_number aM_firstOne aM_node aM_parent aM_rule aM_child aM_proof aM_witness aM_witnessSize aM_built aM_copyRow M_length M_acts M_next M_many M_readMany M_found M_shortest M_nodes M_solved M_dropped M_fits M_proofSize M_tooLong M_text M_now M_trial M_read M_diary M_kept M_isKept M_constraint M_readConstraint M_word M_size M_number M_firstOne M_node M_parent M_rule M_child M_proof M_witness M_witnessSize M_built M_copyRow) → va_S A s.heap H locs → fx2 (fM_substitute_117 (fx3 (fM_substitute_67 M_length M_acts M_next M_text M_now M_diary x1) n67) M_length M_acts M_next M_text M_now M_diary x1 v2 v3) n117 M_trial v5 = some (r, M_acts_o, M_next_o, M_now_o, M_trial_o, M_diary_o) → W p l e rmX12_substitute s m ([.ref aM, .int x1] : List Value).toArray below meth c H locs 0 0 QQ (F0 m 117 ls []) := by
        intro n117
        induction n117 with
        | zero => intro M_trial v2 v3 v5 ls H locs hl hP hD hS h; exact fx2_0 h
        | succ n117 ih117 =>
          intro M_trial v2 v3 v5 ls H locs hl hP hD hS h
          have h := (fx2_s (fM_substitute_117 (fx3 (fM_substitute_67 M_length M_acts M_next M_text M_now M_diary x1) n67) M_length M_acts M_next M_text M_now M_diary x1 v2 v3) n117 M_trial v5).symm.trans h
          have L159 : ∀ (n159 : Nat), ∀ (M_trial : Nat → Int32) (v5 : Int32) (v6 : Int32) (v7 : Int32) (v8 : Int32) (ls : Array Slot) (H : Heap) (locs : List Loc), lv_has ls 9 [(0, .ref aM), (1, .int x1), (2, .int v2), (3, .int v3), (5, .int v5), (6, .int v6), (7, .int v7), (8, .int v8)] → va_P g.1 vwCl (wX12 g aM aM_text aM_now aM_trial aM_read aM_diary aM_kept aM_isKept aM_constraint aM_readConstraint aM_word aM_size aM_number aM_firstOne aM_node aM_parent aM_rule aM_child aM_proof aM_witness aM_witnessSize aM_built aM_copyRow M_length M_acts M_next M_many M_readMany M_found M_shortest M_nodes M_solved M_dropped M_fits M_proofSize M_tooLong M_text M_now M_trial M_read M_diary M_kept M_isKept M_constraint M_readConstraint M_word M_size M_number M_firstOne M_node M_parent M_rule M_child M_proof M_witness M_witnessSize M_built M_copyRow) H → va_D A (wX12 g aM aM_text aM_now aM_trial aM_read aM_diary aM_kept aM_isKept aM_constraint aM_readConstraint aM_word aM_size aM_number aM_firstOne aM_node aM_parent aM_rule aM_child aM_proof aM_witness aM_witnessSize aM_built aM_copyRow M_length M_acts M_next M_many M_readMany M_found M_shortest M_nodes M_solved M_dropped M_fits M_proofSize M_tooLong M_text M_now M_trial M_read M_diary M_kept M_isKept M_constraint M_readConstraint M_word M_size M_number M_firstOne M_node M_parent M_rule M_child M_proof M_witness M_witnessSize M_built M_copyRow) → va_S A s.heap H locs → fx2 (fM_substitute_159 (fx3 (fM_substitute_67 M_length M_acts M_next M_text M_now M_diary x1) n67) (fx2 (fM_substitute_117 (fx3 (fM_substitute_67 M_length M_acts M_next M_text M_now M_diary x1) n67) M_length M_acts M_next M_text M_now M_diary x1 v2 v3) n117) M_length M_acts M_next M_text M_now M_diary x1 v2 v3 v5 v6 v7) n159 M_trial v8 = some (r, M_acts_o, M_next_o, M_now_o, M_trial_o, M_diary_o) → W p l e rmX12_substitute s m ([.ref aM, .int x1] : List Value).toArray below meth c H locs 0 0 QQ (F0 m 159 ls []) := by
            intro n159
            induction n159 with
            | zero => intro M_trial v5 v6 v7 v8 ls H locs hl hP hD hS h; exact fx2_0 h
            | succ n159 ih159 =>
              intro M_trial v5 v6 v7 v8 ls H locs hl hP hD hS h
              have h := (fx2_s (fM_substitute_159 (fx3 (fM_substitute_67 M_length M_acts M_next M_text M_now M_diary x1) n67) (fx2 (fM_substitute_117 (fx3 (fM_substitute_67 M_length M_acts M_next M_text M_now M_diary x1) n67) M_length M_acts M_next M_text M_now M_diary x1 v2 v3) n117) M_length M_acts M_next M_text M_now M_diary x1 v2 v3 v5 v6 v7) n159 M_trial v8).symm.trans h
              have B211 : ∀ (M_trial : Nat → Int32) (v8 : Int32) (s1 : Int32) (s2 : Int32) (ls : Array Slot) (H : Heap) (locs : List Loc), lv_has ls 9 [(0, .ref aM), (1, .int x1), (2, .int v2), (3, .int v3), (5, .int v5), (6, .int v6), (7, .int v7), (8, .int v8)] → va_P g.1 vwCl (wX12 g aM aM_text aM_now aM_trial aM_read aM_diary aM_kept aM_isKept aM_constraint aM_readConstraint aM_word aM_size aM_number aM_firstOne aM_node aM_parent aM_rule aM_child aM_proof aM_witness aM_witnessSize aM_built aM_copyRow M_length M_acts M_next M_many M_readMany M_found M_shortest M_nodes M_solved M_dropped M_fits M_proofSize M_tooLong M_text M_now M_trial M_read M_diary M_kept M_isKept M_constraint M_readConstraint M_word M_size M_number M_firstOne M_node M_parent M_rule M_child M_proof M_witness M_witnessSize M_built M_copyRow) H → va_D A (wX12 g aM aM_text aM_now aM_trial aM_read aM_diary aM_kept aM_isKept aM_constraint aM_readConstraint aM_word aM_size aM_number aM_firstOne aM_node aM_parent aM_rule aM_child aM_proof aM_witness aM_witnessSize aM_built aM_copyRow M_length M_acts M_next M_many M_readMany M_found M_shortest M_nodes M_solved M_dropped M_fits M_proofSize M_tooLong M_text M_now M_trial M_read M_diary M_kept M_isKept M_constraint M_readConstraint M_word M_size M_number M_firstOne M_node M_parent M_rule M_child M_proof M_witness M_witnessSize M_built M_copyRow) → va_S A s.heap H locs → fM_substitute_211 (fx3 (fM_substitute_67 M_length M_acts M_next M_text M_now M_diary x1) n67) (fx2 (fM_substitute_117 (fx3 (fM_substitute_67 M_length M_acts M_next M_text M_now M_diary x1) n67) M_length M_acts M_next M_text M_now M_diary x1 v2 v3) n117) (fx2 (fM_substitute_159 (fx3 (fM_substitute_67 M_length M_acts M_next M_text M_now M_diary x1) n67) (fx2 (fM_substitute_117 (fx3 (fM_substitute_67 M_length M_acts M_next M_text M_now M_diary x1) n67) M_length M_acts M_next M_text M_now M_diary x1 v2 v3) n117) M_length M_acts M_next M_text M_now M_diary x1 v2 v3 v5 v6 v7) n159) M_length M_acts M_next M_text M_now M_trial M_diary x1 v2 v3 v5 v6 v7 v8 s1 s2 = some (r, M_acts_o, M_next_o, M_now_o, M_trial_o, M_diary_o) → W p l e rmX12_substitute s m ([.ref aM, .int x1] : List Value).toArray below meth c H locs 0 0 QQ (F0 m 211 ls [.int s2, .int s1, .ref aM_trial]) := by
                intro M_trial v8 s1 s2 ls H locs hl hP hD hS h
                have hin := sti_in h
                refine va_iast hx hb hK hP hD hS 3 0 rfl rfl hin dX12_substitute_211 (fun H locs hP hD hS => ?_)
                obtain ⟨M_trial_211, eM_trial_211⟩ : ∃ y : Nat → Int32, y = upd M_trial (Int32.toNatClampNeg s1) s2 := ⟨_, rfl⟩
                have h := sti_to h eM_trial_211
                have hP : va_P g.1 vwCl (wX12 g aM aM_text aM_now aM_trial aM_read aM_diary aM_kept aM_isKept aM_constraint aM_readConstraint aM_word aM_size aM_number aM_firstOne aM_node aM_parent aM_rule aM_child aM_proof aM_witness aM_witnessSize aM_built aM_copyRow M_length M_acts M_next M_many M_readMany M_found M_shortest M_nodes M_solved M_dropped M_fits M_proofSize M_tooLong M_text M_now M_trial_211 M_read M_diary M_kept M_isKept M_constraint M_readConstraint M_word M_size M_number M_firstOne M_node M_parent M_rule M_child M_proof M_witness M_witnessSize M_built M_copyRow) H := by rw [eM_trial_211]; exact hP
                have hD : va_D A (wX12 g aM aM_text aM_now aM_trial aM_read aM_diary aM_kept aM_isKept aM_constraint aM_readConstraint aM_word aM_size aM_number aM_firstOne aM_node aM_parent aM_rule aM_child aM_proof aM_witness aM_witnessSize aM_built aM_copyRow M_length M_acts M_next M_many M_readMany M_found M_shortest M_nodes M_solved M_dropped M_fits M_proofSize M_tooLong M_text M_now M_trial_211 M_read M_diary M_kept M_isKept M_constraint M_readConstraint M_word M_size M_number M_firstOne M_node M_parent M_rule M_child M_proof M_witness M_witnessSize M_built M_copyRow) := by rw [eM_trial_211]; exact hD
                refine lv_aload_n hx hb dX12_substitute_212 rfl (lv_at hl 0 rfl) ?_
                refine va_get (D := g.1) (ci := 11) (v := .ref aM_trial) (C := RX12) (T := TX12) (N := 35) hx hb hts inBX12 hown hK hP 0 rfl rfl 3 (by decide) (hts _ wd4_199) (fun _ h9 => h9) rfl dX12_substitute_213 ?_
                refine lv_iload_n hx hb dX12_substitute_216 rfl (lv_at hl 3 rfl) ?_
                refine lv_dup2_11 hx hb dX12_substitute_217 rfl rfl ?_
                have hin := ld_in h
                refine va_iald hx hb hK hP 3 0 rfl rfl hin dX12_substitute_218 ?_
                refine lv_topi (fun t218 et218 => ?_)
                have h := ld_to h et218
                refine lv_iconst (v := (1 : Int32)) hx hb dX12_substitute_219 (by decide) ?_
                refine lv_iadd hx hb dX12_substitute_220 ?_
                have hin := sti_in h
                refine va_iast hx hb hK hP hD hS 3 0 rfl rfl hin dX12_substitute_221 (fun H locs hP hD hS => ?_)
                obtain ⟨M_trial_221, eM_trial_221⟩ : ∃ y : Nat → Int32, y = upd M_trial_211 (Int32.toNatClampNeg v3) (t218 + (1 : Int32)) := ⟨_, rfl⟩
                have h := sti_to h eM_trial_221
                have hP : va_P g.1 vwCl (wX12 g aM aM_text aM_now aM_trial aM_read aM_diary aM_kept aM_isKept aM_constraint aM_readConstraint aM_word aM_size aM_number aM_firstOne aM_node aM_parent aM_rule aM_child aM_proof aM_witness aM_witnessSize aM_built aM_copyRow M_length M_acts M_next M_many M_readMany M_found M_shortest M_nodes M_solved M_dropped M_fits M_proofSize M_tooLong M_text M_now M_trial_221 M_read M_diary M_kept M_isKept M_constraint M_readConstraint M_word M_size M_number M_firstOne M_node M_parent M_rule M_child M_proof M_witness M_witnessSize M_built M_copyRow) H := by rw [eM_trial_221]; exact hP
                have hD : va_D A (wX12 g aM aM_text aM_now aM_trial aM_read aM_diary aM_kept aM_isKept aM_constraint aM_readConstraint aM_word aM_size aM_number aM_firstOne aM_node aM_parent aM_rule aM_child aM_proof aM_witness aM_witnessSize aM_built aM_copyRow M_length M_acts M_next M_many M_readMany M_found M_shortest M_nodes M_solved M_dropped M_fits M_proofSize M_tooLong M_text M_now M_trial_221 M_read M_diary M_kept M_isKept M_constraint M_readConstraint M_word M_size M_number M_firstOne M_node M_parent M_rule M_child M_proof M_witness M_witnessSize M_built M_copyRow) := by rw [eM_trial_221]; exact hD
                obtain ⟨t222, et222⟩ : ∃ y : Int32, y = v8 + (1 : Int32) := ⟨_, rfl⟩
                refine lv_iinc (v := t222) (lv' := [(8, .int t222), (0, .ref aM), (1, .int x1), (2, .int v2), (3, .int v3), (5, .int v5), (6, .int v6), (7, .int v7)]) hx hb dX12_substitute_222 hl (k := 7) rfl (by rw [et222]; rfl) (by decide) rfl (fun ls hl => ?_)
                have h := st_to h et222
                refine lv_goto (tgt := 159) hx hb dX12_substitute_225 (by decide) ?_
                exact ih159 M_trial_221 v5 v6 v7 t222 ls H locs (lv_sub hl [1, 2, 3, 4, 5, 6, 7, 0] rfl) hP hD hS h
              have B174 : ∀ (M_trial : Nat → Int32) (v8 : Int32) (s0 : Int32) (s1 : Int32) (ls : Array Slot) (H : Heap) (locs : List Loc), lv_has ls 9 [(0, .ref aM), (1, .int x1), (2, .int v2), (3, .int v3), (5, .int v5), (6, .int v6), (7, .int v7), (8, .int v8)] → va_P g.1 vwCl (wX12 g aM aM_text aM_now aM_trial aM_read aM_diary aM_kept aM_isKept aM_constraint aM_readConstraint aM_word aM_size aM_number aM_firstOne aM_node aM_parent aM_rule aM_child aM_proof aM_witness aM_witnessSize aM_built aM_copyRow M_length M_acts M_next M_many M_readMany M_found M_shortest M_nodes M_solved M_dropped M_fits M_proofSize M_tooLong M_text M_now M_trial M_read M_diary M_kept M_isKept M_constraint M_readConstraint M_word M_size M_number M_firstOne M_node M_parent M_rule M_child M_proof M_witness M_witnessSize M_built M_copyRow) H → va_D A (wX12 g aM aM_text aM_now aM_trial aM_read aM_diary aM_kept aM_isKept aM_constraint aM_readConstraint aM_word aM_size aM_number aM_firstOne aM_node aM_parent aM_rule aM_child aM_proof aM_witness aM_witnessSize aM_built aM_copyRow M_length M_acts M_next M_many M_readMany M_found M_shortest M_nodes M_solved M_dropped M_fits M_proofSize M_tooLong M_text M_now M_trial M_read M_diary M_kept M_isKept M_constraint M_readConstraint M_word M_size M_number M_firstOne M_node M_parent M_rule M_child M_proof M_witness M_witnessSize M_built M_copyRow) → va_S A s.heap H locs → fM_substitute_174 (fx3 (fM_substitute_67 M_length M_acts M_next M_text M_now M_diary x1) n67) (fx2 (fM_substitute_117 (fx3 (fM_substitute_67 M_length M_acts M_next M_text M_now M_diary x1) n67) M_length M_acts M_next M_text M_now M_diary x1 v2 v3) n117) (fx2 (fM_substitute_159 (fx3 (fM_substitute_67 M_length M_acts M_next M_text M_now M_diary x1) n67) (fx2 (fM_substitute_117 (fx3 (fM_substitute_67 M_length M_acts M_next M_text M_now M_diary x1) n67) M_length M_acts M_next M_text M_now M_diary x1 v2 v3) n117) M_length M_acts M_next M_text M_now M_diary x1 v2 v3 v5 v6 v7) n159) M_length M_acts M_next M_text M_now M_trial M_diary x1 v2 v3 v5 v6 v7 v8 s0 s1 = some (r, M_acts_o, M_next_o, M_now_o, M_trial_o, M_diary_o) → W p l e rmX12_substitute s m ([.ref aM, .int x1] : List Value).toArray below meth c H locs 0 0 QQ (F0 m 174 ls [.int s1, .int s0]) := by
                intro M_trial v8 s0 s1 ls H locs hl hP hD hS h
                refine lv_icmp_ge (tgt := 228) hx hb dX12_substitute_174 (by decide) (fun q174 => ?_) (fun q174 => ?_)
                · have h := ifT h q174
                  obtain ⟨t228, et228⟩ : ∃ y : Int32, y = v5 + (1 : Int32) := ⟨_, rfl⟩
                  refine lv_iinc (v := t228) (lv' := [(5, .int t228), (0, .ref aM), (1, .int x1), (2, .int v2), (3, .int v3), (6, .int v6), (7, .int v7), (8, .int v8)]) hx hb dX12_substitute_228 hl (k := 4) rfl (by rw [et228]; rfl) (by decide) rfl (fun ls hl => ?_)
                  have h := st_to h et228
                  refine lv_goto (tgt := 117) hx hb dX12_substitute_231 (by decide) ?_
                  exact ih117 M_trial v2 v3 t228 ls H locs (lv_sub hl [1, 2, 3, 4, 0] rfl) hP hD hS h
                have h := ifF h q174
                refine lv_aload_n hx hb dX12_substitute_177 rfl (lv_at hl 0 rfl) ?_
                refine va_get (D := g.1) (ci := 11) (v := .ref aM_trial) (C := RX12) (T := TX12) (N := 35) hx hb hts inBX12 hown hK hP 0 rfl rfl 3 (by decide) (hts _ wd4_199) (fun _ h9 => h9) rfl dX12_substitute_178 ?_
                refine lv_iload_n hx hb dX12_substitute_181 rfl (lv_at hl 3 rfl) ?_
                refine lv_aload_n hx hb dX12_substitute_182 rfl (lv_at hl 0 rfl) ?_
                refine va_get (D := g.1) (ci := 11) (v := .ref aM_trial) (C := RX12) (T := TX12) (N := 35) hx hb hts inBX12 hown hK hP 0 rfl rfl 3 (by decide) (hts _ wd4_199) (fun _ h9 => h9) rfl dX12_substitute_183 ?_
                refine lv_iload_n hx hb dX12_substitute_186 rfl (lv_at hl 3 rfl) ?_
                have hin := ld_in h
                refine va_iald hx hb hK hP 3 0 rfl rfl hin dX12_substitute_187 ?_
                refine lv_topi (fun t187 et187 => ?_)
                have h := ld_to h et187
                obtain ⟨t188, hc188, h⟩ := bd1_to h
                refine go_0 (st1 := [.int t188, .ref aM_trial]) (run_S (As := [.int v3, .int t187]) (rest := [.ref aM_trial]) X hS (mX12_at g l  v3 t187 t188 hc188) okX12_at wd5_87 ⟨Nat.le_of_ble_eq_true rfl, Nat.le_of_ble_eq_true rfl⟩ ⟨rfl, rfl⟩ nil_P nil_D (nil_F hS hA) rfl hl.1 rfl (Nat.le_of_ble_eq_true rfl) dX12_substitute_188 ⟨Nat.zero_le _, Nat.zero_le _⟩) hS hA hP rfl (fun H locs hP hS => ?_)
                refine lv_iload hx hb dX12_substitute_191 (lv_at hl 6 rfl) ?_
                refine lv_if_eq (tgt := 209) hx hb dX12_substitute_193 (by decide) (fun q193 => ?_) (fun q193 => ?_)
                · have h := ifT h q193
                  refine lv_iload hx hb dX12_substitute_209 (lv_at hl 5 rfl) ?_
                  exact B211 M_trial v8 t188 v6 ls H locs (lv_sub hl [0, 1, 2, 3, 4, 5, 6, 7] rfl) hP hD hS h
                have h := ifF h q193
                refine lv_aload_n hx hb dX12_substitute_196 rfl (lv_at hl 0 rfl) ?_
                refine va_get (D := g.1) (ci := 11) (v := .ref aM_text) (C := RX12) (T := TX12) (N := 35) hx hb hts inBX12 hown hK hP 0 rfl rfl 0 (by decide) (hts _ wd4_196) (fun _ h9 => h9) rfl dX12_substitute_197 ?_
                refine lv_iload hx hb dX12_substitute_200 (lv_at hl 7 rfl) ?_
                have hin := ld_in h
                refine va_iald hx hb hK hP 1 0 rfl rfl hin dX12_substitute_202 ?_
                refine lv_topi (fun t202 et202 => ?_)
                have h := ld_to h et202
                obtain ⟨t203, hc203, h⟩ := bd1_to h
                refine go_0 (st1 := [.int t203, .int t188, .ref aM_trial]) (run_S (As := [.int t202]) (rest := [.int t188, .ref aM_trial]) X hS (mX12_symbolOf g l  t202 t203 hc203) okX12_symbolOf wd5_82 ⟨Nat.le_of_ble_eq_true rfl, Nat.le_of_ble_eq_true rfl⟩ ⟨rfl, rfl⟩ nil_P nil_D (nil_F hS hA) rfl hl.1 rfl (Nat.le_of_ble_eq_true rfl) dX12_substitute_203 ⟨Nat.zero_le _, Nat.zero_le _⟩) hS hA hP rfl (fun H locs hP hS => ?_)
                refine lv_goto (tgt := 211) hx hb dX12_substitute_206 (by decide) ?_
                exact B211 M_trial v8 t188 t203 ls H locs (lv_sub hl [0, 1, 2, 3, 4, 5, 6, 7] rfl) hP hD hS h
              refine lv_iload hx hb dX12_substitute_159 (lv_at hl 7 rfl) ?_
              refine lv_iload hx hb dX12_substitute_161 (lv_at hl 6 rfl) ?_
              refine lv_if_eq (tgt := 173) hx hb dX12_substitute_163 (by decide) (fun q163 => ?_) (fun q163 => ?_)
              · have h := ifT h q163
                refine lv_iconst (v := (1 : Int32)) hx hb dX12_substitute_173 (by decide) ?_
                exact B174 M_trial v8 v8 (1 : Int32) ls H locs (lv_sub hl [0, 1, 2, 3, 4, 5, 6, 7] rfl) hP hD hS h
              have h := ifF h q163
              refine lv_aload_n hx hb dX12_substitute_166 rfl (lv_at hl 0 rfl) ?_
              refine va_get (D := g.1) (ci := 11) (v := .int M_length) (C := RX12) (T := TX12) (N := 35) hx hb hts inBX12 hown hK hP 0 rfl rfl 1 (by decide) (hts _ wd4_197) (fun _ h9 => h9) rfl dX12_substitute_167 ?_
              refine lv_goto (tgt := 174) hx hb dX12_substitute_170 (by decide) ?_
              exact B174 M_trial v8 v8 M_length ls H locs (lv_sub hl [0, 1, 2, 3, 4, 5, 6, 7] rfl) hP hD hS h
          refine lv_iload hx hb dX12_substitute_117 (lv_at hl 4 rfl) ?_
          refine lv_aload_n hx hb dX12_substitute_119 rfl (lv_at hl 0 rfl) ?_
          refine va_get (D := g.1) (ci := 11) (v := .ref aM_now) (C := RX12) (T := TX12) (N := 35) hx hb hts inBX12 hown hK hP 0 rfl rfl 2 (by decide) (hts _ wd4_198) (fun _ h9 => h9) rfl dX12_substitute_120 ?_
          refine lv_iload_n hx hb dX12_substitute_123 rfl (lv_at hl 3 rfl) ?_
          have hin := ld_in h
          refine va_iald hx hb hK hP 2 0 rfl rfl hin dX12_substitute_124 ?_
          refine lv_topi (fun t124 et124 => ?_)
          have h := ld_to h et124
          refine lv_icmp_ge (tgt := 234) hx hb dX12_substitute_125 (by decide) (fun q125 => ?_) (fun q125 => ?_)
          · have h := ifT h q125
            obtain ⟨t234, et234⟩ : ∃ y : Int32, y = v3 + (1 : Int32) := ⟨_, rfl⟩
            refine lv_iinc (v := t234) (lv' := [(3, .int t234), (0, .ref aM), (1, .int x1), (2, .int v2), (5, .int v5)]) hx hb dX12_substitute_234 hl (k := 3) rfl (by rw [et234]; rfl) (by decide) rfl (fun ls hl => ?_)
            have h := st_to h et234
            refine lv_goto (tgt := 67) hx hb dX12_substitute_237 (by decide) ?_
            exact ih67 M_acts M_next M_now M_trial M_diary v2 t234 ls H locs (lv_sub hl [1, 2, 3, 0] rfl) hP hD hS h
          have h := ifF h q125
          refine lv_aload_n hx hb dX12_substitute_128 rfl (lv_at hl 0 rfl) ?_
          refine va_get (D := g.1) (ci := 11) (v := .ref aM_now) (C := RX12) (T := TX12) (N := 35) hx hb hts inBX12 hown hK hP 0 rfl rfl 2 (by decide) (hts _ wd4_198) (fun _ h9 => h9) rfl dX12_substitute_129 ?_
          refine lv_iload_n hx hb dX12_substitute_132 rfl (lv_at hl 3 rfl) ?_
          refine lv_iload hx hb dX12_substitute_133 (lv_at hl 4 rfl) ?_
          obtain ⟨t135, hc135, h⟩ := bd1_to h
          refine go_0 (st1 := [.int t135, .ref aM_now]) (run_S (As := [.int v3, .int v5]) (rest := [.ref aM_now]) X hS (mX12_at g l  v3 v5 t135 hc135) okX12_at wd5_87 ⟨Nat.le_of_ble_eq_true rfl, Nat.le_of_ble_eq_true rfl⟩ ⟨rfl, rfl⟩ nil_P nil_D (nil_F hS hA) rfl hl.1 rfl (Nat.le_of_ble_eq_true rfl) dX12_substitute_135 ⟨Nat.zero_le _, Nat.zero_le _⟩) hS hA hP rfl (fun H locs hP hS => ?_)
          have hin := ld_in h
          refine va_iald hx hb hK hP 2 0 rfl rfl hin dX12_substitute_138 ?_
          refine lv_topi (fun t138 et138 => ?_)
          have h := ld_to h et138
          refine lv_istore (lv' := [(6, .int t138), (0, .ref aM), (1, .int x1), (2, .int v2), (3, .int v3), (5, .int v5)]) hx hb dX12_substitute_139 hl (by decide) rfl (fun ls hl => ?_)
          refine lv_iload hx hb dX12_substitute_141 (lv_at hl 0 rfl) ?_
          refine lv_iload_n hx hb dX12_substitute_143 rfl (lv_at hl 2 rfl) ?_
          refine lv_iconst (v := (2 : Int32)) hx hb dX12_substitute_144 (by decide) ?_
          refine lv_iadd hx hb dX12_substitute_145 ?_
          refine lv_icmp_ne (tgt := 153) hx hb dX12_substitute_146 (by decide) (fun q146 => ?_) (fun q146 => ?_)
          · have h := ifF h q146
            refine lv_iconst (v := (0 : Int32)) hx hb dX12_substitute_153 (by decide) ?_
            refine lv_istore (lv' := [(7, .int (0 : Int32)), (6, .int t138), (0, .ref aM), (1, .int x1), (2, .int v2), (3, .int v3), (5, .int v5)]) hx hb dX12_substitute_154 hl (by decide) rfl (fun ls hl => ?_)
            refine lv_iconst (v := (0 : Int32)) hx hb dX12_substitute_156 (by decide) ?_
            refine lv_istore (lv' := [(8, .int (0 : Int32)), (7, .int (0 : Int32)), (6, .int t138), (0, .ref aM), (1, .int x1), (2, .int v2), (3, .int v3), (5, .int v5)]) hx hb dX12_substitute_157 hl (by decide) rfl (fun ls hl => ?_)
            exact L159 FU M_trial v5 t138 (0 : Int32) (0 : Int32) ls H locs (lv_sub hl [3, 4, 5, 6, 7, 2, 1, 0] rfl) hP hD hS h
          have h := ifT h q146
          refine lv_iconst (v := (1 : Int32)) hx hb dX12_substitute_149 (by decide) ?_
          refine lv_goto (tgt := 154) hx hb dX12_substitute_150 (by decide) ?_
          refine lv_istore (lv' := [(7, .int (1 : Int32)), (6, .int t138), (0, .ref aM), (1, .int x1), (2, .int v2), (3, .int v3), (5, .int v5)]) hx hb dX12_substitute_154 hl (by decide) rfl (fun ls hl => ?_)
          refine lv_iconst (v := (0 : Int32)) hx hb dX12_substitute_156 (by decide) ?_
          refine lv_istore (lv' := [(8, .int (0 : Int32)), (7, .int (1 : Int32)), (6, .int t138), (0, .ref aM), (1, .int x1), (2, .int v2), (3, .int v3), (5, .int v5)]) hx hb dX12_substitute_157 hl (by decide) rfl (fun ls hl => ?_)
          exact L159 FU M_trial v5 t138 (1 : Int32) (0 : Int32) ls H locs (lv_sub hl [3, 4, 5, 6, 7, 2, 1, 0] rfl) hP hD hS h
      refine lv_iload_n hx hb dX12_substitute_67 rfl (lv_at hl 3 rfl) ?_
      refine lv_iconst (v := (2 : Int32)) hx hb dX12_substitute_68 (by decide) ?_
      refine lv_icmp_ge (tgt := 240) hx hb dX12_substitute_69 (by decide) (fun q69 => ?_) (fun q69 => ?_)
      · have h := ifT h q69
        refine lv_aload_n hx hb dX12_substitute_240 rfl (lv_at hl 0 rfl) ?_
        obtain ⟨M_acts_241, M_next_241, M_diary_241, hc241, h⟩ := bd3_to h
        refine go_A (st1 := []) (run_V (As := []) (rest := []) X hS (mX12_note g l  aM aM_text aM_now aM_trial aM_read aM_diary aM_kept aM_isKept aM_constraint aM_readConstraint aM_word aM_size aM_number aM_firstOne aM_node aM_parent aM_rule aM_child aM_proof aM_witness aM_witnessSize aM_built aM_copyRow M_length M_acts M_next M_many M_readMany M_found M_shortest M_nodes M_solved M_dropped M_fits M_proofSize M_tooLong M_text M_now M_trial M_read M_diary M_kept M_isKept M_constraint M_readConstraint M_word M_size M_number M_firstOne M_node M_parent M_rule M_child M_proof M_witness M_witnessSize M_built M_copyRow M_acts_241 M_next_241 M_diary_241 hc241) okX12_note wd5_131 ⟨Nat.le_of_ble_eq_true rfl, Nat.le_of_ble_eq_true rfl⟩ ⟨rfl, rfl⟩ (va_recv hK hP (ci := 11) (q0 := 0) rfl rfl) hP hD (all_F hS hA hD) rfl hl.1 rfl (Nat.le_of_ble_eq_true rfl) dX12_substitute_241 ⟨Nat.zero_le _, Nat.zero_le _⟩) hS (all_F hS hA hD) rfl (fun H locs hP hD hS => ?_)
        refine lv_aload_n hx hb dX12_substitute_244 rfl (lv_at hl 0 rfl) ?_
        refine va_get (D := g.1) (ci := 11) (v := .ref aM_trial) (C := RX12) (T := TX12) (N := 35) hx hb hts inBX12 hown hK hP 0 rfl rfl 3 (by decide) (hts _ wd4_199) (fun _ h9 => h9) rfl dX12_substitute_245 ?_
        refine lv_aload_n hx hb dX12_substitute_248 rfl (lv_at hl 0 rfl) ?_
        refine va_get (D := g.1) (ci := 11) (v := .ref aM_now) (C := RX12) (T := TX12) (N := 35) hx hb hts inBX12 hown hK hP 0 rfl rfl 2 (by decide) (hts _ wd4_198) (fun _ h9 => h9) rfl dX12_substitute_249 ?_
        obtain ⟨M_now_252, hc252, h⟩ := bd1_to h
        refine go_P (st1 := []) (W1 := (wX12 g aM aM_text aM_now aM_trial aM_read aM_diary aM_kept aM_isKept aM_constraint aM_readConstraint aM_word aM_size aM_number aM_firstOne aM_node aM_parent aM_rule aM_child aM_proof aM_witness aM_witnessSize aM_built aM_copyRow M_length M_acts_241 M_next_241 M_many M_readMany M_found M_shortest M_nodes M_solved M_dropped M_fits M_proofSize M_tooLong M_text M_now_252 M_trial M_read M_diary_241 M_kept M_isKept M_constraint M_readConstraint M_word M_size M_number M_firstOne M_node M_parent M_rule M_child M_proof M_witness M_witnessSize M_built M_copyRow)) (run_S (As := [.ref aM_trial, .ref aM_now]) (rest := []) X hS (mX12_copy g l  aM_trial aM_now M_trial M_now M_now_252 hc252) okX12_copy wd5_102 ⟨Nat.le_of_ble_eq_true rfl, Nat.le_of_ble_eq_true rfl⟩ ⟨rfl, rfl⟩ (sub_P hP [3, 2] rfl) (hD.sub [3, 2] (by decide) rfl) (va_free hD hS hA [3, 2] rfl) rfl hl.1 rfl (Nat.le_of_ble_eq_true rfl) dX12_substitute_252 ⟨Nat.zero_le _, Nat.zero_le _⟩) hS (va_free hD hS hA [3, 2] rfl) hP hD [3, 2] [0, 1, 4, 5, 6, 7, 8, 9, 10, 11, 12, 13, 14, 15, 16, 17, 18, 19, 20, 21, 22] [0, 1, 22, 21, 2, 3, 4, 5, 6, 7, 8, 9, 10, 11, 12, 13, 14, 15, 16, 17, 18, 19, 20] rfl rfl (by decide) (by decide) rfl (by decide) rfl (fun H locs hP hD hS => ?_)
        refine lv_iload_n hx hb dX12_substitute_255 rfl (lv_at hl 2 rfl) ?_
        have h : some (v2, M_acts_241, M_next_241, M_now_252, M_trial, M_diary_241) = some (r, M_acts_o, M_next_o, M_now_o, M_trial_o, M_diary_o) := h
        cases h
        exact hret _ _ _ _ hP hD hS dX12_substitute_256
      have h := ifF h q69
      refine lv_aload_n hx hb dX12_substitute_72 rfl (lv_at hl 0 rfl) ?_
      refine va_get (D := g.1) (ci := 11) (v := .ref aM_now) (C := RX12) (T := TX12) (N := 35) hx hb hts inBX12 hown hK hP 0 rfl rfl 2 (by decide) (hts _ wd4_198) (fun _ h9 => h9) rfl dX12_substitute_73 ?_
      refine lv_iload_n hx hb dX12_substitute_76 rfl (lv_at hl 3 rfl) ?_
      refine lv_iload_n hx hb dX12_substitute_77 rfl (lv_at hl 1 rfl) ?_
      refine lv_iconst (v := (2 : Int32)) hx hb dX12_substitute_78 (by decide) ?_
      refine lv_iadd hx hb dX12_substitute_79 ?_
      obtain ⟨t80, hc80, h⟩ := bd1_to h
      refine go_P (st1 := [.int t80]) (W1 := (wX12 g aM aM_text aM_now aM_trial aM_read aM_diary aM_kept aM_isKept aM_constraint aM_readConstraint aM_word aM_size aM_number aM_firstOne aM_node aM_parent aM_rule aM_child aM_proof aM_witness aM_witnessSize aM_built aM_copyRow M_length M_acts M_next M_many M_readMany M_found M_shortest M_nodes M_solved M_dropped M_fits M_proofSize M_tooLong M_text M_now M_trial M_read M_diary M_kept M_isKept M_constraint M_readConstraint M_word M_size M_number M_firstOne M_node M_parent M_rule M_child M_proof M_witness M_witnessSize M_built M_copyRow)) (run_S (As := [.ref aM_now, .int v3, .int (x1 + (2 : Int32))]) (rest := []) X hS (mX12_countOf g l  aM_now M_now v3 (x1 + (2 : Int32)) t80 hc80) okX12_countOf wd5_124 ⟨Nat.le_of_ble_eq_true rfl, Nat.le_of_ble_eq_true rfl⟩ ⟨rfl, rfl⟩ (sub_P hP [2] rfl) (hD.sub [2] (by decide) rfl) (va_free hD hS hA [2] rfl) rfl hl.1 rfl (Nat.le_of_ble_eq_true rfl) dX12_substitute_80 ⟨Nat.zero_le _, Nat.zero_le _⟩) hS (va_free hD hS hA [2] rfl) hP hD [2] [0, 1, 3, 4, 5, 6, 7, 8, 9, 10, 11, 12, 13, 14, 15, 16, 17, 18, 19, 20, 21, 22] [0, 1, 22, 2, 3, 4, 5, 6, 7, 8, 9, 10, 11, 12, 13, 14, 15, 16, 17, 18, 19, 20, 21] rfl rfl (by decide) (by decide) rfl (by decide) rfl (fun H locs hP hD hS => ?_)
      refine lv_istore (lv' := [(4, .int t80), (0, .ref aM), (1, .int x1), (2, .int v2), (3, .int v3)]) hx hb dX12_substitute_83 hl (by decide) rfl (fun ls hl => ?_)
      refine lv_aload_n hx hb dX12_substitute_85 rfl (lv_at hl 1 rfl) ?_
      refine va_get (D := g.1) (ci := 11) (v := .ref aM_now) (C := RX12) (T := TX12) (N := 35) hx hb hts inBX12 hown hK hP 0 rfl rfl 2 (by decide) (hts _ wd4_198) (fun _ h9 => h9) rfl dX12_substitute_86 ?_
      refine lv_iload_n hx hb dX12_substitute_89 rfl (lv_at hl 4 rfl) ?_
      have hin := ld_in h
      refine va_iald hx hb hK hP 2 0 rfl rfl hin dX12_substitute_90 ?_
      refine lv_topi (fun t90 et90 => ?_)
      have h := ld_to h et90
      refine lv_iload hx hb dX12_substitute_91 (lv_at hl 0 rfl) ?_
      refine lv_aload_n hx hb dX12_substitute_93 rfl (lv_at hl 1 rfl) ?_
      refine va_get (D := g.1) (ci := 11) (v := .int M_length) (C := RX12) (T := TX12) (N := 35) hx hb hts inBX12 hown hK hP 0 rfl rfl 1 (by decide) (hts _ wd4_197) (fun _ h9 => h9) rfl dX12_substitute_94 ?_
      refine lv_iconst (v := (1 : Int32)) hx hb dX12_substitute_97 (by decide) ?_
      refine lv_isub hx hb dX12_substitute_98 ?_
      refine lv_imul hx hb dX12_substitute_99 ?_
      refine lv_iadd hx hb dX12_substitute_100 ?_
      refine lv_bipush (v := (12 : Int32)) hx hb dX12_substitute_101 (by decide) ?_
      refine lv_icmp_le (tgt := 109) hx hb dX12_substitute_103 (by decide) (fun q103 => ?_) (fun q103 => ?_)
      · have h := ifT h q103
        refine lv_iload_n hx hb dX12_substitute_109 rfl (lv_at hl 3 rfl) ?_
        refine lv_iload hx hb dX12_substitute_110 (lv_at hl 0 rfl) ?_
        refine lv_iadd hx hb dX12_substitute_112 ?_
        refine lv_topi (fun t113 et113 => ?_)
        have h := st_to h et113
        refine lv_istore_n (lv' := [(2, .int t113), (4, .int t80), (0, .ref aM), (1, .int x1), (3, .int v3)]) hx hb dX12_substitute_113 rfl hl (by decide) rfl (fun ls hl => ?_)
        refine lv_iconst (v := (0 : Int32)) hx hb dX12_substitute_114 (by decide) ?_
        refine lv_istore (lv' := [(5, .int (0 : Int32)), (2, .int t113), (4, .int t80), (0, .ref aM), (1, .int x1), (3, .int v3)]) hx hb dX12_substitute_115 hl (by decide) rfl (fun ls hl => ?_)
        exact L117 FU M_trial t113 v3 (0 : Int32) ls H locs (lv_sub hl [3, 4, 1, 5, 0] rfl) hP hD hS h
      have h := ifF h q103
      refine lv_bipush (v := ((-4) : Int32)) hx hb dX12_substitute_106 (by decide) ?_
      have h : some (((-4) : Int32), M_acts, M_next, M_now, M_trial, M_diary) = some (r, M_acts_o, M_next_o, M_now_o, M_trial_o, M_diary_o) := h
      cases h
      exact hret _ _ _ _ hP hD hS dX12_substitute_108
  have L46 : ∀ (n46 : Nat), ∀ (M_acts : Int32) (M_next : Int32) (M_now : Nat → Int32) (M_trial : Nat → Int32) (M_diary : Nat → Int32) (v2 : Int32) (v3 : Int32) (ls : Array Slot) (H : Heap) (locs : List Loc), lv_has ls 9 [(0, .ref aM), (1, .int x1), (2, .int v2), (3, .int v3)] → va_P g.1 vwCl (wX12 g aM aM_text aM_now aM_trial aM_read aM_diary aM_kept aM_isKept aM_constraint aM_readConstraint aM_word aM_size aM_number aM_firstOne aM_node aM_parent aM_rule aM_child aM_proof aM_witness aM_witnessSize aM_built aM_copyRow M_length M_acts M_next M_many M_readMany M_found M_shortest M_nodes M_solved M_dropped M_fits M_proofSize M_tooLong M_text M_now M_trial M_read M_diary M_kept M_isKept M_constraint M_readConstraint M_word M_size M_number M_firstOne M_node M_parent M_rule M_child M_proof M_witness M_witnessSize M_built M_copyRow) H → va_D A (wX12 g aM aM_text aM_now aM_trial aM_read aM_diary aM_kept aM_isKept aM_constraint aM_readConstraint aM_word aM_size aM_number aM_firstOne aM_node aM_parent aM_rule aM_child aM_proof aM_witness aM_witnessSize aM_built aM_copyRow M_length M_acts M_next M_many M_readMany M_found M_shortest M_nodes M_solved M_dropped M_fits M_proofSize M_tooLong M_text M_now M_trial M_read M_diary M_kept M_isKept M_constraint M_readConstraint M_word M_size M_number M_firstOne M_node M_parent M_rule M_child M_proof M_witness M_witnessSize M_built M_copyRow) → va_S A s.heap H locs → fx2 (fM_substitute_46 M_length M_acts M_next M_text M_now M_diary x1 v2) n46 M_trial v3 = some (r, M_acts_o, M_next_o, M_now_o, M_trial_o, M_diary_o) → W p l e rmX12_substitute s m ([.ref aM, .int x1] : List Value).toArray below meth c H locs 0 0 QQ (F0 m 46 ls []) := by
    intro n46
    induction n46 with
    | zero => intro M_acts M_next M_now M_trial M_diary v2 v3 ls H locs hl hP hD hS h; exact fx2_0 h
    | succ n46 ih46 =>
      intro M_acts M_next M_now M_trial M_diary v2 v3 ls H locs hl hP hD hS h
      have h := (fx2_s (fM_substitute_46 M_length M_acts M_next M_text M_now M_diary x1 v2) n46 M_trial v3).symm.trans h
      refine lv_iload_n hx hb dX12_substitute_46 rfl (lv_at hl 3 rfl) ?_
      refine lv_bipush (v := (26 : Int32)) hx hb dX12_substitute_47 (by decide) ?_
      refine lv_icmp_ge (tgt := 65) hx hb dX12_substitute_49 (by decide) (fun q49 => ?_) (fun q49 => ?_)
      · have h := ifT h q49
        refine lv_iconst (v := (0 : Int32)) hx hb dX12_substitute_65 (by decide) ?_
        refine lv_istore_n (lv' := [(3, .int (0 : Int32)), (0, .ref aM), (1, .int x1), (2, .int v2)]) hx hb dX12_substitute_66 rfl hl (by decide) rfl (fun ls hl => ?_)
        exact L67 FU M_acts M_next M_now M_trial M_diary v2 (0 : Int32) ls H locs (lv_sub hl [1, 2, 3, 0] rfl) hP hD hS h
      have h := ifF h q49
      refine lv_aload_n hx hb dX12_substitute_52 rfl (lv_at hl 0 rfl) ?_
      refine va_get (D := g.1) (ci := 11) (v := .ref aM_trial) (C := RX12) (T := TX12) (N := 35) hx hb hts inBX12 hown hK hP 0 rfl rfl 3 (by decide) (hts _ wd4_199) (fun _ h9 => h9) rfl dX12_substitute_53 ?_
      refine lv_iload_n hx hb dX12_substitute_56 rfl (lv_at hl 3 rfl) ?_
      refine lv_iconst (v := (0 : Int32)) hx hb dX12_substitute_57 (by decide) ?_
      have hin := sti_in h
      refine va_iast hx hb hK hP hD hS 3 0 rfl rfl hin dX12_substitute_58 (fun H locs hP hD hS => ?_)
      obtain ⟨M_trial_58, eM_trial_58⟩ : ∃ y : Nat → Int32, y = upd M_trial (Int32.toNatClampNeg v3) (0 : Int32) := ⟨_, rfl⟩
      have h := sti_to h eM_trial_58
      have hP : va_P g.1 vwCl (wX12 g aM aM_text aM_now aM_trial aM_read aM_diary aM_kept aM_isKept aM_constraint aM_readConstraint aM_word aM_size aM_number aM_firstOne aM_node aM_parent aM_rule aM_child aM_proof aM_witness aM_witnessSize aM_built aM_copyRow M_length M_acts M_next M_many M_readMany M_found M_shortest M_nodes M_solved M_dropped M_fits M_proofSize M_tooLong M_text M_now M_trial_58 M_read M_diary M_kept M_isKept M_constraint M_readConstraint M_word M_size M_number M_firstOne M_node M_parent M_rule M_child M_proof M_witness M_witnessSize M_built M_copyRow) H := by rw [eM_trial_58]; exact hP
      have hD : va_D A (wX12 g aM aM_text aM_now aM_trial aM_read aM_diary aM_kept aM_isKept aM_constraint aM_readConstraint aM_word aM_size aM_number aM_firstOne aM_node aM_parent aM_rule aM_child aM_proof aM_witness aM_witnessSize aM_built aM_copyRow M_length M_acts M_next M_many M_readMany M_found M_shortest M_nodes M_solved M_dropped M_fits M_proofSize M_tooLong M_text M_now M_trial_58 M_read M_diary M_kept M_isKept M_constraint M_readConstraint M_word M_size M_number M_firstOne M_node M_parent M_rule M_child M_proof M_witness M_witnessSize M_built M_copyRow) := by rw [eM_trial_58]; exact hD
      obtain ⟨t59, et59⟩ : ∃ y : Int32, y = v3 + (1 : Int32) := ⟨_, rfl⟩
      refine lv_iinc (v := t59) (lv' := [(3, .int t59), (0, .ref aM), (1, .int x1), (2, .int v2)]) hx hb dX12_substitute_59 hl (k := 3) rfl (by rw [et59]; rfl) (by decide) rfl (fun ls hl => ?_)
      have h := st_to h et59
      refine lv_goto (tgt := 46) hx hb dX12_substitute_62 (by decide) ?_
      exact ih46 M_acts M_next M_now M_trial_58 M_diary v2 t59 ls H locs (lv_sub hl [1, 2, 3, 0] rfl) hP hD hS h
  have L11 : ∀ (n11 : Nat), ∀ (M_acts : Int32) (M_next : Int32) (M_now : Nat → Int32) (M_trial : Nat → Int32) (M_diary : Nat → Int32) (v2 : Int32) (ls : Array Slot) (H : Heap) (locs : List Loc), lv_has ls 9 [(0, .ref aM), (1, .int x1), (2, .int v2)] → va_P g.1 vwCl (wX12 g aM aM_text aM_now aM_trial aM_read aM_diary aM_kept aM_isKept aM_constraint aM_readConstraint aM_word aM_size aM_number aM_firstOne aM_node aM_parent aM_rule aM_child aM_proof aM_witness aM_witnessSize aM_built aM_copyRow M_length M_acts M_next M_many M_readMany M_found M_shortest M_nodes M_solved M_dropped M_fits M_proofSize M_tooLong M_text M_now M_trial M_read M_diary M_kept M_isKept M_constraint M_readConstraint M_word M_size M_number M_firstOne M_node M_parent M_rule M_child M_proof M_witness M_witnessSize M_built M_copyRow) H → va_D A (wX12 g aM aM_text aM_now aM_trial aM_read aM_diary aM_kept aM_isKept aM_constraint aM_readConstraint aM_word aM_size aM_number aM_firstOne aM_node aM_parent aM_rule aM_child aM_proof aM_witness aM_witnessSize aM_built aM_copyRow M_length M_acts M_next M_many M_readMany M_found M_shortest M_nodes M_solved M_dropped M_fits M_proofSize M_tooLong M_text M_now M_trial M_read M_diary M_kept M_isKept M_constraint M_readConstraint M_word M_size M_number M_firstOne M_node M_parent M_rule M_child M_proof M_witness M_witnessSize M_built M_copyRow) → va_S A s.heap H locs → fx1 (fM_substitute_11 M_length M_acts M_next M_text M_now M_trial M_diary x1) n11 v2 = some (r, M_acts_o, M_next_o, M_now_o, M_trial_o, M_diary_o) → W p l e rmX12_substitute s m ([.ref aM, .int x1] : List Value).toArray below meth c H locs 0 0 QQ (F0 m 11 ls []) := by
    intro n11
    induction n11 with
    | zero => intro M_acts M_next M_now M_trial M_diary v2 ls H locs hl hP hD hS h; exact fx1_0 h
    | succ n11 ih11 =>
      intro M_acts M_next M_now M_trial M_diary v2 ls H locs hl hP hD hS h
      have h := (fx1_s (fM_substitute_11 M_length M_acts M_next M_text M_now M_trial M_diary x1) n11 v2).symm.trans h
      refine lv_iload_n hx hb dX12_substitute_11 rfl (lv_at hl 2 rfl) ?_
      refine lv_aload_n hx hb dX12_substitute_12 rfl (lv_at hl 0 rfl) ?_
      refine va_get (D := g.1) (ci := 11) (v := .int M_length) (C := RX12) (T := TX12) (N := 35) hx hb hts inBX12 hown hK hP 0 rfl rfl 1 (by decide) (hts _ wd4_197) (fun _ h9 => h9) rfl dX12_substitute_13 ?_
      refine lv_icmp_ge (tgt := 42) hx hb dX12_substitute_16 (by decide) (fun q16 => ?_) (fun q16 => ?_)
      · have h := ifT h q16
        refine lv_iconst (v := (0 : Int32)) hx hb dX12_substitute_42 (by decide) ?_
        refine lv_istore_n (lv' := [(2, .int (0 : Int32)), (0, .ref aM), (1, .int x1)]) hx hb dX12_substitute_43 rfl hl (by decide) rfl (fun ls hl => ?_)
        refine lv_iconst (v := (0 : Int32)) hx hb dX12_substitute_44 (by decide) ?_
        refine lv_istore_n (lv' := [(3, .int (0 : Int32)), (2, .int (0 : Int32)), (0, .ref aM), (1, .int x1)]) hx hb dX12_substitute_45 rfl hl (by decide) rfl (fun ls hl => ?_)
        exact L46 FU M_acts M_next M_now M_trial M_diary (0 : Int32) (0 : Int32) ls H locs (lv_sub hl [2, 3, 1, 0] rfl) hP hD hS h
      have h := ifF h q16
      refine lv_aload_n hx hb dX12_substitute_19 rfl (lv_at hl 0 rfl) ?_
      refine va_get (D := g.1) (ci := 11) (v := .ref aM_text) (C := RX12) (T := TX12) (N := 35) hx hb hts inBX12 hown hK hP 0 rfl rfl 0 (by decide) (hts _ wd4_196) (fun _ h9 => h9) rfl dX12_substitute_20 ?_
      refine lv_iload_n hx hb dX12_substitute_23 rfl (lv_at hl 2 rfl) ?_
      have hin := ld_in h
      refine va_iald hx hb hK hP 1 0 rfl rfl hin dX12_substitute_24 ?_
      refine lv_topi (fun t24 et24 => ?_)
      have h := ld_to h et24
      obtain ⟨t25, hc25, h⟩ := bd1_to h
      refine go_0 (st1 := [.int t25]) (run_S (As := [.int t24]) (rest := []) X hS (mX12_symbolOf g l  t24 t25 hc25) okX12_symbolOf wd5_82 ⟨Nat.le_of_ble_eq_true rfl, Nat.le_of_ble_eq_true rfl⟩ ⟨rfl, rfl⟩ nil_P nil_D (nil_F hS hA) rfl hl.1 rfl (Nat.le_of_ble_eq_true rfl) dX12_substitute_25 ⟨Nat.zero_le _, Nat.zero_le _⟩) hS hA hP rfl (fun H locs hP hS => ?_)
      refine lv_bipush (v := ((-9) : Int32)) hx hb dX12_substitute_28 (by decide) ?_
      refine lv_icmp_ne (tgt := 36) hx hb dX12_substitute_30 (by decide) (fun q30 => ?_) (fun q30 => ?_)
      · have h := ifF h q30
        obtain ⟨t36, et36⟩ : ∃ y : Int32, y = v2 + (1 : Int32) := ⟨_, rfl⟩
        refine lv_iinc (v := t36) (lv' := [(2, .int t36), (0, .ref aM), (1, .int x1)]) hx hb dX12_substitute_36 hl (k := 2) rfl (by rw [et36]; rfl) (by decide) rfl (fun ls hl => ?_)
        have h := st_to h et36
        refine lv_goto (tgt := 11) hx hb dX12_substitute_39 (by decide) ?_
        exact ih11 M_acts M_next M_now M_trial M_diary t36 ls H locs (lv_sub hl [1, 2, 0] rfl) hP hD hS h
      have h := ifT h q30
      refine lv_bipush (v := ((-3) : Int32)) hx hb dX12_substitute_33 (by decide) ?_
      have h : some (((-3) : Int32), M_acts, M_next, M_now, M_trial, M_diary) = some (r, M_acts_o, M_next_o, M_now_o, M_trial_o, M_diary_o) := h
      cases h
      exact hret _ _ _ _ hP hD hS dX12_substitute_35
  have hl : lv_has ls 9 [(0, .ref aM), (1, .int x1)] := hl
  obtain ⟨H, hH⟩ : ∃ H, H = s.heap := ⟨_, rfl⟩
  obtain ⟨locs, hlocs⟩ : ∃ l : List Loc, l = [] := ⟨_, rfl⟩
  rw [show W p l e rmX12_substitute s m ([.ref aM, .int x1] : List Value).toArray below meth c s.heap [] 0 0 QQ (F0 m 0 ls []) = W p l e rmX12_substitute s m ([.ref aM, .int x1] : List Value).toArray below meth c H locs 0 0 QQ (F0 m 0 ls []) by rw [hH, hlocs]]
  have hP : va_P g.1 vwCl (wX12 g aM aM_text aM_now aM_trial aM_read aM_diary aM_kept aM_isKept aM_constraint aM_readConstraint aM_word aM_size aM_number aM_firstOne aM_node aM_parent aM_rule aM_child aM_proof aM_witness aM_witnessSize aM_built aM_copyRow M_length M_acts M_next M_many M_readMany M_found M_shortest M_nodes M_solved M_dropped M_fits M_proofSize M_tooLong M_text M_now M_trial M_read M_diary M_kept M_isKept M_constraint M_readConstraint M_word M_size M_number M_firstOne M_node M_parent M_rule M_child M_proof M_witness M_witnessSize M_built M_copyRow) H := by rw [hH]; exact hP
  have hD : va_D A (wX12 g aM aM_text aM_now aM_trial aM_read aM_diary aM_kept aM_isKept aM_constraint aM_readConstraint aM_word aM_size aM_number aM_firstOne aM_node aM_parent aM_rule aM_child aM_proof aM_witness aM_witnessSize aM_built aM_copyRow M_length M_acts M_next M_many M_readMany M_found M_shortest M_nodes M_solved M_dropped M_fits M_proofSize M_tooLong M_text M_now M_trial M_read M_diary M_kept M_isKept M_constraint M_readConstraint M_word M_size M_number M_firstOne M_node M_parent M_rule M_child M_proof M_witness M_witnessSize M_built M_copyRow) := hD
  have hS : va_S A s.heap H locs := by rw [hH, hlocs]; exact hS
  clear hH hlocs
  refine lv_iload_n hx hb dX12_substitute_0 rfl (lv_at hl 1 rfl) ?_
  obtain ⟨t1, hc1, h⟩ := bd1_to h
  refine go_0 (st1 := [.int t1]) (run_S (As := [.int x1]) (rest := []) X hS (mX12_isVariable g l  x1 t1 hc1) okX12_isVariable wd5_120 ⟨Nat.le_of_ble_eq_true rfl, Nat.le_of_ble_eq_true rfl⟩ ⟨rfl, rfl⟩ nil_P nil_D (nil_F hS hA) rfl hl.1 rfl (Nat.le_of_ble_eq_true rfl) dX12_substitute_1 ⟨Nat.zero_le _, Nat.zero_le _⟩) hS hA hP rfl (fun H locs hP hS => ?_)
  refine lv_if_ne (tgt := 9) hx hb dX12_substitute_4 (by decide) (fun q4 => ?_) (fun q4 => ?_)
  · have h := ifF h q4
    refine lv_iconst (v := (0 : Int32)) hx hb dX12_substitute_9 (by decide) ?_
    refine lv_istore_n (lv' := [(2, .int (0 : Int32)), (0, .ref aM), (1, .int x1)]) hx hb dX12_substitute_10 rfl hl (by decide) rfl (fun ls hl => ?_)
    exact L11 FU M_acts M_next M_now M_trial M_diary (0 : Int32) ls H locs (lv_sub hl [1, 2, 0] rfl) hP hD hS h
  have h := ifT h q4
  refine lv_iconst (v := ((-1) : Int32)) hx hb dX12_substitute_7 (by decide) ?_
  have h : some (((-1) : Int32), M_acts, M_next, M_now, M_trial, M_diary) = some (r, M_acts_o, M_next_o, M_now_o, M_trial_o, M_diary_o) := h
  cases h
  exact hret _ _ _ _ hP hD hS dX12_substitute_8
set_option maxHeartbeats 4000000 in
set_option maxRecDepth 100000 in
theorem mX12_undo (g : GP) (l : Launch) (aM aM_text aM_now aM_trial aM_read aM_diary aM_kept aM_isKept aM_constraint aM_readConstraint aM_word aM_size aM_number aM_firstOne aM_node aM_parent aM_rule aM_child aM_proof aM_witness aM_witnessSize aM_built aM_copyRow : Nat) (M_length : Int32) (M_acts : Int32) (M_next : Int32) (M_many : Int32) (M_readMany : Int32) (M_found : Int32) (M_shortest : Int32) (M_nodes : Int32) (M_solved : Int32) (M_dropped : Int32) (M_fits : Int32) (M_proofSize : Int32) (M_tooLong : Int32) (M_text : Nat → Int32) (M_now : Nat → Int32) (M_trial : Nat → Int32) (M_read : Nat → Int32) (M_diary : Nat → Int32) (M_kept : Nat → Int32) (M_isKept : Nat → Int32) (M_constraint : Nat → Int32) (M_readConstraint : Nat → Int32) (M_word : Nat → Int32) (M_size : Nat → Int32) (M_number : Nat → Int32) (M_firstOne : Nat → Int32) (M_node : Nat → Int32) (M_parent : Nat → Int32) (M_rule : Nat → Int32) (M_child : Nat → Int32) (M_proof : Nat → Int32) (M_witness : Nat → Int32) (M_witnessSize : Nat → Int32) (M_built : Nat → Int32) (M_copyRow : Nat → Int32)  (r : Int32) (M_acts_o : Int32) (M_next_o : Int32) (M_now_o : Nat → Int32) (h : fM_undo M_acts M_next M_now M_diary = some (r, M_acts_o, M_next_o, M_now_o)) : Ct g l yX12_undo cX12_undo 2 (some .int) rmX12_undo [.ref aM] (wX12 g aM aM_text aM_now aM_trial aM_read aM_diary aM_kept aM_isKept aM_constraint aM_readConstraint aM_word aM_size aM_number aM_firstOne aM_node aM_parent aM_rule aM_child aM_proof aM_witness aM_witnessSize aM_built aM_copyRow M_length M_acts M_next M_many M_readMany M_found M_shortest M_nodes M_solved M_dropped M_fits M_proofSize M_tooLong M_text M_now M_trial M_read M_diary M_kept M_isKept M_constraint M_readConstraint M_word M_size M_number M_firstOne M_node M_parent M_rule M_child M_proof M_witness M_witnessSize M_built M_copyRow) (some (.int r)) (wX12 g aM aM_text aM_now aM_trial aM_read aM_diary aM_kept aM_isKept aM_constraint aM_readConstraint aM_word aM_size aM_number aM_firstOne aM_node aM_parent aM_rule aM_child aM_proof aM_witness aM_witnessSize aM_built aM_copyRow M_length M_acts_o M_next_o M_many M_readMany M_found M_shortest M_nodes M_solved M_dropped M_fits M_proofSize M_tooLong M_text M_now_o M_trial M_read M_diary M_kept M_isKept M_constraint M_readConstraint M_word M_size M_number M_firstOne M_node M_parent M_rule M_child M_proof M_witness M_witnessSize M_built M_copyRow) := by
  refine Ct.introI (by decide) (Nat.le_of_ble_eq_true rfl) ?_
  intro p e s m below meth c A QQ ls hyp hret
  obtain ⟨hx, hb, hml, hts, hown, hA, hE, hP, hD, hl⟩ := hyp
  have hK := hE.1
  have hS : va_S A s.heap s.heap [] := va_S.rf
  have X : Here g p s m c cX12_undo 2 ([.ref aM] : List Value).toArray RX12 A := ⟨⟨hx, hb, hml, hown, hts⟩, hE, hA⟩
  have L38 : ∀ (n38 : Nat), ∀ (M_acts : Int32) (M_next : Int32) (M_now : Nat → Int32) (v1 : Int32) (ls : Array Slot) (H : Heap) (locs : List Loc), lv_has ls 2 [(0, .ref aM), (1, .int v1)] → va_P g.1 vwCl (wX12 g aM aM_text aM_now aM_trial aM_read aM_diary aM_kept aM_isKept aM_constraint aM_readConstraint aM_word aM_size aM_number aM_firstOne aM_node aM_parent aM_rule aM_child aM_proof aM_witness aM_witnessSize aM_built aM_copyRow M_length M_acts M_next M_many M_readMany M_found M_shortest M_nodes M_solved M_dropped M_fits M_proofSize M_tooLong M_text M_now M_trial M_read M_diary M_kept M_isKept M_constraint M_readConstraint M_word M_size M_number M_firstOne M_node M_parent M_rule M_child M_proof M_witness M_witnessSize M_built M_copyRow) H → va_D A (wX12 g aM aM_text aM_now aM_trial aM_read aM_diary aM_kept aM_isKept aM_constraint aM_readConstraint aM_word aM_size aM_number aM_firstOne aM_node aM_parent aM_rule aM_child aM_proof aM_witness aM_witnessSize aM_built aM_copyRow M_length M_acts M_next M_many M_readMany M_found M_shortest M_nodes M_solved M_dropped M_fits M_proofSize M_tooLong M_text M_now M_trial M_read M_diary M_kept M_isKept M_constraint M_readConstraint M_word M_size M_number M_firstOne M_node M_parent M_rule M_child M_proof M_witness M_witnessSize M_built M_copyRow) → va_S A s.heap H locs → fx2 (fM_undo_38 M_acts M_next M_diary) n38 M_now v1 = some (r, M_acts_o, M_next_o, M_now_o) → W p l e rmX12_undo s m ([.ref aM] : List Value).toArray below meth c H locs 0 0 QQ (F0 m 38 ls []) := by
    intro n38
    induction n38 with
    | zero => intro M_acts M_next M_now v1 ls H locs hl hP hD hS h; exact fx2_0 h
    | succ n38 ih38 =>
      intro M_acts M_next M_now v1 ls H locs hl hP hD hS h
      have h := (fx2_s (fM_undo_38 M_acts M_next M_diary) n38 M_now v1).symm.trans h
      refine lv_iload_n hx hb dX12_undo_38 rfl (lv_at hl 1 rfl) ?_
      refine lv_bipush (v := (26 : Int32)) hx hb dX12_undo_39 (by decide) ?_
      refine lv_icmp_ge (tgt := 70) hx hb dX12_undo_41 (by decide) (fun q41 => ?_) (fun q41 => ?_)
      · have h := ifT h q41
        refine lv_aload_n hx hb dX12_undo_70 rfl (lv_at hl 0 rfl) ?_
        refine va_get (D := g.1) (ci := 11) (v := .int M_acts) (C := RX12) (T := TX12) (N := 35) hx hb hts inBX12 hown hK hP 0 rfl rfl 6 (by decide) (hts _ wd4_202) (fun _ h9 => h9) rfl dX12_undo_71 ?_
        have h : some (M_acts, M_acts, M_next, M_now) = some (r, M_acts_o, M_next_o, M_now_o) := h
        cases h
        exact hret _ _ _ _ hP hD hS dX12_undo_74
      have h := ifF h q41
      refine lv_aload_n hx hb dX12_undo_44 rfl (lv_at hl 0 rfl) ?_
      refine va_get (D := g.1) (ci := 11) (v := .ref aM_now) (C := RX12) (T := TX12) (N := 35) hx hb hts inBX12 hown hK hP 0 rfl rfl 2 (by decide) (hts _ wd4_198) (fun _ h9 => h9) rfl dX12_undo_45 ?_
      refine lv_iload_n hx hb dX12_undo_48 rfl (lv_at hl 1 rfl) ?_
      refine lv_aload_n hx hb dX12_undo_49 rfl (lv_at hl 0 rfl) ?_
      refine va_get (D := g.1) (ci := 11) (v := .ref aM_diary) (C := RX12) (T := TX12) (N := 35) hx hb hts inBX12 hown hK hP 0 rfl rfl 5 (by decide) (hts _ wd4_201) (fun _ h9 => h9) rfl dX12_undo_50 ?_
      refine lv_bipush (v := (26 : Int32)) hx hb dX12_undo_53 (by decide) ?_
      refine lv_aload_n hx hb dX12_undo_55 rfl (lv_at hl 0 rfl) ?_
      refine va_get (D := g.1) (ci := 11) (v := .int M_next) (C := RX12) (T := TX12) (N := 35) hx hb hts inBX12 hown hK hP 0 rfl rfl 7 (by decide) (hts _ wd4_203) (fun _ h9 => h9) rfl dX12_undo_56 ?_
      refine lv_imul hx hb dX12_undo_59 ?_
      refine lv_iload_n hx hb dX12_undo_60 rfl (lv_at hl 1 rfl) ?_
      refine lv_iadd hx hb dX12_undo_61 ?_
      have hin := ld_in h
      refine va_iald hx hb hK hP 5 0 rfl rfl hin dX12_undo_62 ?_
      refine lv_topi (fun t62 et62 => ?_)
      have h := ld_to h et62
      have hin := sti_in h
      refine va_iast hx hb hK hP hD hS 2 0 rfl rfl hin dX12_undo_63 (fun H locs hP hD hS => ?_)
      obtain ⟨M_now_63, eM_now_63⟩ : ∃ y : Nat → Int32, y = upd M_now (Int32.toNatClampNeg v1) t62 := ⟨_, rfl⟩
      have h := sti_to h eM_now_63
      have hP : va_P g.1 vwCl (wX12 g aM aM_text aM_now aM_trial aM_read aM_diary aM_kept aM_isKept aM_constraint aM_readConstraint aM_word aM_size aM_number aM_firstOne aM_node aM_parent aM_rule aM_child aM_proof aM_witness aM_witnessSize aM_built aM_copyRow M_length M_acts M_next M_many M_readMany M_found M_shortest M_nodes M_solved M_dropped M_fits M_proofSize M_tooLong M_text M_now_63 M_trial M_read M_diary M_kept M_isKept M_constraint M_readConstraint M_word M_size M_number M_firstOne M_node M_parent M_rule M_child M_proof M_witness M_witnessSize M_built M_copyRow) H := by rw [eM_now_63]; exact hP
      have hD : va_D A (wX12 g aM aM_text aM_now aM_trial aM_read aM_diary aM_kept aM_isKept aM_constraint aM_readConstraint aM_word aM_size aM_number aM_firstOne aM_node aM_parent aM_rule aM_child aM_proof aM_witness aM_witnessSize aM_built aM_copyRow M_length M_acts M_next M_many M_readMany M_found M_shortest M_nodes M_solved M_dropped M_fits M_proofSize M_tooLong M_text M_now_63 M_trial M_read M_diary M_kept M_isKept M_constraint M_readConstraint M_word M_size M_number M_firstOne M_node M_parent M_rule M_child M_proof M_witness M_witnessSize M_built M_copyRow) := by rw [eM_now_63]; exact hD
      obtain ⟨t64, et64⟩ : ∃ y : Int32, y = v1 + (1 : Int32) := ⟨_, rfl⟩
      refine lv_iinc (v := t64) (lv' := [(1, .int t64), (0, .ref aM)]) hx hb dX12_undo_64 hl (k := 1) rfl (by rw [et64]; rfl) (by decide) rfl (fun ls hl => ?_)
      have h := st_to h et64
      refine lv_goto (tgt := 38) hx hb dX12_undo_67 (by decide) ?_
      exact ih38 M_acts M_next M_now_63 t64 ls H locs (lv_sub hl [1, 0] rfl) hP hD hS h
  have hl : lv_has ls 2 [(0, .ref aM)] := hl
  obtain ⟨H, hH⟩ : ∃ H, H = s.heap := ⟨_, rfl⟩
  obtain ⟨locs, hlocs⟩ : ∃ l : List Loc, l = [] := ⟨_, rfl⟩
  rw [show W p l e rmX12_undo s m ([.ref aM] : List Value).toArray below meth c s.heap [] 0 0 QQ (F0 m 0 ls []) = W p l e rmX12_undo s m ([.ref aM] : List Value).toArray below meth c H locs 0 0 QQ (F0 m 0 ls []) by rw [hH, hlocs]]
  have hP : va_P g.1 vwCl (wX12 g aM aM_text aM_now aM_trial aM_read aM_diary aM_kept aM_isKept aM_constraint aM_readConstraint aM_word aM_size aM_number aM_firstOne aM_node aM_parent aM_rule aM_child aM_proof aM_witness aM_witnessSize aM_built aM_copyRow M_length M_acts M_next M_many M_readMany M_found M_shortest M_nodes M_solved M_dropped M_fits M_proofSize M_tooLong M_text M_now M_trial M_read M_diary M_kept M_isKept M_constraint M_readConstraint M_word M_size M_number M_firstOne M_node M_parent M_rule M_child M_proof M_witness M_witnessSize M_built M_copyRow) H := by rw [hH]; exact hP
  have hD : va_D A (wX12 g aM aM_text aM_now aM_trial aM_read aM_diary aM_kept aM_isKept aM_constraint aM_readConstraint aM_word aM_size aM_number aM_firstOne aM_node aM_parent aM_rule aM_child aM_proof aM_witness aM_witnessSize aM_built aM_copyRow M_length M_acts M_next M_many M_readMany M_found M_shortest M_nodes M_solved M_dropped M_fits M_proofSize M_tooLong M_text M_now M_trial M_read M_diary M_kept M_isKept M_constraint M_readConstraint M_word M_size M_number M_firstOne M_node M_parent M_rule M_child M_proof M_witness M_witnessSize M_built M_copyRow) := hD
  have hS : va_S A s.heap H locs := by rw [hH, hlocs]; exact hS
  clear hH hlocs
  refine lv_aload_n hx hb dX12_undo_0 rfl (lv_at hl 0 rfl) ?_
  refine va_get (D := g.1) (ci := 11) (v := .int M_acts) (C := RX12) (T := TX12) (N := 35) hx hb hts inBX12 hown hK hP 0 rfl rfl 6 (by decide) (hts _ wd4_202) (fun _ h9 => h9) rfl dX12_undo_1 ?_
  refine lv_if_ne (tgt := 10) hx hb dX12_undo_4 (by decide) (fun q4 => ?_) (fun q4 => ?_)
  · have h := ifF h q4
    refine lv_aload_n hx hb dX12_undo_10 rfl (lv_at hl 0 rfl) ?_
    refine lv_dup hx hb dX12_undo_11 rfl ?_
    refine va_get (D := g.1) (ci := 11) (v := .int M_acts) (C := RX12) (T := TX12) (N := 35) hx hb hts inBX12 hown hK hP 0 rfl rfl 6 (by decide) (hts _ wd4_202) (fun _ h9 => h9) rfl dX12_undo_12 ?_
    refine lv_iconst (v := (1 : Int32)) hx hb dX12_undo_15 (by decide) ?_
    refine lv_isub hx hb dX12_undo_16 ?_
    refine lv_topi (fun t17 et17 => ?_)
    have h := st_to h et17
    refine va_put (D := g.1) (ci := 11) (v := .int t17) (ty := .int) (C := RX12) (T := TX12) (N := 35) hx hb hts inBX12 tyX12 tyX12_ok nmX12 hown hK hP hD hS 0 rfl rfl 6 (by decide) (hts _ wd4_202) (fun _ h9 => h9) rfl (tyX12_ok 6 (by decide)) rfl rfl (Nat.le_of_ble_eq_true rfl) dX12_undo_17 (fun H locs hP hD hS => ?_)
    have hP : va_P g.1 vwCl (wX12 g aM aM_text aM_now aM_trial aM_read aM_diary aM_kept aM_isKept aM_constraint aM_readConstraint aM_word aM_size aM_number aM_firstOne aM_node aM_parent aM_rule aM_child aM_proof aM_witness aM_witnessSize aM_built aM_copyRow M_length t17 M_next M_many M_readMany M_found M_shortest M_nodes M_solved M_dropped M_fits M_proofSize M_tooLong M_text M_now M_trial M_read M_diary M_kept M_isKept M_constraint M_readConstraint M_word M_size M_number M_firstOne M_node M_parent M_rule M_child M_proof M_witness M_witnessSize M_built M_copyRow) H := hP
    have hD : va_D A (wX12 g aM aM_text aM_now aM_trial aM_read aM_diary aM_kept aM_isKept aM_constraint aM_readConstraint aM_word aM_size aM_number aM_firstOne aM_node aM_parent aM_rule aM_child aM_proof aM_witness aM_witnessSize aM_built aM_copyRow M_length t17 M_next M_many M_readMany M_found M_shortest M_nodes M_solved M_dropped M_fits M_proofSize M_tooLong M_text M_now M_trial M_read M_diary M_kept M_isKept M_constraint M_readConstraint M_word M_size M_number M_firstOne M_node M_parent M_rule M_child M_proof M_witness M_witnessSize M_built M_copyRow) := hD
    refine lv_aload_n hx hb dX12_undo_20 rfl (lv_at hl 0 rfl) ?_
    refine lv_aload_n hx hb dX12_undo_21 rfl (lv_at hl 0 rfl) ?_
    refine va_get (D := g.1) (ci := 11) (v := .int M_next) (C := RX12) (T := TX12) (N := 35) hx hb hts inBX12 hown hK hP 0 rfl rfl 7 (by decide) (hts _ wd4_203) (fun _ h9 => h9) rfl dX12_undo_22 ?_
    refine lv_bipush (v := (14 : Int32)) hx hb dX12_undo_25 (by decide) ?_
    refine lv_iadd hx hb dX12_undo_27 ?_
    refine lv_iconst (v := (1 : Int32)) hx hb dX12_undo_28 (by decide) ?_
    refine lv_isub hx hb dX12_undo_29 ?_
    refine lv_bipush (v := (14 : Int32)) hx hb dX12_undo_30 (by decide) ?_
    refine lv_irem hx hb dX12_undo_32 (by decide) ?_
    refine lv_topi (fun t33 et33 => ?_)
    have h := st_to h et33
    refine va_put (D := g.1) (ci := 11) (v := .int t33) (ty := .int) (C := RX12) (T := TX12) (N := 35) hx hb hts inBX12 tyX12 tyX12_ok nmX12 hown hK hP hD hS 0 rfl rfl 7 (by decide) (hts _ wd4_203) (fun _ h9 => h9) rfl (tyX12_ok 7 (by decide)) rfl rfl (Nat.le_of_ble_eq_true rfl) dX12_undo_33 (fun H locs hP hD hS => ?_)
    have hP : va_P g.1 vwCl (wX12 g aM aM_text aM_now aM_trial aM_read aM_diary aM_kept aM_isKept aM_constraint aM_readConstraint aM_word aM_size aM_number aM_firstOne aM_node aM_parent aM_rule aM_child aM_proof aM_witness aM_witnessSize aM_built aM_copyRow M_length t17 t33 M_many M_readMany M_found M_shortest M_nodes M_solved M_dropped M_fits M_proofSize M_tooLong M_text M_now M_trial M_read M_diary M_kept M_isKept M_constraint M_readConstraint M_word M_size M_number M_firstOne M_node M_parent M_rule M_child M_proof M_witness M_witnessSize M_built M_copyRow) H := hP
    have hD : va_D A (wX12 g aM aM_text aM_now aM_trial aM_read aM_diary aM_kept aM_isKept aM_constraint aM_readConstraint aM_word aM_size aM_number aM_firstOne aM_node aM_parent aM_rule aM_child aM_proof aM_witness aM_witnessSize aM_built aM_copyRow M_length t17 t33 M_many M_readMany M_found M_shortest M_nodes M_solved M_dropped M_fits M_proofSize M_tooLong M_text M_now M_trial M_read M_diary M_kept M_isKept M_constraint M_readConstraint M_word M_size M_number M_firstOne M_node M_parent M_rule M_child M_proof M_witness M_witnessSize M_built M_copyRow) := hD
    refine lv_iconst (v := (0 : Int32)) hx hb dX12_undo_36 (by decide) ?_
    refine lv_istore_n (lv' := [(1, .int (0 : Int32)), (0, .ref aM)]) hx hb dX12_undo_37 rfl hl (by decide) rfl (fun ls hl => ?_)
    exact L38 FU t17 t33 M_now (0 : Int32) ls H locs (lv_sub hl [1, 0] rfl) hP hD hS h
  have h := ifT h q4
  refine lv_bipush (v := ((-3) : Int32)) hx hb dX12_undo_7 (by decide) ?_
  have h : some (((-3) : Int32), M_acts, M_next, M_now) = some (r, M_acts_o, M_next_o, M_now_o) := h
  cases h
  exact hret _ _ _ _ hP hD hS dX12_undo_9
set_option maxHeartbeats 4000000 in
set_option maxRecDepth 100000 in
theorem mX12_lengthOf (g : GP) (l : Launch)  (x0 : Int32) (r : Int32) (h : fM_lengthOf x0 = some r) : Ct g l yX12_lengthOf cX12_lengthOf 2 (some .int) rmX12_lengthOf [.int x0] [] (some (.int r)) [] := by
  refine Ct.introI (by decide) (Nat.le_of_ble_eq_true rfl) ?_
  intro p e s m below meth c A QQ ls hyp hret
  obtain ⟨hx, hb, hml, hts, hown, hA, hE, hP, hD, hl⟩ := hyp
  have hK := hE.1
  have hS : va_S A s.heap s.heap [] := va_S.rf
  have X : Here g p s m c cX12_lengthOf 2 ([.int x0] : List Value).toArray RX12 A := ⟨⟨hx, hb, hml, hown, hts⟩, hE, hA⟩
  have L2 : ∀ (n2 : Nat), ∀ (v1 : Int32) (ls : Array Slot) (H : Heap) (locs : List Loc), lv_has ls 2 [(0, .int x0), (1, .int v1)] → va_P g.1 vwCl [] H → va_D A [] → va_S A s.heap H locs → fx1 (fM_lengthOf_2 x0) n2 v1 = some r → W p l e rmX12_lengthOf s m ([.int x0] : List Value).toArray below meth c H locs 0 0 QQ (F0 m 2 ls []) := by
    intro n2
    induction n2 with
    | zero => intro v1 ls H locs hl hP hD hS h; exact fx1_0 h
    | succ n2 ih2 =>
      intro v1 ls H locs hl hP hD hS h
      have h := (fx1_s (fM_lengthOf_2 x0) n2 v1).symm.trans h
      refine lv_iconst (v := (2 : Int32)) hx hb dX12_lengthOf_2 (by decide) ?_
      refine lv_iload_n hx hb dX12_lengthOf_3 rfl (lv_at hl 1 rfl) ?_
      refine lv_ishl hx hb dX12_lengthOf_4 ?_
      refine lv_iconst (v := (1 : Int32)) hx hb dX12_lengthOf_5 (by decide) ?_
      refine lv_isub hx hb dX12_lengthOf_6 ?_
      refine lv_iload_n hx hb dX12_lengthOf_7 rfl (lv_at hl 0 rfl) ?_
      refine lv_icmp_gt (tgt := 17) hx hb dX12_lengthOf_8 (by decide) (fun q8 => ?_) (fun q8 => ?_)
      · have h := ifT h q8
        refine lv_iload_n hx hb dX12_lengthOf_17 rfl (lv_at hl 1 rfl) ?_
        have h : some v1 = some r := h
        cases h
        exact hret _ _ _ _ hP hD hS dX12_lengthOf_18
      have h := ifF h q8
      obtain ⟨t11, et11⟩ : ∃ y : Int32, y = v1 + (1 : Int32) := ⟨_, rfl⟩
      refine lv_iinc (v := t11) (lv' := [(1, .int t11), (0, .int x0)]) hx hb dX12_lengthOf_11 hl (k := 1) rfl (by rw [et11]; rfl) (by decide) rfl (fun ls hl => ?_)
      have h := st_to h et11
      refine lv_goto (tgt := 2) hx hb dX12_lengthOf_14 (by decide) ?_
      exact ih2 t11 ls H locs (lv_sub hl [1, 0] rfl) hP hD hS h
  have hl : lv_has ls 2 [(0, .int x0)] := hl
  obtain ⟨H, hH⟩ : ∃ H, H = s.heap := ⟨_, rfl⟩
  obtain ⟨locs, hlocs⟩ : ∃ l : List Loc, l = [] := ⟨_, rfl⟩
  rw [show W p l e rmX12_lengthOf s m ([.int x0] : List Value).toArray below meth c s.heap [] 0 0 QQ (F0 m 0 ls []) = W p l e rmX12_lengthOf s m ([.int x0] : List Value).toArray below meth c H locs 0 0 QQ (F0 m 0 ls []) by rw [hH, hlocs]]
  have hP : va_P g.1 vwCl [] H := by rw [hH]; exact hP
  have hD : va_D A [] := hD
  have hS : va_S A s.heap H locs := by rw [hH, hlocs]; exact hS
  clear hH hlocs
  refine lv_iconst (v := (0 : Int32)) hx hb dX12_lengthOf_0 (by decide) ?_
  refine lv_istore_n (lv' := [(1, .int (0 : Int32)), (0, .int x0)]) hx hb dX12_lengthOf_1 rfl hl (by decide) rfl (fun ls hl => ?_)
  exact L2 FU (0 : Int32) ls H locs (lv_sub hl [1, 0] rfl) hP hD hS h
set_option maxHeartbeats 4000000 in
set_option maxRecDepth 100000 in
theorem mX12_holds (g : GP) (l : Launch) (aM aM_text aM_now aM_trial aM_read aM_diary aM_kept aM_isKept aM_constraint aM_readConstraint aM_word aM_size aM_number aM_firstOne aM_node aM_parent aM_rule aM_child aM_proof aM_witness aM_witnessSize aM_built aM_copyRow : Nat) (M_length : Int32) (M_acts : Int32) (M_next : Int32) (M_many : Int32) (M_readMany : Int32) (M_found : Int32) (M_shortest : Int32) (M_nodes : Int32) (M_solved : Int32) (M_dropped : Int32) (M_fits : Int32) (M_proofSize : Int32) (M_tooLong : Int32) (M_text : Nat → Int32) (M_now : Nat → Int32) (M_trial : Nat → Int32) (M_read : Nat → Int32) (M_diary : Nat → Int32) (M_kept : Nat → Int32) (M_isKept : Nat → Int32) (M_constraint : Nat → Int32) (M_readConstraint : Nat → Int32) (M_word : Nat → Int32) (M_size : Nat → Int32) (M_number : Nat → Int32) (M_firstOne : Nat → Int32) (M_node : Nat → Int32) (M_parent : Nat → Int32) (M_rule : Nat → Int32) (M_child : Nat → Int32) (M_proof : Nat → Int32) (M_witness : Nat → Int32) (M_witnessSize : Nat → Int32) (M_built : Nat → Int32) (M_copyRow : Nat → Int32) (x1 : Int32) (x2 : Int32) (r : Int32) (h : fM_holds M_many M_constraint x1 x2 = some r) : Ct g l yX12_holds cX12_holds 8 (some .boolean) rmX12_holds [.ref aM, .int x1, .int x2] (wX12 g aM aM_text aM_now aM_trial aM_read aM_diary aM_kept aM_isKept aM_constraint aM_readConstraint aM_word aM_size aM_number aM_firstOne aM_node aM_parent aM_rule aM_child aM_proof aM_witness aM_witnessSize aM_built aM_copyRow M_length M_acts M_next M_many M_readMany M_found M_shortest M_nodes M_solved M_dropped M_fits M_proofSize M_tooLong M_text M_now M_trial M_read M_diary M_kept M_isKept M_constraint M_readConstraint M_word M_size M_number M_firstOne M_node M_parent M_rule M_child M_proof M_witness M_witnessSize M_built M_copyRow) (some (.int r)) (wX12 g aM aM_text aM_now aM_trial aM_read aM_diary aM_kept aM_isKept aM_constraint aM_readConstraint aM_word aM_size aM_number aM_firstOne aM_node aM_parent aM_rule aM_child aM_proof aM_witness aM_witnessSize aM_built aM_copyRow M_length M_acts M_next M_many M_readMany M_found M_shortest M_nodes M_solved M_dropped M_fits M_proofSize M_tooLong M_text M_now M_trial M_read M_diary M_kept M_isKept M_constraint M_readConstraint M_word M_size M_number M_firstOne M_node M_parent M_rule M_child M_proof M_witness M_witnessSize M_built M_copyRow) := by
  refine Ct.introZ (by decide) (Nat.le_of_ble_eq_true rfl) ?_
  intro p e s m below meth c A QQ ls hyp hret
  obtain ⟨hx, hb, hml, hts, hown, hA, hE, hP, hD, hl⟩ := hyp
  have hK := hE.1
  have hS : va_S A s.heap s.heap [] := va_S.rf
  have X : Here g p s m c cX12_holds 8 ([.ref aM, .int x1, .int x2] : List Value).toArray RX12 A := ⟨⟨hx, hb, hml, hown, hts⟩, hE, hA⟩
  have L5 : ∀ (n5 : Nat), ∀ (v3 : Int32) (v4 : Int32) (ls : Array Slot) (H : Heap) (locs : List Loc), lv_has ls 8 [(0, .ref aM), (1, .int x1), (2, .int x2), (3, .int v3), (4, .int v4)] → va_P g.1 vwCl (wX12 g aM aM_text aM_now aM_trial aM_read aM_diary aM_kept aM_isKept aM_constraint aM_readConstraint aM_word aM_size aM_number aM_firstOne aM_node aM_parent aM_rule aM_child aM_proof aM_witness aM_witnessSize aM_built aM_copyRow M_length M_acts M_next M_many M_readMany M_found M_shortest M_nodes M_solved M_dropped M_fits M_proofSize M_tooLong M_text M_now M_trial M_read M_diary M_kept M_isKept M_constraint M_readConstraint M_word M_size M_number M_firstOne M_node M_parent M_rule M_child M_proof M_witness M_witnessSize M_built M_copyRow) H → va_D A (wX12 g aM aM_text aM_now aM_trial aM_read aM_diary aM_kept aM_isKept aM_constraint aM_readConstraint aM_word aM_size aM_number aM_firstOne aM_node aM_parent aM_rule aM_child aM_proof aM_witness aM_witnessSize aM_built aM_copyRow M_length M_acts M_next M_many M_readMany M_found M_shortest M_nodes M_solved M_dropped M_fits M_proofSize M_tooLong M_text M_now M_trial M_read M_diary M_kept M_isKept M_constraint M_readConstraint M_word M_size M_number M_firstOne M_node M_parent M_rule M_child M_proof M_witness M_witnessSize M_built M_copyRow) → va_S A s.heap H locs → fx2 (fM_holds_5 M_many M_constraint x1 x2) n5 v3 v4 = some r → W p l e rmX12_holds s m ([.ref aM, .int x1, .int x2] : List Value).toArray below meth c H locs 0 0 QQ (F0 m 5 ls []) := by
    intro n5
    induction n5 with
    | zero => intro v3 v4 ls H locs hl hP hD hS h; exact fx2_0 h
    | succ n5 ih5 =>
      intro v3 v4 ls H locs hl hP hD hS h
      have h := (fx2_s (fM_holds_5 M_many M_constraint x1 x2) n5 v3 v4).symm.trans h
      have B90 : ∀ (v3 : Int32) (v4 : Int32) (s0 : Int32) (ls : Array Slot) (H : Heap) (locs : List Loc), lv_has ls 8 [(0, .ref aM), (1, .int x1), (2, .int x2), (3, .int v3), (4, .int v4)] → va_P g.1 vwCl (wX12 g aM aM_text aM_now aM_trial aM_read aM_diary aM_kept aM_isKept aM_constraint aM_readConstraint aM_word aM_size aM_number aM_firstOne aM_node aM_parent aM_rule aM_child aM_proof aM_witness aM_witnessSize aM_built aM_copyRow M_length M_acts M_next M_many M_readMany M_found M_shortest M_nodes M_solved M_dropped M_fits M_proofSize M_tooLong M_text M_now M_trial M_read M_diary M_kept M_isKept M_constraint M_readConstraint M_word M_size M_number M_firstOne M_node M_parent M_rule M_child M_proof M_witness M_witnessSize M_built M_copyRow) H → va_D A (wX12 g aM aM_text aM_now aM_trial aM_read aM_diary aM_kept aM_isKept aM_constraint aM_readConstraint aM_word aM_size aM_number aM_firstOne aM_node aM_parent aM_rule aM_child aM_proof aM_witness aM_witnessSize aM_built aM_copyRow M_length M_acts M_next M_many M_readMany M_found M_shortest M_nodes M_solved M_dropped M_fits M_proofSize M_tooLong M_text M_now M_trial M_read M_diary M_kept M_isKept M_constraint M_readConstraint M_word M_size M_number M_firstOne M_node M_parent M_rule M_child M_proof M_witness M_witnessSize M_built M_copyRow) → va_S A s.heap H locs → fM_holds_90 (fx2 (fM_holds_5 M_many M_constraint x1 x2) n5) M_many M_constraint x1 x2 v3 v4 s0 = some r → W p l e rmX12_holds s m ([.ref aM, .int x1, .int x2] : List Value).toArray below meth c H locs 0 0 QQ (F0 m 90 ls [.int s0]) := by
        intro v3 v4 s0 ls H locs hl hP hD hS h
        refine lv_istore (lv' := [(7, .int s0), (0, .ref aM), (1, .int x1), (2, .int x2), (3, .int v3), (4, .int v4)]) hx hb dX12_holds_90 hl (by decide) rfl (fun ls hl => ?_)
        refine lv_iload_n hx hb dX12_holds_92 rfl (lv_at hl 4 rfl) ?_
        refine lv_if_eq (tgt := 118) hx hb dX12_holds_93 (by decide) (fun q93 => ?_) (fun q93 => ?_)
        · have h := ifT h q93
          refine lv_iconst (v := (0 : Int32)) hx hb dX12_holds_118 (by decide) ?_
          refine lv_istore_n (lv' := [(3, .int (0 : Int32)), (7, .int s0), (0, .ref aM), (1, .int x1), (2, .int x2), (4, .int v4)]) hx hb dX12_holds_119 rfl hl (by decide) rfl (fun ls hl => ?_)
          obtain ⟨t120, et120⟩ : ∃ y : Int32, y = v4 + (1 : Int32) := ⟨_, rfl⟩
          refine lv_iinc (v := t120) (lv' := [(4, .int t120), (3, .int (0 : Int32)), (7, .int s0), (0, .ref aM), (1, .int x1), (2, .int x2)]) hx hb dX12_holds_120 hl (k := 5) rfl (by rw [et120]; rfl) (by decide) rfl (fun ls hl => ?_)
          have h := st_to h et120
          refine lv_goto (tgt := 5) hx hb dX12_holds_123 (by decide) ?_
          exact ih5 (0 : Int32) t120 ls H locs (lv_sub hl [3, 4, 5, 1, 0] rfl) hP hD hS h
        have h := ifF h q93
        refine lv_aload_n hx hb dX12_holds_96 rfl (lv_at hl 1 rfl) ?_
        refine va_get (D := g.1) (ci := 11) (v := .ref aM_constraint) (C := RX12) (T := TX12) (N := 35) hx hb hts inBX12 hown hK hP 0 rfl rfl 11 (by decide) (hts _ wd4_207) (fun _ h9 => h9) rfl dX12_holds_97 ?_
        refine lv_iconst (v := (3 : Int32)) hx hb dX12_holds_100 (by decide) ?_
        refine lv_iload hx hb dX12_holds_101 (lv_at hl 5 rfl) ?_
        refine lv_imul hx hb dX12_holds_103 ?_
        have hin := ld_in h
        refine va_iald hx hb hK hP 8 0 rfl rfl hin dX12_holds_104 ?_
        refine lv_topi (fun t104 et104 => ?_)
        have h := ld_to h et104
        refine lv_iload_n hx hb dX12_holds_105 rfl (lv_at hl 2 rfl) ?_
        refine lv_icmp_ne (tgt := 114) hx hb dX12_holds_106 (by decide) (fun q106 => ?_) (fun q106 => ?_)
        · have h := ifF h q106
          refine lv_iconst (v := (1 : Int32)) hx hb dX12_holds_114 (by decide) ?_
          refine lv_goto (tgt := 119) hx hb dX12_holds_115 (by decide) ?_
          refine lv_istore_n (lv' := [(3, .int (1 : Int32)), (7, .int s0), (0, .ref aM), (1, .int x1), (2, .int x2), (4, .int v4)]) hx hb dX12_holds_119 rfl hl (by decide) rfl (fun ls hl => ?_)
          obtain ⟨t120, et120⟩ : ∃ y : Int32, y = v4 + (1 : Int32) := ⟨_, rfl⟩
          refine lv_iinc (v := t120) (lv' := [(4, .int t120), (3, .int (1 : Int32)), (7, .int s0), (0, .ref aM), (1, .int x1), (2, .int x2)]) hx hb dX12_holds_120 hl (k := 5) rfl (by rw [et120]; rfl) (by decide) rfl (fun ls hl => ?_)
          have h := st_to h et120
          refine lv_goto (tgt := 5) hx hb dX12_holds_123 (by decide) ?_
          exact ih5 (1 : Int32) t120 ls H locs (lv_sub hl [3, 4, 5, 1, 0] rfl) hP hD hS h
        have h := ifT h q106
        refine lv_iload hx hb dX12_holds_109 (lv_at hl 0 rfl) ?_
        refine lv_if_eq (tgt := 118) hx hb dX12_holds_111 (by decide) (fun q111 => ?_) (fun q111 => ?_)
        · have h := ifT h q111
          refine lv_iconst (v := (0 : Int32)) hx hb dX12_holds_118 (by decide) ?_
          refine lv_istore_n (lv' := [(3, .int (0 : Int32)), (7, .int s0), (0, .ref aM), (1, .int x1), (2, .int x2), (4, .int v4)]) hx hb dX12_holds_119 rfl hl (by decide) rfl (fun ls hl => ?_)
          obtain ⟨t120, et120⟩ : ∃ y : Int32, y = v4 + (1 : Int32) := ⟨_, rfl⟩
          refine lv_iinc (v := t120) (lv' := [(4, .int t120), (3, .int (0 : Int32)), (7, .int s0), (0, .ref aM), (1, .int x1), (2, .int x2)]) hx hb dX12_holds_120 hl (k := 5) rfl (by rw [et120]; rfl) (by decide) rfl (fun ls hl => ?_)
          have h := st_to h et120
          refine lv_goto (tgt := 5) hx hb dX12_holds_123 (by decide) ?_
          exact ih5 (0 : Int32) t120 ls H locs (lv_sub hl [3, 4, 5, 1, 0] rfl) hP hD hS h
        have h := ifF h q111
        refine lv_iconst (v := (1 : Int32)) hx hb dX12_holds_114 (by decide) ?_
        refine lv_goto (tgt := 119) hx hb dX12_holds_115 (by decide) ?_
        refine lv_istore_n (lv' := [(3, .int (1 : Int32)), (7, .int s0), (0, .ref aM), (1, .int x1), (2, .int x2), (4, .int v4)]) hx hb dX12_holds_119 rfl hl (by decide) rfl (fun ls hl => ?_)
        obtain ⟨t120, et120⟩ : ∃ y : Int32, y = v4 + (1 : Int32) := ⟨_, rfl⟩
        refine lv_iinc (v := t120) (lv' := [(4, .int t120), (3, .int (1 : Int32)), (7, .int s0), (0, .ref aM), (1, .int x1), (2, .int x2)]) hx hb dX12_holds_120 hl (k := 5) rfl (by rw [et120]; rfl) (by decide) rfl (fun ls hl => ?_)
        have h := st_to h et120
        refine lv_goto (tgt := 5) hx hb dX12_holds_123 (by decide) ?_
        exact ih5 (1 : Int32) t120 ls H locs (lv_sub hl [3, 4, 5, 1, 0] rfl) hP hD hS h
      refine lv_iload hx hb dX12_holds_5 (lv_at hl 4 rfl) ?_
      refine lv_aload_n hx hb dX12_holds_7 rfl (lv_at hl 0 rfl) ?_
      refine va_get (D := g.1) (ci := 11) (v := .int M_many) (C := RX12) (T := TX12) (N := 35) hx hb hts inBX12 hown hK hP 0 rfl rfl 10 (by decide) (hts _ wd4_206) (fun _ h9 => h9) rfl dX12_holds_8 ?_
      refine lv_icmp_ge (tgt := 126) hx hb dX12_holds_11 (by decide) (fun q11 => ?_) (fun q11 => ?_)
      · have h := ifT h q11
        refine lv_iload_n hx hb dX12_holds_126 rfl (lv_at hl 3 rfl) ?_
        have z127 := ckz_is h
        have h := ckz_to h
        have h : some v3 = some r := h
        cases h
        exact hret _ _ _ _ (nz_nar z127) hP hD hS dX12_holds_127
      have h := ifF h q11
      refine lv_aload_n hx hb dX12_holds_14 rfl (lv_at hl 0 rfl) ?_
      refine va_get (D := g.1) (ci := 11) (v := .ref aM_constraint) (C := RX12) (T := TX12) (N := 35) hx hb hts inBX12 hown hK hP 0 rfl rfl 11 (by decide) (hts _ wd4_207) (fun _ h9 => h9) rfl dX12_holds_15 ?_
      refine lv_iconst (v := (3 : Int32)) hx hb dX12_holds_18 (by decide) ?_
      refine lv_iload hx hb dX12_holds_19 (lv_at hl 4 rfl) ?_
      refine lv_imul hx hb dX12_holds_21 ?_
      refine lv_iconst (v := (2 : Int32)) hx hb dX12_holds_22 (by decide) ?_
      refine lv_iadd hx hb dX12_holds_23 ?_
      have hin := ld_in h
      refine va_iald hx hb hK hP 8 0 rfl rfl hin dX12_holds_24 ?_
      refine lv_topi (fun t24 et24 => ?_)
      have h := ld_to h et24
      refine lv_istore (lv' := [(5, .int t24), (0, .ref aM), (1, .int x1), (2, .int x2), (3, .int v3), (4, .int v4)]) hx hb dX12_holds_25 hl (by decide) rfl (fun ls hl => ?_)
      refine lv_aload_n hx hb dX12_holds_27 rfl (lv_at hl 1 rfl) ?_
      refine va_get (D := g.1) (ci := 11) (v := .ref aM_constraint) (C := RX12) (T := TX12) (N := 35) hx hb hts inBX12 hown hK hP 0 rfl rfl 11 (by decide) (hts _ wd4_207) (fun _ h9 => h9) rfl dX12_holds_28 ?_
      refine lv_iconst (v := (3 : Int32)) hx hb dX12_holds_31 (by decide) ?_
      refine lv_iload hx hb dX12_holds_32 (lv_at hl 5 rfl) ?_
      refine lv_imul hx hb dX12_holds_34 ?_
      refine lv_iconst (v := (1 : Int32)) hx hb dX12_holds_35 (by decide) ?_
      refine lv_iadd hx hb dX12_holds_36 ?_
      have hin := ld_in h
      refine va_iald hx hb hK hP 8 0 rfl rfl hin dX12_holds_37 ?_
      refine lv_topi (fun t37 et37 => ?_)
      have h := ld_to h et37
      refine lv_istore (lv' := [(6, .int t37), (5, .int t24), (0, .ref aM), (1, .int x1), (2, .int x2), (3, .int v3), (4, .int v4)]) hx hb dX12_holds_38 hl (by decide) rfl (fun ls hl => ?_)
      refine lv_iload hx hb dX12_holds_40 (lv_at hl 0 rfl) ?_
      refine lv_if_ne (tgt := 59) hx hb dX12_holds_42 (by decide) (fun q42 => ?_) (fun q42 => ?_)
      · have h := ifF h q42
        refine lv_iload hx hb dX12_holds_59 (lv_at hl 0 rfl) ?_
        refine lv_iconst (v := (1 : Int32)) hx hb dX12_holds_61 (by decide) ?_
        refine lv_icmp_ne (tgt := 79) hx hb dX12_holds_62 (by decide) (fun q62 => ?_) (fun q62 => ?_)
        · have h := ifF h q62
          refine lv_iload_n hx hb dX12_holds_79 rfl (lv_at hl 4 rfl) ?_
          refine lv_iload hx hb dX12_holds_80 (lv_at hl 1 rfl) ?_
          refine lv_icmp_le (tgt := 89) hx hb dX12_holds_82 (by decide) (fun q82 => ?_) (fun q82 => ?_)
          · have h := ifT h q82
            refine lv_iconst (v := (0 : Int32)) hx hb dX12_holds_89 (by decide) ?_
            exact B90 v3 v4 (0 : Int32) ls H locs (lv_sub hl [2, 3, 4, 5, 6] rfl) hP hD hS h
          have h := ifF h q82
          refine lv_iconst (v := (1 : Int32)) hx hb dX12_holds_85 (by decide) ?_
          refine lv_goto (tgt := 90) hx hb dX12_holds_86 (by decide) ?_
          exact B90 v3 v4 (1 : Int32) ls H locs (lv_sub hl [2, 3, 4, 5, 6] rfl) hP hD hS h
        have h := ifT h q62
        refine lv_iload_n hx hb dX12_holds_65 rfl (lv_at hl 4 rfl) ?_
        refine lv_iload hx hb dX12_holds_66 (lv_at hl 1 rfl) ?_
        refine lv_icmp_ne (tgt := 75) hx hb dX12_holds_68 (by decide) (fun q68 => ?_) (fun q68 => ?_)
        · have h := ifF h q68
          refine lv_iconst (v := (0 : Int32)) hx hb dX12_holds_75 (by decide) ?_
          refine lv_goto (tgt := 90) hx hb dX12_holds_76 (by decide) ?_
          exact B90 v3 v4 (0 : Int32) ls H locs (lv_sub hl [2, 3, 4, 5, 6] rfl) hP hD hS h
        have h := ifT h q68
        refine lv_iconst (v := (1 : Int32)) hx hb dX12_holds_71 (by decide) ?_
        refine lv_goto (tgt := 90) hx hb dX12_holds_72 (by decide) ?_
        exact B90 v3 v4 (1 : Int32) ls H locs (lv_sub hl [2, 3, 4, 5, 6] rfl) hP hD hS h
      have h := ifT h q42
      refine lv_iload_n hx hb dX12_holds_45 rfl (lv_at hl 4 rfl) ?_
      refine lv_iload hx hb dX12_holds_46 (lv_at hl 1 rfl) ?_
      refine lv_icmp_ge (tgt := 55) hx hb dX12_holds_48 (by decide) (fun q48 => ?_) (fun q48 => ?_)
      · have h := ifT h q48
        refine lv_iconst (v := (0 : Int32)) hx hb dX12_holds_55 (by decide) ?_
        refine lv_goto (tgt := 90) hx hb dX12_holds_56 (by decide) ?_
        exact B90 v3 v4 (0 : Int32) ls H locs (lv_sub hl [2, 3, 4, 5, 6] rfl) hP hD hS h
      have h := ifF h q48
      refine lv_iconst (v := (1 : Int32)) hx hb dX12_holds_51 (by decide) ?_
      refine lv_goto (tgt := 90) hx hb dX12_holds_52 (by decide) ?_
      exact B90 v3 v4 (1 : Int32) ls H locs (lv_sub hl [2, 3, 4, 5, 6] rfl) hP hD hS h
  have hl : lv_has ls 8 [(0, .ref aM), (1, .int x1), (2, .int x2)] := hl
  obtain ⟨H, hH⟩ : ∃ H, H = s.heap := ⟨_, rfl⟩
  obtain ⟨locs, hlocs⟩ : ∃ l : List Loc, l = [] := ⟨_, rfl⟩
  rw [show W p l e rmX12_holds s m ([.ref aM, .int x1, .int x2] : List Value).toArray below meth c s.heap [] 0 0 QQ (F0 m 0 ls []) = W p l e rmX12_holds s m ([.ref aM, .int x1, .int x2] : List Value).toArray below meth c H locs 0 0 QQ (F0 m 0 ls []) by rw [hH, hlocs]]
  have hP : va_P g.1 vwCl (wX12 g aM aM_text aM_now aM_trial aM_read aM_diary aM_kept aM_isKept aM_constraint aM_readConstraint aM_word aM_size aM_number aM_firstOne aM_node aM_parent aM_rule aM_child aM_proof aM_witness aM_witnessSize aM_built aM_copyRow M_length M_acts M_next M_many M_readMany M_found M_shortest M_nodes M_solved M_dropped M_fits M_proofSize M_tooLong M_text M_now M_trial M_read M_diary M_kept M_isKept M_constraint M_readConstraint M_word M_size M_number M_firstOne M_node M_parent M_rule M_child M_proof M_witness M_witnessSize M_built M_copyRow) H := by rw [hH]; exact hP
  have hD : va_D A (wX12 g aM aM_text aM_now aM_trial aM_read aM_diary aM_kept aM_isKept aM_constraint aM_readConstraint aM_word aM_size aM_number aM_firstOne aM_node aM_parent aM_rule aM_child aM_proof aM_witness aM_witnessSize aM_built aM_copyRow M_length M_acts M_next M_many M_readMany M_found M_shortest M_nodes M_solved M_dropped M_fits M_proofSize M_tooLong M_text M_now M_trial M_read M_diary M_kept M_isKept M_constraint M_readConstraint M_word M_size M_number M_firstOne M_node M_parent M_rule M_child M_proof M_witness M_witnessSize M_built M_copyRow) := hD
  have hS : va_S A s.heap H locs := by rw [hH, hlocs]; exact hS
  clear hH hlocs
  refine lv_iconst (v := (1 : Int32)) hx hb dX12_holds_0 (by decide) ?_
  refine lv_istore_n (lv' := [(3, .int (1 : Int32)), (0, .ref aM), (1, .int x1), (2, .int x2)]) hx hb dX12_holds_1 rfl hl (by decide) rfl (fun ls hl => ?_)
  refine lv_iconst (v := (0 : Int32)) hx hb dX12_holds_2 (by decide) ?_
  refine lv_istore (lv' := [(4, .int (0 : Int32)), (3, .int (1 : Int32)), (0, .ref aM), (1, .int x1), (2, .int x2)]) hx hb dX12_holds_3 hl (by decide) rfl (fun ls hl => ?_)
  exact L5 FU (1 : Int32) (0 : Int32) ls H locs (lv_sub hl [2, 3, 4, 1, 0] rfl) hP hD hS h
set_option maxHeartbeats 4000000 in
set_option maxRecDepth 100000 in
theorem mX12_isSolution_copyRow (g : GP) (l : Launch) (aM aM_text aM_now aM_trial aM_read aM_diary aM_kept aM_isKept aM_constraint aM_readConstraint aM_word aM_size aM_number aM_firstOne aM_node aM_parent aM_rule aM_child aM_proof aM_witness aM_witnessSize aM_built aM_copyRow : Nat) (M_length : Int32) (M_acts : Int32) (M_next : Int32) (M_many : Int32) (M_readMany : Int32) (M_found : Int32) (M_shortest : Int32) (M_nodes : Int32) (M_solved : Int32) (M_dropped : Int32) (M_fits : Int32) (M_proofSize : Int32) (M_tooLong : Int32) (M_text : Nat → Int32) (M_now : Nat → Int32) (M_trial : Nat → Int32) (M_read : Nat → Int32) (M_diary : Nat → Int32) (M_kept : Nat → Int32) (M_isKept : Nat → Int32) (M_constraint : Nat → Int32) (M_readConstraint : Nat → Int32) (M_word : Nat → Int32) (M_size : Nat → Int32) (M_number : Nat → Int32) (M_firstOne : Nat → Int32) (M_node : Nat → Int32) (M_parent : Nat → Int32) (M_rule : Nat → Int32) (M_child : Nat → Int32) (M_proof : Nat → Int32) (M_witness : Nat → Int32) (M_witnessSize : Nat → Int32) (M_built : Nat → Int32) (M_copyRow : Nat → Int32)  (r : Int32) (M_word_o : Nat → Int32) (M_size_o : Nat → Int32) (h : fM_isSolution M_many M_constraint M_word M_size M_number M_copyRow = some (r, M_word_o, M_size_o)) : Ct g l yX12_isSolution cX12_isSolution 10 (some .boolean) rmX12_isSolution [.ref aM, .ref aM_copyRow] (wX12 g aM aM_text aM_now aM_trial aM_read aM_diary aM_kept aM_isKept aM_constraint aM_readConstraint aM_word aM_size aM_number aM_firstOne aM_node aM_parent aM_rule aM_child aM_proof aM_witness aM_witnessSize aM_built aM_copyRow M_length M_acts M_next M_many M_readMany M_found M_shortest M_nodes M_solved M_dropped M_fits M_proofSize M_tooLong M_text M_now M_trial M_read M_diary M_kept M_isKept M_constraint M_readConstraint M_word M_size M_number M_firstOne M_node M_parent M_rule M_child M_proof M_witness M_witnessSize M_built M_copyRow) (some (.int r)) (wX12 g aM aM_text aM_now aM_trial aM_read aM_diary aM_kept aM_isKept aM_constraint aM_readConstraint aM_word aM_size aM_number aM_firstOne aM_node aM_parent aM_rule aM_child aM_proof aM_witness aM_witnessSize aM_built aM_copyRow M_length M_acts M_next M_many M_readMany M_found M_shortest M_nodes M_solved M_dropped M_fits M_proofSize M_tooLong M_text M_now M_trial M_read M_diary M_kept M_isKept M_constraint M_readConstraint M_word_o M_size_o M_number M_firstOne M_node M_parent M_rule M_child M_proof M_witness M_witnessSize M_built M_copyRow) := by
  refine Ct.introZ (by decide) (Nat.le_of_ble_eq_true rfl) ?_
  intro p e s m below meth c A QQ ls hyp hret
  obtain ⟨hx, hb, hml, hts, hown, hA, hE, hP, hD, hl⟩ := hyp
  have hK := hE.1
  have hS : va_S A s.heap s.heap [] := va_S.rf
  have X : Here g p s m c cX12_isSolution 10 ([.ref aM, .ref aM_copyRow] : List Value).toArray RX12 A := ⟨⟨hx, hb, hml, hown, hts⟩, hE, hA⟩
  have L236 : ∀ (n236 : Nat), ∀ (M_word : Nat → Int32) (M_size : Nat → Int32) (v2 : Int32) (v3 : Int32) (ls : Array Slot) (H : Heap) (locs : List Loc), lv_has ls 10 [(0, .ref aM), (2, .int v2), (3, .int v3)] → va_P g.1 vwCl (wX12 g aM aM_text aM_now aM_trial aM_read aM_diary aM_kept aM_isKept aM_constraint aM_readConstraint aM_word aM_size aM_number aM_firstOne aM_node aM_parent aM_rule aM_child aM_proof aM_witness aM_witnessSize aM_built aM_copyRow M_length M_acts M_next M_many M_readMany M_found M_shortest M_nodes M_solved M_dropped M_fits M_proofSize M_tooLong M_text M_now M_trial M_read M_diary M_kept M_isKept M_constraint M_readConstraint M_word M_size M_number M_firstOne M_node M_parent M_rule M_child M_proof M_witness M_witnessSize M_built M_copyRow) H → va_D A (wX12 g aM aM_text aM_now aM_trial aM_read aM_diary aM_kept aM_isKept aM_constraint aM_readConstraint aM_word aM_size aM_number aM_firstOne aM_node aM_parent aM_rule aM_child aM_proof aM_witness aM_witnessSize aM_built aM_copyRow M_length M_acts M_next M_many M_readMany M_found M_shortest M_nodes M_solved M_dropped M_fits M_proofSize M_tooLong M_text M_now M_trial M_read M_diary M_kept M_isKept M_constraint M_readConstraint M_word M_size M_number M_firstOne M_node M_parent M_rule M_child M_proof M_witness M_witnessSize M_built M_copyRow) → va_S A s.heap H locs → fx2 (fM_isSolution_236 M_word M_size) n236 v2 v3 = some (r, M_word_o, M_size_o) → W p l e rmX12_isSolution s m ([.ref aM, .ref aM_copyRow] : List Value).toArray below meth c H locs 0 0 QQ (F0 m 236 ls []) := by
    intro n236
    induction n236 with
    | zero => intro M_word M_size v2 v3 ls H locs hl hP hD hS h; exact fx2_0 h
    | succ n236 ih236 =>
      intro M_word M_size v2 v3 ls H locs hl hP hD hS h
      have h := (fx2_s (fM_isSolution_236 M_word M_size) n236 v2 v3).symm.trans h
      refine lv_iload_n hx hb dX12_isSolution_236 rfl (lv_at hl 1 rfl) ?_
      refine lv_if_eq (tgt := 280) hx hb dX12_isSolution_237 (by decide) (fun q237 => ?_) (fun q237 => ?_)
      · have h := ifT h q237
        refine lv_iload_n hx hb dX12_isSolution_280 rfl (lv_at hl 1 rfl) ?_
        have z281 := ckz_is h
        have h := ckz_to h
        have h : some (v2, M_word, M_size) = some (r, M_word_o, M_size_o) := h
        cases h
        exact hret _ _ _ _ (nz_nar z281) hP hD hS dX12_isSolution_281
      have h := ifF h q237
      refine lv_iload_n hx hb dX12_isSolution_240 rfl (lv_at hl 2 rfl) ?_
      refine lv_aload_n hx hb dX12_isSolution_241 rfl (lv_at hl 0 rfl) ?_
      refine va_get (D := g.1) (ci := 11) (v := .ref aM_size) (C := RX12) (T := TX12) (N := 35) hx hb hts inBX12 hown hK hP 0 rfl rfl 15 (by decide) (hts _ wd4_211) (fun _ h9 => h9) rfl dX12_isSolution_242 ?_
      refine lv_iconst (v := (0 : Int32)) hx hb dX12_isSolution_245 (by decide) ?_
      have hin := ld_in h
      refine va_iald hx hb hK hP 11 0 rfl rfl hin dX12_isSolution_246 ?_
      refine lv_topi (fun t246 et246 => ?_)
      have h := ld_to h et246
      refine lv_icmp_ge (tgt := 280) hx hb dX12_isSolution_247 (by decide) (fun q247 => ?_) (fun q247 => ?_)
      · have h := ifT h q247
        refine lv_iload_n hx hb dX12_isSolution_280 rfl (lv_at hl 1 rfl) ?_
        have z281 := ckz_is h
        have h := ckz_to h
        have h : some (v2, M_word, M_size) = some (r, M_word_o, M_size_o) := h
        cases h
        exact hret _ _ _ _ (nz_nar z281) hP hD hS dX12_isSolution_281
      have h := ifF h q247
      refine lv_aload_n hx hb dX12_isSolution_250 rfl (lv_at hl 0 rfl) ?_
      refine va_get (D := g.1) (ci := 11) (v := .ref aM_word) (C := RX12) (T := TX12) (N := 35) hx hb hts inBX12 hown hK hP 0 rfl rfl 14 (by decide) (hts _ wd4_210) (fun _ h9 => h9) rfl dX12_isSolution_251 ?_
      refine lv_iload_n hx hb dX12_isSolution_254 rfl (lv_at hl 2 rfl) ?_
      have hin := ld_in h
      refine va_iald hx hb hK hP 10 0 rfl rfl hin dX12_isSolution_255 ?_
      refine lv_topi (fun t255 et255 => ?_)
      have h := ld_to h et255
      refine lv_aload_n hx hb dX12_isSolution_256 rfl (lv_at hl 0 rfl) ?_
      refine va_get (D := g.1) (ci := 11) (v := .ref aM_word) (C := RX12) (T := TX12) (N := 35) hx hb hts inBX12 hown hK hP 0 rfl rfl 14 (by decide) (hts _ wd4_210) (fun _ h9 => h9) rfl dX12_isSolution_257 ?_
      refine lv_bipush (v := (60 : Int32)) hx hb dX12_isSolution_260 (by decide) ?_
      refine lv_iload_n hx hb dX12_isSolution_262 rfl (lv_at hl 2 rfl) ?_
      refine lv_iadd hx hb dX12_isSolution_263 ?_
      have hin := ld_in h
      refine va_iald hx hb hK hP 10 0 rfl rfl hin dX12_isSolution_264 ?_
      refine lv_topi (fun t264 et264 => ?_)
      have h := ld_to h et264
      refine lv_icmp_ne (tgt := 272) hx hb dX12_isSolution_265 (by decide) (fun q265 => ?_) (fun q265 => ?_)
      · have h := ifF h q265
        refine lv_iconst (v := (0 : Int32)) hx hb dX12_isSolution_272 (by decide) ?_
        refine lv_istore_n (lv' := [(2, .int (0 : Int32)), (0, .ref aM), (3, .int v3)]) hx hb dX12_isSolution_273 rfl hl (by decide) rfl (fun ls hl => ?_)
        obtain ⟨t274, et274⟩ : ∃ y : Int32, y = v3 + (1 : Int32) := ⟨_, rfl⟩
        refine lv_iinc (v := t274) (lv' := [(3, .int t274), (2, .int (0 : Int32)), (0, .ref aM)]) hx hb dX12_isSolution_274 hl (k := 2) rfl (by rw [et274]; rfl) (by decide) rfl (fun ls hl => ?_)
        have h := st_to h et274
        refine lv_goto (tgt := 236) hx hb dX12_isSolution_277 (by decide) ?_
        exact ih236 M_word M_size (0 : Int32) t274 ls H locs (lv_sub hl [2, 1, 0] rfl) hP hD hS h
      have h := ifT h q265
      refine lv_iconst (v := (1 : Int32)) hx hb dX12_isSolution_268 (by decide) ?_
      refine lv_goto (tgt := 273) hx hb dX12_isSolution_269 (by decide) ?_
      refine lv_istore_n (lv' := [(2, .int (1 : Int32)), (0, .ref aM), (3, .int v3)]) hx hb dX12_isSolution_273 rfl hl (by decide) rfl (fun ls hl => ?_)
      obtain ⟨t274, et274⟩ : ∃ y : Int32, y = v3 + (1 : Int32) := ⟨_, rfl⟩
      refine lv_iinc (v := t274) (lv' := [(3, .int t274), (2, .int (1 : Int32)), (0, .ref aM)]) hx hb dX12_isSolution_274 hl (k := 2) rfl (by rw [et274]; rfl) (by decide) rfl (fun ls hl => ?_)
      have h := st_to h et274
      refine lv_goto (tgt := 236) hx hb dX12_isSolution_277 (by decide) ?_
      exact ih236 M_word M_size (1 : Int32) t274 ls H locs (lv_sub hl [2, 1, 0] rfl) hP hD hS h
  have B209 : ∀ (M_word : Nat → Int32) (M_size : Nat → Int32) (v2 : Int32) (ls : Array Slot) (H : Heap) (locs : List Loc), lv_has ls 10 [(0, .ref aM), (2, .int v2)] → va_P g.1 vwCl (wX12 g aM aM_text aM_now aM_trial aM_read aM_diary aM_kept aM_isKept aM_constraint aM_readConstraint aM_word aM_size aM_number aM_firstOne aM_node aM_parent aM_rule aM_child aM_proof aM_witness aM_witnessSize aM_built aM_copyRow M_length M_acts M_next M_many M_readMany M_found M_shortest M_nodes M_solved M_dropped M_fits M_proofSize M_tooLong M_text M_now M_trial M_read M_diary M_kept M_isKept M_constraint M_readConstraint M_word M_size M_number M_firstOne M_node M_parent M_rule M_child M_proof M_witness M_witnessSize M_built M_copyRow) H → va_D A (wX12 g aM aM_text aM_now aM_trial aM_read aM_diary aM_kept aM_isKept aM_constraint aM_readConstraint aM_word aM_size aM_number aM_firstOne aM_node aM_parent aM_rule aM_child aM_proof aM_witness aM_witnessSize aM_built aM_copyRow M_length M_acts M_next M_many M_readMany M_found M_shortest M_nodes M_solved M_dropped M_fits M_proofSize M_tooLong M_text M_now M_trial M_read M_diary M_kept M_isKept M_constraint M_readConstraint M_word M_size M_number M_firstOne M_node M_parent M_rule M_child M_proof M_witness M_witnessSize M_built M_copyRow) → va_S A s.heap H locs → fM_isSolution_209 M_word M_size v2 = some (r, M_word_o, M_size_o) → W p l e rmX12_isSolution s m ([.ref aM, .ref aM_copyRow] : List Value).toArray below meth c H locs 0 0 QQ (F0 m 209 ls []) := by
    intro M_word M_size v2 ls H locs hl hP hD hS h
    refine lv_iload_n hx hb dX12_isSolution_209 rfl (lv_at hl 1 rfl) ?_
    refine lv_if_eq (tgt := 232) hx hb dX12_isSolution_210 (by decide) (fun q210 => ?_) (fun q210 => ?_)
    · have h := ifT h q210
      refine lv_iconst (v := (0 : Int32)) hx hb dX12_isSolution_232 (by decide) ?_
      refine lv_istore_n (lv' := [(2, .int (0 : Int32)), (0, .ref aM)]) hx hb dX12_isSolution_233 rfl hl (by decide) rfl (fun ls hl => ?_)
      refine lv_iconst (v := (0 : Int32)) hx hb dX12_isSolution_234 (by decide) ?_
      refine lv_istore_n (lv' := [(3, .int (0 : Int32)), (2, .int (0 : Int32)), (0, .ref aM)]) hx hb dX12_isSolution_235 rfl hl (by decide) rfl (fun ls hl => ?_)
      exact L236 FU M_word M_size (0 : Int32) (0 : Int32) ls H locs (lv_sub hl [2, 1, 0] rfl) hP hD hS h
    have h := ifF h q210
    refine lv_aload_n hx hb dX12_isSolution_213 rfl (lv_at hl 0 rfl) ?_
    refine va_get (D := g.1) (ci := 11) (v := .ref aM_size) (C := RX12) (T := TX12) (N := 35) hx hb hts inBX12 hown hK hP 0 rfl rfl 15 (by decide) (hts _ wd4_211) (fun _ h9 => h9) rfl dX12_isSolution_214 ?_
    refine lv_iconst (v := (0 : Int32)) hx hb dX12_isSolution_217 (by decide) ?_
    have hin := ld_in h
    refine va_iald hx hb hK hP 11 0 rfl rfl hin dX12_isSolution_218 ?_
    refine lv_topi (fun t218 et218 => ?_)
    have h := ld_to h et218
    refine lv_aload_n hx hb dX12_isSolution_219 rfl (lv_at hl 0 rfl) ?_
    refine va_get (D := g.1) (ci := 11) (v := .ref aM_size) (C := RX12) (T := TX12) (N := 35) hx hb hts inBX12 hown hK hP 0 rfl rfl 15 (by decide) (hts _ wd4_211) (fun _ h9 => h9) rfl dX12_isSolution_220 ?_
    refine lv_iconst (v := (1 : Int32)) hx hb dX12_isSolution_223 (by decide) ?_
    have hin := ld_in h
    refine va_iald hx hb hK hP 11 0 rfl rfl hin dX12_isSolution_224 ?_
    refine lv_topi (fun t224 et224 => ?_)
    have h := ld_to h et224
    refine lv_icmp_ne (tgt := 232) hx hb dX12_isSolution_225 (by decide) (fun q225 => ?_) (fun q225 => ?_)
    · have h := ifF h q225
      refine lv_iconst (v := (0 : Int32)) hx hb dX12_isSolution_232 (by decide) ?_
      refine lv_istore_n (lv' := [(2, .int (0 : Int32)), (0, .ref aM)]) hx hb dX12_isSolution_233 rfl hl (by decide) rfl (fun ls hl => ?_)
      refine lv_iconst (v := (0 : Int32)) hx hb dX12_isSolution_234 (by decide) ?_
      refine lv_istore_n (lv' := [(3, .int (0 : Int32)), (2, .int (0 : Int32)), (0, .ref aM)]) hx hb dX12_isSolution_235 rfl hl (by decide) rfl (fun ls hl => ?_)
      exact L236 FU M_word M_size (0 : Int32) (0 : Int32) ls H locs (lv_sub hl [2, 1, 0] rfl) hP hD hS h
    have h := ifT h q225
    refine lv_iconst (v := (1 : Int32)) hx hb dX12_isSolution_228 (by decide) ?_
    refine lv_goto (tgt := 233) hx hb dX12_isSolution_229 (by decide) ?_
    refine lv_istore_n (lv' := [(2, .int (1 : Int32)), (0, .ref aM)]) hx hb dX12_isSolution_233 rfl hl (by decide) rfl (fun ls hl => ?_)
    refine lv_iconst (v := (0 : Int32)) hx hb dX12_isSolution_234 (by decide) ?_
    refine lv_istore_n (lv' := [(3, .int (0 : Int32)), (2, .int (1 : Int32)), (0, .ref aM)]) hx hb dX12_isSolution_235 rfl hl (by decide) rfl (fun ls hl => ?_)
    exact L236 FU M_word M_size (1 : Int32) (0 : Int32) ls H locs (lv_sub hl [2, 1, 0] rfl) hP hD hS h
  have L44 : ∀ (n44 : Nat), ∀ (M_word : Nat → Int32) (M_size : Nat → Int32) (v2 : Int32) (v3 : Int32) (ls : Array Slot) (H : Heap) (locs : List Loc), lv_has ls 10 [(0, .ref aM), (1, .ref aM_copyRow), (2, .int v2), (3, .int v3)] → va_P g.1 vwCl (wX12 g aM aM_text aM_now aM_trial aM_read aM_diary aM_kept aM_isKept aM_constraint aM_readConstraint aM_word aM_size aM_number aM_firstOne aM_node aM_parent aM_rule aM_child aM_proof aM_witness aM_witnessSize aM_built aM_copyRow M_length M_acts M_next M_many M_readMany M_found M_shortest M_nodes M_solved M_dropped M_fits M_proofSize M_tooLong M_text M_now M_trial M_read M_diary M_kept M_isKept M_constraint M_readConstraint M_word M_size M_number M_firstOne M_node M_parent M_rule M_child M_proof M_witness M_witnessSize M_built M_copyRow) H → va_D A (wX12 g aM aM_text aM_now aM_trial aM_read aM_diary aM_kept aM_isKept aM_constraint aM_readConstraint aM_word aM_size aM_number aM_firstOne aM_node aM_parent aM_rule aM_child aM_proof aM_witness aM_witnessSize aM_built aM_copyRow M_length M_acts M_next M_many M_readMany M_found M_shortest M_nodes M_solved M_dropped M_fits M_proofSize M_tooLong M_text M_now M_trial M_read M_diary M_kept M_isKept M_constraint M_readConstraint M_word M_size M_number M_firstOne M_node M_parent M_rule M_child M_proof M_witness M_witnessSize M_built M_copyRow) → va_S A s.heap H locs → fx3 (fM_isSolution_44 M_number M_copyRow v2) n44 M_word M_size v3 = some (r, M_word_o, M_size_o) → W p l e rmX12_isSolution s m ([.ref aM, .ref aM_copyRow] : List Value).toArray below meth c H locs 0 0 QQ (F0 m 44 ls []) := by
    intro n44
    induction n44 with
    | zero => intro M_word M_size v2 v3 ls H locs hl hP hD hS h; exact fx3_0 h
    | succ n44 ih44 =>
      intro M_word M_size v2 v3 ls H locs hl hP hD hS h
      have h := (fx3_s (fM_isSolution_44 M_number M_copyRow v2) n44 M_word M_size v3).symm.trans h
      have L63 : ∀ (n63 : Nat), ∀ (M_word : Nat → Int32) (M_size : Nat → Int32) (v3 : Int32) (v4 : Int32) (ls : Array Slot) (H : Heap) (locs : List Loc), lv_has ls 10 [(0, .ref aM), (1, .ref aM_copyRow), (2, .int v2), (3, .int v3), (4, .int v4)] → va_P g.1 vwCl (wX12 g aM aM_text aM_now aM_trial aM_read aM_diary aM_kept aM_isKept aM_constraint aM_readConstraint aM_word aM_size aM_number aM_firstOne aM_node aM_parent aM_rule aM_child aM_proof aM_witness aM_witnessSize aM_built aM_copyRow M_length M_acts M_next M_many M_readMany M_found M_shortest M_nodes M_solved M_dropped M_fits M_proofSize M_tooLong M_text M_now M_trial M_read M_diary M_kept M_isKept M_constraint M_readConstraint M_word M_size M_number M_firstOne M_node M_parent M_rule M_child M_proof M_witness M_witnessSize M_built M_copyRow) H → va_D A (wX12 g aM aM_text aM_now aM_trial aM_read aM_diary aM_kept aM_isKept aM_constraint aM_readConstraint aM_word aM_size aM_number aM_firstOne aM_node aM_parent aM_rule aM_child aM_proof aM_witness aM_witnessSize aM_built aM_copyRow M_length M_acts M_next M_many M_readMany M_found M_shortest M_nodes M_solved M_dropped M_fits M_proofSize M_tooLong M_text M_now M_trial M_read M_diary M_kept M_isKept M_constraint M_readConstraint M_word M_size M_number M_firstOne M_node M_parent M_rule M_child M_proof M_witness M_witnessSize M_built M_copyRow) → va_S A s.heap H locs → fx3 (fM_isSolution_63 (fx3 (fM_isSolution_44 M_number M_copyRow v2) n44) M_number M_copyRow v2 v3) n63 M_word M_size v4 = some (r, M_word_o, M_size_o) → W p l e rmX12_isSolution s m ([.ref aM, .ref aM_copyRow] : List Value).toArray below meth c H locs 0 0 QQ (F0 m 63 ls []) := by
        intro n63
        induction n63 with
        | zero => intro M_word M_size v3 v4 ls H locs hl hP hD hS h; exact fx3_0 h
        | succ n63 ih63 =>
          intro M_word M_size v3 v4 ls H locs hl hP hD hS h
          have h := (fx3_s (fM_isSolution_63 (fx3 (fM_isSolution_44 M_number M_copyRow v2) n44) M_number M_copyRow v2 v3) n63 M_word M_size v4).symm.trans h
          have L153 : ∀ (n153 : Nat), ∀ (M_word : Nat → Int32) (M_size : Nat → Int32) (v4 : Int32) (v8 : Int32) (v9 : Int32) (ls : Array Slot) (H : Heap) (locs : List Loc), lv_has ls 10 [(0, .ref aM), (1, .ref aM_copyRow), (2, .int v2), (3, .int v3), (4, .int v4), (8, .int v8), (9, .int v9)] → va_P g.1 vwCl (wX12 g aM aM_text aM_now aM_trial aM_read aM_diary aM_kept aM_isKept aM_constraint aM_readConstraint aM_word aM_size aM_number aM_firstOne aM_node aM_parent aM_rule aM_child aM_proof aM_witness aM_witnessSize aM_built aM_copyRow M_length M_acts M_next M_many M_readMany M_found M_shortest M_nodes M_solved M_dropped M_fits M_proofSize M_tooLong M_text M_now M_trial M_read M_diary M_kept M_isKept M_constraint M_readConstraint M_word M_size M_number M_firstOne M_node M_parent M_rule M_child M_proof M_witness M_witnessSize M_built M_copyRow) H → va_D A (wX12 g aM aM_text aM_now aM_trial aM_read aM_diary aM_kept aM_isKept aM_constraint aM_readConstraint aM_word aM_size aM_number aM_firstOne aM_node aM_parent aM_rule aM_child aM_proof aM_witness aM_witnessSize aM_built aM_copyRow M_length M_acts M_next M_many M_readMany M_found M_shortest M_nodes M_solved M_dropped M_fits M_proofSize M_tooLong M_text M_now M_trial M_read M_diary M_kept M_isKept M_constraint M_readConstraint M_word M_size M_number M_firstOne M_node M_parent M_rule M_child M_proof M_witness M_witnessSize M_built M_copyRow) → va_S A s.heap H locs → fx3 (fM_isSolution_153 (fx3 (fM_isSolution_44 M_number M_copyRow v2) n44) (fx3 (fM_isSolution_63 (fx3 (fM_isSolution_44 M_number M_copyRow v2) n44) M_number M_copyRow v2 v3) n63) M_number M_copyRow v2 v3 v4 v8) n153 M_word M_size v9 = some (r, M_word_o, M_size_o) → W p l e rmX12_isSolution s m ([.ref aM, .ref aM_copyRow] : List Value).toArray below meth c H locs 0 0 QQ (F0 m 153 ls []) := by
            intro n153
            induction n153 with
            | zero => intro M_word M_size v4 v8 v9 ls H locs hl hP hD hS h; exact fx3_0 h
            | succ n153 ih153 =>
              intro M_word M_size v4 v8 v9 ls H locs hl hP hD hS h
              have h := (fx3_s (fM_isSolution_153 (fx3 (fM_isSolution_44 M_number M_copyRow v2) n44) (fx3 (fM_isSolution_63 (fx3 (fM_isSolution_44 M_number M_copyRow v2) n44) M_number M_copyRow v2 v3) n63) M_number M_copyRow v2 v3 v4 v8) n153 M_word M_size v9).symm.trans h
              refine lv_iload hx hb dX12_isSolution_153 (lv_at hl 6 rfl) ?_
              refine lv_if_lt (tgt := 197) hx hb dX12_isSolution_155 (by decide) (fun q155 => ?_) (fun q155 => ?_)
              · have h := ifT h q155
                obtain ⟨t197, et197⟩ : ∃ y : Int32, y = v4 + (1 : Int32) := ⟨_, rfl⟩
                refine lv_iinc (v := t197) (lv' := [(4, .int t197), (0, .ref aM), (1, .ref aM_copyRow), (2, .int v2), (3, .int v3), (8, .int v8), (9, .int v9)]) hx hb dX12_isSolution_197 hl (k := 4) rfl (by rw [et197]; rfl) (by decide) rfl (fun ls hl => ?_)
                have h := st_to h et197
                refine lv_goto (tgt := 63) hx hb dX12_isSolution_200 (by decide) ?_
                exact ih63 M_word M_size v3 t197 ls H locs (lv_sub hl [1, 2, 3, 4, 0] rfl) hP hD hS h
              have h := ifF h q155
              refine lv_aload_n hx hb dX12_isSolution_158 rfl (lv_at hl 0 rfl) ?_
              refine va_get (D := g.1) (ci := 11) (v := .ref aM_word) (C := RX12) (T := TX12) (N := 35) hx hb hts inBX12 hown hK hP 0 rfl rfl 14 (by decide) (hts _ wd4_210) (fun _ h9 => h9) rfl dX12_isSolution_159 ?_
              refine lv_bipush (v := (60 : Int32)) hx hb dX12_isSolution_162 (by decide) ?_
              refine lv_iload_n hx hb dX12_isSolution_164 rfl (lv_at hl 3 rfl) ?_
              refine lv_imul hx hb dX12_isSolution_165 ?_
              refine lv_aload_n hx hb dX12_isSolution_166 rfl (lv_at hl 0 rfl) ?_
              refine va_get (D := g.1) (ci := 11) (v := .ref aM_size) (C := RX12) (T := TX12) (N := 35) hx hb hts inBX12 hown hK hP 0 rfl rfl 15 (by decide) (hts _ wd4_211) (fun _ h9 => h9) rfl dX12_isSolution_167 ?_
              refine lv_iload_n hx hb dX12_isSolution_170 rfl (lv_at hl 3 rfl) ?_
              have hin := ld_in h
              refine va_iald hx hb hK hP 11 0 rfl rfl hin dX12_isSolution_171 ?_
              refine lv_topi (fun t171 et171 => ?_)
              have h := ld_to h et171
              refine lv_iadd hx hb dX12_isSolution_172 ?_
              refine lv_iload hx hb dX12_isSolution_173 (lv_at hl 5 rfl) ?_
              refine lv_iload hx hb dX12_isSolution_175 (lv_at hl 6 rfl) ?_
              refine lv_ishr hx hb dX12_isSolution_177 ?_
              refine lv_iconst (v := (1 : Int32)) hx hb dX12_isSolution_178 (by decide) ?_
              refine lv_iand hx hb dX12_isSolution_179 ?_
              have hin := sti_in h
              refine va_iast hx hb hK hP hD hS 10 0 rfl rfl hin dX12_isSolution_180 (fun H locs hP hD hS => ?_)
              obtain ⟨M_word_180, eM_word_180⟩ : ∃ y : Nat → Int32, y = upd M_word (Int32.toNatClampNeg (((60 : Int32) * v3) + t171)) ((shr v8 v9) &&& (1 : Int32)) := ⟨_, rfl⟩
              have h := sti_to h eM_word_180
              have hP : va_P g.1 vwCl (wX12 g aM aM_text aM_now aM_trial aM_read aM_diary aM_kept aM_isKept aM_constraint aM_readConstraint aM_word aM_size aM_number aM_firstOne aM_node aM_parent aM_rule aM_child aM_proof aM_witness aM_witnessSize aM_built aM_copyRow M_length M_acts M_next M_many M_readMany M_found M_shortest M_nodes M_solved M_dropped M_fits M_proofSize M_tooLong M_text M_now M_trial M_read M_diary M_kept M_isKept M_constraint M_readConstraint M_word_180 M_size M_number M_firstOne M_node M_parent M_rule M_child M_proof M_witness M_witnessSize M_built M_copyRow) H := by rw [eM_word_180]; exact hP
              have hD : va_D A (wX12 g aM aM_text aM_now aM_trial aM_read aM_diary aM_kept aM_isKept aM_constraint aM_readConstraint aM_word aM_size aM_number aM_firstOne aM_node aM_parent aM_rule aM_child aM_proof aM_witness aM_witnessSize aM_built aM_copyRow M_length M_acts M_next M_many M_readMany M_found M_shortest M_nodes M_solved M_dropped M_fits M_proofSize M_tooLong M_text M_now M_trial M_read M_diary M_kept M_isKept M_constraint M_readConstraint M_word_180 M_size M_number M_firstOne M_node M_parent M_rule M_child M_proof M_witness M_witnessSize M_built M_copyRow) := by rw [eM_word_180]; exact hD
              refine lv_aload_n hx hb dX12_isSolution_181 rfl (lv_at hl 0 rfl) ?_
              refine va_get (D := g.1) (ci := 11) (v := .ref aM_size) (C := RX12) (T := TX12) (N := 35) hx hb hts inBX12 hown hK hP 0 rfl rfl 15 (by decide) (hts _ wd4_211) (fun _ h9 => h9) rfl dX12_isSolution_182 ?_
              refine lv_iload_n hx hb dX12_isSolution_185 rfl (lv_at hl 3 rfl) ?_
              refine lv_dup2_11 hx hb dX12_isSolution_186 rfl rfl ?_
              have hin := ld_in h
              refine va_iald hx hb hK hP 11 0 rfl rfl hin dX12_isSolution_187 ?_
              refine lv_topi (fun t187 et187 => ?_)
              have h := ld_to h et187
              refine lv_iconst (v := (1 : Int32)) hx hb dX12_isSolution_188 (by decide) ?_
              refine lv_iadd hx hb dX12_isSolution_189 ?_
              have hin := sti_in h
              refine va_iast hx hb hK hP hD hS 11 0 rfl rfl hin dX12_isSolution_190 (fun H locs hP hD hS => ?_)
              obtain ⟨M_size_190, eM_size_190⟩ : ∃ y : Nat → Int32, y = upd M_size (Int32.toNatClampNeg v3) (t187 + (1 : Int32)) := ⟨_, rfl⟩
              have h := sti_to h eM_size_190
              have hP : va_P g.1 vwCl (wX12 g aM aM_text aM_now aM_trial aM_read aM_diary aM_kept aM_isKept aM_constraint aM_readConstraint aM_word aM_size aM_number aM_firstOne aM_node aM_parent aM_rule aM_child aM_proof aM_witness aM_witnessSize aM_built aM_copyRow M_length M_acts M_next M_many M_readMany M_found M_shortest M_nodes M_solved M_dropped M_fits M_proofSize M_tooLong M_text M_now M_trial M_read M_diary M_kept M_isKept M_constraint M_readConstraint M_word_180 M_size_190 M_number M_firstOne M_node M_parent M_rule M_child M_proof M_witness M_witnessSize M_built M_copyRow) H := by rw [eM_size_190]; exact hP
              have hD : va_D A (wX12 g aM aM_text aM_now aM_trial aM_read aM_diary aM_kept aM_isKept aM_constraint aM_readConstraint aM_word aM_size aM_number aM_firstOne aM_node aM_parent aM_rule aM_child aM_proof aM_witness aM_witnessSize aM_built aM_copyRow M_length M_acts M_next M_many M_readMany M_found M_shortest M_nodes M_solved M_dropped M_fits M_proofSize M_tooLong M_text M_now M_trial M_read M_diary M_kept M_isKept M_constraint M_readConstraint M_word_180 M_size_190 M_number M_firstOne M_node M_parent M_rule M_child M_proof M_witness M_witnessSize M_built M_copyRow) := by rw [eM_size_190]; exact hD
              obtain ⟨t191, et191⟩ : ∃ y : Int32, y = v9 + ((-1) : Int32) := ⟨_, rfl⟩
              refine lv_iinc (v := t191) (lv' := [(9, .int t191), (0, .ref aM), (1, .ref aM_copyRow), (2, .int v2), (3, .int v3), (4, .int v4), (8, .int v8)]) hx hb dX12_isSolution_191 hl (k := 6) rfl (by rw [et191]; rfl) (by decide) rfl (fun ls hl => ?_)
              have h := st_to h et191
              refine lv_goto (tgt := 153) hx hb dX12_isSolution_194 (by decide) ?_
              exact ih153 M_word_180 M_size_190 v4 v8 t191 ls H locs (lv_sub hl [1, 2, 3, 4, 5, 6, 0] rfl) hP hD hS h
          refine lv_iload hx hb dX12_isSolution_63 (lv_at hl 4 rfl) ?_
          refine lv_aload_n hx hb dX12_isSolution_65 rfl (lv_at hl 1 rfl) ?_
          refine lv_iload_n hx hb dX12_isSolution_66 rfl (lv_at hl 3 rfl) ?_
          have hin := ld_in h
          refine va_iald hx hb hK hP 22 0 rfl rfl hin dX12_isSolution_67 ?_
          refine lv_topi (fun t67 et67 => ?_)
          have h := ld_to h et67
          refine lv_icmp_ge (tgt := 203) hx hb dX12_isSolution_68 (by decide) (fun q68 => ?_) (fun q68 => ?_)
          · have h := ifT h q68
            obtain ⟨t203, et203⟩ : ∃ y : Int32, y = v3 + (1 : Int32) := ⟨_, rfl⟩
            refine lv_iinc (v := t203) (lv' := [(3, .int t203), (0, .ref aM), (1, .ref aM_copyRow), (2, .int v2), (4, .int v4)]) hx hb dX12_isSolution_203 hl (k := 3) rfl (by rw [et203]; rfl) (by decide) rfl (fun ls hl => ?_)
            have h := st_to h et203
            refine lv_goto (tgt := 44) hx hb dX12_isSolution_206 (by decide) ?_
            exact ih44 M_word M_size v2 t203 ls H locs (lv_sub hl [1, 2, 3, 0] rfl) hP hD hS h
          have h := ifF h q68
          refine lv_aload_n hx hb dX12_isSolution_71 rfl (lv_at hl 1 rfl) ?_
          refine lv_iload_n hx hb dX12_isSolution_72 rfl (lv_at hl 3 rfl) ?_
          refine lv_iload hx hb dX12_isSolution_73 (lv_at hl 4 rfl) ?_
          obtain ⟨t75, hc75, h⟩ := bd1_to h
          refine go_0 (st1 := [.int t75, .ref aM_copyRow]) (run_S (As := [.int v3, .int v4]) (rest := [.ref aM_copyRow]) X hS (mX12_at g l  v3 v4 t75 hc75) okX12_at wd5_87 ⟨Nat.le_of_ble_eq_true rfl, Nat.le_of_ble_eq_true rfl⟩ ⟨rfl, rfl⟩ nil_P nil_D (nil_F hS hA) rfl hl.1 rfl (Nat.le_of_ble_eq_true rfl) dX12_isSolution_75 ⟨Nat.zero_le _, Nat.zero_le _⟩) hS hA hP rfl (fun H locs hP hS => ?_)
          have hin := ld_in h
          refine va_iald hx hb hK hP 22 0 rfl rfl hin dX12_isSolution_78 ?_
          refine lv_topi (fun t78 et78 => ?_)
          have h := ld_to h et78
          refine lv_istore (lv' := [(5, .int t78), (0, .ref aM), (1, .ref aM_copyRow), (2, .int v2), (3, .int v3), (4, .int v4)]) hx hb dX12_isSolution_79 hl (by decide) rfl (fun ls hl => ?_)
          refine lv_iload hx hb dX12_isSolution_81 (lv_at hl 0 rfl) ?_
          refine lv_iconst (v := (2 : Int32)) hx hb dX12_isSolution_83 (by decide) ?_
          refine lv_icmp_ge (tgt := 118) hx hb dX12_isSolution_84 (by decide) (fun q84 => ?_) (fun q84 => ?_)
          · have h := ifT h q84
            refine lv_aload_n hx hb dX12_isSolution_118 rfl (lv_at hl 1 rfl) ?_
            refine va_get (D := g.1) (ci := 11) (v := .ref aM_number) (C := RX12) (T := TX12) (N := 35) hx hb hts inBX12 hown hK hP 0 rfl rfl 16 (by decide) (hts _ wd4_212) (fun _ h9 => h9) rfl dX12_isSolution_119 ?_
            refine lv_iload hx hb dX12_isSolution_122 (lv_at hl 0 rfl) ?_
            refine lv_iconst (v := (2 : Int32)) hx hb dX12_isSolution_124 (by decide) ?_
            refine lv_isub hx hb dX12_isSolution_125 ?_
            have hin := ld_in h
            refine va_iald hx hb hK hP 12 0 rfl rfl hin dX12_isSolution_126 ?_
            refine lv_topi (fun t126 et126 => ?_)
            have h := ld_to h et126
            refine lv_istore (lv' := [(6, .int t126), (5, .int t78), (0, .ref aM), (1, .ref aM_copyRow), (2, .int v2), (3, .int v3), (4, .int v4)]) hx hb dX12_isSolution_127 hl (by decide) rfl (fun ls hl => ?_)
            refine lv_iload hx hb dX12_isSolution_129 (lv_at hl 0 rfl) ?_
            obtain ⟨t131, hc131, h⟩ := bd1_to h
            refine go_0 (st1 := [.int t131]) (run_S (As := [.int t126]) (rest := []) X hS (mX12_lengthOf g l  t126 t131 hc131) okX12_lengthOf wd5_182 ⟨Nat.le_of_ble_eq_true rfl, Nat.le_of_ble_eq_true rfl⟩ ⟨rfl, rfl⟩ nil_P nil_D (nil_F hS hA) rfl hl.1 rfl (Nat.le_of_ble_eq_true rfl) dX12_isSolution_131 ⟨Nat.zero_le _, Nat.zero_le _⟩) hS hA hP rfl (fun H locs hP hS => ?_)
            refine lv_istore (lv' := [(7, .int t131), (6, .int t126), (5, .int t78), (0, .ref aM), (1, .ref aM_copyRow), (2, .int v2), (3, .int v3), (4, .int v4)]) hx hb dX12_isSolution_134 hl (by decide) rfl (fun ls hl => ?_)
            refine lv_iload hx hb dX12_isSolution_136 (lv_at hl 1 rfl) ?_
            refine lv_iconst (v := (1 : Int32)) hx hb dX12_isSolution_138 (by decide) ?_
            refine lv_iadd hx hb dX12_isSolution_139 ?_
            refine lv_iconst (v := (1 : Int32)) hx hb dX12_isSolution_140 (by decide) ?_
            refine lv_iload hx hb dX12_isSolution_141 (lv_at hl 0 rfl) ?_
            refine lv_ishl hx hb dX12_isSolution_143 ?_
            refine lv_isub hx hb dX12_isSolution_144 ?_
            refine lv_topi (fun t145 et145 => ?_)
            have h := st_to h et145
            refine lv_istore (lv' := [(8, .int t145), (7, .int t131), (6, .int t126), (5, .int t78), (0, .ref aM), (1, .ref aM_copyRow), (2, .int v2), (3, .int v3), (4, .int v4)]) hx hb dX12_isSolution_145 hl (by decide) rfl (fun ls hl => ?_)
            refine lv_iload hx hb dX12_isSolution_147 (lv_at hl 1 rfl) ?_
            refine lv_iconst (v := (1 : Int32)) hx hb dX12_isSolution_149 (by decide) ?_
            refine lv_isub hx hb dX12_isSolution_150 ?_
            refine lv_topi (fun t151 et151 => ?_)
            have h := st_to h et151
            refine lv_istore (lv' := [(9, .int t151), (8, .int t145), (7, .int t131), (6, .int t126), (5, .int t78), (0, .ref aM), (1, .ref aM_copyRow), (2, .int v2), (3, .int v3), (4, .int v4)]) hx hb dX12_isSolution_151 hl (by decide) rfl (fun ls hl => ?_)
            exact L153 FU M_word M_size v4 t145 t151 ls H locs (lv_sub hl [5, 6, 7, 8, 9, 1, 0] rfl) hP hD hS h
          have h := ifF h q84
          refine lv_aload_n hx hb dX12_isSolution_87 rfl (lv_at hl 1 rfl) ?_
          refine va_get (D := g.1) (ci := 11) (v := .ref aM_word) (C := RX12) (T := TX12) (N := 35) hx hb hts inBX12 hown hK hP 0 rfl rfl 14 (by decide) (hts _ wd4_210) (fun _ h9 => h9) rfl dX12_isSolution_88 ?_
          refine lv_bipush (v := (60 : Int32)) hx hb dX12_isSolution_91 (by decide) ?_
          refine lv_iload_n hx hb dX12_isSolution_93 rfl (lv_at hl 4 rfl) ?_
          refine lv_imul hx hb dX12_isSolution_94 ?_
          refine lv_aload_n hx hb dX12_isSolution_95 rfl (lv_at hl 1 rfl) ?_
          refine va_get (D := g.1) (ci := 11) (v := .ref aM_size) (C := RX12) (T := TX12) (N := 35) hx hb hts inBX12 hown hK hP 0 rfl rfl 15 (by decide) (hts _ wd4_211) (fun _ h9 => h9) rfl dX12_isSolution_96 ?_
          refine lv_iload_n hx hb dX12_isSolution_99 rfl (lv_at hl 4 rfl) ?_
          have hin := ld_in h
          refine va_iald hx hb hK hP 11 0 rfl rfl hin dX12_isSolution_100 ?_
          refine lv_topi (fun t100 et100 => ?_)
          have h := ld_to h et100
          refine lv_iadd hx hb dX12_isSolution_101 ?_
          refine lv_iload hx hb dX12_isSolution_102 (lv_at hl 0 rfl) ?_
          have hin := sti_in h
          refine va_iast hx hb hK hP hD hS 10 0 rfl rfl hin dX12_isSolution_104 (fun H locs hP hD hS => ?_)
          obtain ⟨M_word_104, eM_word_104⟩ : ∃ y : Nat → Int32, y = upd M_word (Int32.toNatClampNeg (((60 : Int32) * v3) + t100)) t78 := ⟨_, rfl⟩
          have h := sti_to h eM_word_104
          have hP : va_P g.1 vwCl (wX12 g aM aM_text aM_now aM_trial aM_read aM_diary aM_kept aM_isKept aM_constraint aM_readConstraint aM_word aM_size aM_number aM_firstOne aM_node aM_parent aM_rule aM_child aM_proof aM_witness aM_witnessSize aM_built aM_copyRow M_length M_acts M_next M_many M_readMany M_found M_shortest M_nodes M_solved M_dropped M_fits M_proofSize M_tooLong M_text M_now M_trial M_read M_diary M_kept M_isKept M_constraint M_readConstraint M_word_104 M_size M_number M_firstOne M_node M_parent M_rule M_child M_proof M_witness M_witnessSize M_built M_copyRow) H := by rw [eM_word_104]; exact hP
          have hD : va_D A (wX12 g aM aM_text aM_now aM_trial aM_read aM_diary aM_kept aM_isKept aM_constraint aM_readConstraint aM_word aM_size aM_number aM_firstOne aM_node aM_parent aM_rule aM_child aM_proof aM_witness aM_witnessSize aM_built aM_copyRow M_length M_acts M_next M_many M_readMany M_found M_shortest M_nodes M_solved M_dropped M_fits M_proofSize M_tooLong M_text M_now M_trial M_read M_diary M_kept M_isKept M_constraint M_readConstraint M_word_104 M_size M_number M_firstOne M_node M_parent M_rule M_child M_proof M_witness M_witnessSize M_built M_copyRow) := by rw [eM_word_104]; exact hD
          refine lv_aload_n hx hb dX12_isSolution_105 rfl (lv_at hl 1 rfl) ?_
          refine va_get (D := g.1) (ci := 11) (v := .ref aM_size) (C := RX12) (T := TX12) (N := 35) hx hb hts inBX12 hown hK hP 0 rfl rfl 15 (by decide) (hts _ wd4_211) (fun _ h9 => h9) rfl dX12_isSolution_106 ?_
          refine lv_iload_n hx hb dX12_isSolution_109 rfl (lv_at hl 4 rfl) ?_
          refine lv_dup2_11 hx hb dX12_isSolution_110 rfl rfl ?_
          have hin := ld_in h
          refine va_iald hx hb hK hP 11 0 rfl rfl hin dX12_isSolution_111 ?_
          refine lv_topi (fun t111 et111 => ?_)
          have h := ld_to h et111
          refine lv_iconst (v := (1 : Int32)) hx hb dX12_isSolution_112 (by decide) ?_
          refine lv_iadd hx hb dX12_isSolution_113 ?_
          have hin := sti_in h
          refine va_iast hx hb hK hP hD hS 11 0 rfl rfl hin dX12_isSolution_114 (fun H locs hP hD hS => ?_)
          obtain ⟨M_size_114, eM_size_114⟩ : ∃ y : Nat → Int32, y = upd M_size (Int32.toNatClampNeg v3) (t111 + (1 : Int32)) := ⟨_, rfl⟩
          have h := sti_to h eM_size_114
          have hP : va_P g.1 vwCl (wX12 g aM aM_text aM_now aM_trial aM_read aM_diary aM_kept aM_isKept aM_constraint aM_readConstraint aM_word aM_size aM_number aM_firstOne aM_node aM_parent aM_rule aM_child aM_proof aM_witness aM_witnessSize aM_built aM_copyRow M_length M_acts M_next M_many M_readMany M_found M_shortest M_nodes M_solved M_dropped M_fits M_proofSize M_tooLong M_text M_now M_trial M_read M_diary M_kept M_isKept M_constraint M_readConstraint M_word_104 M_size_114 M_number M_firstOne M_node M_parent M_rule M_child M_proof M_witness M_witnessSize M_built M_copyRow) H := by rw [eM_size_114]; exact hP
          have hD : va_D A (wX12 g aM aM_text aM_now aM_trial aM_read aM_diary aM_kept aM_isKept aM_constraint aM_readConstraint aM_word aM_size aM_number aM_firstOne aM_node aM_parent aM_rule aM_child aM_proof aM_witness aM_witnessSize aM_built aM_copyRow M_length M_acts M_next M_many M_readMany M_found M_shortest M_nodes M_solved M_dropped M_fits M_proofSize M_tooLong M_text M_now M_trial M_read M_diary M_kept M_isKept M_constraint M_readConstraint M_word_104 M_size_114 M_number M_firstOne M_node M_parent M_rule M_child M_proof M_witness M_witnessSize M_built M_copyRow) := by rw [eM_size_114]; exact hD
          refine lv_goto (tgt := 197) hx hb dX12_isSolution_115 (by decide) ?_
          obtain ⟨t197, et197⟩ : ∃ y : Int32, y = v4 + (1 : Int32) := ⟨_, rfl⟩
          refine lv_iinc (v := t197) (lv' := [(4, .int t197), (5, .int t78), (0, .ref aM), (1, .ref aM_copyRow), (2, .int v2), (3, .int v3)]) hx hb dX12_isSolution_197 hl (k := 5) rfl (by rw [et197]; rfl) (by decide) rfl (fun ls hl => ?_)
          have h := st_to h et197
          refine lv_goto (tgt := 63) hx hb dX12_isSolution_200 (by decide) ?_
          exact ih63 M_word_104 M_size_114 v3 t197 ls H locs (lv_sub hl [2, 3, 4, 5, 0] rfl) hP hD hS h
      refine lv_iload_n hx hb dX12_isSolution_44 rfl (lv_at hl 3 rfl) ?_
      refine lv_iconst (v := (2 : Int32)) hx hb dX12_isSolution_45 (by decide) ?_
      refine lv_icmp_ge (tgt := 209) hx hb dX12_isSolution_46 (by decide) (fun q46 => ?_) (fun q46 => ?_)
      · have h := ifT h q46
        exact B209 M_word M_size v2 ls H locs (lv_sub hl [0, 2] rfl) hP hD hS h
      have h := ifF h q46
      refine lv_iload_n hx hb dX12_isSolution_49 rfl (lv_at hl 2 rfl) ?_
      refine lv_if_eq (tgt := 209) hx hb dX12_isSolution_50 (by decide) (fun q50 => ?_) (fun q50 => ?_)
      · have h := ifT h q50
        exact B209 M_word M_size v2 ls H locs (lv_sub hl [0, 2] rfl) hP hD hS h
      have h := ifF h q50
      refine lv_aload_n hx hb dX12_isSolution_53 rfl (lv_at hl 0 rfl) ?_
      refine va_get (D := g.1) (ci := 11) (v := .ref aM_size) (C := RX12) (T := TX12) (N := 35) hx hb hts inBX12 hown hK hP 0 rfl rfl 15 (by decide) (hts _ wd4_211) (fun _ h9 => h9) rfl dX12_isSolution_54 ?_
      refine lv_iload_n hx hb dX12_isSolution_57 rfl (lv_at hl 3 rfl) ?_
      refine lv_iconst (v := (0 : Int32)) hx hb dX12_isSolution_58 (by decide) ?_
      have hin := sti_in h
      refine va_iast hx hb hK hP hD hS 11 0 rfl rfl hin dX12_isSolution_59 (fun H locs hP hD hS => ?_)
      obtain ⟨M_size_59, eM_size_59⟩ : ∃ y : Nat → Int32, y = upd M_size (Int32.toNatClampNeg v3) (0 : Int32) := ⟨_, rfl⟩
      have h := sti_to h eM_size_59
      have hP : va_P g.1 vwCl (wX12 g aM aM_text aM_now aM_trial aM_read aM_diary aM_kept aM_isKept aM_constraint aM_readConstraint aM_word aM_size aM_number aM_firstOne aM_node aM_parent aM_rule aM_child aM_proof aM_witness aM_witnessSize aM_built aM_copyRow M_length M_acts M_next M_many M_readMany M_found M_shortest M_nodes M_solved M_dropped M_fits M_proofSize M_tooLong M_text M_now M_trial M_read M_diary M_kept M_isKept M_constraint M_readConstraint M_word M_size_59 M_number M_firstOne M_node M_parent M_rule M_child M_proof M_witness M_witnessSize M_built M_copyRow) H := by rw [eM_size_59]; exact hP
      have hD : va_D A (wX12 g aM aM_text aM_now aM_trial aM_read aM_diary aM_kept aM_isKept aM_constraint aM_readConstraint aM_word aM_size aM_number aM_firstOne aM_node aM_parent aM_rule aM_child aM_proof aM_witness aM_witnessSize aM_built aM_copyRow M_length M_acts M_next M_many M_readMany M_found M_shortest M_nodes M_solved M_dropped M_fits M_proofSize M_tooLong M_text M_now M_trial M_read M_diary M_kept M_isKept M_constraint M_readConstraint M_word M_size_59 M_number M_firstOne M_node M_parent M_rule M_child M_proof M_witness M_witnessSize M_built M_copyRow) := by rw [eM_size_59]; exact hD
      refine lv_iconst (v := (0 : Int32)) hx hb dX12_isSolution_60 (by decide) ?_
      refine lv_istore (lv' := [(4, .int (0 : Int32)), (0, .ref aM), (1, .ref aM_copyRow), (2, .int v2), (3, .int v3)]) hx hb dX12_isSolution_61 hl (by decide) rfl (fun ls hl => ?_)
      exact L63 FU M_word M_size_59 v3 (0 : Int32) ls H locs (lv_sub hl [1, 2, 3, 4, 0] rfl) hP hD hS h
  have L4 : ∀ (n4 : Nat), ∀ (M_word : Nat → Int32) (M_size : Nat → Int32) (v2 : Int32) (v3 : Int32) (ls : Array Slot) (H : Heap) (locs : List Loc), lv_has ls 10 [(0, .ref aM), (1, .ref aM_copyRow), (2, .int v2), (3, .int v3)] → va_P g.1 vwCl (wX12 g aM aM_text aM_now aM_trial aM_read aM_diary aM_kept aM_isKept aM_constraint aM_readConstraint aM_word aM_size aM_number aM_firstOne aM_node aM_parent aM_rule aM_child aM_proof aM_witness aM_witnessSize aM_built aM_copyRow M_length M_acts M_next M_many M_readMany M_found M_shortest M_nodes M_solved M_dropped M_fits M_proofSize M_tooLong M_text M_now M_trial M_read M_diary M_kept M_isKept M_constraint M_readConstraint M_word M_size M_number M_firstOne M_node M_parent M_rule M_child M_proof M_witness M_witnessSize M_built M_copyRow) H → va_D A (wX12 g aM aM_text aM_now aM_trial aM_read aM_diary aM_kept aM_isKept aM_constraint aM_readConstraint aM_word aM_size aM_number aM_firstOne aM_node aM_parent aM_rule aM_child aM_proof aM_witness aM_witnessSize aM_built aM_copyRow M_length M_acts M_next M_many M_readMany M_found M_shortest M_nodes M_solved M_dropped M_fits M_proofSize M_tooLong M_text M_now M_trial M_read M_diary M_kept M_isKept M_constraint M_readConstraint M_word M_size M_number M_firstOne M_node M_parent M_rule M_child M_proof M_witness M_witnessSize M_built M_copyRow) → va_S A s.heap H locs → fx2 (fM_isSolution_4 M_many M_constraint M_word M_size M_number M_copyRow) n4 v2 v3 = some (r, M_word_o, M_size_o) → W p l e rmX12_isSolution s m ([.ref aM, .ref aM_copyRow] : List Value).toArray below meth c H locs 0 0 QQ (F0 m 4 ls []) := by
    intro n4
    induction n4 with
    | zero => intro M_word M_size v2 v3 ls H locs hl hP hD hS h; exact fx2_0 h
    | succ n4 ih4 =>
      intro M_word M_size v2 v3 ls H locs hl hP hD hS h
      have h := (fx2_s (fM_isSolution_4 M_many M_constraint M_word M_size M_number M_copyRow) n4 v2 v3).symm.trans h
      refine lv_iload_n hx hb dX12_isSolution_4 rfl (lv_at hl 3 rfl) ?_
      refine lv_iconst (v := (4 : Int32)) hx hb dX12_isSolution_5 (by decide) ?_
      refine lv_icmp_ge (tgt := 42) hx hb dX12_isSolution_6 (by decide) (fun q6 => ?_) (fun q6 => ?_)
      · have h := ifT h q6
        refine lv_iconst (v := (0 : Int32)) hx hb dX12_isSolution_42 (by decide) ?_
        refine lv_istore_n (lv' := [(3, .int (0 : Int32)), (0, .ref aM), (1, .ref aM_copyRow), (2, .int v2)]) hx hb dX12_isSolution_43 rfl hl (by decide) rfl (fun ls hl => ?_)
        exact L44 FU M_word M_size v2 (0 : Int32) ls H locs (lv_sub hl [1, 2, 3, 0] rfl) hP hD hS h
      have h := ifF h q6
      refine lv_iload_n hx hb dX12_isSolution_9 rfl (lv_at hl 2 rfl) ?_
      refine lv_if_eq (tgt := 34) hx hb dX12_isSolution_10 (by decide) (fun q10 => ?_) (fun q10 => ?_)
      · have h := ifT h q10
        refine lv_iconst (v := (0 : Int32)) hx hb dX12_isSolution_34 (by decide) ?_
        refine lv_istore_n (lv' := [(2, .int (0 : Int32)), (0, .ref aM), (1, .ref aM_copyRow), (3, .int v3)]) hx hb dX12_isSolution_35 rfl hl (by decide) rfl (fun ls hl => ?_)
        obtain ⟨t36, et36⟩ : ∃ y : Int32, y = v3 + (1 : Int32) := ⟨_, rfl⟩
        refine lv_iinc (v := t36) (lv' := [(3, .int t36), (2, .int (0 : Int32)), (0, .ref aM), (1, .ref aM_copyRow)]) hx hb dX12_isSolution_36 hl (k := 3) rfl (by rw [et36]; rfl) (by decide) rfl (fun ls hl => ?_)
        have h := st_to h et36
        refine lv_goto (tgt := 4) hx hb dX12_isSolution_39 (by decide) ?_
        exact ih4 M_word M_size (0 : Int32) t36 ls H locs (lv_sub hl [2, 3, 1, 0] rfl) hP hD hS h
      have h := ifF h q10
      refine lv_aload_n hx hb dX12_isSolution_13 rfl (lv_at hl 0 rfl) ?_
      refine lv_iload_n hx hb dX12_isSolution_14 rfl (lv_at hl 3 rfl) ?_
      refine lv_aload_n hx hb dX12_isSolution_15 rfl (lv_at hl 0 rfl) ?_
      refine va_get (D := g.1) (ci := 11) (v := .ref aM_number) (C := RX12) (T := TX12) (N := 35) hx hb hts inBX12 hown hK hP 0 rfl rfl 16 (by decide) (hts _ wd4_212) (fun _ h9 => h9) rfl dX12_isSolution_16 ?_
      refine lv_iload_n hx hb dX12_isSolution_19 rfl (lv_at hl 3 rfl) ?_
      have hin := ld_in h
      refine va_iald hx hb hK hP 12 0 rfl rfl hin dX12_isSolution_20 ?_
      refine lv_topi (fun t20 et20 => ?_)
      have h := ld_to h et20
      obtain ⟨t21, hc21, h⟩ := bd1_to h
      refine go_0 (st1 := [.int t21, .int v3, .ref aM]) (run_S (As := [.int t20]) (rest := [.int v3, .ref aM]) X hS (mX12_lengthOf g l  t20 t21 hc21) okX12_lengthOf wd5_182 ⟨Nat.le_of_ble_eq_true rfl, Nat.le_of_ble_eq_true rfl⟩ ⟨rfl, rfl⟩ nil_P nil_D (nil_F hS hA) rfl hl.1 rfl (Nat.le_of_ble_eq_true rfl) dX12_isSolution_21 ⟨Nat.zero_le _, Nat.zero_le _⟩) hS hA hP rfl (fun H locs hP hS => ?_)
      obtain ⟨t24, hc24, h⟩ := bd1_to h
      refine go_A (st1 := [.int t24]) (run_V (As := [.int v3, .int t21]) (rest := []) X hS (mX12_holds g l  aM aM_text aM_now aM_trial aM_read aM_diary aM_kept aM_isKept aM_constraint aM_readConstraint aM_word aM_size aM_number aM_firstOne aM_node aM_parent aM_rule aM_child aM_proof aM_witness aM_witnessSize aM_built aM_copyRow M_length M_acts M_next M_many M_readMany M_found M_shortest M_nodes M_solved M_dropped M_fits M_proofSize M_tooLong M_text M_now M_trial M_read M_diary M_kept M_isKept M_constraint M_readConstraint M_word M_size M_number M_firstOne M_node M_parent M_rule M_child M_proof M_witness M_witnessSize M_built M_copyRow v3 t21 t24 hc24) okX12_holds wd5_185 ⟨Nat.le_of_ble_eq_true rfl, Nat.le_of_ble_eq_true rfl⟩ ⟨rfl, rfl⟩ (va_recv hK hP (ci := 11) (q0 := 0) rfl rfl) hP hD (all_F hS hA hD) rfl hl.1 rfl (Nat.le_of_ble_eq_true rfl) dX12_isSolution_24 ⟨Nat.zero_le _, Nat.zero_le _⟩) hS (all_F hS hA hD) rfl (fun H locs hP hD hS => ?_)
      refine lv_if_eq (tgt := 34) hx hb dX12_isSolution_27 (by decide) (fun q27 => ?_) (fun q27 => ?_)
      · have h := ifT h q27
        refine lv_iconst (v := (0 : Int32)) hx hb dX12_isSolution_34 (by decide) ?_
        refine lv_istore_n (lv' := [(2, .int (0 : Int32)), (0, .ref aM), (1, .ref aM_copyRow), (3, .int v3)]) hx hb dX12_isSolution_35 rfl hl (by decide) rfl (fun ls hl => ?_)
        obtain ⟨t36, et36⟩ : ∃ y : Int32, y = v3 + (1 : Int32) := ⟨_, rfl⟩
        refine lv_iinc (v := t36) (lv' := [(3, .int t36), (2, .int (0 : Int32)), (0, .ref aM), (1, .ref aM_copyRow)]) hx hb dX12_isSolution_36 hl (k := 3) rfl (by rw [et36]; rfl) (by decide) rfl (fun ls hl => ?_)
        have h := st_to h et36
        refine lv_goto (tgt := 4) hx hb dX12_isSolution_39 (by decide) ?_
        exact ih4 M_word M_size (0 : Int32) t36 ls H locs (lv_sub hl [2, 3, 1, 0] rfl) hP hD hS h
      have h := ifF h q27
      refine lv_iconst (v := (1 : Int32)) hx hb dX12_isSolution_30 (by decide) ?_
      refine lv_goto (tgt := 35) hx hb dX12_isSolution_31 (by decide) ?_
      refine lv_istore_n (lv' := [(2, .int (1 : Int32)), (0, .ref aM), (1, .ref aM_copyRow), (3, .int v3)]) hx hb dX12_isSolution_35 rfl hl (by decide) rfl (fun ls hl => ?_)
      obtain ⟨t36, et36⟩ : ∃ y : Int32, y = v3 + (1 : Int32) := ⟨_, rfl⟩
      refine lv_iinc (v := t36) (lv' := [(3, .int t36), (2, .int (1 : Int32)), (0, .ref aM), (1, .ref aM_copyRow)]) hx hb dX12_isSolution_36 hl (k := 3) rfl (by rw [et36]; rfl) (by decide) rfl (fun ls hl => ?_)
      have h := st_to h et36
      refine lv_goto (tgt := 4) hx hb dX12_isSolution_39 (by decide) ?_
      exact ih4 M_word M_size (1 : Int32) t36 ls H locs (lv_sub hl [2, 3, 1, 0] rfl) hP hD hS h
  have hl : lv_has ls 10 [(0, .ref aM), (1, .ref aM_copyRow)] := hl
  obtain ⟨H, hH⟩ : ∃ H, H = s.heap := ⟨_, rfl⟩
  obtain ⟨locs, hlocs⟩ : ∃ l : List Loc, l = [] := ⟨_, rfl⟩
  rw [show W p l e rmX12_isSolution s m ([.ref aM, .ref aM_copyRow] : List Value).toArray below meth c s.heap [] 0 0 QQ (F0 m 0 ls []) = W p l e rmX12_isSolution s m ([.ref aM, .ref aM_copyRow] : List Value).toArray below meth c H locs 0 0 QQ (F0 m 0 ls []) by rw [hH, hlocs]]
  have hP : va_P g.1 vwCl (wX12 g aM aM_text aM_now aM_trial aM_read aM_diary aM_kept aM_isKept aM_constraint aM_readConstraint aM_word aM_size aM_number aM_firstOne aM_node aM_parent aM_rule aM_child aM_proof aM_witness aM_witnessSize aM_built aM_copyRow M_length M_acts M_next M_many M_readMany M_found M_shortest M_nodes M_solved M_dropped M_fits M_proofSize M_tooLong M_text M_now M_trial M_read M_diary M_kept M_isKept M_constraint M_readConstraint M_word M_size M_number M_firstOne M_node M_parent M_rule M_child M_proof M_witness M_witnessSize M_built M_copyRow) H := by rw [hH]; exact hP
  have hD : va_D A (wX12 g aM aM_text aM_now aM_trial aM_read aM_diary aM_kept aM_isKept aM_constraint aM_readConstraint aM_word aM_size aM_number aM_firstOne aM_node aM_parent aM_rule aM_child aM_proof aM_witness aM_witnessSize aM_built aM_copyRow M_length M_acts M_next M_many M_readMany M_found M_shortest M_nodes M_solved M_dropped M_fits M_proofSize M_tooLong M_text M_now M_trial M_read M_diary M_kept M_isKept M_constraint M_readConstraint M_word M_size M_number M_firstOne M_node M_parent M_rule M_child M_proof M_witness M_witnessSize M_built M_copyRow) := hD
  have hS : va_S A s.heap H locs := by rw [hH, hlocs]; exact hS
  clear hH hlocs
  refine lv_iconst (v := (1 : Int32)) hx hb dX12_isSolution_0 (by decide) ?_
  refine lv_istore_n (lv' := [(2, .int (1 : Int32)), (0, .ref aM), (1, .ref aM_copyRow)]) hx hb dX12_isSolution_1 rfl hl (by decide) rfl (fun ls hl => ?_)
  refine lv_iconst (v := (0 : Int32)) hx hb dX12_isSolution_2 (by decide) ?_
  refine lv_istore_n (lv' := [(3, .int (0 : Int32)), (2, .int (1 : Int32)), (0, .ref aM), (1, .ref aM_copyRow)]) hx hb dX12_isSolution_3 rfl hl (by decide) rfl (fun ls hl => ?_)
  exact L4 FU M_word M_size (1 : Int32) (0 : Int32) ls H locs (lv_sub hl [2, 3, 1, 0] rfl) hP hD hS h
set_option maxHeartbeats 4000000 in
set_option maxRecDepth 100000 in
theorem mX12_isSolution_now (g : GP) (l : Launch) (aM aM_text aM_now aM_trial aM_read aM_diary aM_kept aM_isKept aM_constraint aM_readConstraint aM_word aM_size aM_number aM_firstOne aM_node aM_parent aM_rule aM_child aM_proof aM_witness aM_witnessSize aM_built aM_copyRow : Nat) (M_length : Int32) (M_acts : Int32) (M_next : Int32) (M_many : Int32) (M_readMany : Int32) (M_found : Int32) (M_shortest : Int32) (M_nodes : Int32) (M_solved : Int32) (M_dropped : Int32) (M_fits : Int32) (M_proofSize : Int32) (M_tooLong : Int32) (M_text : Nat → Int32) (M_now : Nat → Int32) (M_trial : Nat → Int32) (M_read : Nat → Int32) (M_diary : Nat → Int32) (M_kept : Nat → Int32) (M_isKept : Nat → Int32) (M_constraint : Nat → Int32) (M_readConstraint : Nat → Int32) (M_word : Nat → Int32) (M_size : Nat → Int32) (M_number : Nat → Int32) (M_firstOne : Nat → Int32) (M_node : Nat → Int32) (M_parent : Nat → Int32) (M_rule : Nat → Int32) (M_child : Nat → Int32) (M_proof : Nat → Int32) (M_witness : Nat → Int32) (M_witnessSize : Nat → Int32) (M_built : Nat → Int32) (M_copyRow : Nat → Int32)  (r : Int32) (M_word_o : Nat → Int32) (M_size_o : Nat → Int32) (h : fM_isSolution M_many M_constraint M_word M_size M_number M_now = some (r, M_word_o, M_size_o)) : Ct g l yX12_isSolution cX12_isSolution 10 (some .boolean) rmX12_isSolution [.ref aM, .ref aM_now] (wX12 g aM aM_text aM_now aM_trial aM_read aM_diary aM_kept aM_isKept aM_constraint aM_readConstraint aM_word aM_size aM_number aM_firstOne aM_node aM_parent aM_rule aM_child aM_proof aM_witness aM_witnessSize aM_built aM_copyRow M_length M_acts M_next M_many M_readMany M_found M_shortest M_nodes M_solved M_dropped M_fits M_proofSize M_tooLong M_text M_now M_trial M_read M_diary M_kept M_isKept M_constraint M_readConstraint M_word M_size M_number M_firstOne M_node M_parent M_rule M_child M_proof M_witness M_witnessSize M_built M_copyRow) (some (.int r)) (wX12 g aM aM_text aM_now aM_trial aM_read aM_diary aM_kept aM_isKept aM_constraint aM_readConstraint aM_word aM_size aM_number aM_firstOne aM_node aM_parent aM_rule aM_child aM_proof aM_witness aM_witnessSize aM_built aM_copyRow M_length M_acts M_next M_many M_readMany M_found M_shortest M_nodes M_solved M_dropped M_fits M_proofSize M_tooLong M_text M_now M_trial M_read M_diary M_kept M_isKept M_constraint M_readConstraint M_word_o M_size_o M_number M_firstOne M_node M_parent M_rule M_child M_proof M_witness M_witnessSize M_built M_copyRow) := by
  refine Ct.introZ (by decide) (Nat.le_of_ble_eq_true rfl) ?_
  intro p e s m below meth c A QQ ls hyp hret
  obtain ⟨hx, hb, hml, hts, hown, hA, hE, hP, hD, hl⟩ := hyp
  have hK := hE.1
  have hS : va_S A s.heap s.heap [] := va_S.rf
  have X : Here g p s m c cX12_isSolution 10 ([.ref aM, .ref aM_now] : List Value).toArray RX12 A := ⟨⟨hx, hb, hml, hown, hts⟩, hE, hA⟩
  have L236 : ∀ (n236 : Nat), ∀ (M_word : Nat → Int32) (M_size : Nat → Int32) (v2 : Int32) (v3 : Int32) (ls : Array Slot) (H : Heap) (locs : List Loc), lv_has ls 10 [(0, .ref aM), (2, .int v2), (3, .int v3)] → va_P g.1 vwCl (wX12 g aM aM_text aM_now aM_trial aM_read aM_diary aM_kept aM_isKept aM_constraint aM_readConstraint aM_word aM_size aM_number aM_firstOne aM_node aM_parent aM_rule aM_child aM_proof aM_witness aM_witnessSize aM_built aM_copyRow M_length M_acts M_next M_many M_readMany M_found M_shortest M_nodes M_solved M_dropped M_fits M_proofSize M_tooLong M_text M_now M_trial M_read M_diary M_kept M_isKept M_constraint M_readConstraint M_word M_size M_number M_firstOne M_node M_parent M_rule M_child M_proof M_witness M_witnessSize M_built M_copyRow) H → va_D A (wX12 g aM aM_text aM_now aM_trial aM_read aM_diary aM_kept aM_isKept aM_constraint aM_readConstraint aM_word aM_size aM_number aM_firstOne aM_node aM_parent aM_rule aM_child aM_proof aM_witness aM_witnessSize aM_built aM_copyRow M_length M_acts M_next M_many M_readMany M_found M_shortest M_nodes M_solved M_dropped M_fits M_proofSize M_tooLong M_text M_now M_trial M_read M_diary M_kept M_isKept M_constraint M_readConstraint M_word M_size M_number M_firstOne M_node M_parent M_rule M_child M_proof M_witness M_witnessSize M_built M_copyRow) → va_S A s.heap H locs → fx2 (fM_isSolution_236 M_word M_size) n236 v2 v3 = some (r, M_word_o, M_size_o) → W p l e rmX12_isSolution s m ([.ref aM, .ref aM_now] : List Value).toArray below meth c H locs 0 0 QQ (F0 m 236 ls []) := by
    intro n236
    induction n236 with
    | zero => intro M_word M_size v2 v3 ls H locs hl hP hD hS h; exact fx2_0 h
    | succ n236 ih236 =>
      intro M_word M_size v2 v3 ls H locs hl hP hD hS h
      have h := (fx2_s (fM_isSolution_236 M_word M_size) n236 v2 v3).symm.trans h
      refine lv_iload_n hx hb dX12_isSolution_236 rfl (lv_at hl 1 rfl) ?_
      refine lv_if_eq (tgt := 280) hx hb dX12_isSolution_237 (by decide) (fun q237 => ?_) (fun q237 => ?_)
      · have h := ifT h q237
        refine lv_iload_n hx hb dX12_isSolution_280 rfl (lv_at hl 1 rfl) ?_
        have z281 := ckz_is h
        have h := ckz_to h
        have h : some (v2, M_word, M_size) = some (r, M_word_o, M_size_o) := h
        cases h
        exact hret _ _ _ _ (nz_nar z281) hP hD hS dX12_isSolution_281
      have h := ifF h q237
      refine lv_iload_n hx hb dX12_isSolution_240 rfl (lv_at hl 2 rfl) ?_
      refine lv_aload_n hx hb dX12_isSolution_241 rfl (lv_at hl 0 rfl) ?_
      refine va_get (D := g.1) (ci := 11) (v := .ref aM_size) (C := RX12) (T := TX12) (N := 35) hx hb hts inBX12 hown hK hP 0 rfl rfl 15 (by decide) (hts _ wd4_211) (fun _ h9 => h9) rfl dX12_isSolution_242 ?_
      refine lv_iconst (v := (0 : Int32)) hx hb dX12_isSolution_245 (by decide) ?_
      have hin := ld_in h
      refine va_iald hx hb hK hP 11 0 rfl rfl hin dX12_isSolution_246 ?_
      refine lv_topi (fun t246 et246 => ?_)
      have h := ld_to h et246
      refine lv_icmp_ge (tgt := 280) hx hb dX12_isSolution_247 (by decide) (fun q247 => ?_) (fun q247 => ?_)
      · have h := ifT h q247
        refine lv_iload_n hx hb dX12_isSolution_280 rfl (lv_at hl 1 rfl) ?_
        have z281 := ckz_is h
        have h := ckz_to h
        have h : some (v2, M_word, M_size) = some (r, M_word_o, M_size_o) := h
        cases h
        exact hret _ _ _ _ (nz_nar z281) hP hD hS dX12_isSolution_281
      have h := ifF h q247
      refine lv_aload_n hx hb dX12_isSolution_250 rfl (lv_at hl 0 rfl) ?_
      refine va_get (D := g.1) (ci := 11) (v := .ref aM_word) (C := RX12) (T := TX12) (N := 35) hx hb hts inBX12 hown hK hP 0 rfl rfl 14 (by decide) (hts _ wd4_210) (fun _ h9 => h9) rfl dX12_isSolution_251 ?_
      refine lv_iload_n hx hb dX12_isSolution_254 rfl (lv_at hl 2 rfl) ?_
      have hin := ld_in h
      refine va_iald hx hb hK hP 10 0 rfl rfl hin dX12_isSolution_255 ?_
      refine lv_topi (fun t255 et255 => ?_)
      have h := ld_to h et255
      refine lv_aload_n hx hb dX12_isSolution_256 rfl (lv_at hl 0 rfl) ?_
      refine va_get (D := g.1) (ci := 11) (v := .ref aM_word) (C := RX12) (T := TX12) (N := 35) hx hb hts inBX12 hown hK hP 0 rfl rfl 14 (by decide) (hts _ wd4_210) (fun _ h9 => h9) rfl dX12_isSolution_257 ?_
      refine lv_bipush (v := (60 : Int32)) hx hb dX12_isSolution_260 (by decide) ?_
      refine lv_iload_n hx hb dX12_isSolution_262 rfl (lv_at hl 2 rfl) ?_
      refine lv_iadd hx hb dX12_isSolution_263 ?_
      have hin := ld_in h
      refine va_iald hx hb hK hP 10 0 rfl rfl hin dX12_isSolution_264 ?_
      refine lv_topi (fun t264 et264 => ?_)
      have h := ld_to h et264
      refine lv_icmp_ne (tgt := 272) hx hb dX12_isSolution_265 (by decide) (fun q265 => ?_) (fun q265 => ?_)
      · have h := ifF h q265
        refine lv_iconst (v := (0 : Int32)) hx hb dX12_isSolution_272 (by decide) ?_
        refine lv_istore_n (lv' := [(2, .int (0 : Int32)), (0, .ref aM), (3, .int v3)]) hx hb dX12_isSolution_273 rfl hl (by decide) rfl (fun ls hl => ?_)
        obtain ⟨t274, et274⟩ : ∃ y : Int32, y = v3 + (1 : Int32) := ⟨_, rfl⟩
        refine lv_iinc (v := t274) (lv' := [(3, .int t274), (2, .int (0 : Int32)), (0, .ref aM)]) hx hb dX12_isSolution_274 hl (k := 2) rfl (by rw [et274]; rfl) (by decide) rfl (fun ls hl => ?_)
        have h := st_to h et274
        refine lv_goto (tgt := 236) hx hb dX12_isSolution_277 (by decide) ?_
        exact ih236 M_word M_size (0 : Int32) t274 ls H locs (lv_sub hl [2, 1, 0] rfl) hP hD hS h
      have h := ifT h q265
      refine lv_iconst (v := (1 : Int32)) hx hb dX12_isSolution_268 (by decide) ?_
      refine lv_goto (tgt := 273) hx hb dX12_isSolution_269 (by decide) ?_
      refine lv_istore_n (lv' := [(2, .int (1 : Int32)), (0, .ref aM), (3, .int v3)]) hx hb dX12_isSolution_273 rfl hl (by decide) rfl (fun ls hl => ?_)
      obtain ⟨t274, et274⟩ : ∃ y : Int32, y = v3 + (1 : Int32) := ⟨_, rfl⟩
      refine lv_iinc (v := t274) (lv' := [(3, .int t274), (2, .int (1 : Int32)), (0, .ref aM)]) hx hb dX12_isSolution_274 hl (k := 2) rfl (by rw [et274]; rfl) (by decide) rfl (fun ls hl => ?_)
      have h := st_to h et274
      refine lv_goto (tgt := 236) hx hb dX12_isSolution_277 (by decide) ?_
      exact ih236 M_word M_size (1 : Int32) t274 ls H locs (lv_sub hl [2, 1, 0] rfl) hP hD hS h
  have B209 : ∀ (M_word : Nat → Int32) (M_size : Nat → Int32) (v2 : Int32) (ls : Array Slot) (H : Heap) (locs : List Loc), lv_has ls 10 [(0, .ref aM), (2, .int v2)] → va_P g.1 vwCl (wX12 g aM aM_text aM_now aM_trial aM_read aM_diary aM_kept aM_isKept aM_constraint aM_readConstraint aM_word aM_size aM_number aM_firstOne aM_node aM_parent aM_rule aM_child aM_proof aM_witness aM_witnessSize aM_built aM_copyRow M_length M_acts M_next M_many M_readMany M_found M_shortest M_nodes M_solved M_dropped M_fits M_proofSize M_tooLong M_text M_now M_trial M_read M_diary M_kept M_isKept M_constraint M_readConstraint M_word M_size M_number M_firstOne M_node M_parent M_rule M_child M_proof M_witness M_witnessSize M_built M_copyRow) H → va_D A (wX12 g aM aM_text aM_now aM_trial aM_read aM_diary aM_kept aM_isKept aM_constraint aM_readConstraint aM_word aM_size aM_number aM_firstOne aM_node aM_parent aM_rule aM_child aM_proof aM_witness aM_witnessSize aM_built aM_copyRow M_length M_acts M_next M_many M_readMany M_found M_shortest M_nodes M_solved M_dropped M_fits M_proofSize M_tooLong M_text M_now M_trial M_read M_diary M_kept M_isKept M_constraint M_readConstraint M_word M_size M_number M_firstOne M_node M_parent M_rule M_child M_proof M_witness M_witnessSize M_built M_copyRow) → va_S A s.heap H locs → fM_isSolution_209 M_word M_size v2 = some (r, M_word_o, M_size_o) → W p l e rmX12_isSolution s m ([.ref aM, .ref aM_now] : List Value).toArray below meth c H locs 0 0 QQ (F0 m 209 ls []) := by
    intro M_word M_size v2 ls H locs hl hP hD hS h
    refine lv_iload_n hx hb dX12_isSolution_209 rfl (lv_at hl 1 rfl) ?_
    refine lv_if_eq (tgt := 232) hx hb dX12_isSolution_210 (by decide) (fun q210 => ?_) (fun q210 => ?_)
    · have h := ifT h q210
      refine lv_iconst (v := (0 : Int32)) hx hb dX12_isSolution_232 (by decide) ?_
      refine lv_istore_n (lv' := [(2, .int (0 : Int32)), (0, .ref aM)]) hx hb dX12_isSolution_233 rfl hl (by decide) rfl (fun ls hl => ?_)
      refine lv_iconst (v := (0 : Int32)) hx hb dX12_isSolution_234 (by decide) ?_
      refine lv_istore_n (lv' := [(3, .int (0 : Int32)), (2, .int (0 : Int32)), (0, .ref aM)]) hx hb dX12_isSolution_235 rfl hl (by decide) rfl (fun ls hl => ?_)
      exact L236 FU M_word M_size (0 : Int32) (0 : Int32) ls H locs (lv_sub hl [2, 1, 0] rfl) hP hD hS h
    have h := ifF h q210
    refine lv_aload_n hx hb dX12_isSolution_213 rfl (lv_at hl 0 rfl) ?_
    refine va_get (D := g.1) (ci := 11) (v := .ref aM_size) (C := RX12) (T := TX12) (N := 35) hx hb hts inBX12 hown hK hP 0 rfl rfl 15 (by decide) (hts _ wd4_211) (fun _ h9 => h9) rfl dX12_isSolution_214 ?_
    refine lv_iconst (v := (0 : Int32)) hx hb dX12_isSolution_217 (by decide) ?_
    have hin := ld_in h
    refine va_iald hx hb hK hP 11 0 rfl rfl hin dX12_isSolution_218 ?_
    refine lv_topi (fun t218 et218 => ?_)
    have h := ld_to h et218
    refine lv_aload_n hx hb dX12_isSolution_219 rfl (lv_at hl 0 rfl) ?_
    refine va_get (D := g.1) (ci := 11) (v := .ref aM_size) (C := RX12) (T := TX12) (N := 35) hx hb hts inBX12 hown hK hP 0 rfl rfl 15 (by decide) (hts _ wd4_211) (fun _ h9 => h9) rfl dX12_isSolution_220 ?_
    refine lv_iconst (v := (1 : Int32)) hx hb dX12_isSolution_223 (by decide) ?_
    have hin := ld_in h
    refine va_iald hx hb hK hP 11 0 rfl rfl hin dX12_isSolution_224 ?_
    refine lv_topi (fun t224 et224 => ?_)
    have h := ld_to h et224
    refine lv_icmp_ne (tgt := 232) hx hb dX12_isSolution_225 (by decide) (fun q225 => ?_) (fun q225 => ?_)
    · have h := ifF h q225
      refine lv_iconst (v := (0 : Int32)) hx hb dX12_isSolution_232 (by decide) ?_
      refine lv_istore_n (lv' := [(2, .int (0 : Int32)), (0, .ref aM)]) hx hb dX12_isSolution_233 rfl hl (by decide) rfl (fun ls hl => ?_)
      refine lv_iconst (v := (0 : Int32)) hx hb dX12_isSolution_234 (by decide) ?_
      refine lv_istore_n (lv' := [(3, .int (0 : Int32)), (2, .int (0 : Int32)), (0, .ref aM)]) hx hb dX12_isSolution_235 rfl hl (by decide) rfl (fun ls hl => ?_)
      exact L236 FU M_word M_size (0 : Int32) (0 : Int32) ls H locs (lv_sub hl [2, 1, 0] rfl) hP hD hS h
    have h := ifT h q225
    refine lv_iconst (v := (1 : Int32)) hx hb dX12_isSolution_228 (by decide) ?_
    refine lv_goto (tgt := 233) hx hb dX12_isSolution_229 (by decide) ?_
    refine lv_istore_n (lv' := [(2, .int (1 : Int32)), (0, .ref aM)]) hx hb dX12_isSolution_233 rfl hl (by decide) rfl (fun ls hl => ?_)
    refine lv_iconst (v := (0 : Int32)) hx hb dX12_isSolution_234 (by decide) ?_
    refine lv_istore_n (lv' := [(3, .int (0 : Int32)), (2, .int (1 : Int32)), (0, .ref aM)]) hx hb dX12_isSolution_235 rfl hl (by decide) rfl (fun ls hl => ?_)
    exact L236 FU M_word M_size (1 : Int32) (0 : Int32) ls H locs (lv_sub hl [2, 1, 0] rfl) hP hD hS h
  have L44 : ∀ (n44 : Nat), ∀ (M_word : Nat → Int32) (M_size : Nat → Int32) (v2 : Int32) (v3 : Int32) (ls : Array Slot) (H : Heap) (locs : List Loc), lv_has ls 10 [(0, .ref aM), (1, .ref aM_now), (2, .int v2), (3, .int v3)] → va_P g.1 vwCl (wX12 g aM aM_text aM_now aM_trial aM_read aM_diary aM_kept aM_isKept aM_constraint aM_readConstraint aM_word aM_size aM_number aM_firstOne aM_node aM_parent aM_rule aM_child aM_proof aM_witness aM_witnessSize aM_built aM_copyRow M_length M_acts M_next M_many M_readMany M_found M_shortest M_nodes M_solved M_dropped M_fits M_proofSize M_tooLong M_text M_now M_trial M_read M_diary M_kept M_isKept M_constraint M_readConstraint M_word M_size M_number M_firstOne M_node M_parent M_rule M_child M_proof M_witness M_witnessSize M_built M_copyRow) H → va_D A (wX12 g aM aM_text aM_now aM_trial aM_read aM_diary aM_kept aM_isKept aM_constraint aM_readConstraint aM_word aM_size aM_number aM_firstOne aM_node aM_parent aM_rule aM_child aM_proof aM_witness aM_witnessSize aM_built aM_copyRow M_length M_acts M_next M_many M_readMany M_found M_shortest M_nodes M_solved M_dropped M_fits M_proofSize M_tooLong M_text M_now M_trial M_read M_diary M_kept M_isKept M_constraint M_readConstraint M_word M_size M_number M_firstOne M_node M_parent M_rule M_child M_proof M_witness M_witnessSize M_built M_copyRow) → va_S A s.heap H locs → fx3 (fM_isSolution_44 M_number M_now v2) n44 M_word M_size v3 = some (r, M_word_o, M_size_o) → W p l e rmX12_isSolution s m ([.ref aM, .ref aM_now] : List Value).toArray below meth c H locs 0 0 QQ (F0 m 44 ls []) := by
    intro n44
    induction n44 with
    | zero => intro M_word M_size v2 v3 ls H locs hl hP hD hS h; exact fx3_0 h
    | succ n44 ih44 =>
      intro M_word M_size v2 v3 ls H locs hl hP hD hS h
      have h := (fx3_s (fM_isSolution_44 M_number M_now v2) n44 M_word M_size v3).symm.trans h
      have L63 : ∀ (n63 : Nat), ∀ (M_word : Nat → Int32) (M_size : Nat → Int32) (v3 : Int32) (v4 : Int32) (ls : Array Slot) (H : Heap) (locs : List Loc), lv_has ls 10 [(0, .ref aM), (1, .ref aM_now), (2, .int v2), (3, .int v3), (4, .int v4)] → va_P g.1 vwCl (wX12 g aM aM_text aM_now aM_trial aM_read aM_diary aM_kept aM_isKept aM_constraint aM_readConstraint aM_word aM_size aM_number aM_firstOne aM_node aM_parent aM_rule aM_child aM_proof aM_witness aM_witnessSize aM_built aM_copyRow M_length M_acts M_next M_many M_readMany M_found M_shortest M_nodes M_solved M_dropped M_fits M_proofSize M_tooLong M_text M_now M_trial M_read M_diary M_kept M_isKept M_constraint M_readConstraint M_word M_size M_number M_firstOne M_node M_parent M_rule M_child M_proof M_witness M_witnessSize M_built M_copyRow) H → va_D A (wX12 g aM aM_text aM_now aM_trial aM_read aM_diary aM_kept aM_isKept aM_constraint aM_readConstraint aM_word aM_size aM_number aM_firstOne aM_node aM_parent aM_rule aM_child aM_proof aM_witness aM_witnessSize aM_built aM_copyRow M_length M_acts M_next M_many M_readMany M_found M_shortest M_nodes M_solved M_dropped M_fits M_proofSize M_tooLong M_text M_now M_trial M_read M_diary M_kept M_isKept M_constraint M_readConstraint M_word M_size M_number M_firstOne M_node M_parent M_rule M_child M_proof M_witness M_witnessSize M_built M_copyRow) → va_S A s.heap H locs → fx3 (fM_isSolution_63 (fx3 (fM_isSolution_44 M_number M_now v2) n44) M_number M_now v2 v3) n63 M_word M_size v4 = some (r, M_word_o, M_size_o) → W p l e rmX12_isSolution s m ([.ref aM, .ref aM_now] : List Value).toArray below meth c H locs 0 0 QQ (F0 m 63 ls []) := by
        intro n63
        induction n63 with
        | zero => intro M_word M_size v3 v4 ls H locs hl hP hD hS h; exact fx3_0 h
        | succ n63 ih63 =>
          intro M_word M_size v3 v4 ls H locs hl hP hD hS h
          have h := (fx3_s (fM_isSolution_63 (fx3 (fM_isSolution_44 M_number M_now v2) n44) M_number M_now v2 v3) n63 M_word M_size v4).symm.trans h
          have L153 : ∀ (n153 : Nat), ∀ (M_word : Nat → Int32) (M_size : Nat → Int32) (v4 : Int32) (v8 : Int32) (v9 : Int32) (ls : Array Slot) (H : Heap) (locs : List Loc), lv_has ls 10 [(0, .ref aM), (1, .ref aM_now), (2, .int v2), (3, .int v3), (4, .int v4), (8, .int v8), (9, .int v9)] → va_P g.1 vwCl (wX12 g aM aM_text aM_now aM_trial aM_read aM_diary aM_kept aM_isKept aM_constraint aM_readConstraint aM_word aM_size aM_number aM_firstOne aM_node aM_parent aM_rule aM_child aM_proof aM_witness aM_witnessSize aM_built aM_copyRow M_length M_acts M_next M_many M_readMany M_found M_shortest M_nodes M_solved M_dropped M_fits M_proofSize M_tooLong M_text M_now M_trial M_read M_diary M_kept M_isKept M_constraint M_readConstraint M_word M_size M_number M_firstOne M_node M_parent M_rule M_child M_proof M_witness M_witnessSize M_built M_copyRow) H → va_D A (wX12 g aM aM_text aM_now aM_trial aM_read aM_diary aM_kept aM_isKept aM_constraint aM_readConstraint aM_word aM_size aM_number aM_firstOne aM_node aM_parent aM_rule aM_child aM_proof aM_witness aM_witnessSize aM_built aM_copyRow M_length M_acts M_next M_many M_readMany M_found M_shortest M_nodes M_solved M_dropped M_fits M_proofSize M_tooLong M_text M_now M_trial M_read M_diary M_kept M_isKept M_constraint M_readConstraint M_word M_size M_number M_firstOne M_node M_parent M_rule M_child M_proof M_witness M_witnessSize M_built M_copyRow) → va_S A s.heap H locs → fx3 (fM_isSolution_153 (fx3 (fM_isSolution_44 M_number M_now v2) n44) (fx3 (fM_isSolution_63 (fx3 (fM_isSolution_44 M_number M_now v2) n44) M_number M_now v2 v3) n63) M_number M_now v2 v3 v4 v8) n153 M_word M_size v9 = some (r, M_word_o, M_size_o) → W p l e rmX12_isSolution s m ([.ref aM, .ref aM_now] : List Value).toArray below meth c H locs 0 0 QQ (F0 m 153 ls []) := by
            intro n153
            induction n153 with
            | zero => intro M_word M_size v4 v8 v9 ls H locs hl hP hD hS h; exact fx3_0 h
            | succ n153 ih153 =>
              intro M_word M_size v4 v8 v9 ls H locs hl hP hD hS h
              have h := (fx3_s (fM_isSolution_153 (fx3 (fM_isSolution_44 M_number M_now v2) n44) (fx3 (fM_isSolution_63 (fx3 (fM_isSolution_44 M_number M_now v2) n44) M_number M_now v2 v3) n63) M_number M_now v2 v3 v4 v8) n153 M_word M_size v9).symm.trans h
              refine lv_iload hx hb dX12_isSolution_153 (lv_at hl 6 rfl) ?_
              refine lv_if_lt (tgt := 197) hx hb dX12_isSolution_155 (by decide) (fun q155 => ?_) (fun q155 => ?_)
              · have h := ifT h q155
                obtain ⟨t197, et197⟩ : ∃ y : Int32, y = v4 + (1 : Int32) := ⟨_, rfl⟩
                refine lv_iinc (v := t197) (lv' := [(4, .int t197), (0, .ref aM), (1, .ref aM_now), (2, .int v2), (3, .int v3), (8, .int v8), (9, .int v9)]) hx hb dX12_isSolution_197 hl (k := 4) rfl (by rw [et197]; rfl) (by decide) rfl (fun ls hl => ?_)
                have h := st_to h et197
                refine lv_goto (tgt := 63) hx hb dX12_isSolution_200 (by decide) ?_
                exact ih63 M_word M_size v3 t197 ls H locs (lv_sub hl [1, 2, 3, 4, 0] rfl) hP hD hS h
              have h := ifF h q155
              refine lv_aload_n hx hb dX12_isSolution_158 rfl (lv_at hl 0 rfl) ?_
              refine va_get (D := g.1) (ci := 11) (v := .ref aM_word) (C := RX12) (T := TX12) (N := 35) hx hb hts inBX12 hown hK hP 0 rfl rfl 14 (by decide) (hts _ wd4_210) (fun _ h9 => h9) rfl dX12_isSolution_159 ?_
              refine lv_bipush (v := (60 : Int32)) hx hb dX12_isSolution_162 (by decide) ?_
              refine lv_iload_n hx hb dX12_isSolution_164 rfl (lv_at hl 3 rfl) ?_
              refine lv_imul hx hb dX12_isSolution_165 ?_
              refine lv_aload_n hx hb dX12_isSolution_166 rfl (lv_at hl 0 rfl) ?_
              refine va_get (D := g.1) (ci := 11) (v := .ref aM_size) (C := RX12) (T := TX12) (N := 35) hx hb hts inBX12 hown hK hP 0 rfl rfl 15 (by decide) (hts _ wd4_211) (fun _ h9 => h9) rfl dX12_isSolution_167 ?_
              refine lv_iload_n hx hb dX12_isSolution_170 rfl (lv_at hl 3 rfl) ?_
              have hin := ld_in h
              refine va_iald hx hb hK hP 11 0 rfl rfl hin dX12_isSolution_171 ?_
              refine lv_topi (fun t171 et171 => ?_)
              have h := ld_to h et171
              refine lv_iadd hx hb dX12_isSolution_172 ?_
              refine lv_iload hx hb dX12_isSolution_173 (lv_at hl 5 rfl) ?_
              refine lv_iload hx hb dX12_isSolution_175 (lv_at hl 6 rfl) ?_
              refine lv_ishr hx hb dX12_isSolution_177 ?_
              refine lv_iconst (v := (1 : Int32)) hx hb dX12_isSolution_178 (by decide) ?_
              refine lv_iand hx hb dX12_isSolution_179 ?_
              have hin := sti_in h
              refine va_iast hx hb hK hP hD hS 10 0 rfl rfl hin dX12_isSolution_180 (fun H locs hP hD hS => ?_)
              obtain ⟨M_word_180, eM_word_180⟩ : ∃ y : Nat → Int32, y = upd M_word (Int32.toNatClampNeg (((60 : Int32) * v3) + t171)) ((shr v8 v9) &&& (1 : Int32)) := ⟨_, rfl⟩
              have h := sti_to h eM_word_180
              have hP : va_P g.1 vwCl (wX12 g aM aM_text aM_now aM_trial aM_read aM_diary aM_kept aM_isKept aM_constraint aM_readConstraint aM_word aM_size aM_number aM_firstOne aM_node aM_parent aM_rule aM_child aM_proof aM_witness aM_witnessSize aM_built aM_copyRow M_length M_acts M_next M_many M_readMany M_found M_shortest M_nodes M_solved M_dropped M_fits M_proofSize M_tooLong M_text M_now M_trial M_read M_diary M_kept M_isKept M_constraint M_readConstraint M_word_180 M_size M_number M_firstOne M_node M_parent M_rule M_child M_proof M_witness M_witnessSize M_built M_copyRow) H := by rw [eM_word_180]; exact hP
              have hD : va_D A (wX12 g aM aM_text aM_now aM_trial aM_read aM_diary aM_kept aM_isKept aM_constraint aM_readConstraint aM_word aM_size aM_number aM_firstOne aM_node aM_parent aM_rule aM_child aM_proof aM_witness aM_witnessSize aM_built aM_copyRow M_length M_acts M_next M_many M_readMany M_found M_shortest M_nodes M_solved M_dropped M_fits M_proofSize M_tooLong M_text M_now M_trial M_read M_diary M_kept M_isKept M_constraint M_readConstraint M_word_180 M_size M_number M_firstOne M_node M_parent M_rule M_child M_proof M_witness M_witnessSize M_built M_copyRow) := by rw [eM_word_180]; exact hD
              refine lv_aload_n hx hb dX12_isSolution_181 rfl (lv_at hl 0 rfl) ?_
              refine va_get (D := g.1) (ci := 11) (v := .ref aM_size) (C := RX12) (T := TX12) (N := 35) hx hb hts inBX12 hown hK hP 0 rfl rfl 15 (by decide) (hts _ wd4_211) (fun _ h9 => h9) rfl dX12_isSolution_182 ?_
              refine lv_iload_n hx hb dX12_isSolution_185 rfl (lv_at hl 3 rfl) ?_
              refine lv_dup2_11 hx hb dX12_isSolution_186 rfl rfl ?_
              have hin := ld_in h
              refine va_iald hx hb hK hP 11 0 rfl rfl hin dX12_isSolution_187 ?_
              refine lv_topi (fun t187 et187 => ?_)
              have h := ld_to h et187
              refine lv_iconst (v := (1 : Int32)) hx hb dX12_isSolution_188 (by decide) ?_
              refine lv_iadd hx hb dX12_isSolution_189 ?_
              have hin := sti_in h
              refine va_iast hx hb hK hP hD hS 11 0 rfl rfl hin dX12_isSolution_190 (fun H locs hP hD hS => ?_)
              obtain ⟨M_size_190, eM_size_190⟩ : ∃ y : Nat → Int32, y = upd M_size (Int32.toNatClampNeg v3) (t187 + (1 : Int32)) := ⟨_, rfl⟩
              have h := sti_to h eM_size_190
              have hP : va_P g.1 vwCl (wX12 g aM aM_text aM_now aM_trial aM_read aM_diary aM_kept aM_isKept aM_constraint aM_readConstraint aM_word aM_size aM_number aM_firstOne aM_node aM_parent aM_rule aM_child aM_proof aM_witness aM_witnessSize aM_built aM_copyRow M_length M_acts M_next M_many M_readMany M_found M_shortest M_nodes M_solved M_dropped M_fits M_proofSize M_tooLong M_text M_now M_trial M_read M_diary M_kept M_isKept M_constraint M_readConstraint M_word_180 M_size_190 M_number M_firstOne M_node M_parent M_rule M_child M_proof M_witness M_witnessSize M_built M_copyRow) H := by rw [eM_size_190]; exact hP
              have hD : va_D A (wX12 g aM aM_text aM_now aM_trial aM_read aM_diary aM_kept aM_isKept aM_constraint aM_readConstraint aM_word aM_size aM_number aM_firstOne aM_node aM_parent aM_rule aM_child aM_proof aM_witness aM_witnessSize aM_built aM_copyRow M_length M_acts M_next M_many M_readMany M_found M_shortest M_nodes M_solved M_dropped M_fits M_proofSize M_tooLong M_text M_now M_trial M_read M_diary M_kept M_isKept M_constraint M_readConstraint M_word_180 M_size_190 M_number M_firstOne M_node M_parent M_rule M_child M_proof M_witness M_witnessSize M_built M_copyRow) := by rw [eM_size_190]; exact hD
              obtain ⟨t191, et191⟩ : ∃ y : Int32, y = v9 + ((-1) : Int32) := ⟨_, rfl⟩
              refine lv_iinc (v := t191) (lv' := [(9, .int t191), (0, .ref aM), (1, .ref aM_now), (2, .int v2), (3, .int v3), (4, .int v4), (8, .int v8)]) hx hb dX12_isSolution_191 hl (k := 6) rfl (by rw [et191]; rfl) (by decide) rfl (fun ls hl => ?_)
              have h := st_to h et191
              refine lv_goto (tgt := 153) hx hb dX12_isSolution_194 (by decide) ?_
              exact ih153 M_word_180 M_size_190 v4 v8 t191 ls H locs (lv_sub hl [1, 2, 3, 4, 5, 6, 0] rfl) hP hD hS h
          refine lv_iload hx hb dX12_isSolution_63 (lv_at hl 4 rfl) ?_
          refine lv_aload_n hx hb dX12_isSolution_65 rfl (lv_at hl 1 rfl) ?_
          refine lv_iload_n hx hb dX12_isSolution_66 rfl (lv_at hl 3 rfl) ?_
          have hin := ld_in h
          refine va_iald hx hb hK hP 2 0 rfl rfl hin dX12_isSolution_67 ?_
          refine lv_topi (fun t67 et67 => ?_)
          have h := ld_to h et67
          refine lv_icmp_ge (tgt := 203) hx hb dX12_isSolution_68 (by decide) (fun q68 => ?_) (fun q68 => ?_)
          · have h := ifT h q68
            obtain ⟨t203, et203⟩ : ∃ y : Int32, y = v3 + (1 : Int32) := ⟨_, rfl⟩
            refine lv_iinc (v := t203) (lv' := [(3, .int t203), (0, .ref aM), (1, .ref aM_now), (2, .int v2), (4, .int v4)]) hx hb dX12_isSolution_203 hl (k := 3) rfl (by rw [et203]; rfl) (by decide) rfl (fun ls hl => ?_)
            have h := st_to h et203
            refine lv_goto (tgt := 44) hx hb dX12_isSolution_206 (by decide) ?_
            exact ih44 M_word M_size v2 t203 ls H locs (lv_sub hl [1, 2, 3, 0] rfl) hP hD hS h
          have h := ifF h q68
          refine lv_aload_n hx hb dX12_isSolution_71 rfl (lv_at hl 1 rfl) ?_
          refine lv_iload_n hx hb dX12_isSolution_72 rfl (lv_at hl 3 rfl) ?_
          refine lv_iload hx hb dX12_isSolution_73 (lv_at hl 4 rfl) ?_
          obtain ⟨t75, hc75, h⟩ := bd1_to h
          refine go_0 (st1 := [.int t75, .ref aM_now]) (run_S (As := [.int v3, .int v4]) (rest := [.ref aM_now]) X hS (mX12_at g l  v3 v4 t75 hc75) okX12_at wd5_87 ⟨Nat.le_of_ble_eq_true rfl, Nat.le_of_ble_eq_true rfl⟩ ⟨rfl, rfl⟩ nil_P nil_D (nil_F hS hA) rfl hl.1 rfl (Nat.le_of_ble_eq_true rfl) dX12_isSolution_75 ⟨Nat.zero_le _, Nat.zero_le _⟩) hS hA hP rfl (fun H locs hP hS => ?_)
          have hin := ld_in h
          refine va_iald hx hb hK hP 2 0 rfl rfl hin dX12_isSolution_78 ?_
          refine lv_topi (fun t78 et78 => ?_)
          have h := ld_to h et78
          refine lv_istore (lv' := [(5, .int t78), (0, .ref aM), (1, .ref aM_now), (2, .int v2), (3, .int v3), (4, .int v4)]) hx hb dX12_isSolution_79 hl (by decide) rfl (fun ls hl => ?_)
          refine lv_iload hx hb dX12_isSolution_81 (lv_at hl 0 rfl) ?_
          refine lv_iconst (v := (2 : Int32)) hx hb dX12_isSolution_83 (by decide) ?_
          refine lv_icmp_ge (tgt := 118) hx hb dX12_isSolution_84 (by decide) (fun q84 => ?_) (fun q84 => ?_)
          · have h := ifT h q84
            refine lv_aload_n hx hb dX12_isSolution_118 rfl (lv_at hl 1 rfl) ?_
            refine va_get (D := g.1) (ci := 11) (v := .ref aM_number) (C := RX12) (T := TX12) (N := 35) hx hb hts inBX12 hown hK hP 0 rfl rfl 16 (by decide) (hts _ wd4_212) (fun _ h9 => h9) rfl dX12_isSolution_119 ?_
            refine lv_iload hx hb dX12_isSolution_122 (lv_at hl 0 rfl) ?_
            refine lv_iconst (v := (2 : Int32)) hx hb dX12_isSolution_124 (by decide) ?_
            refine lv_isub hx hb dX12_isSolution_125 ?_
            have hin := ld_in h
            refine va_iald hx hb hK hP 12 0 rfl rfl hin dX12_isSolution_126 ?_
            refine lv_topi (fun t126 et126 => ?_)
            have h := ld_to h et126
            refine lv_istore (lv' := [(6, .int t126), (5, .int t78), (0, .ref aM), (1, .ref aM_now), (2, .int v2), (3, .int v3), (4, .int v4)]) hx hb dX12_isSolution_127 hl (by decide) rfl (fun ls hl => ?_)
            refine lv_iload hx hb dX12_isSolution_129 (lv_at hl 0 rfl) ?_
            obtain ⟨t131, hc131, h⟩ := bd1_to h
            refine go_0 (st1 := [.int t131]) (run_S (As := [.int t126]) (rest := []) X hS (mX12_lengthOf g l  t126 t131 hc131) okX12_lengthOf wd5_182 ⟨Nat.le_of_ble_eq_true rfl, Nat.le_of_ble_eq_true rfl⟩ ⟨rfl, rfl⟩ nil_P nil_D (nil_F hS hA) rfl hl.1 rfl (Nat.le_of_ble_eq_true rfl) dX12_isSolution_131 ⟨Nat.zero_le _, Nat.zero_le _⟩) hS hA hP rfl (fun H locs hP hS => ?_)
            refine lv_istore (lv' := [(7, .int t131), (6, .int t126), (5, .int t78), (0, .ref aM), (1, .ref aM_now), (2, .int v2), (3, .int v3), (4, .int v4)]) hx hb dX12_isSolution_134 hl (by decide) rfl (fun ls hl => ?_)
            refine lv_iload hx hb dX12_isSolution_136 (lv_at hl 1 rfl) ?_
            refine lv_iconst (v := (1 : Int32)) hx hb dX12_isSolution_138 (by decide) ?_
            refine lv_iadd hx hb dX12_isSolution_139 ?_
            refine lv_iconst (v := (1 : Int32)) hx hb dX12_isSolution_140 (by decide) ?_
            refine lv_iload hx hb dX12_isSolution_141 (lv_at hl 0 rfl) ?_
            refine lv_ishl hx hb dX12_isSolution_143 ?_
            refine lv_isub hx hb dX12_isSolution_144 ?_
            refine lv_topi (fun t145 et145 => ?_)
            have h := st_to h et145
            refine lv_istore (lv' := [(8, .int t145), (7, .int t131), (6, .int t126), (5, .int t78), (0, .ref aM), (1, .ref aM_now), (2, .int v2), (3, .int v3), (4, .int v4)]) hx hb dX12_isSolution_145 hl (by decide) rfl (fun ls hl => ?_)
            refine lv_iload hx hb dX12_isSolution_147 (lv_at hl 1 rfl) ?_
            refine lv_iconst (v := (1 : Int32)) hx hb dX12_isSolution_149 (by decide) ?_
            refine lv_isub hx hb dX12_isSolution_150 ?_
            refine lv_topi (fun t151 et151 => ?_)
            have h := st_to h et151
            refine lv_istore (lv' := [(9, .int t151), (8, .int t145), (7, .int t131), (6, .int t126), (5, .int t78), (0, .ref aM), (1, .ref aM_now), (2, .int v2), (3, .int v3), (4, .int v4)]) hx hb dX12_isSolution_151 hl (by decide) rfl (fun ls hl => ?_)
            exact L153 FU M_word M_size v4 t145 t151 ls H locs (lv_sub hl [5, 6, 7, 8, 9, 1, 0] rfl) hP hD hS h
          have h := ifF h q84
          refine lv_aload_n hx hb dX12_isSolution_87 rfl (lv_at hl 1 rfl) ?_
          refine va_get (D := g.1) (ci := 11) (v := .ref aM_word) (C := RX12) (T := TX12) (N := 35) hx hb hts inBX12 hown hK hP 0 rfl rfl 14 (by decide) (hts _ wd4_210) (fun _ h9 => h9) rfl dX12_isSolution_88 ?_
          refine lv_bipush (v := (60 : Int32)) hx hb dX12_isSolution_91 (by decide) ?_
          refine lv_iload_n hx hb dX12_isSolution_93 rfl (lv_at hl 4 rfl) ?_
          refine lv_imul hx hb dX12_isSolution_94 ?_
          refine lv_aload_n hx hb dX12_isSolution_95 rfl (lv_at hl 1 rfl) ?_
          refine va_get (D := g.1) (ci := 11) (v := .ref aM_size) (C := RX12) (T := TX12) (N := 35) hx hb hts inBX12 hown hK hP 0 rfl rfl 15 (by decide) (hts _ wd4_211) (fun _ h9 => h9) rfl dX12_isSolution_96 ?_
          refine lv_iload_n hx hb dX12_isSolution_99 rfl (lv_at hl 4 rfl) ?_
          have hin := ld_in h
          refine va_iald hx hb hK hP 11 0 rfl rfl hin dX12_isSolution_100 ?_
          refine lv_topi (fun t100 et100 => ?_)
          have h := ld_to h et100
          refine lv_iadd hx hb dX12_isSolution_101 ?_
          refine lv_iload hx hb dX12_isSolution_102 (lv_at hl 0 rfl) ?_
          have hin := sti_in h
          refine va_iast hx hb hK hP hD hS 10 0 rfl rfl hin dX12_isSolution_104 (fun H locs hP hD hS => ?_)
          obtain ⟨M_word_104, eM_word_104⟩ : ∃ y : Nat → Int32, y = upd M_word (Int32.toNatClampNeg (((60 : Int32) * v3) + t100)) t78 := ⟨_, rfl⟩
          have h := sti_to h eM_word_104
          have hP : va_P g.1 vwCl (wX12 g aM aM_text aM_now aM_trial aM_read aM_diary aM_kept aM_isKept aM_constraint aM_readConstraint aM_word aM_size aM_number aM_firstOne aM_node aM_parent aM_rule aM_child aM_proof aM_witness aM_witnessSize aM_built aM_copyRow M_length M_acts M_next M_many M_readMany M_found M_shortest M_nodes M_solved M_dropped M_fits M_proofSize M_tooLong M_text M_now M_trial M_read M_diary M_kept M_isKept M_constraint M_readConstraint M_word_104 M_size M_number M_firstOne M_node M_parent M_rule M_child M_proof M_witness M_witnessSize M_built M_copyRow) H := by rw [eM_word_104]; exact hP
          have hD : va_D A (wX12 g aM aM_text aM_now aM_trial aM_read aM_diary aM_kept aM_isKept aM_constraint aM_readConstraint aM_word aM_size aM_number aM_firstOne aM_node aM_parent aM_rule aM_child aM_proof aM_witness aM_witnessSize aM_built aM_copyRow M_length M_acts M_next M_many M_readMany M_found M_shortest M_nodes M_solved M_dropped M_fits M_proofSize M_tooLong M_text M_now M_trial M_read M_diary M_kept M_isKept M_constraint M_readConstraint M_word_104 M_size M_number M_firstOne M_node M_parent M_rule M_child M_proof M_witness M_witnessSize M_built M_copyRow) := by rw [eM_word_104]; exact hD
          refine lv_aload_n hx hb dX12_isSolution_105 rfl (lv_at hl 1 rfl) ?_
          refine va_get (D := g.1) (ci := 11) (v := .ref aM_size) (C := RX12) (T := TX12) (N := 35) hx hb hts inBX12 hown hK hP 0 rfl rfl 15 (by decide) (hts _ wd4_211) (fun _ h9 => h9) rfl dX12_isSolution_106 ?_
          refine lv_iload_n hx hb dX12_isSolution_109 rfl (lv_at hl 4 rfl) ?_
          refine lv_dup2_11 hx hb dX12_isSolution_110 rfl rfl ?_
          have hin := ld_in h
          refine va_iald hx hb hK hP 11 0 rfl rfl hin dX12_isSolution_111 ?_
          refine lv_topi (fun t111 et111 => ?_)
          have h := ld_to h et111
          refine lv_iconst (v := (1 : Int32)) hx hb dX12_isSolution_112 (by decide) ?_
          refine lv_iadd hx hb dX12_isSolution_113 ?_
          have hin := sti_in h
          refine va_iast hx hb hK hP hD hS 11 0 rfl rfl hin dX12_isSolution_114 (fun H locs hP hD hS => ?_)
          obtain ⟨M_size_114, eM_size_114⟩ : ∃ y : Nat → Int32, y = upd M_size (Int32.toNatClampNeg v3) (t111 + (1 : Int32)) := ⟨_, rfl⟩
          have h := sti_to h eM_size_114
          have hP : va_P g.1 vwCl (wX12 g aM aM_text aM_now aM_trial aM_read aM_diary aM_kept aM_isKept aM_constraint aM_readConstraint aM_word aM_size aM_number aM_firstOne aM_node aM_parent aM_rule aM_child aM_proof aM_witness aM_witnessSize aM_built aM_copyRow M_length M_acts M_next M_many M_readMany M_found M_shortest M_nodes M_solved M_dropped M_fits M_proofSize M_tooLong M_text M_now M_trial M_read M_diary M_kept M_isKept M_constraint M_readConstraint M_word_104 M_size_114 M_number M_firstOne M_node M_parent M_rule M_child M_proof M_witness M_witnessSize M_built M_copyRow) H := by rw [eM_size_114]; exact hP
          have hD : va_D A (wX12 g aM aM_text aM_now aM_trial aM_read aM_diary aM_kept aM_isKept aM_constraint aM_readConstraint aM_word aM_size aM_number aM_firstOne aM_node aM_parent aM_rule aM_child aM_proof aM_witness aM_witnessSize aM_built aM_copyRow M_length M_acts M_next M_many M_readMany M_found M_shortest M_nodes M_solved M_dropped M_fits M_proofSize M_tooLong M_text M_now M_trial M_read M_diary M_kept M_isKept M_constraint M_readConstraint M_word_104 M_size_114 M_number M_firstOne M_node M_parent M_rule M_child M_proof M_witness M_witnessSize M_built M_copyRow) := by rw [eM_size_114]; exact hD
          refine lv_goto (tgt := 197) hx hb dX12_isSolution_115 (by decide) ?_
          obtain ⟨t197, et197⟩ : ∃ y : Int32, y = v4 + (1 : Int32) := ⟨_, rfl⟩
          refine lv_iinc (v := t197) (lv' := [(4, .int t197), (5, .int t78), (0, .ref aM), (1, .ref aM_now), (2, .int v2), (3, .int v3)]) hx hb dX12_isSolution_197 hl (k := 5) rfl (by rw [et197]; rfl) (by decide) rfl (fun ls hl => ?_)
          have h := st_to h et197
          refine lv_goto (tgt := 63) hx hb dX12_isSolution_200 (by decide) ?_
          exact ih63 M_word_104 M_size_114 v3 t197 ls H locs (lv_sub hl [2, 3, 4, 5, 0] rfl) hP hD hS h
      refine lv_iload_n hx hb dX12_isSolution_44 rfl (lv_at hl 3 rfl) ?_
      refine lv_iconst (v := (2 : Int32)) hx hb dX12_isSolution_45 (by decide) ?_
      refine lv_icmp_ge (tgt := 209) hx hb dX12_isSolution_46 (by decide) (fun q46 => ?_) (fun q46 => ?_)
      · have h := ifT h q46
        exact B209 M_word M_size v2 ls H locs (lv_sub hl [0, 2] rfl) hP hD hS h
      have h := ifF h q46
      refine lv_iload_n hx hb dX12_isSolution_49 rfl (lv_at hl 2 rfl) ?_
      refine lv_if_eq (tgt := 209) hx hb dX12_isSolution_50 (by decide) (fun q50 => ?_) (fun q50 => ?_)
      · have h := ifT h q50
        exact B209 M_word M_size v2 ls H locs (lv_sub hl [0, 2] rfl) hP hD hS h
      have h := ifF h q50
      refine lv_aload_n hx hb dX12_isSolution_53 rfl (lv_at hl 0 rfl) ?_
      refine va_get (D := g.1) (ci := 11) (v := .ref aM_size) (C := RX12) (T := TX12) (N := 35) hx hb hts inBX12 hown hK hP 0 rfl rfl 15 (by decide) (hts _ wd4_211) (fun _ h9 => h9) rfl dX12_isSolution_54 ?_
      refine lv_iload_n hx hb dX12_isSolution_57 rfl (lv_at hl 3 rfl) ?_
      refine lv_iconst (v := (0 : Int32)) hx hb dX12_isSolution_58 (by decide) ?_
      have hin := sti_in h
      refine va_iast hx hb hK hP hD hS 11 0 rfl rfl hin dX12_isSolution_59 (fun H locs hP hD hS => ?_)
      obtain ⟨M_size_59, eM_size_59⟩ : ∃ y : Nat → Int32, y = upd M_size (Int32.toNatClampNeg v3) (0 : Int32) := ⟨_, rfl⟩
      have h := sti_to h eM_size_59
      have hP : va_P g.1 vwCl (wX12 g aM aM_text aM_now aM_trial aM_read aM_diary aM_kept aM_isKept aM_constraint aM_readConstraint aM_word aM_size aM_number aM_firstOne aM_node aM_parent aM_rule aM_child aM_proof aM_witness aM_witnessSize aM_built aM_copyRow M_length M_acts M_next M_many M_readMany M_found M_shortest M_nodes M_solved M_dropped M_fits M_proofSize M_tooLong M_text M_now M_trial M_read M_diary M_kept M_isKept M_constraint M_readConstraint M_word M_size_59 M_number M_firstOne M_node M_parent M_rule M_child M_proof M_witness M_witnessSize M_built M_copyRow) H := by rw [eM_size_59]; exact hP
      have hD : va_D A (wX12 g aM aM_text aM_now aM_trial aM_read aM_diary aM_kept aM_isKept aM_constraint aM_readConstraint aM_word aM_size aM_number aM_firstOne aM_node aM_parent aM_rule aM_child aM_proof aM_witness aM_witnessSize aM_built aM_copyRow M_length M_acts M_next M_many M_readMany M_found M_shortest M_nodes M_solved M_dropped M_fits M_proofSize M_tooLong M_text M_now M_trial M_read M_diary M_kept M_isKept M_constraint M_readConstraint M_word M_size_59 M_number M_firstOne M_node M_parent M_rule M_child M_proof M_witness M_witnessSize M_built M_copyRow) := by rw [eM_size_59]; exact hD
      refine lv_iconst (v := (0 : Int32)) hx hb dX12_isSolution_60 (by decide) ?_
      refine lv_istore (lv' := [(4, .int (0 : Int32)), (0, .ref aM), (1, .ref aM_now), (2, .int v2), (3, .int v3)]) hx hb dX12_isSolution_61 hl (by decide) rfl (fun ls hl => ?_)
      exact L63 FU M_word M_size_59 v3 (0 : Int32) ls H locs (lv_sub hl [1, 2, 3, 4, 0] rfl) hP hD hS h
  have L4 : ∀ (n4 : Nat), ∀ (M_word : Nat → Int32) (M_size : Nat → Int32) (v2 : Int32) (v3 : Int32) (ls : Array Slot) (H : Heap) (locs : List Loc), lv_has ls 10 [(0, .ref aM), (1, .ref aM_now), (2, .int v2), (3, .int v3)] → va_P g.1 vwCl (wX12 g aM aM_text aM_now aM_trial aM_read aM_diary aM_kept aM_isKept aM_constraint aM_readConstraint aM_word aM_size aM_number aM_firstOne aM_node aM_parent aM_rule aM_child aM_proof aM_witness aM_witnessSize aM_built aM_copyRow M_length M_acts M_next M_many M_readMany M_found M_shortest M_nodes M_solved M_dropped M_fits M_proofSize M_tooLong M_text M_now M_trial M_read M_diary M_kept M_isKept M_constraint M_readConstraint M_word M_size M_number M_firstOne M_node M_parent M_rule M_child M_proof M_witness M_witnessSize M_built M_copyRow) H → va_D A (wX12 g aM aM_text aM_now aM_trial aM_read aM_diary aM_kept aM_isKept aM_constraint aM_readConstraint aM_word aM_size aM_number aM_firstOne aM_node aM_parent aM_rule aM_child aM_proof aM_witness aM_witnessSize aM_built aM_copyRow M_length M_acts M_next M_many M_readMany M_found M_shortest M_nodes M_solved M_dropped M_fits M_proofSize M_tooLong M_text M_now M_trial M_read M_diary M_kept M_isKept M_constraint M_readConstraint M_word M_size M_number M_firstOne M_node M_parent M_rule M_child M_proof M_witness M_witnessSize M_built M_copyRow) → va_S A s.heap H locs → fx2 (fM_isSolution_4 M_many M_constraint M_word M_size M_number M_now) n4 v2 v3 = some (r, M_word_o, M_size_o) → W p l e rmX12_isSolution s m ([.ref aM, .ref aM_now] : List Value).toArray below meth c H locs 0 0 QQ (F0 m 4 ls []) := by
    intro n4
    induction n4 with
    | zero => intro M_word M_size v2 v3 ls H locs hl hP hD hS h; exact fx2_0 h
    | succ n4 ih4 =>
      intro M_word M_size v2 v3 ls H locs hl hP hD hS h
      have h := (fx2_s (fM_isSolution_4 M_many M_constraint M_word M_size M_number M_now) n4 v2 v3).symm.trans h
      refine lv_iload_n hx hb dX12_isSolution_4 rfl (lv_at hl 3 rfl) ?_
      refine lv_iconst (v := (4 : Int32)) hx hb dX12_isSolution_5 (by decide) ?_
      refine lv_icmp_ge (tgt := 42) hx hb dX12_isSolution_6 (by decide) (fun q6 => ?_) (fun q6 => ?_)
      · have h := ifT h q6
        refine lv_iconst (v := (0 : Int32)) hx hb dX12_isSolution_42 (by decide) ?_
        refine lv_istore_n (lv' := [(3, .int (0 : Int32)), (0, .ref aM), (1, .ref aM_now), (2, .int v2)]) hx hb dX12_isSolution_43 rfl hl (by decide) rfl (fun ls hl => ?_)
        exact L44 FU M_word M_size v2 (0 : Int32) ls H locs (lv_sub hl [1, 2, 3, 0] rfl) hP hD hS h
      have h := ifF h q6
      refine lv_iload_n hx hb dX12_isSolution_9 rfl (lv_at hl 2 rfl) ?_
      refine lv_if_eq (tgt := 34) hx hb dX12_isSolution_10 (by decide) (fun q10 => ?_) (fun q10 => ?_)
      · have h := ifT h q10
        refine lv_iconst (v := (0 : Int32)) hx hb dX12_isSolution_34 (by decide) ?_
        refine lv_istore_n (lv' := [(2, .int (0 : Int32)), (0, .ref aM), (1, .ref aM_now), (3, .int v3)]) hx hb dX12_isSolution_35 rfl hl (by decide) rfl (fun ls hl => ?_)
        obtain ⟨t36, et36⟩ : ∃ y : Int32, y = v3 + (1 : Int32) := ⟨_, rfl⟩
        refine lv_iinc (v := t36) (lv' := [(3, .int t36), (2, .int (0 : Int32)), (0, .ref aM), (1, .ref aM_now)]) hx hb dX12_isSolution_36 hl (k := 3) rfl (by rw [et36]; rfl) (by decide) rfl (fun ls hl => ?_)
        have h := st_to h et36
        refine lv_goto (tgt := 4) hx hb dX12_isSolution_39 (by decide) ?_
        exact ih4 M_word M_size (0 : Int32) t36 ls H locs (lv_sub hl [2, 3, 1, 0] rfl) hP hD hS h
      have h := ifF h q10
      refine lv_aload_n hx hb dX12_isSolution_13 rfl (lv_at hl 0 rfl) ?_
      refine lv_iload_n hx hb dX12_isSolution_14 rfl (lv_at hl 3 rfl) ?_
      refine lv_aload_n hx hb dX12_isSolution_15 rfl (lv_at hl 0 rfl) ?_
      refine va_get (D := g.1) (ci := 11) (v := .ref aM_number) (C := RX12) (T := TX12) (N := 35) hx hb hts inBX12 hown hK hP 0 rfl rfl 16 (by decide) (hts _ wd4_212) (fun _ h9 => h9) rfl dX12_isSolution_16 ?_
      refine lv_iload_n hx hb dX12_isSolution_19 rfl (lv_at hl 3 rfl) ?_
      have hin := ld_in h
      refine va_iald hx hb hK hP 12 0 rfl rfl hin dX12_isSolution_20 ?_
      refine lv_topi (fun t20 et20 => ?_)
      have h := ld_to h et20
      obtain ⟨t21, hc21, h⟩ := bd1_to h
      refine go_0 (st1 := [.int t21, .int v3, .ref aM]) (run_S (As := [.int t20]) (rest := [.int v3, .ref aM]) X hS (mX12_lengthOf g l  t20 t21 hc21) okX12_lengthOf wd5_182 ⟨Nat.le_of_ble_eq_true rfl, Nat.le_of_ble_eq_true rfl⟩ ⟨rfl, rfl⟩ nil_P nil_D (nil_F hS hA) rfl hl.1 rfl (Nat.le_of_ble_eq_true rfl) dX12_isSolution_21 ⟨Nat.zero_le _, Nat.zero_le _⟩) hS hA hP rfl (fun H locs hP hS => ?_)
      obtain ⟨t24, hc24, h⟩ := bd1_to h
      refine go_A (st1 := [.int t24]) (run_V (As := [.int v3, .int t21]) (rest := []) X hS (mX12_holds g l  aM aM_text aM_now aM_trial aM_read aM_diary aM_kept aM_isKept aM_constraint aM_readConstraint aM_word aM_size aM_number aM_firstOne aM_node aM_parent aM_rule aM_child aM_proof aM_witness aM_witnessSize aM_built aM_copyRow M_length M_acts M_next M_many M_readMany M_found M_shortest M_nodes M_solved M_dropped M_fits M_proofSize M_tooLong M_text M_now M_trial M_read M_diary M_kept M_isKept M_constraint M_readConstraint M_word M_size M_number M_firstOne M_node M_parent M_rule M_child M_proof M_witness M_witnessSize M_built M_copyRow v3 t21 t24 hc24) okX12_holds wd5_185 ⟨Nat.le_of_ble_eq_true rfl, Nat.le_of_ble_eq_true rfl⟩ ⟨rfl, rfl⟩ (va_recv hK hP (ci := 11) (q0 := 0) rfl rfl) hP hD (all_F hS hA hD) rfl hl.1 rfl (Nat.le_of_ble_eq_true rfl) dX12_isSolution_24 ⟨Nat.zero_le _, Nat.zero_le _⟩) hS (all_F hS hA hD) rfl (fun H locs hP hD hS => ?_)
      refine lv_if_eq (tgt := 34) hx hb dX12_isSolution_27 (by decide) (fun q27 => ?_) (fun q27 => ?_)
      · have h := ifT h q27
        refine lv_iconst (v := (0 : Int32)) hx hb dX12_isSolution_34 (by decide) ?_
        refine lv_istore_n (lv' := [(2, .int (0 : Int32)), (0, .ref aM), (1, .ref aM_now), (3, .int v3)]) hx hb dX12_isSolution_35 rfl hl (by decide) rfl (fun ls hl => ?_)
        obtain ⟨t36, et36⟩ : ∃ y : Int32, y = v3 + (1 : Int32) := ⟨_, rfl⟩
        refine lv_iinc (v := t36) (lv' := [(3, .int t36), (2, .int (0 : Int32)), (0, .ref aM), (1, .ref aM_now)]) hx hb dX12_isSolution_36 hl (k := 3) rfl (by rw [et36]; rfl) (by decide) rfl (fun ls hl => ?_)
        have h := st_to h et36
        refine lv_goto (tgt := 4) hx hb dX12_isSolution_39 (by decide) ?_
        exact ih4 M_word M_size (0 : Int32) t36 ls H locs (lv_sub hl [2, 3, 1, 0] rfl) hP hD hS h
      have h := ifF h q27
      refine lv_iconst (v := (1 : Int32)) hx hb dX12_isSolution_30 (by decide) ?_
      refine lv_goto (tgt := 35) hx hb dX12_isSolution_31 (by decide) ?_
      refine lv_istore_n (lv' := [(2, .int (1 : Int32)), (0, .ref aM), (1, .ref aM_now), (3, .int v3)]) hx hb dX12_isSolution_35 rfl hl (by decide) rfl (fun ls hl => ?_)
      obtain ⟨t36, et36⟩ : ∃ y : Int32, y = v3 + (1 : Int32) := ⟨_, rfl⟩
      refine lv_iinc (v := t36) (lv' := [(3, .int t36), (2, .int (1 : Int32)), (0, .ref aM), (1, .ref aM_now)]) hx hb dX12_isSolution_36 hl (k := 3) rfl (by rw [et36]; rfl) (by decide) rfl (fun ls hl => ?_)
      have h := st_to h et36
      refine lv_goto (tgt := 4) hx hb dX12_isSolution_39 (by decide) ?_
      exact ih4 M_word M_size (1 : Int32) t36 ls H locs (lv_sub hl [2, 3, 1, 0] rfl) hP hD hS h
  have hl : lv_has ls 10 [(0, .ref aM), (1, .ref aM_now)] := hl
  obtain ⟨H, hH⟩ : ∃ H, H = s.heap := ⟨_, rfl⟩
  obtain ⟨locs, hlocs⟩ : ∃ l : List Loc, l = [] := ⟨_, rfl⟩
  rw [show W p l e rmX12_isSolution s m ([.ref aM, .ref aM_now] : List Value).toArray below meth c s.heap [] 0 0 QQ (F0 m 0 ls []) = W p l e rmX12_isSolution s m ([.ref aM, .ref aM_now] : List Value).toArray below meth c H locs 0 0 QQ (F0 m 0 ls []) by rw [hH, hlocs]]
  have hP : va_P g.1 vwCl (wX12 g aM aM_text aM_now aM_trial aM_read aM_diary aM_kept aM_isKept aM_constraint aM_readConstraint aM_word aM_size aM_number aM_firstOne aM_node aM_parent aM_rule aM_child aM_proof aM_witness aM_witnessSize aM_built aM_copyRow M_length M_acts M_next M_many M_readMany M_found M_shortest M_nodes M_solved M_dropped M_fits M_proofSize M_tooLong M_text M_now M_trial M_read M_diary M_kept M_isKept M_constraint M_readConstraint M_word M_size M_number M_firstOne M_node M_parent M_rule M_child M_proof M_witness M_witnessSize M_built M_copyRow) H := by rw [hH]; exact hP
  have hD : va_D A (wX12 g aM aM_text aM_now aM_trial aM_read aM_diary aM_kept aM_isKept aM_constraint aM_readConstraint aM_word aM_size aM_number aM_firstOne aM_node aM_parent aM_rule aM_child aM_proof aM_witness aM_witnessSize aM_built aM_copyRow M_length M_acts M_next M_many M_readMany M_found M_shortest M_nodes M_solved M_dropped M_fits M_proofSize M_tooLong M_text M_now M_trial M_read M_diary M_kept M_isKept M_constraint M_readConstraint M_word M_size M_number M_firstOne M_node M_parent M_rule M_child M_proof M_witness M_witnessSize M_built M_copyRow) := hD
  have hS : va_S A s.heap H locs := by rw [hH, hlocs]; exact hS
  clear hH hlocs
  refine lv_iconst (v := (1 : Int32)) hx hb dX12_isSolution_0 (by decide) ?_
  refine lv_istore_n (lv' := [(2, .int (1 : Int32)), (0, .ref aM), (1, .ref aM_now)]) hx hb dX12_isSolution_1 rfl hl (by decide) rfl (fun ls hl => ?_)
  refine lv_iconst (v := (0 : Int32)) hx hb dX12_isSolution_2 (by decide) ?_
  refine lv_istore_n (lv' := [(3, .int (0 : Int32)), (2, .int (1 : Int32)), (0, .ref aM), (1, .ref aM_now)]) hx hb dX12_isSolution_3 rfl hl (by decide) rfl (fun ls hl => ?_)
  exact L4 FU M_word M_size (1 : Int32) (0 : Int32) ls H locs (lv_sub hl [2, 3, 1, 0] rfl) hP hD hS h
